-- BronzeKing$Tape.at(II)I
theorem dX7_at_0 : decode cX7_at 0 = .ok (.iload_n 1, 1) := by decide +kernel
theorem dX7_at_1 : decode cX7_at 1 = .ok (.ifCond .lt 24, 3) := by decide +kernel
theorem dX7_at_4 : decode cX7_at 4 = .ok (.iload_n 1, 1) := by decide +kernel
theorem dX7_at_5 : decode cX7_at 5 = .ok (.iload_n 2, 1) := by decide +kernel
theorem dX7_at_6 : decode cX7_at 6 = .ok (.if_icmp .ge 19, 3) := by decide +kernel
theorem dX7_at_9 : decode cX7_at 9 = .ok (.iload_n 1, 1) := by decide +kernel
theorem dX7_at_10 : decode cX7_at 10 = .ok (.sipush 260, 3) := by decide +kernel
theorem dX7_at_13 : decode cX7_at 13 = .ok (.if_icmp .ge 12, 3) := by decide +kernel
theorem dX7_at_16 : decode cX7_at 16 = .ok (.aload_n 0, 1) := by decide +kernel
theorem dX7_at_17 : decode cX7_at 17 = .ok (.getfield 11, 3) := by decide +kernel
theorem dX7_at_20 : decode cX7_at 20 = .ok (.iload_n 1, 1) := by decide +kernel
theorem dX7_at_21 : decode cX7_at 21 = .ok (.iaload, 1) := by decide +kernel
theorem dX7_at_22 : decode cX7_at 22 = .ok (.goto 4, 3) := by decide +kernel
theorem dX7_at_25 : decode cX7_at 25 = .ok (.iconst (-1), 1) := by decide +kernel
theorem dX7_at_26 : decode cX7_at 26 = .ok (.ireturn, 1) := by decide +kernel
def b7_at_25 (rc : Nat → List Int32 → List Int64 → Mem → Option (Int32 × Mem)) (n : Nat) (M : Mem) : Option (Int32 × Mem) :=
  some ((-1 : Int32), M)
def b7_at_0 (rc : Nat → List Int32 → List Int64 → Mem → Option (Int32 × Mem)) (n : Nat) (a1 : Int32) (a2 : Int32) (M : Mem) : Option (Int32 × Mem) :=
  (if a1 < 0 then (
   b7_at_25  rc n  M)
  else (
   (if a2 ≤ a1 then (
    b7_at_25  rc n  M)
   else (
    (if (260 : Int32) ≤ a1 then (
     b7_at_25  rc n  M)
    else (
     chk (inb a1 260) <|
     some ((M.1 2 a1.toNatClampNeg), M)))))))
def f7_at (n : Nat) (a1 : Int32) (a2 : Int32) (M : Mem) : Option (Int32 × Mem) := b7_at_0 (fun _ _ _ _ => none) n a1 a2 M
abbrev rm7_at : Room := { frames := 0, cells := 0, slots := 0, locals := 0 }
theorem y7_at_w : yV RX7 yX7_at cX7_at 3 (some .int) 2 := ⟨g_496, g_497, g_2, g_498, rfl, by decide, by decide, by decide +kernel⟩
set_option maxHeartbeats 4000000 in
set_option maxRecDepth 100000 in
theorem w7_at_25 {p : Program} {l : Launch} {e : Env} {s : State} {m : MethodId} {args : Array Value} {below : List Frame} {meth : Method} {c : Code} {z : Zt} {b : Nat}  (C : Cx p s m args c cX7_at 3 RX7 z 339 b) (hr : meth.sig.returnType = (some .int)) (hk : meth.locks = false) {r : Int32} {M' : Mem} {rc : Nat → List Int32 → List Int64 → Mem → Option (Int32 × Mem)} {n : Nat}   {M : Mem} {H : Heap} {locs : List Loc} {ls : Array Slot} (hf : b7_at_25  rc n  M = some (r, M')) (hP : va_P z.1 vwCl (pw (xd z b) 339 b M) H) (hS : va_S (pA 339 b) s.heap H locs) (hl : lv_has ls 3 []) : W p l e rm7_at s m args below meth c H locs 0 0 (MQ below (va_Qi (fun (r' : Int32) (M2 : Mem) => r' = r ∧ M2 = M') (fun M2 t => va_P z.1 vwCl (pw (xd z b) 339 b M2) t.heap) (pA 339 b)) args s 0 0 (pA 339 b)) (F0 m 25 ls []) := by
  have hx := C.1.1
  have hb := C.1.2.1
  unfold b7_at_25 at hf
  refine lv_iconst (v := (-1 : Int32)) hx hb dX7_at_25 (by decide) ?_
  exact prI C hr hk hP hS hf dX7_at_26
set_option maxHeartbeats 4000000 in
set_option maxRecDepth 100000 in
theorem w7_at_0 {p : Program} {l : Launch} {e : Env} {s : State} {m : MethodId} {args : Array Value} {below : List Frame} {meth : Method} {c : Code} {z : Zt} {b : Nat}  (C : Cx p s m args c cX7_at 3 RX7 z 339 b) (hr : meth.sig.returnType = (some .int)) (hk : meth.locks = false) {r : Int32} {M' : Mem} {rc : Nat → List Int32 → List Int64 → Mem → Option (Int32 × Mem)} {n : Nat}  {a1 : Int32} {a2 : Int32} {M : Mem} {H : Heap} {locs : List Loc} {ls : Array Slot} (hf : b7_at_0  rc n a1 a2 M = some (r, M')) (hP : va_P z.1 vwCl (pw (xd z b) 339 b M) H) (hS : va_S (pA 339 b) s.heap H locs) (hl : lv_has ls 3 [(0, .ref (b + 1)), (1, .int a1), (2, .int a2)]) : W p l e rm7_at s m args below meth c H locs 0 0 (MQ below (va_Qi (fun (r' : Int32) (M2 : Mem) => r' = r ∧ M2 = M') (fun M2 t => va_P z.1 vwCl (pw (xd z b) 339 b M2) t.heap) (pA 339 b)) args s 0 0 (pA 339 b)) (F0 m 0 ls []) := by
  have hx := C.1.1
  have hb := C.1.2.1
  unfold b7_at_0 at hf
  refine lv_iload_n hx hb dX7_at_0 rfl (lv_at hl 1 rfl) ?_
  refine lv_if_lt (tgt := 25) hx hb dX7_at_1 (by decide) (fun c1 => ?_) (fun c1 => ?_)
  · replace hf := ite_t c1 hf
    exact w7_at_25 (n := n)  C hr hk  hf hP hS (lv_sub hl [] rfl)
  · replace hf := ite_f c1 hf
    refine lv_iload_n hx hb dX7_at_4 rfl (lv_at hl 1 rfl) ?_
    refine lv_iload_n hx hb dX7_at_5 rfl (lv_at hl 2 rfl) ?_
    refine lv_icmp_ge (tgt := 25) hx hb dX7_at_6 (by decide) (fun c2 => ?_) (fun c2 => ?_)
    · replace hf := ite_t c2 hf
      exact w7_at_25 (n := n)  C hr hk  hf hP hS (lv_sub hl [] rfl)
    · replace hf := ite_f c2 hf
      refine lv_iload_n hx hb dX7_at_9 rfl (lv_at hl 1 rfl) ?_
      refine lv_sipush (v := (260 : Int32)) hx hb dX7_at_10 (by decide) ?_
      refine lv_icmp_ge (tgt := 25) hx hb dX7_at_13 (by decide) (fun c3 => ?_) (fun c3 => ?_)
      · replace hf := ite_t c3 hf
        exact w7_at_25 (n := n)  C hr hk  hf hP hS (lv_sub hl [] rfl)
      · replace hf := ite_f c3 hf
        refine lv_aload_n hx hb dX7_at_16 rfl (lv_at hl 0 rfl) ?_
        refine pg C hP (k := 1) (j := 0) (Nat.le_of_ble_eq_true rfl) (xd_1 _ _) rfl iw_7 (Nat.le_of_ble_eq_true rfl) g_38 rfl rfl dX7_at_17 ?_
        refine lv_iload_n hx hb dX7_at_20 rfl (lv_at hl 1 rfl) ?_
        have h4 := chk_1 hf
        replace hf := chk_2 hf
        refine paI C hP (k := 2) (Nat.le_of_ble_eq_true rfl) (xd_2 _ _) h4 dX7_at_21 ?_
        refine lv_goto (tgt := 26) hx hb dX7_at_22 (by decide) ?_
        exact prI C hr hk hP hS hf dX7_at_26
theorem c7_at {l : Launch} {z : Zt} {b n : Nat}  {a1 : Int32} {a2 : Int32} {M M' : Mem} {r : Int32} (hf : f7_at n  a1 a2 M = some (r, M')) : CI l z (xd z b) 339 b yX7_at cX7_at 3 (some .int) rm7_at [.ref (b + 1), .int a1, .int a2] M M' r :=
  CI.ofW (lv := [(0, .ref (b + 1)), (1, .int a1), (2, .int a2)]) (by decide) (Nat.le_of_ble_eq_true rfl) rfl (fun p e s m args below meth c ls C hr hk hP hS hl => w7_at_0 (n := n)  C hr hk  hf hP hS hl)

-- BronzeKing.isDigit(I)Z
theorem dX11_isDigit_0 : decode cX11_isDigit 0 = .ok (.iload_n 0, 1) := by decide +kernel
theorem dX11_isDigit_1 : decode cX11_isDigit 1 = .ok (.bipush 48, 2) := by decide +kernel
theorem dX11_isDigit_3 : decode cX11_isDigit 3 = .ok (.if_icmp .lt 13, 3) := by decide +kernel
theorem dX11_isDigit_6 : decode cX11_isDigit 6 = .ok (.iload_n 0, 1) := by decide +kernel
theorem dX11_isDigit_7 : decode cX11_isDigit 7 = .ok (.bipush 57, 2) := by decide +kernel
theorem dX11_isDigit_9 : decode cX11_isDigit 9 = .ok (.if_icmp .gt 7, 3) := by decide +kernel
theorem dX11_isDigit_12 : decode cX11_isDigit 12 = .ok (.iconst 1, 1) := by decide +kernel
theorem dX11_isDigit_13 : decode cX11_isDigit 13 = .ok (.goto 4, 3) := by decide +kernel
theorem dX11_isDigit_16 : decode cX11_isDigit 16 = .ok (.iconst 0, 1) := by decide +kernel
theorem dX11_isDigit_17 : decode cX11_isDigit 17 = .ok (.ireturn, 1) := by decide +kernel
def b11_isDigit_16 (rc : Nat → List Int32 → List Int64 → Mem → Option (Int32 × Mem)) (n : Nat) (M : Mem) : Option (Int32 × Mem) :=
  some ((0 : Int32), M)
def b11_isDigit_0 (rc : Nat → List Int32 → List Int64 → Mem → Option (Int32 × Mem)) (n : Nat) (a0 : Int32) (M : Mem) : Option (Int32 × Mem) :=
  (if a0 < (48 : Int32) then (
   b11_isDigit_16  rc n  M)
  else (
   (if (57 : Int32) < a0 then (
    b11_isDigit_16  rc n  M)
   else (
    some ((1 : Int32), M)))))
def f11_isDigit (n : Nat) (a0 : Int32) (M : Mem) : Option (Int32 × Mem) := b11_isDigit_0 (fun _ _ _ _ => none) n a0 M
abbrev rm11_isDigit : Room := { frames := 0, cells := 0, slots := 0, locals := 0 }
theorem y11_isDigit_w : yS yX11_isDigit cX11_isDigit 1 (some .boolean) 1 := ⟨g_504, g_1, g_505, by decide, by decide, by decide +kernel⟩
set_option maxHeartbeats 4000000 in
set_option maxRecDepth 100000 in
theorem w11_isDigit_16 {p : Program} {l : Launch} {e : Env} {s : State} {m : MethodId} {args : Array Value} {below : List Frame} {meth : Method} {c : Code} {z : Zt} {b : Nat}  (C : Cx p s m args c cX11_isDigit 1 RX11 z 339 b) (hr : meth.sig.returnType = (some .boolean)) (hk : meth.locks = false) {r : Int32} {M' : Mem} {rc : Nat → List Int32 → List Int64 → Mem → Option (Int32 × Mem)} {n : Nat}   {M : Mem} {H : Heap} {locs : List Loc} {ls : Array Slot} (hf : b11_isDigit_16  rc n  M = some (r, M')) (hP : va_P z.1 vwCl (pw (xd z b) 339 b M) H) (hS : va_S (pA 339 b) s.heap H locs) (hl : lv_has ls 1 []) : W p l e rm11_isDigit s m args below meth c H locs 0 0 (MQ below (va_Qi (fun (r' : Int32) (M2 : Mem) => r' = r ∧ M2 = M') (fun M2 t => va_P z.1 vwCl (pw (xd z b) 339 b M2) t.heap) (pA 339 b)) args s 0 0 (pA 339 b)) (F0 m 16 ls []) := by
  have hx := C.1.1
  have hb := C.1.2.1
  unfold b11_isDigit_16 at hf
  refine lv_iconst (v := (0 : Int32)) hx hb dX11_isDigit_16 (by decide) ?_
  exact prZ C hr hk hP hS hf rfl dX11_isDigit_17
set_option maxHeartbeats 4000000 in
set_option maxRecDepth 100000 in
theorem w11_isDigit_0 {p : Program} {l : Launch} {e : Env} {s : State} {m : MethodId} {args : Array Value} {below : List Frame} {meth : Method} {c : Code} {z : Zt} {b : Nat}  (C : Cx p s m args c cX11_isDigit 1 RX11 z 339 b) (hr : meth.sig.returnType = (some .boolean)) (hk : meth.locks = false) {r : Int32} {M' : Mem} {rc : Nat → List Int32 → List Int64 → Mem → Option (Int32 × Mem)} {n : Nat}  {a0 : Int32} {M : Mem} {H : Heap} {locs : List Loc} {ls : Array Slot} (hf : b11_isDigit_0  rc n a0 M = some (r, M')) (hP : va_P z.1 vwCl (pw (xd z b) 339 b M) H) (hS : va_S (pA 339 b) s.heap H locs) (hl : lv_has ls 1 [(0, .int a0)]) : W p l e rm11_isDigit s m args below meth c H locs 0 0 (MQ below (va_Qi (fun (r' : Int32) (M2 : Mem) => r' = r ∧ M2 = M') (fun M2 t => va_P z.1 vwCl (pw (xd z b) 339 b M2) t.heap) (pA 339 b)) args s 0 0 (pA 339 b)) (F0 m 0 ls []) := by
  have hx := C.1.1
  have hb := C.1.2.1
  unfold b11_isDigit_0 at hf
  refine lv_iload_n hx hb dX11_isDigit_0 rfl (lv_at hl 0 rfl) ?_
  refine lv_bipush (v := (48 : Int32)) hx hb dX11_isDigit_1 (by decide) ?_
  refine lv_icmp_lt (tgt := 16) hx hb dX11_isDigit_3 (by decide) (fun c1 => ?_) (fun c1 => ?_)
  · replace hf := ite_t c1 hf
    exact w11_isDigit_16 (n := n)  C hr hk  hf hP hS (lv_sub hl [] rfl)
  · replace hf := ite_f c1 hf
    refine lv_iload_n hx hb dX11_isDigit_6 rfl (lv_at hl 0 rfl) ?_
    refine lv_bipush (v := (57 : Int32)) hx hb dX11_isDigit_7 (by decide) ?_
    refine lv_icmp_gt (tgt := 16) hx hb dX11_isDigit_9 (by decide) (fun c2 => ?_) (fun c2 => ?_)
    · replace hf := ite_t c2 hf
      exact w11_isDigit_16 (n := n)  C hr hk  hf hP hS (lv_sub hl [] rfl)
    · replace hf := ite_f c2 hf
      refine lv_iconst (v := (1 : Int32)) hx hb dX11_isDigit_12 (by decide) ?_
      refine lv_goto (tgt := 17) hx hb dX11_isDigit_13 (by decide) ?_
      exact prZ C hr hk hP hS hf rfl dX11_isDigit_17
theorem c11_isDigit {l : Launch} {z : Zt} {b n : Nat}  {a0 : Int32} {M M' : Mem} {r : Int32} (hf : f11_isDigit n  a0 M = some (r, M')) : CI l z (xd z b) 339 b yX11_isDigit cX11_isDigit 1 (some .boolean) rm11_isDigit [.int a0] M M' r :=
  CI.ofW (lv := [(0, .int a0)]) (by decide) (Nat.le_of_ble_eq_true rfl) rfl (fun p e s m args below meth c ls C hr hk hP hS hl => w11_isDigit_0 (n := n)  C hr hk  hf hP hS hl)

-- BronzeKing$LawReader.add(II)V
theorem dX3_add_0 : decode cX3_add 0 = .ok (.aload_n 0, 1) := by decide +kernel
theorem dX3_add_1 : decode cX3_add 1 = .ok (.getfield 31, 3) := by decide +kernel
theorem dX3_add_4 : decode cX3_add 4 = .ok (.sipush 240, 3) := by decide +kernel
theorem dX3_add_7 : decode cX3_add 7 = .ok (.if_icmp .ge 27, 3) := by decide +kernel
theorem dX3_add_10 : decode cX3_add 10 = .ok (.aload_n 0, 1) := by decide +kernel
theorem dX3_add_11 : decode cX3_add 11 = .ok (.getfield 9, 3) := by decide +kernel
theorem dX3_add_14 : decode cX3_add 14 = .ok (.aload_n 0, 1) := by decide +kernel
theorem dX3_add_15 : decode cX3_add 15 = .ok (.getfield 31, 3) := by decide +kernel
theorem dX3_add_18 : decode cX3_add 18 = .ok (.iload_n 1, 1) := by decide +kernel
theorem dX3_add_19 : decode cX3_add 19 = .ok (.iload_n 2, 1) := by decide +kernel
theorem dX3_add_20 : decode cX3_add 20 = .ok (.iconst 4, 1) := by decide +kernel
theorem dX3_add_21 : decode cX3_add 21 = .ok (.ishl, 1) := by decide +kernel
theorem dX3_add_22 : decode cX3_add 22 = .ok (.ior, 1) := by decide +kernel
theorem dX3_add_23 : decode cX3_add 23 = .ok (.iastore, 1) := by decide +kernel
theorem dX3_add_24 : decode cX3_add 24 = .ok (.aload_n 0, 1) := by decide +kernel
theorem dX3_add_25 : decode cX3_add 25 = .ok (.dup, 1) := by decide +kernel
theorem dX3_add_26 : decode cX3_add 26 = .ok (.getfield 31, 3) := by decide +kernel
theorem dX3_add_29 : decode cX3_add 29 = .ok (.iconst 1, 1) := by decide +kernel
theorem dX3_add_30 : decode cX3_add 30 = .ok (.iadd, 1) := by decide +kernel
theorem dX3_add_31 : decode cX3_add 31 = .ok (.putfield 31, 3) := by decide +kernel
theorem dX3_add_34 : decode cX3_add 34 = .ok (.return_, 1) := by decide +kernel
def b3_add_0 (rc : Nat → List Int32 → List Int64 → Mem → Option (Unit × Mem)) (n : Nat) (a1 : Int32) (a2 : Int32) (M : Mem) : Option (Unit × Mem) :=
  (if (240 : Int32) ≤ (M.1 17 6) then (
   some ((), M))
  else (
   chk (inb (M.1 17 6) 240) <|
   lt (wI M 18 (M.1 17 6).toNatClampNeg (a1 ||| (a2 <<< ((4 : Int32) &&& 31)))) fun M3 =>
   lt (wI M3 17 6 ((M3.1 17 6) + (1 : Int32))) fun M4 =>
   some ((), M4)))
def f3_add (n : Nat) (a1 : Int32) (a2 : Int32) (M : Mem) : Option (Unit × Mem) := b3_add_0 (fun _ _ _ _ => none) n a1 a2 M
abbrev rm3_add : Room := { frames := 0, cells := 0, slots := 0, locals := 0 }
theorem y3_add_w : yV RX3 yX3_add cX3_add 3 none 2 := ⟨g_508, gp 1 rfl rfl, g_7, g_509, rfl, by decide, by decide, by decide +kernel⟩
set_option maxHeartbeats 4000000 in
set_option maxRecDepth 100000 in
theorem w3_add_0 {p : Program} {l : Launch} {e : Env} {s : State} {m : MethodId} {args : Array Value} {below : List Frame} {meth : Method} {c : Code} {z : Zt} {b : Nat}  (C : Cx p s m args c cX3_add 3 RX3 z 339 b) (hr : meth.sig.returnType = none) (hk : meth.locks = false) {r : Unit} {M' : Mem} {rc : Nat → List Int32 → List Int64 → Mem → Option (Unit × Mem)} {n : Nat}  {a1 : Int32} {a2 : Int32} {M : Mem} {H : Heap} {locs : List Loc} {ls : Array Slot} (hf : b3_add_0  rc n a1 a2 M = some (r, M')) (hP : va_P z.1 vwCl (pw (xd z b) 339 b M) H) (hS : va_S (pA 339 b) s.heap H locs) (hl : lv_has ls 3 [(0, .ref (b + 17)), (1, .int a1), (2, .int a2)]) : W p l e rm3_add s m args below meth c H locs 0 0 (MQ below (va_Qv (fun (M2 : Mem) => M2 = M') (fun M2 t => va_P z.1 vwCl (pw (xd z b) 339 b M2) t.heap) (pA 339 b)) args s 0 0 (pA 339 b)) (F0 m 0 ls []) := by
  have hx := C.1.1
  have hb := C.1.2.1
  unfold b3_add_0 at hf
  refine lv_aload_n hx hb dX3_add_0 rfl (lv_at hl 0 rfl) ?_
  refine pg C hP (k := 17) (j := 6) (Nat.le_of_ble_eq_true rfl) (xd_17 _ _) rfl iw_3 (Nat.le_of_ble_eq_true rfl) g_161 rfl rfl dX3_add_1 ?_
  refine lv_sipush (v := (240 : Int32)) hx hb dX3_add_4 (by decide) ?_
  refine lv_icmp_ge (tgt := 34) hx hb dX3_add_7 (by decide) (fun c1 => ?_) (fun c1 => ?_)
  · replace hf := ite_t c1 hf
    exact prV C hr hk hP hS hf dX3_add_34
  · replace hf := ite_f c1 hf
    refine lv_aload_n hx hb dX3_add_10 rfl (lv_at hl 0 rfl) ?_
    refine pg C hP (k := 17) (j := 0) (Nat.le_of_ble_eq_true rfl) (xd_17 _ _) rfl iw_3 (Nat.le_of_ble_eq_true rfl) g_151 rfl rfl dX3_add_11 ?_
    refine lv_aload_n hx hb dX3_add_14 rfl (lv_at hl 0 rfl) ?_
    refine pg C hP (k := 17) (j := 6) (Nat.le_of_ble_eq_true rfl) (xd_17 _ _) rfl iw_3 (Nat.le_of_ble_eq_true rfl) g_161 rfl rfl dX3_add_15 ?_
    refine lv_iload_n hx hb dX3_add_18 rfl (lv_at hl 1 rfl) ?_
    refine lv_iload_n hx hb dX3_add_19 rfl (lv_at hl 2 rfl) ?_
    refine lv_iconst (v := (4 : Int32)) hx hb dX3_add_20 (by decide) ?_
    refine lv_ishl hx hb dX3_add_21 ?_
    refine lv_ior hx hb dX3_add_22 ?_
    have h2 := chk_1 hf
    replace hf := chk_2 hf
    refine psI C hP hS (k := 18) (Nat.le_of_ble_eq_true rfl) (xd_18) h2 dX3_add_23 (fun M3 H locs eM3 hP hS => ?_)
    replace hf := lt_c eM3 hf
    refine lv_aload_n hx hb dX3_add_24 rfl (lv_at hl 0 rfl) ?_
    refine lv_dup hx hb dX3_add_25 rfl ?_
    refine pg C hP (k := 17) (j := 6) (Nat.le_of_ble_eq_true rfl) (xd_17 _ _) rfl iw_3 (Nat.le_of_ble_eq_true rfl) g_161 rfl rfl dX3_add_26 ?_
    refine lv_iconst (v := (1 : Int32)) hx hb dX3_add_29 (by decide) ?_
    refine lv_iadd hx hb dX3_add_30 ?_
    refine ppI C hP hS (k := 17) (j := 6) (ty := .int) (Nat.le_of_ble_eq_true rfl) (xd_17 _ _) rfl iw_3 tyX3 tyX3_ok nmX3 (Nat.le_of_ble_eq_true rfl) g_161 rfl rfl (by decide +kernel) rfl rfl (Nat.le_of_ble_eq_true rfl) (xu_17_6 _ _ _) dX3_add_31 (fun M4 H locs eM4 hP hS => ?_)
    replace hf := lt_c eM4 hf
    exact prV C hr hk hP hS hf dX3_add_34
theorem c3_add {l : Launch} {z : Zt} {b n : Nat}  {a1 : Int32} {a2 : Int32} {M M' : Mem} {r : Unit} (hf : f3_add n  a1 a2 M = some (r, M')) : CV l z (xd z b) 339 b yX3_add cX3_add 3 none rm3_add [.ref (b + 17), .int a1, .int a2] M M' :=
  CV.ofW (lv := [(0, .ref (b + 17)), (1, .int a1), (2, .int a2)]) (by decide) (Nat.le_of_ble_eq_true rfl) rfl (fun p e s m args below meth c ls C hr hk hP hS hl => w3_add_0 (n := n)  C hr hk  hf hP hS hl)

-- BronzeKing$LawReader.beginRule(I)I
theorem dX3_beginRule_0 : decode cX3_beginRule 0 = .ok (.iload_n 1, 1) := by decide +kernel
theorem dX3_beginRule_1 : decode cX3_beginRule 1 = .ok (.bipush 99, 2) := by decide +kernel
theorem dX3_beginRule_3 : decode cX3_beginRule 3 = .ok (.if_icmp .eq 17, 3) := by decide +kernel
theorem dX3_beginRule_6 : decode cX3_beginRule 6 = .ok (.iload_n 1, 1) := by decide +kernel
theorem dX3_beginRule_7 : decode cX3_beginRule 7 = .ok (.bipush 101, 2) := by decide +kernel
theorem dX3_beginRule_9 : decode cX3_beginRule 9 = .ok (.if_icmp .eq 11, 3) := by decide +kernel
theorem dX3_beginRule_12 : decode cX3_beginRule 12 = .ok (.iload_n 1, 1) := by decide +kernel
theorem dX3_beginRule_13 : decode cX3_beginRule 13 = .ok (.bipush 115, 2) := by decide +kernel
theorem dX3_beginRule_15 : decode cX3_beginRule 15 = .ok (.if_icmp .eq 5, 3) := by decide +kernel
theorem dX3_beginRule_18 : decode cX3_beginRule 18 = .ok (.iconst 1, 1) := by decide +kernel
theorem dX3_beginRule_19 : decode cX3_beginRule 19 = .ok (.ireturn, 1) := by decide +kernel
theorem dX3_beginRule_20 : decode cX3_beginRule 20 = .ok (.aload_n 0, 1) := by decide +kernel
theorem dX3_beginRule_21 : decode cX3_beginRule 21 = .ok (.getfield 27, 3) := by decide +kernel
theorem dX3_beginRule_24 : decode cX3_beginRule 24 = .ok (.bipush 16, 2) := by decide +kernel
theorem dX3_beginRule_26 : decode cX3_beginRule 26 = .ok (.if_icmp .lt 5, 3) := by decide +kernel
theorem dX3_beginRule_29 : decode cX3_beginRule 29 = .ok (.iconst 4, 1) := by decide +kernel
theorem dX3_beginRule_30 : decode cX3_beginRule 30 = .ok (.ireturn, 1) := by decide +kernel
theorem dX3_beginRule_31 : decode cX3_beginRule 31 = .ok (.aload_n 0, 1) := by decide +kernel
theorem dX3_beginRule_32 : decode cX3_beginRule 32 = .ok (.getfield 18, 3) := by decide +kernel
theorem dX3_beginRule_35 : decode cX3_beginRule 35 = .ok (.aload_n 0, 1) := by decide +kernel
theorem dX3_beginRule_36 : decode cX3_beginRule 36 = .ok (.getfield 27, 3) := by decide +kernel
theorem dX3_beginRule_39 : decode cX3_beginRule 39 = .ok (.iload_n 1, 1) := by decide +kernel
theorem dX3_beginRule_40 : decode cX3_beginRule 40 = .ok (.iastore, 1) := by decide +kernel
theorem dX3_beginRule_41 : decode cX3_beginRule 41 = .ok (.aload_n 0, 1) := by decide +kernel
theorem dX3_beginRule_42 : decode cX3_beginRule 42 = .ok (.getfield 15, 3) := by decide +kernel
theorem dX3_beginRule_45 : decode cX3_beginRule 45 = .ok (.iconst 2, 1) := by decide +kernel
theorem dX3_beginRule_46 : decode cX3_beginRule 46 = .ok (.aload_n 0, 1) := by decide +kernel
theorem dX3_beginRule_47 : decode cX3_beginRule 47 = .ok (.getfield 27, 3) := by decide +kernel
theorem dX3_beginRule_50 : decode cX3_beginRule 50 = .ok (.imul, 1) := by decide +kernel
theorem dX3_beginRule_51 : decode cX3_beginRule 51 = .ok (.aload_n 0, 1) := by decide +kernel
theorem dX3_beginRule_52 : decode cX3_beginRule 52 = .ok (.getfield 31, 3) := by decide +kernel
theorem dX3_beginRule_55 : decode cX3_beginRule 55 = .ok (.iastore, 1) := by decide +kernel
theorem dX3_beginRule_56 : decode cX3_beginRule 56 = .ok (.aload_n 0, 1) := by decide +kernel
theorem dX3_beginRule_57 : decode cX3_beginRule 57 = .ok (.iload_n 1, 1) := by decide +kernel
theorem dX3_beginRule_58 : decode cX3_beginRule 58 = .ok (.bipush 115, 2) := by decide +kernel
theorem dX3_beginRule_60 : decode cX3_beginRule 60 = .ok (.if_icmp .ne 7, 3) := by decide +kernel
theorem dX3_beginRule_63 : decode cX3_beginRule 63 = .ok (.iconst 1, 1) := by decide +kernel
theorem dX3_beginRule_64 : decode cX3_beginRule 64 = .ok (.goto 4, 3) := by decide +kernel
theorem dX3_beginRule_67 : decode cX3_beginRule 67 = .ok (.iconst 3, 1) := by decide +kernel
theorem dX3_beginRule_68 : decode cX3_beginRule 68 = .ok (.putfield 40, 3) := by decide +kernel
theorem dX3_beginRule_71 : decode cX3_beginRule 71 = .ok (.iconst 0, 1) := by decide +kernel
theorem dX3_beginRule_72 : decode cX3_beginRule 72 = .ok (.ireturn, 1) := by decide +kernel
def b3_beginRule_68 (rc : Nat → List Int32 → List Int64 → Mem → Option (Int32 × Mem)) (n : Nat) (s1 : Int32) (M : Mem) : Option (Int32 × Mem) :=
  lt (wI M 17 9 s1) fun M10 =>
  some ((0 : Int32), M10)
def b3_beginRule_20 (rc : Nat → List Int32 → List Int64 → Mem → Option (Int32 × Mem)) (n : Nat) (i1 : Int32) (M : Mem) : Option (Int32 × Mem) :=
  (if (M.1 17 5) < (16 : Int32) then (
   chk (inb (M.1 17 5) 16) <|
   lt (wI M 20 (M.1 17 5).toNatClampNeg i1) fun M6 =>
   chk (inb ((2 : Int32) * (M6.1 17 5)) 33) <|
   lt (wI M6 19 ((2 : Int32) * (M6.1 17 5)).toNatClampNeg (M6.1 17 6)) fun M8 =>
   (if i1 = (115 : Int32) then (
    b3_beginRule_68  rc n (1 : Int32) M8)
   else (
    b3_beginRule_68  rc n (3 : Int32) M8)))
  else (
   some ((4 : Int32), M)))
def b3_beginRule_0 (rc : Nat → List Int32 → List Int64 → Mem → Option (Int32 × Mem)) (n : Nat) (a1 : Int32) (M : Mem) : Option (Int32 × Mem) :=
  (if a1 = (99 : Int32) then (
   b3_beginRule_20  rc n a1 M)
  else (
   (if a1 = (101 : Int32) then (
    b3_beginRule_20  rc n a1 M)
   else (
    (if a1 = (115 : Int32) then (
     b3_beginRule_20  rc n a1 M)
    else (
     some ((1 : Int32), M)))))))
def f3_beginRule (n : Nat) (a1 : Int32) (M : Mem) : Option (Int32 × Mem) := b3_beginRule_0 (fun _ _ _ _ => none) n a1 M
abbrev rm3_beginRule : Room := { frames := 0, cells := 0, slots := 0, locals := 0 }
theorem y3_beginRule_w : yV RX3 yX3_beginRule cX3_beginRule 2 (some .int) 1 := ⟨g_512, gp 2 rfl rfl, g_7, g_513, rfl, by decide, by decide, by decide +kernel⟩
set_option maxHeartbeats 4000000 in
set_option maxRecDepth 100000 in
theorem w3_beginRule_68 {p : Program} {l : Launch} {e : Env} {s : State} {m : MethodId} {args : Array Value} {below : List Frame} {meth : Method} {c : Code} {z : Zt} {b : Nat}  (C : Cx p s m args c cX3_beginRule 2 RX3 z 339 b) (hr : meth.sig.returnType = (some .int)) (hk : meth.locks = false) {r : Int32} {M' : Mem} {rc : Nat → List Int32 → List Int64 → Mem → Option (Int32 × Mem)} {n : Nat}  {s1 : Int32} {M : Mem} {H : Heap} {locs : List Loc} {ls : Array Slot} (hf : b3_beginRule_68  rc n s1 M = some (r, M')) (hP : va_P z.1 vwCl (pw (xd z b) 339 b M) H) (hS : va_S (pA 339 b) s.heap H locs) (hl : lv_has ls 2 []) : W p l e rm3_beginRule s m args below meth c H locs 0 0 (MQ below (va_Qi (fun (r' : Int32) (M2 : Mem) => r' = r ∧ M2 = M') (fun M2 t => va_P z.1 vwCl (pw (xd z b) 339 b M2) t.heap) (pA 339 b)) args s 0 0 (pA 339 b)) (F0 m 68 ls [.int s1, .ref (b + 17)]) := by
  have hx := C.1.1
  have hb := C.1.2.1
  unfold b3_beginRule_68 at hf
  refine ppI C hP hS (k := 17) (j := 9) (ty := .int) (Nat.le_of_ble_eq_true rfl) (xd_17 _ _) rfl iw_3 tyX3 tyX3_ok nmX3 (Nat.le_of_ble_eq_true rfl) g_164 rfl rfl (by decide +kernel) rfl rfl (Nat.le_of_ble_eq_true rfl) (xu_17_9 _ _ _) dX3_beginRule_68 (fun M10 H locs eM10 hP hS => ?_)
  replace hf := lt_c eM10 hf
  refine lv_iconst (v := (0 : Int32)) hx hb dX3_beginRule_71 (by decide) ?_
  exact prI C hr hk hP hS hf dX3_beginRule_72
set_option maxHeartbeats 4000000 in
set_option maxRecDepth 100000 in
theorem w3_beginRule_20 {p : Program} {l : Launch} {e : Env} {s : State} {m : MethodId} {args : Array Value} {below : List Frame} {meth : Method} {c : Code} {z : Zt} {b : Nat}  (C : Cx p s m args c cX3_beginRule 2 RX3 z 339 b) (hr : meth.sig.returnType = (some .int)) (hk : meth.locks = false) {r : Int32} {M' : Mem} {rc : Nat → List Int32 → List Int64 → Mem → Option (Int32 × Mem)} {n : Nat}  {i1 : Int32} {M : Mem} {H : Heap} {locs : List Loc} {ls : Array Slot} (hf : b3_beginRule_20  rc n i1 M = some (r, M')) (hP : va_P z.1 vwCl (pw (xd z b) 339 b M) H) (hS : va_S (pA 339 b) s.heap H locs) (hl : lv_has ls 2 [(0, .ref (b + 17)), (1, .int i1)]) : W p l e rm3_beginRule s m args below meth c H locs 0 0 (MQ below (va_Qi (fun (r' : Int32) (M2 : Mem) => r' = r ∧ M2 = M') (fun M2 t => va_P z.1 vwCl (pw (xd z b) 339 b M2) t.heap) (pA 339 b)) args s 0 0 (pA 339 b)) (F0 m 20 ls []) := by
  have hx := C.1.1
  have hb := C.1.2.1
  unfold b3_beginRule_20 at hf
  refine lv_aload_n hx hb dX3_beginRule_20 rfl (lv_at hl 0 rfl) ?_
  refine pg C hP (k := 17) (j := 5) (Nat.le_of_ble_eq_true rfl) (xd_17 _ _) rfl iw_3 (Nat.le_of_ble_eq_true rfl) g_159 rfl rfl dX3_beginRule_21 ?_
  refine lv_bipush (v := (16 : Int32)) hx hb dX3_beginRule_24 (by decide) ?_
  refine lv_icmp_lt (tgt := 31) hx hb dX3_beginRule_26 (by decide) (fun c4 => ?_) (fun c4 => ?_)
  · replace hf := ite_t c4 hf
    refine lv_aload_n hx hb dX3_beginRule_31 rfl (lv_at hl 0 rfl) ?_
    refine pg C hP (k := 17) (j := 2) (Nat.le_of_ble_eq_true rfl) (xd_17 _ _) rfl iw_3 (Nat.le_of_ble_eq_true rfl) g_155 rfl rfl dX3_beginRule_32 ?_
    refine lv_aload_n hx hb dX3_beginRule_35 rfl (lv_at hl 0 rfl) ?_
    refine pg C hP (k := 17) (j := 5) (Nat.le_of_ble_eq_true rfl) (xd_17 _ _) rfl iw_3 (Nat.le_of_ble_eq_true rfl) g_159 rfl rfl dX3_beginRule_36 ?_
    refine lv_iload_n hx hb dX3_beginRule_39 rfl (lv_at hl 1 rfl) ?_
    have h5 := chk_1 hf
    replace hf := chk_2 hf
    refine psI C hP hS (k := 20) (Nat.le_of_ble_eq_true rfl) (xd_20) h5 dX3_beginRule_40 (fun M6 H locs eM6 hP hS => ?_)
    replace hf := lt_c eM6 hf
    refine lv_aload_n hx hb dX3_beginRule_41 rfl (lv_at hl 0 rfl) ?_
    refine pg C hP (k := 17) (j := 1) (Nat.le_of_ble_eq_true rfl) (xd_17 _ _) rfl iw_3 (Nat.le_of_ble_eq_true rfl) g_153 rfl rfl dX3_beginRule_42 ?_
    refine lv_iconst (v := (2 : Int32)) hx hb dX3_beginRule_45 (by decide) ?_
    refine lv_aload_n hx hb dX3_beginRule_46 rfl (lv_at hl 0 rfl) ?_
    refine pg C hP (k := 17) (j := 5) (Nat.le_of_ble_eq_true rfl) (xd_17 _ _) rfl iw_3 (Nat.le_of_ble_eq_true rfl) g_159 rfl rfl dX3_beginRule_47 ?_
    refine lv_imul hx hb dX3_beginRule_50 ?_
    refine lv_aload_n hx hb dX3_beginRule_51 rfl (lv_at hl 0 rfl) ?_
    refine pg C hP (k := 17) (j := 6) (Nat.le_of_ble_eq_true rfl) (xd_17 _ _) rfl iw_3 (Nat.le_of_ble_eq_true rfl) g_161 rfl rfl dX3_beginRule_52 ?_
    have h7 := chk_1 hf
    replace hf := chk_2 hf
    refine psI C hP hS (k := 19) (Nat.le_of_ble_eq_true rfl) (xd_19) h7 dX3_beginRule_55 (fun M8 H locs eM8 hP hS => ?_)
    replace hf := lt_c eM8 hf
    refine lv_aload_n hx hb dX3_beginRule_56 rfl (lv_at hl 0 rfl) ?_
    refine lv_iload_n hx hb dX3_beginRule_57 rfl (lv_at hl 1 rfl) ?_
    refine lv_bipush (v := (115 : Int32)) hx hb dX3_beginRule_58 (by decide) ?_
    refine lv_icmp_ne (tgt := 67) hx hb dX3_beginRule_60 (by decide) (fun c9 => ?_) (fun c9 => ?_)
    · replace hf := ite_f c9 hf
      refine lv_iconst (v := (3 : Int32)) hx hb dX3_beginRule_67 (by decide) ?_
      exact w3_beginRule_68 (n := n)  C hr hk  hf hP hS (lv_sub hl [] rfl)
    · replace hf := ite_t c9 hf
      refine lv_iconst (v := (1 : Int32)) hx hb dX3_beginRule_63 (by decide) ?_
      refine lv_goto (tgt := 68) hx hb dX3_beginRule_64 (by decide) ?_
      exact w3_beginRule_68 (n := n)  C hr hk  hf hP hS (lv_sub hl [] rfl)
  · replace hf := ite_f c4 hf
    refine lv_iconst (v := (4 : Int32)) hx hb dX3_beginRule_29 (by decide) ?_
    exact prI C hr hk hP hS hf dX3_beginRule_30
set_option maxHeartbeats 4000000 in
set_option maxRecDepth 100000 in
theorem w3_beginRule_0 {p : Program} {l : Launch} {e : Env} {s : State} {m : MethodId} {args : Array Value} {below : List Frame} {meth : Method} {c : Code} {z : Zt} {b : Nat}  (C : Cx p s m args c cX3_beginRule 2 RX3 z 339 b) (hr : meth.sig.returnType = (some .int)) (hk : meth.locks = false) {r : Int32} {M' : Mem} {rc : Nat → List Int32 → List Int64 → Mem → Option (Int32 × Mem)} {n : Nat}  {a1 : Int32} {M : Mem} {H : Heap} {locs : List Loc} {ls : Array Slot} (hf : b3_beginRule_0  rc n a1 M = some (r, M')) (hP : va_P z.1 vwCl (pw (xd z b) 339 b M) H) (hS : va_S (pA 339 b) s.heap H locs) (hl : lv_has ls 2 [(0, .ref (b + 17)), (1, .int a1)]) : W p l e rm3_beginRule s m args below meth c H locs 0 0 (MQ below (va_Qi (fun (r' : Int32) (M2 : Mem) => r' = r ∧ M2 = M') (fun M2 t => va_P z.1 vwCl (pw (xd z b) 339 b M2) t.heap) (pA 339 b)) args s 0 0 (pA 339 b)) (F0 m 0 ls []) := by
  have hx := C.1.1
  have hb := C.1.2.1
  unfold b3_beginRule_0 at hf
  refine lv_iload_n hx hb dX3_beginRule_0 rfl (lv_at hl 1 rfl) ?_
  refine lv_bipush (v := (99 : Int32)) hx hb dX3_beginRule_1 (by decide) ?_
  refine lv_icmp_eq (tgt := 20) hx hb dX3_beginRule_3 (by decide) (fun c1 => ?_) (fun c1 => ?_)
  · replace hf := ite_t c1 hf
    exact w3_beginRule_20 (n := n)  C hr hk  hf hP hS (lv_sub hl [0, 1] rfl)
  · replace hf := ite_f c1 hf
    refine lv_iload_n hx hb dX3_beginRule_6 rfl (lv_at hl 1 rfl) ?_
    refine lv_bipush (v := (101 : Int32)) hx hb dX3_beginRule_7 (by decide) ?_
    refine lv_icmp_eq (tgt := 20) hx hb dX3_beginRule_9 (by decide) (fun c2 => ?_) (fun c2 => ?_)
    · replace hf := ite_t c2 hf
      exact w3_beginRule_20 (n := n)  C hr hk  hf hP hS (lv_sub hl [0, 1] rfl)
    · replace hf := ite_f c2 hf
      refine lv_iload_n hx hb dX3_beginRule_12 rfl (lv_at hl 1 rfl) ?_
      refine lv_bipush (v := (115 : Int32)) hx hb dX3_beginRule_13 (by decide) ?_
      refine lv_icmp_eq (tgt := 20) hx hb dX3_beginRule_15 (by decide) (fun c3 => ?_) (fun c3 => ?_)
      · replace hf := ite_t c3 hf
        exact w3_beginRule_20 (n := n)  C hr hk  hf hP hS (lv_sub hl [0, 1] rfl)
      · replace hf := ite_f c3 hf
        refine lv_iconst (v := (1 : Int32)) hx hb dX3_beginRule_18 (by decide) ?_
        exact prI C hr hk hP hS hf dX3_beginRule_19
theorem c3_beginRule {l : Launch} {z : Zt} {b n : Nat}  {a1 : Int32} {M M' : Mem} {r : Int32} (hf : f3_beginRule n  a1 M = some (r, M')) : CI l z (xd z b) 339 b yX3_beginRule cX3_beginRule 2 (some .int) rm3_beginRule [.ref (b + 17), .int a1] M M' r :=
  CI.ofW (lv := [(0, .ref (b + 17)), (1, .int a1)]) (by decide) (Nat.le_of_ble_eq_true rfl) rfl (fun p e s m args below meth c ls C hr hk hP hS hl => w3_beginRule_0 (n := n)  C hr hk  hf hP hS hl)

-- BronzeKing$LawReader.push(I)V
theorem dX3_push_0 : decode cX3_push 0 = .ok (.aload_n 0, 1) := by decide +kernel
theorem dX3_push_1 : decode cX3_push 1 = .ok (.getfield 34, 3) := by decide +kernel
theorem dX3_push_4 : decode cX3_push 4 = .ok (.bipush 64, 2) := by decide +kernel
theorem dX3_push_6 : decode cX3_push 6 = .ok (.if_icmp .ge 36, 3) := by decide +kernel
theorem dX3_push_9 : decode cX3_push 9 = .ok (.aload_n 0, 1) := by decide +kernel
theorem dX3_push_10 : decode cX3_push 10 = .ok (.getfield 21, 3) := by decide +kernel
theorem dX3_push_13 : decode cX3_push 13 = .ok (.aload_n 0, 1) := by decide +kernel
theorem dX3_push_14 : decode cX3_push 14 = .ok (.getfield 34, 3) := by decide +kernel
theorem dX3_push_17 : decode cX3_push 17 = .ok (.iload_n 1, 1) := by decide +kernel
theorem dX3_push_18 : decode cX3_push 18 = .ok (.iastore, 1) := by decide +kernel
theorem dX3_push_19 : decode cX3_push 19 = .ok (.aload_n 0, 1) := by decide +kernel
theorem dX3_push_20 : decode cX3_push 20 = .ok (.getfield 24, 3) := by decide +kernel
theorem dX3_push_23 : decode cX3_push 23 = .ok (.aload_n 0, 1) := by decide +kernel
theorem dX3_push_24 : decode cX3_push 24 = .ok (.getfield 34, 3) := by decide +kernel
theorem dX3_push_27 : decode cX3_push 27 = .ok (.aload_n 0, 1) := by decide +kernel
theorem dX3_push_28 : decode cX3_push 28 = .ok (.getfield 31, 3) := by decide +kernel
theorem dX3_push_31 : decode cX3_push 31 = .ok (.iastore, 1) := by decide +kernel
theorem dX3_push_32 : decode cX3_push 32 = .ok (.aload_n 0, 1) := by decide +kernel
theorem dX3_push_33 : decode cX3_push 33 = .ok (.dup, 1) := by decide +kernel
theorem dX3_push_34 : decode cX3_push 34 = .ok (.getfield 34, 3) := by decide +kernel
theorem dX3_push_37 : decode cX3_push 37 = .ok (.iconst 1, 1) := by decide +kernel
theorem dX3_push_38 : decode cX3_push 38 = .ok (.iadd, 1) := by decide +kernel
theorem dX3_push_39 : decode cX3_push 39 = .ok (.putfield 34, 3) := by decide +kernel
theorem dX3_push_42 : decode cX3_push 42 = .ok (.return_, 1) := by decide +kernel
def b3_push_0 (rc : Nat → List Int32 → List Int64 → Mem → Option (Unit × Mem)) (n : Nat) (a1 : Int32) (M : Mem) : Option (Unit × Mem) :=
  (if (64 : Int32) ≤ (M.1 17 7) then (
   some ((), M))
  else (
   chk (inb (M.1 17 7) 64) <|
   lt (wI M 21 (M.1 17 7).toNatClampNeg a1) fun M3 =>
   chk (inb (M3.1 17 7) 64) <|
   lt (wI M3 22 (M3.1 17 7).toNatClampNeg (M3.1 17 6)) fun M5 =>
   lt (wI M5 17 7 ((M5.1 17 7) + (1 : Int32))) fun M6 =>
   some ((), M6)))
def f3_push (n : Nat) (a1 : Int32) (M : Mem) : Option (Unit × Mem) := b3_push_0 (fun _ _ _ _ => none) n a1 M
abbrev rm3_push : Room := { frames := 0, cells := 0, slots := 0, locals := 0 }
theorem y3_push_w : yV RX3 yX3_push cX3_push 2 none 1 := ⟨g_524, gp 5 rfl rfl, g_7, g_525, rfl, by decide, by decide, by decide +kernel⟩
set_option maxHeartbeats 4000000 in
set_option maxRecDepth 100000 in
theorem w3_push_0 {p : Program} {l : Launch} {e : Env} {s : State} {m : MethodId} {args : Array Value} {below : List Frame} {meth : Method} {c : Code} {z : Zt} {b : Nat}  (C : Cx p s m args c cX3_push 2 RX3 z 339 b) (hr : meth.sig.returnType = none) (hk : meth.locks = false) {r : Unit} {M' : Mem} {rc : Nat → List Int32 → List Int64 → Mem → Option (Unit × Mem)} {n : Nat}  {a1 : Int32} {M : Mem} {H : Heap} {locs : List Loc} {ls : Array Slot} (hf : b3_push_0  rc n a1 M = some (r, M')) (hP : va_P z.1 vwCl (pw (xd z b) 339 b M) H) (hS : va_S (pA 339 b) s.heap H locs) (hl : lv_has ls 2 [(0, .ref (b + 17)), (1, .int a1)]) : W p l e rm3_push s m args below meth c H locs 0 0 (MQ below (va_Qv (fun (M2 : Mem) => M2 = M') (fun M2 t => va_P z.1 vwCl (pw (xd z b) 339 b M2) t.heap) (pA 339 b)) args s 0 0 (pA 339 b)) (F0 m 0 ls []) := by
  have hx := C.1.1
  have hb := C.1.2.1
  unfold b3_push_0 at hf
  refine lv_aload_n hx hb dX3_push_0 rfl (lv_at hl 0 rfl) ?_
  refine pg C hP (k := 17) (j := 7) (Nat.le_of_ble_eq_true rfl) (xd_17 _ _) rfl iw_3 (Nat.le_of_ble_eq_true rfl) g_162 rfl rfl dX3_push_1 ?_
  refine lv_bipush (v := (64 : Int32)) hx hb dX3_push_4 (by decide) ?_
  refine lv_icmp_ge (tgt := 42) hx hb dX3_push_6 (by decide) (fun c1 => ?_) (fun c1 => ?_)
  · replace hf := ite_t c1 hf
    exact prV C hr hk hP hS hf dX3_push_42
  · replace hf := ite_f c1 hf
    refine lv_aload_n hx hb dX3_push_9 rfl (lv_at hl 0 rfl) ?_
    refine pg C hP (k := 17) (j := 3) (Nat.le_of_ble_eq_true rfl) (xd_17 _ _) rfl iw_3 (Nat.le_of_ble_eq_true rfl) g_157 rfl rfl dX3_push_10 ?_
    refine lv_aload_n hx hb dX3_push_13 rfl (lv_at hl 0 rfl) ?_
    refine pg C hP (k := 17) (j := 7) (Nat.le_of_ble_eq_true rfl) (xd_17 _ _) rfl iw_3 (Nat.le_of_ble_eq_true rfl) g_162 rfl rfl dX3_push_14 ?_
    refine lv_iload_n hx hb dX3_push_17 rfl (lv_at hl 1 rfl) ?_
    have h2 := chk_1 hf
    replace hf := chk_2 hf
    refine psI C hP hS (k := 21) (Nat.le_of_ble_eq_true rfl) (xd_21) h2 dX3_push_18 (fun M3 H locs eM3 hP hS => ?_)
    replace hf := lt_c eM3 hf
    refine lv_aload_n hx hb dX3_push_19 rfl (lv_at hl 0 rfl) ?_
    refine pg C hP (k := 17) (j := 4) (Nat.le_of_ble_eq_true rfl) (xd_17 _ _) rfl iw_3 (Nat.le_of_ble_eq_true rfl) g_158 rfl rfl dX3_push_20 ?_
    refine lv_aload_n hx hb dX3_push_23 rfl (lv_at hl 0 rfl) ?_
    refine pg C hP (k := 17) (j := 7) (Nat.le_of_ble_eq_true rfl) (xd_17 _ _) rfl iw_3 (Nat.le_of_ble_eq_true rfl) g_162 rfl rfl dX3_push_24 ?_
    refine lv_aload_n hx hb dX3_push_27 rfl (lv_at hl 0 rfl) ?_
    refine pg C hP (k := 17) (j := 6) (Nat.le_of_ble_eq_true rfl) (xd_17 _ _) rfl iw_3 (Nat.le_of_ble_eq_true rfl) g_161 rfl rfl dX3_push_28 ?_
    have h4 := chk_1 hf
    replace hf := chk_2 hf
    refine psI C hP hS (k := 22) (Nat.le_of_ble_eq_true rfl) (xd_22) h4 dX3_push_31 (fun M5 H locs eM5 hP hS => ?_)
    replace hf := lt_c eM5 hf
    refine lv_aload_n hx hb dX3_push_32 rfl (lv_at hl 0 rfl) ?_
    refine lv_dup hx hb dX3_push_33 rfl ?_
    refine pg C hP (k := 17) (j := 7) (Nat.le_of_ble_eq_true rfl) (xd_17 _ _) rfl iw_3 (Nat.le_of_ble_eq_true rfl) g_162 rfl rfl dX3_push_34 ?_
    refine lv_iconst (v := (1 : Int32)) hx hb dX3_push_37 (by decide) ?_
    refine lv_iadd hx hb dX3_push_38 ?_
    refine ppI C hP hS (k := 17) (j := 7) (ty := .int) (Nat.le_of_ble_eq_true rfl) (xd_17 _ _) rfl iw_3 tyX3 tyX3_ok nmX3 (Nat.le_of_ble_eq_true rfl) g_162 rfl rfl (by decide +kernel) rfl rfl (Nat.le_of_ble_eq_true rfl) (xu_17_7 _ _ _) dX3_push_39 (fun M6 H locs eM6 hP hS => ?_)
    replace hf := lt_c eM6 hf
    exact prV C hr hk hP hS hf dX3_push_42
theorem c3_push {l : Launch} {z : Zt} {b n : Nat}  {a1 : Int32} {M M' : Mem} {r : Unit} (hf : f3_push n  a1 M = some (r, M')) : CV l z (xd z b) 339 b yX3_push cX3_push 2 none rm3_push [.ref (b + 17), .int a1] M M' :=
  CV.ofW (lv := [(0, .ref (b + 17)), (1, .int a1)]) (by decide) (Nat.le_of_ble_eq_true rfl) rfl (fun p e s m args below meth c ls C hr hk hP hS hl => w3_push_0 (n := n)  C hr hk  hf hP hS hl)

-- BronzeKing$LawReader.open(I)I
theorem dX3_open_0 : decode cX3_open 0 = .ok (.aload_n 0, 1) := by decide +kernel
theorem dX3_open_1 : decode cX3_open 1 = .ok (.getfield 37, 3) := by decide +kernel
theorem dX3_open_4 : decode cX3_open 4 = .ok (.bipush 6, 2) := by decide +kernel
theorem dX3_open_6 : decode cX3_open 6 = .ok (.if_icmp .lt 5, 3) := by decide +kernel
theorem dX3_open_9 : decode cX3_open 9 = .ok (.iconst 5, 1) := by decide +kernel
theorem dX3_open_10 : decode cX3_open 10 = .ok (.ireturn, 1) := by decide +kernel
theorem dX3_open_11 : decode cX3_open 11 = .ok (.aload_n 0, 1) := by decide +kernel
theorem dX3_open_12 : decode cX3_open 12 = .ok (.dup, 1) := by decide +kernel
theorem dX3_open_13 : decode cX3_open 13 = .ok (.getfield 37, 3) := by decide +kernel
theorem dX3_open_16 : decode cX3_open 16 = .ok (.iconst 1, 1) := by decide +kernel
theorem dX3_open_17 : decode cX3_open 17 = .ok (.iadd, 1) := by decide +kernel
theorem dX3_open_18 : decode cX3_open 18 = .ok (.putfield 37, 3) := by decide +kernel
theorem dX3_open_21 : decode cX3_open 21 = .ok (.aload_n 0, 1) := by decide +kernel
theorem dX3_open_22 : decode cX3_open 22 = .ok (.iload_n 1, 1) := by decide +kernel
theorem dX3_open_23 : decode cX3_open 23 = .ok (.invokevirtual 130, 3) := by decide +kernel
theorem dX3_open_26 : decode cX3_open 26 = .ok (.aload_n 0, 1) := by decide +kernel
theorem dX3_open_27 : decode cX3_open 27 = .ok (.iload_n 1, 1) := by decide +kernel
theorem dX3_open_28 : decode cX3_open 28 = .ok (.bipush 14, 2) := by decide +kernel
theorem dX3_open_30 : decode cX3_open 30 = .ok (.if_icmp .ne 7, 3) := by decide +kernel
theorem dX3_open_33 : decode cX3_open 33 = .ok (.iconst 3, 1) := by decide +kernel
theorem dX3_open_34 : decode cX3_open 34 = .ok (.goto 4, 3) := by decide +kernel
theorem dX3_open_37 : decode cX3_open 37 = .ok (.iconst 2, 1) := by decide +kernel
theorem dX3_open_38 : decode cX3_open 38 = .ok (.putfield 40, 3) := by decide +kernel
theorem dX3_open_41 : decode cX3_open 41 = .ok (.iconst 0, 1) := by decide +kernel
theorem dX3_open_42 : decode cX3_open 42 = .ok (.ireturn, 1) := by decide +kernel
def b3_open_38 (rc : Nat → List Int32 → List Int64 → Mem → Option (Int32 × Mem)) (n : Nat) (s1 : Int32) (M : Mem) : Option (Int32 × Mem) :=
  lt (wI M 17 9 s1) fun M7 =>
  some ((0 : Int32), M7)
def b3_open_0 (rc : Nat → List Int32 → List Int64 → Mem → Option (Int32 × Mem)) (n : Nat) (a1 : Int32) (M : Mem) : Option (Int32 × Mem) :=
  (if (M.1 17 8) < (6 : Int32) then (
   lt (wI M 17 8 ((M.1 17 8) + (1 : Int32))) fun M2 =>
   bnd (f3_push n a1 M2) fun r3 M4 =>
   (if a1 = (14 : Int32) then (
    b3_open_38  rc n (3 : Int32) M4)
   else (
    b3_open_38  rc n (2 : Int32) M4)))
  else (
   some ((5 : Int32), M)))
def f3_open (n : Nat) (a1 : Int32) (M : Mem) : Option (Int32 × Mem) := b3_open_0 (fun _ _ _ _ => none) n a1 M
abbrev rm3_open : Room := { frames := 1, cells := 0, slots := 0, locals := 21 }
theorem y3_open_w : yV RX3 yX3_open cX3_open 2 (some .int) 1 := ⟨g_520, gp 4 rfl rfl, g_7, g_521, rfl, by decide, by decide, by decide +kernel⟩
set_option maxHeartbeats 4000000 in
set_option maxRecDepth 100000 in
theorem w3_open_38 {p : Program} {l : Launch} {e : Env} {s : State} {m : MethodId} {args : Array Value} {below : List Frame} {meth : Method} {c : Code} {z : Zt} {b : Nat}  (C : Cx p s m args c cX3_open 2 RX3 z 339 b) (hr : meth.sig.returnType = (some .int)) (hk : meth.locks = false) {r : Int32} {M' : Mem} {rc : Nat → List Int32 → List Int64 → Mem → Option (Int32 × Mem)} {n : Nat}  {s1 : Int32} {M : Mem} {H : Heap} {locs : List Loc} {ls : Array Slot} (hf : b3_open_38  rc n s1 M = some (r, M')) (hP : va_P z.1 vwCl (pw (xd z b) 339 b M) H) (hS : va_S (pA 339 b) s.heap H locs) (hl : lv_has ls 2 []) : W p l e rm3_open s m args below meth c H locs 0 0 (MQ below (va_Qi (fun (r' : Int32) (M2 : Mem) => r' = r ∧ M2 = M') (fun M2 t => va_P z.1 vwCl (pw (xd z b) 339 b M2) t.heap) (pA 339 b)) args s 0 0 (pA 339 b)) (F0 m 38 ls [.int s1, .ref (b + 17)]) := by
  have hx := C.1.1
  have hb := C.1.2.1
  unfold b3_open_38 at hf
  refine ppI C hP hS (k := 17) (j := 9) (ty := .int) (Nat.le_of_ble_eq_true rfl) (xd_17 _ _) rfl iw_3 tyX3 tyX3_ok nmX3 (Nat.le_of_ble_eq_true rfl) g_164 rfl rfl (by decide +kernel) rfl rfl (Nat.le_of_ble_eq_true rfl) (xu_17_9 _ _ _) dX3_open_38 (fun M7 H locs eM7 hP hS => ?_)
  replace hf := lt_c eM7 hf
  refine lv_iconst (v := (0 : Int32)) hx hb dX3_open_41 (by decide) ?_
  exact prI C hr hk hP hS hf dX3_open_42
set_option maxHeartbeats 4000000 in
set_option maxRecDepth 100000 in
theorem w3_open_0 {p : Program} {l : Launch} {e : Env} {s : State} {m : MethodId} {args : Array Value} {below : List Frame} {meth : Method} {c : Code} {z : Zt} {b : Nat}  (C : Cx p s m args c cX3_open 2 RX3 z 339 b) (hr : meth.sig.returnType = (some .int)) (hk : meth.locks = false) {r : Int32} {M' : Mem} {rc : Nat → List Int32 → List Int64 → Mem → Option (Int32 × Mem)} {n : Nat}  {a1 : Int32} {M : Mem} {H : Heap} {locs : List Loc} {ls : Array Slot} (hf : b3_open_0  rc n a1 M = some (r, M')) (hP : va_P z.1 vwCl (pw (xd z b) 339 b M) H) (hS : va_S (pA 339 b) s.heap H locs) (hl : lv_has ls 2 [(0, .ref (b + 17)), (1, .int a1)]) : W p l e rm3_open s m args below meth c H locs 0 0 (MQ below (va_Qi (fun (r' : Int32) (M2 : Mem) => r' = r ∧ M2 = M') (fun M2 t => va_P z.1 vwCl (pw (xd z b) 339 b M2) t.heap) (pA 339 b)) args s 0 0 (pA 339 b)) (F0 m 0 ls []) := by
  have hx := C.1.1
  have hb := C.1.2.1
  unfold b3_open_0 at hf
  refine lv_aload_n hx hb dX3_open_0 rfl (lv_at hl 0 rfl) ?_
  refine pg C hP (k := 17) (j := 8) (Nat.le_of_ble_eq_true rfl) (xd_17 _ _) rfl iw_3 (Nat.le_of_ble_eq_true rfl) g_163 rfl rfl dX3_open_1 ?_
  refine lv_bipush (v := (6 : Int32)) hx hb dX3_open_4 (by decide) ?_
  refine lv_icmp_lt (tgt := 11) hx hb dX3_open_6 (by decide) (fun c1 => ?_) (fun c1 => ?_)
  · replace hf := ite_t c1 hf
    refine lv_aload_n hx hb dX3_open_11 rfl (lv_at hl 0 rfl) ?_
    refine lv_dup hx hb dX3_open_12 rfl ?_
    refine pg C hP (k := 17) (j := 8) (Nat.le_of_ble_eq_true rfl) (xd_17 _ _) rfl iw_3 (Nat.le_of_ble_eq_true rfl) g_163 rfl rfl dX3_open_13 ?_
    refine lv_iconst (v := (1 : Int32)) hx hb dX3_open_16 (by decide) ?_
    refine lv_iadd hx hb dX3_open_17 ?_
    refine ppI C hP hS (k := 17) (j := 8) (ty := .int) (Nat.le_of_ble_eq_true rfl) (xd_17 _ _) rfl iw_3 tyX3 tyX3_ok nmX3 (Nat.le_of_ble_eq_true rfl) g_163 rfl rfl (by decide +kernel) rfl rfl (Nat.le_of_ble_eq_true rfl) (xu_17_8 _ _ _) dX3_open_18 (fun M2 H locs eM2 hP hS => ?_)
    replace hf := lt_c eM2 hf
    refine lv_aload_n hx hb dX3_open_21 rfl (lv_at hl 0 rfl) ?_
    refine lv_iload_n hx hb dX3_open_22 rfl (lv_at hl 1 rfl) ?_
    obtain ⟨r3, M4, h5, hf⟩ := bnd_s hf
    refine pcVv (As := [.int a1]) C hP hS (k := 17) (Nat.le_of_ble_eq_true rfl) (xd_17 _ _) rfl (c3_push  h5) y3_push_w g_522 rfl rfl rfl ⟨Nat.le_of_ble_eq_true rfl, Nat.le_of_ble_eq_true rfl⟩ hl.1 rfl (Nat.le_of_ble_eq_true rfl) dX3_open_23 ⟨Nat.le_of_ble_eq_true rfl, Nat.le_of_ble_eq_true rfl⟩ (fun H locs hP hS => ?_)
    refine lv_aload_n hx hb dX3_open_26 rfl (lv_at hl 0 rfl) ?_
    refine lv_iload_n hx hb dX3_open_27 rfl (lv_at hl 1 rfl) ?_
    refine lv_bipush (v := (14 : Int32)) hx hb dX3_open_28 (by decide) ?_
    refine lv_icmp_ne (tgt := 37) hx hb dX3_open_30 (by decide) (fun c6 => ?_) (fun c6 => ?_)
    · replace hf := ite_f c6 hf
      refine lv_iconst (v := (2 : Int32)) hx hb dX3_open_37 (by decide) ?_
      exact w3_open_38 (n := n)  C hr hk  hf hP hS (lv_sub hl [] rfl)
    · replace hf := ite_t c6 hf
      refine lv_iconst (v := (3 : Int32)) hx hb dX3_open_33 (by decide) ?_
      refine lv_goto (tgt := 38) hx hb dX3_open_34 (by decide) ?_
      exact w3_open_38 (n := n)  C hr hk  hf hP hS (lv_sub hl [] rfl)
  · replace hf := ite_f c1 hf
    refine lv_iconst (v := (5 : Int32)) hx hb dX3_open_9 (by decide) ?_
    exact prI C hr hk hP hS hf dX3_open_10
theorem c3_open {l : Launch} {z : Zt} {b n : Nat}  {a1 : Int32} {M M' : Mem} {r : Int32} (hf : f3_open n  a1 M = some (r, M')) : CI l z (xd z b) 339 b yX3_open cX3_open 2 (some .int) rm3_open [.ref (b + 17), .int a1] M M' r :=
  CI.ofW (lv := [(0, .ref (b + 17)), (1, .int a1)]) (by decide) (Nat.le_of_ble_eq_true rfl) rfl (fun p e s m args below meth c ls C hr hk hP hS hl => w3_open_0 (n := n)  C hr hk  hf hP hS hl)

-- BronzeKing$LawReader.openRule()I
theorem dX3_openRule_0 : decode cX3_openRule 0 = .ok (.aload_n 0, 1) := by decide +kernel
theorem dX3_openRule_1 : decode cX3_openRule 1 = .ok (.getfield 27, 3) := by decide +kernel
theorem dX3_openRule_4 : decode cX3_openRule 4 = .ok (.bipush 16, 2) := by decide +kernel
theorem dX3_openRule_6 : decode cX3_openRule 6 = .ok (.if_icmp .ge 20, 3) := by decide +kernel
theorem dX3_openRule_9 : decode cX3_openRule 9 = .ok (.aload_n 0, 1) := by decide +kernel
theorem dX3_openRule_10 : decode cX3_openRule 10 = .ok (.getfield 15, 3) := by decide +kernel
theorem dX3_openRule_13 : decode cX3_openRule 13 = .ok (.iconst 2, 1) := by decide +kernel
theorem dX3_openRule_14 : decode cX3_openRule 14 = .ok (.aload_n 0, 1) := by decide +kernel
theorem dX3_openRule_15 : decode cX3_openRule 15 = .ok (.getfield 27, 3) := by decide +kernel
theorem dX3_openRule_18 : decode cX3_openRule 18 = .ok (.imul, 1) := by decide +kernel
theorem dX3_openRule_19 : decode cX3_openRule 19 = .ok (.iconst 1, 1) := by decide +kernel
theorem dX3_openRule_20 : decode cX3_openRule 20 = .ok (.iadd, 1) := by decide +kernel
theorem dX3_openRule_21 : decode cX3_openRule 21 = .ok (.aload_n 0, 1) := by decide +kernel
theorem dX3_openRule_22 : decode cX3_openRule 22 = .ok (.getfield 31, 3) := by decide +kernel
theorem dX3_openRule_25 : decode cX3_openRule 25 = .ok (.iastore, 1) := by decide +kernel
theorem dX3_openRule_26 : decode cX3_openRule 26 = .ok (.aload_n 0, 1) := by decide +kernel
theorem dX3_openRule_27 : decode cX3_openRule 27 = .ok (.bipush 13, 2) := by decide +kernel
theorem dX3_openRule_29 : decode cX3_openRule 29 = .ok (.invokevirtual 97, 3) := by decide +kernel
theorem dX3_openRule_32 : decode cX3_openRule 32 = .ok (.ireturn, 1) := by decide +kernel
def b3_openRule_26 (rc : Nat → List Int32 → List Int64 → Mem → Option (Int32 × Mem)) (n : Nat) (M : Mem) : Option (Int32 × Mem) :=
  bnd (f3_open n (13 : Int32) M) fun r4 M5 =>
  some (r4, M5)
def b3_openRule_0 (rc : Nat → List Int32 → List Int64 → Mem → Option (Int32 × Mem)) (n : Nat) (M : Mem) : Option (Int32 × Mem) :=
  (if (16 : Int32) ≤ (M.1 17 5) then (
   b3_openRule_26  rc n  M)
  else (
   chk (inb (((2 : Int32) * (M.1 17 5)) + (1 : Int32)) 33) <|
   lt (wI M 19 (((2 : Int32) * (M.1 17 5)) + (1 : Int32)).toNatClampNeg (M.1 17 6)) fun M3 =>
   b3_openRule_26  rc n  M3))
def f3_openRule (n : Nat)  (M : Mem) : Option (Int32 × Mem) := b3_openRule_0 (fun _ _ _ _ => none) n M
abbrev rm3_openRule : Room := { frames := 2, cells := 0, slots := 0, locals := 42 }
theorem y3_openRule_w : yV RX3 yX3_openRule cX3_openRule 1 (some .int) 0 := ⟨g_516, gp 3 rfl rfl, g_7, g_517, rfl, by decide, by decide, by decide +kernel⟩
set_option maxHeartbeats 4000000 in
set_option maxRecDepth 100000 in
theorem w3_openRule_26 {p : Program} {l : Launch} {e : Env} {s : State} {m : MethodId} {args : Array Value} {below : List Frame} {meth : Method} {c : Code} {z : Zt} {b : Nat}  (C : Cx p s m args c cX3_openRule 1 RX3 z 339 b) (hr : meth.sig.returnType = (some .int)) (hk : meth.locks = false) {r : Int32} {M' : Mem} {rc : Nat → List Int32 → List Int64 → Mem → Option (Int32 × Mem)} {n : Nat}   {M : Mem} {H : Heap} {locs : List Loc} {ls : Array Slot} (hf : b3_openRule_26  rc n  M = some (r, M')) (hP : va_P z.1 vwCl (pw (xd z b) 339 b M) H) (hS : va_S (pA 339 b) s.heap H locs) (hl : lv_has ls 1 [(0, .ref (b + 17))]) : W p l e rm3_openRule s m args below meth c H locs 0 0 (MQ below (va_Qi (fun (r' : Int32) (M2 : Mem) => r' = r ∧ M2 = M') (fun M2 t => va_P z.1 vwCl (pw (xd z b) 339 b M2) t.heap) (pA 339 b)) args s 0 0 (pA 339 b)) (F0 m 26 ls []) := by
  have hx := C.1.1
  have hb := C.1.2.1
  unfold b3_openRule_26 at hf
  refine lv_aload_n hx hb dX3_openRule_26 rfl (lv_at hl 0 rfl) ?_
  refine lv_bipush (v := (13 : Int32)) hx hb dX3_openRule_27 (by decide) ?_
  obtain ⟨r4, M5, h6, hf⟩ := bnd_s hf
  refine pcVi (As := [.int (13 : Int32)]) C hP hS (k := 17) (Nat.le_of_ble_eq_true rfl) (xd_17 _ _) rfl (c3_open  h6) y3_open_w g_518 rfl rfl rfl ⟨Nat.le_of_ble_eq_true rfl, Nat.le_of_ble_eq_true rfl⟩ hl.1 rfl (Nat.le_of_ble_eq_true rfl) dX3_openRule_29 ⟨Nat.le_of_ble_eq_true rfl, Nat.le_of_ble_eq_true rfl⟩ (fun H locs hP hS => ?_)
  exact prI C hr hk hP hS hf dX3_openRule_32
set_option maxHeartbeats 4000000 in
set_option maxRecDepth 100000 in
theorem w3_openRule_0 {p : Program} {l : Launch} {e : Env} {s : State} {m : MethodId} {args : Array Value} {below : List Frame} {meth : Method} {c : Code} {z : Zt} {b : Nat}  (C : Cx p s m args c cX3_openRule 1 RX3 z 339 b) (hr : meth.sig.returnType = (some .int)) (hk : meth.locks = false) {r : Int32} {M' : Mem} {rc : Nat → List Int32 → List Int64 → Mem → Option (Int32 × Mem)} {n : Nat}   {M : Mem} {H : Heap} {locs : List Loc} {ls : Array Slot} (hf : b3_openRule_0  rc n  M = some (r, M')) (hP : va_P z.1 vwCl (pw (xd z b) 339 b M) H) (hS : va_S (pA 339 b) s.heap H locs) (hl : lv_has ls 1 [(0, .ref (b + 17))]) : W p l e rm3_openRule s m args below meth c H locs 0 0 (MQ below (va_Qi (fun (r' : Int32) (M2 : Mem) => r' = r ∧ M2 = M') (fun M2 t => va_P z.1 vwCl (pw (xd z b) 339 b M2) t.heap) (pA 339 b)) args s 0 0 (pA 339 b)) (F0 m 0 ls []) := by
  have hx := C.1.1
  have hb := C.1.2.1
  unfold b3_openRule_0 at hf
  refine lv_aload_n hx hb dX3_openRule_0 rfl (lv_at hl 0 rfl) ?_
  refine pg C hP (k := 17) (j := 5) (Nat.le_of_ble_eq_true rfl) (xd_17 _ _) rfl iw_3 (Nat.le_of_ble_eq_true rfl) g_159 rfl rfl dX3_openRule_1 ?_
  refine lv_bipush (v := (16 : Int32)) hx hb dX3_openRule_4 (by decide) ?_
  refine lv_icmp_ge (tgt := 26) hx hb dX3_openRule_6 (by decide) (fun c1 => ?_) (fun c1 => ?_)
  · replace hf := ite_t c1 hf
    exact w3_openRule_26 (n := n)  C hr hk  hf hP hS (lv_sub hl [0] rfl)
  · replace hf := ite_f c1 hf
    refine lv_aload_n hx hb dX3_openRule_9 rfl (lv_at hl 0 rfl) ?_
    refine pg C hP (k := 17) (j := 1) (Nat.le_of_ble_eq_true rfl) (xd_17 _ _) rfl iw_3 (Nat.le_of_ble_eq_true rfl) g_153 rfl rfl dX3_openRule_10 ?_
    refine lv_iconst (v := (2 : Int32)) hx hb dX3_openRule_13 (by decide) ?_
    refine lv_aload_n hx hb dX3_openRule_14 rfl (lv_at hl 0 rfl) ?_
    refine pg C hP (k := 17) (j := 5) (Nat.le_of_ble_eq_true rfl) (xd_17 _ _) rfl iw_3 (Nat.le_of_ble_eq_true rfl) g_159 rfl rfl dX3_openRule_15 ?_
    refine lv_imul hx hb dX3_openRule_18 ?_
    refine lv_iconst (v := (1 : Int32)) hx hb dX3_openRule_19 (by decide) ?_
    refine lv_iadd hx hb dX3_openRule_20 ?_
    refine lv_aload_n hx hb dX3_openRule_21 rfl (lv_at hl 0 rfl) ?_
    refine pg C hP (k := 17) (j := 6) (Nat.le_of_ble_eq_true rfl) (xd_17 _ _) rfl iw_3 (Nat.le_of_ble_eq_true rfl) g_161 rfl rfl dX3_openRule_22 ?_
    have h2 := chk_1 hf
    replace hf := chk_2 hf
    refine psI C hP hS (k := 19) (Nat.le_of_ble_eq_true rfl) (xd_19) h2 dX3_openRule_25 (fun M3 H locs eM3 hP hS => ?_)
    replace hf := lt_c eM3 hf
    exact w3_openRule_26 (n := n)  C hr hk  hf hP hS (lv_sub hl [0] rfl)
theorem c3_openRule {l : Launch} {z : Zt} {b n : Nat}   {M M' : Mem} {r : Int32} (hf : f3_openRule n   M = some (r, M')) : CI l z (xd z b) 339 b yX3_openRule cX3_openRule 1 (some .int) rm3_openRule [.ref (b + 17)] M M' r :=
  CI.ofW (lv := [(0, .ref (b + 17))]) (by decide) (Nat.le_of_ble_eq_true rfl) rfl (fun p e s m args below meth c ls C hr hk hP hS hl => w3_openRule_0 (n := n)  C hr hk  hf hP hS hl)

-- BronzeKing$LawReader.goOnNumber(I)I
theorem dX3_goOnNumber_0 : decode cX3_goOnNumber 0 = .ok (.aload_n 0, 1) := by decide +kernel
theorem dX3_goOnNumber_1 : decode cX3_goOnNumber 1 = .ok (.getfield 46, 3) := by decide +kernel
theorem dX3_goOnNumber_4 : decode cX3_goOnNumber 4 = .ok (.iconst 5, 1) := by decide +kernel
theorem dX3_goOnNumber_5 : decode cX3_goOnNumber 5 = .ok (.if_icmp .lt 5, 3) := by decide +kernel
theorem dX3_goOnNumber_8 : decode cX3_goOnNumber 8 = .ok (.iconst 2, 1) := by decide +kernel
theorem dX3_goOnNumber_9 : decode cX3_goOnNumber 9 = .ok (.ireturn, 1) := by decide +kernel
theorem dX3_goOnNumber_10 : decode cX3_goOnNumber 10 = .ok (.aload_n 0, 1) := by decide +kernel
theorem dX3_goOnNumber_11 : decode cX3_goOnNumber 11 = .ok (.bipush 10, 2) := by decide +kernel
theorem dX3_goOnNumber_13 : decode cX3_goOnNumber 13 = .ok (.aload_n 0, 1) := by decide +kernel
theorem dX3_goOnNumber_14 : decode cX3_goOnNumber 14 = .ok (.getfield 43, 3) := by decide +kernel
theorem dX3_goOnNumber_17 : decode cX3_goOnNumber 17 = .ok (.imul, 1) := by decide +kernel
theorem dX3_goOnNumber_18 : decode cX3_goOnNumber 18 = .ok (.iload_n 1, 1) := by decide +kernel
theorem dX3_goOnNumber_19 : decode cX3_goOnNumber 19 = .ok (.iadd, 1) := by decide +kernel
theorem dX3_goOnNumber_20 : decode cX3_goOnNumber 20 = .ok (.bipush 48, 2) := by decide +kernel
theorem dX3_goOnNumber_22 : decode cX3_goOnNumber 22 = .ok (.isub, 1) := by decide +kernel
theorem dX3_goOnNumber_23 : decode cX3_goOnNumber 23 = .ok (.putfield 43, 3) := by decide +kernel
theorem dX3_goOnNumber_26 : decode cX3_goOnNumber 26 = .ok (.aload_n 0, 1) := by decide +kernel
theorem dX3_goOnNumber_27 : decode cX3_goOnNumber 27 = .ok (.dup, 1) := by decide +kernel
theorem dX3_goOnNumber_28 : decode cX3_goOnNumber 28 = .ok (.getfield 46, 3) := by decide +kernel
theorem dX3_goOnNumber_31 : decode cX3_goOnNumber 31 = .ok (.iconst 1, 1) := by decide +kernel
theorem dX3_goOnNumber_32 : decode cX3_goOnNumber 32 = .ok (.iadd, 1) := by decide +kernel
theorem dX3_goOnNumber_33 : decode cX3_goOnNumber 33 = .ok (.putfield 46, 3) := by decide +kernel
theorem dX3_goOnNumber_36 : decode cX3_goOnNumber 36 = .ok (.iconst 0, 1) := by decide +kernel
theorem dX3_goOnNumber_37 : decode cX3_goOnNumber 37 = .ok (.ireturn, 1) := by decide +kernel
def b3_goOnNumber_0 (rc : Nat → List Int32 → List Int64 → Mem → Option (Int32 × Mem)) (n : Nat) (a1 : Int32) (M : Mem) : Option (Int32 × Mem) :=
  (if (M.1 17 11) < (5 : Int32) then (
   lt (wI M 17 10 ((((10 : Int32) * (M.1 17 10)) + a1) - (48 : Int32))) fun M2 =>
   lt (wI M2 17 11 ((M2.1 17 11) + (1 : Int32))) fun M3 =>
   some ((0 : Int32), M3))
  else (
   some ((2 : Int32), M)))
def f3_goOnNumber (n : Nat) (a1 : Int32) (M : Mem) : Option (Int32 × Mem) := b3_goOnNumber_0 (fun _ _ _ _ => none) n a1 M
abbrev rm3_goOnNumber : Room := { frames := 0, cells := 0, slots := 0, locals := 0 }
theorem y3_goOnNumber_w : yV RX3 yX3_goOnNumber cX3_goOnNumber 2 (some .int) 1 := ⟨g_623, gp 8 rfl rfl, g_7, g_624, rfl, by decide, by decide, by decide +kernel⟩
set_option maxHeartbeats 4000000 in
set_option maxRecDepth 100000 in
theorem w3_goOnNumber_0 {p : Program} {l : Launch} {e : Env} {s : State} {m : MethodId} {args : Array Value} {below : List Frame} {meth : Method} {c : Code} {z : Zt} {b : Nat}  (C : Cx p s m args c cX3_goOnNumber 2 RX3 z 339 b) (hr : meth.sig.returnType = (some .int)) (hk : meth.locks = false) {r : Int32} {M' : Mem} {rc : Nat → List Int32 → List Int64 → Mem → Option (Int32 × Mem)} {n : Nat}  {a1 : Int32} {M : Mem} {H : Heap} {locs : List Loc} {ls : Array Slot} (hf : b3_goOnNumber_0  rc n a1 M = some (r, M')) (hP : va_P z.1 vwCl (pw (xd z b) 339 b M) H) (hS : va_S (pA 339 b) s.heap H locs) (hl : lv_has ls 2 [(0, .ref (b + 17)), (1, .int a1)]) : W p l e rm3_goOnNumber s m args below meth c H locs 0 0 (MQ below (va_Qi (fun (r' : Int32) (M2 : Mem) => r' = r ∧ M2 = M') (fun M2 t => va_P z.1 vwCl (pw (xd z b) 339 b M2) t.heap) (pA 339 b)) args s 0 0 (pA 339 b)) (F0 m 0 ls []) := by
  have hx := C.1.1
  have hb := C.1.2.1
  unfold b3_goOnNumber_0 at hf
  refine lv_aload_n hx hb dX3_goOnNumber_0 rfl (lv_at hl 0 rfl) ?_
  refine pg C hP (k := 17) (j := 11) (Nat.le_of_ble_eq_true rfl) (xd_17 _ _) rfl iw_3 (Nat.le_of_ble_eq_true rfl) g_166 rfl rfl dX3_goOnNumber_1 ?_
  refine lv_iconst (v := (5 : Int32)) hx hb dX3_goOnNumber_4 (by decide) ?_
  refine lv_icmp_lt (tgt := 10) hx hb dX3_goOnNumber_5 (by decide) (fun c1 => ?_) (fun c1 => ?_)
  · replace hf := ite_t c1 hf
    refine lv_aload_n hx hb dX3_goOnNumber_10 rfl (lv_at hl 0 rfl) ?_
    refine lv_bipush (v := (10 : Int32)) hx hb dX3_goOnNumber_11 (by decide) ?_
    refine lv_aload_n hx hb dX3_goOnNumber_13 rfl (lv_at hl 0 rfl) ?_
    refine pg C hP (k := 17) (j := 10) (Nat.le_of_ble_eq_true rfl) (xd_17 _ _) rfl iw_3 (Nat.le_of_ble_eq_true rfl) g_165 rfl rfl dX3_goOnNumber_14 ?_
    refine lv_imul hx hb dX3_goOnNumber_17 ?_
    refine lv_iload_n hx hb dX3_goOnNumber_18 rfl (lv_at hl 1 rfl) ?_
    refine lv_iadd hx hb dX3_goOnNumber_19 ?_
    refine lv_bipush (v := (48 : Int32)) hx hb dX3_goOnNumber_20 (by decide) ?_
    refine lv_isub hx hb dX3_goOnNumber_22 ?_
    refine ppI C hP hS (k := 17) (j := 10) (ty := .int) (Nat.le_of_ble_eq_true rfl) (xd_17 _ _) rfl iw_3 tyX3 tyX3_ok nmX3 (Nat.le_of_ble_eq_true rfl) g_165 rfl rfl (by decide +kernel) rfl rfl (Nat.le_of_ble_eq_true rfl) (xu_17_10 _ _ _) dX3_goOnNumber_23 (fun M2 H locs eM2 hP hS => ?_)
    replace hf := lt_c eM2 hf
    refine lv_aload_n hx hb dX3_goOnNumber_26 rfl (lv_at hl 0 rfl) ?_
    refine lv_dup hx hb dX3_goOnNumber_27 rfl ?_
    refine pg C hP (k := 17) (j := 11) (Nat.le_of_ble_eq_true rfl) (xd_17 _ _) rfl iw_3 (Nat.le_of_ble_eq_true rfl) g_166 rfl rfl dX3_goOnNumber_28 ?_
    refine lv_iconst (v := (1 : Int32)) hx hb dX3_goOnNumber_31 (by decide) ?_
    refine lv_iadd hx hb dX3_goOnNumber_32 ?_
    refine ppI C hP hS (k := 17) (j := 11) (ty := .int) (Nat.le_of_ble_eq_true rfl) (xd_17 _ _) rfl iw_3 tyX3 tyX3_ok nmX3 (Nat.le_of_ble_eq_true rfl) g_166 rfl rfl (by decide +kernel) rfl rfl (Nat.le_of_ble_eq_true rfl) (xu_17_11 _ _ _) dX3_goOnNumber_33 (fun M3 H locs eM3 hP hS => ?_)
    replace hf := lt_c eM3 hf
    refine lv_iconst (v := (0 : Int32)) hx hb dX3_goOnNumber_36 (by decide) ?_
    exact prI C hr hk hP hS hf dX3_goOnNumber_37
  · replace hf := ite_f c1 hf
    refine lv_iconst (v := (2 : Int32)) hx hb dX3_goOnNumber_8 (by decide) ?_
    exact prI C hr hk hP hS hf dX3_goOnNumber_9
theorem c3_goOnNumber {l : Launch} {z : Zt} {b n : Nat}  {a1 : Int32} {M M' : Mem} {r : Int32} (hf : f3_goOnNumber n  a1 M = some (r, M')) : CI l z (xd z b) 339 b yX3_goOnNumber cX3_goOnNumber 2 (some .int) rm3_goOnNumber [.ref (b + 17), .int a1] M M' r :=
  CI.ofW (lv := [(0, .ref (b + 17)), (1, .int a1)]) (by decide) (Nat.le_of_ble_eq_true rfl) rfl (fun p e s m args below meth c ls C hr hk hP hS hl => w3_goOnNumber_0 (n := n)  C hr hk  hf hP hS hl)

-- BronzeKing$LawReader.innermost()I
theorem dX3_innermost_0 : decode cX3_innermost 0 = .ok (.aload_n 0, 1) := by decide +kernel
theorem dX3_innermost_1 : decode cX3_innermost 1 = .ok (.getfield 34, 3) := by decide +kernel
theorem dX3_innermost_4 : decode cX3_innermost 4 = .ok (.ifCond .le 26, 3) := by decide +kernel
theorem dX3_innermost_7 : decode cX3_innermost 7 = .ok (.aload_n 0, 1) := by decide +kernel
theorem dX3_innermost_8 : decode cX3_innermost 8 = .ok (.getfield 34, 3) := by decide +kernel
theorem dX3_innermost_11 : decode cX3_innermost 11 = .ok (.bipush 64, 2) := by decide +kernel
theorem dX3_innermost_13 : decode cX3_innermost 13 = .ok (.if_icmp .gt 17, 3) := by decide +kernel
theorem dX3_innermost_16 : decode cX3_innermost 16 = .ok (.aload_n 0, 1) := by decide +kernel
theorem dX3_innermost_17 : decode cX3_innermost 17 = .ok (.getfield 21, 3) := by decide +kernel
theorem dX3_innermost_20 : decode cX3_innermost 20 = .ok (.aload_n 0, 1) := by decide +kernel
theorem dX3_innermost_21 : decode cX3_innermost 21 = .ok (.getfield 34, 3) := by decide +kernel
theorem dX3_innermost_24 : decode cX3_innermost 24 = .ok (.iconst 1, 1) := by decide +kernel
theorem dX3_innermost_25 : decode cX3_innermost 25 = .ok (.isub, 1) := by decide +kernel
theorem dX3_innermost_26 : decode cX3_innermost 26 = .ok (.iaload, 1) := by decide +kernel
theorem dX3_innermost_27 : decode cX3_innermost 27 = .ok (.goto 5, 3) := by decide +kernel
theorem dX3_innermost_30 : decode cX3_innermost 30 = .ok (.bipush 15, 2) := by decide +kernel
theorem dX3_innermost_32 : decode cX3_innermost 32 = .ok (.ireturn, 1) := by decide +kernel
def b3_innermost_30 (rc : Nat → List Int32 → List Int64 → Mem → Option (Int32 × Mem)) (n : Nat) (M : Mem) : Option (Int32 × Mem) :=
  some ((15 : Int32), M)
def b3_innermost_0 (rc : Nat → List Int32 → List Int64 → Mem → Option (Int32 × Mem)) (n : Nat) (M : Mem) : Option (Int32 × Mem) :=
  (if (M.1 17 7) ≤ 0 then (
   b3_innermost_30  rc n  M)
  else (
   (if (64 : Int32) < (M.1 17 7) then (
    b3_innermost_30  rc n  M)
   else (
    chk (inb ((M.1 17 7) - (1 : Int32)) 64) <|
    some ((M.1 21 ((M.1 17 7) - (1 : Int32)).toNatClampNeg), M)))))
def f3_innermost (n : Nat)  (M : Mem) : Option (Int32 × Mem) := b3_innermost_0 (fun _ _ _ _ => none) n M
abbrev rm3_innermost : Room := { frames := 0, cells := 0, slots := 0, locals := 0 }
theorem y3_innermost_w : yV RX3 yX3_innermost cX3_innermost 1 (some .int) 0 := ⟨g_638, gp 11 rfl rfl, g_7, g_639, rfl, by decide, by decide, by decide +kernel⟩
set_option maxHeartbeats 4000000 in
set_option maxRecDepth 100000 in
theorem w3_innermost_30 {p : Program} {l : Launch} {e : Env} {s : State} {m : MethodId} {args : Array Value} {below : List Frame} {meth : Method} {c : Code} {z : Zt} {b : Nat}  (C : Cx p s m args c cX3_innermost 1 RX3 z 339 b) (hr : meth.sig.returnType = (some .int)) (hk : meth.locks = false) {r : Int32} {M' : Mem} {rc : Nat → List Int32 → List Int64 → Mem → Option (Int32 × Mem)} {n : Nat}   {M : Mem} {H : Heap} {locs : List Loc} {ls : Array Slot} (hf : b3_innermost_30  rc n  M = some (r, M')) (hP : va_P z.1 vwCl (pw (xd z b) 339 b M) H) (hS : va_S (pA 339 b) s.heap H locs) (hl : lv_has ls 1 []) : W p l e rm3_innermost s m args below meth c H locs 0 0 (MQ below (va_Qi (fun (r' : Int32) (M2 : Mem) => r' = r ∧ M2 = M') (fun M2 t => va_P z.1 vwCl (pw (xd z b) 339 b M2) t.heap) (pA 339 b)) args s 0 0 (pA 339 b)) (F0 m 30 ls []) := by
  have hx := C.1.1
  have hb := C.1.2.1
  unfold b3_innermost_30 at hf
  refine lv_bipush (v := (15 : Int32)) hx hb dX3_innermost_30 (by decide) ?_
  exact prI C hr hk hP hS hf dX3_innermost_32
set_option maxHeartbeats 4000000 in
set_option maxRecDepth 100000 in
theorem w3_innermost_0 {p : Program} {l : Launch} {e : Env} {s : State} {m : MethodId} {args : Array Value} {below : List Frame} {meth : Method} {c : Code} {z : Zt} {b : Nat}  (C : Cx p s m args c cX3_innermost 1 RX3 z 339 b) (hr : meth.sig.returnType = (some .int)) (hk : meth.locks = false) {r : Int32} {M' : Mem} {rc : Nat → List Int32 → List Int64 → Mem → Option (Int32 × Mem)} {n : Nat}   {M : Mem} {H : Heap} {locs : List Loc} {ls : Array Slot} (hf : b3_innermost_0  rc n  M = some (r, M')) (hP : va_P z.1 vwCl (pw (xd z b) 339 b M) H) (hS : va_S (pA 339 b) s.heap H locs) (hl : lv_has ls 1 [(0, .ref (b + 17))]) : W p l e rm3_innermost s m args below meth c H locs 0 0 (MQ below (va_Qi (fun (r' : Int32) (M2 : Mem) => r' = r ∧ M2 = M') (fun M2 t => va_P z.1 vwCl (pw (xd z b) 339 b M2) t.heap) (pA 339 b)) args s 0 0 (pA 339 b)) (F0 m 0 ls []) := by
  have hx := C.1.1
  have hb := C.1.2.1
  unfold b3_innermost_0 at hf
  refine lv_aload_n hx hb dX3_innermost_0 rfl (lv_at hl 0 rfl) ?_
  refine pg C hP (k := 17) (j := 7) (Nat.le_of_ble_eq_true rfl) (xd_17 _ _) rfl iw_3 (Nat.le_of_ble_eq_true rfl) g_162 rfl rfl dX3_innermost_1 ?_
  refine lv_if_le (tgt := 30) hx hb dX3_innermost_4 (by decide) (fun c1 => ?_) (fun c1 => ?_)
  · replace hf := ite_t c1 hf
    exact w3_innermost_30 (n := n)  C hr hk  hf hP hS (lv_sub hl [] rfl)
  · replace hf := ite_f c1 hf
    refine lv_aload_n hx hb dX3_innermost_7 rfl (lv_at hl 0 rfl) ?_
    refine pg C hP (k := 17) (j := 7) (Nat.le_of_ble_eq_true rfl) (xd_17 _ _) rfl iw_3 (Nat.le_of_ble_eq_true rfl) g_162 rfl rfl dX3_innermost_8 ?_
    refine lv_bipush (v := (64 : Int32)) hx hb dX3_innermost_11 (by decide) ?_
    refine lv_icmp_gt (tgt := 30) hx hb dX3_innermost_13 (by decide) (fun c2 => ?_) (fun c2 => ?_)
    · replace hf := ite_t c2 hf
      exact w3_innermost_30 (n := n)  C hr hk  hf hP hS (lv_sub hl [] rfl)
    · replace hf := ite_f c2 hf
      refine lv_aload_n hx hb dX3_innermost_16 rfl (lv_at hl 0 rfl) ?_
      refine pg C hP (k := 17) (j := 3) (Nat.le_of_ble_eq_true rfl) (xd_17 _ _) rfl iw_3 (Nat.le_of_ble_eq_true rfl) g_157 rfl rfl dX3_innermost_17 ?_
      refine lv_aload_n hx hb dX3_innermost_20 rfl (lv_at hl 0 rfl) ?_
      refine pg C hP (k := 17) (j := 7) (Nat.le_of_ble_eq_true rfl) (xd_17 _ _) rfl iw_3 (Nat.le_of_ble_eq_true rfl) g_162 rfl rfl dX3_innermost_21 ?_
      refine lv_iconst (v := (1 : Int32)) hx hb dX3_innermost_24 (by decide) ?_
      refine lv_isub hx hb dX3_innermost_25 ?_
      have h3 := chk_1 hf
      replace hf := chk_2 hf
      refine paI C hP (k := 21) (Nat.le_of_ble_eq_true rfl) (xd_21 _ _) h3 dX3_innermost_26 ?_
      refine lv_goto (tgt := 32) hx hb dX3_innermost_27 (by decide) ?_
      exact prI C hr hk hP hS hf dX3_innermost_32
theorem c3_innermost {l : Launch} {z : Zt} {b n : Nat}   {M M' : Mem} {r : Int32} (hf : f3_innermost n   M = some (r, M')) : CI l z (xd z b) 339 b yX3_innermost cX3_innermost 1 (some .int) rm3_innermost [.ref (b + 17)] M M' r :=
  CI.ofW (lv := [(0, .ref (b + 17))]) (by decide) (Nat.le_of_ble_eq_true rfl) rfl (fun p e s m args below meth c ls C hr hk hP hS hl => w3_innermost_0 (n := n)  C hr hk  hf hP hS hl)

-- BronzeKing$LawReader.setLeap(II)V
theorem dX3_setLeap_0 : decode cX3_setLeap 0 = .ok (.iload_n 1, 1) := by decide +kernel
theorem dX3_setLeap_1 : decode cX3_setLeap 1 = .ok (.ifCond .lt 24, 3) := by decide +kernel
theorem dX3_setLeap_4 : decode cX3_setLeap 4 = .ok (.iload_n 1, 1) := by decide +kernel
theorem dX3_setLeap_5 : decode cX3_setLeap 5 = .ok (.sipush 240, 3) := by decide +kernel
theorem dX3_setLeap_8 : decode cX3_setLeap 8 = .ok (.if_icmp .ge 17, 3) := by decide +kernel
theorem dX3_setLeap_11 : decode cX3_setLeap 11 = .ok (.aload_n 0, 1) := by decide +kernel
theorem dX3_setLeap_12 : decode cX3_setLeap 12 = .ok (.getfield 9, 3) := by decide +kernel
theorem dX3_setLeap_15 : decode cX3_setLeap 15 = .ok (.iload_n 1, 1) := by decide +kernel
theorem dX3_setLeap_16 : decode cX3_setLeap 16 = .ok (.iload_n 2, 1) := by decide +kernel
theorem dX3_setLeap_17 : decode cX3_setLeap 17 = .ok (.aload_n 0, 1) := by decide +kernel
theorem dX3_setLeap_18 : decode cX3_setLeap 18 = .ok (.getfield 31, 3) := by decide +kernel
theorem dX3_setLeap_21 : decode cX3_setLeap 21 = .ok (.iconst 4, 1) := by decide +kernel
theorem dX3_setLeap_22 : decode cX3_setLeap 22 = .ok (.ishl, 1) := by decide +kernel
theorem dX3_setLeap_23 : decode cX3_setLeap 23 = .ok (.ior, 1) := by decide +kernel
theorem dX3_setLeap_24 : decode cX3_setLeap 24 = .ok (.iastore, 1) := by decide +kernel
theorem dX3_setLeap_25 : decode cX3_setLeap 25 = .ok (.return_, 1) := by decide +kernel
def b3_setLeap_0 (rc : Nat → List Int32 → List Int64 → Mem → Option (Unit × Mem)) (n : Nat) (a1 : Int32) (a2 : Int32) (M : Mem) : Option (Unit × Mem) :=
  (if a1 < 0 then (
   some ((), M))
  else (
   (if (240 : Int32) ≤ a1 then (
    some ((), M))
   else (
    chk (inb a1 240) <|
    lt (wI M 18 a1.toNatClampNeg (a2 ||| ((M.1 17 6) <<< ((4 : Int32) &&& 31)))) fun M4 =>
    some ((), M4)))))
def f3_setLeap (n : Nat) (a1 : Int32) (a2 : Int32) (M : Mem) : Option (Unit × Mem) := b3_setLeap_0 (fun _ _ _ _ => none) n a1 a2 M
abbrev rm3_setLeap : Room := { frames := 0, cells := 0, slots := 0, locals := 0 }
theorem y3_setLeap_w : yV RX3 yX3_setLeap cX3_setLeap 3 none 2 := ⟨g_642, gp 12 rfl rfl, g_7, g_643, rfl, by decide, by decide, by decide +kernel⟩
set_option maxHeartbeats 4000000 in
set_option maxRecDepth 100000 in
theorem w3_setLeap_0 {p : Program} {l : Launch} {e : Env} {s : State} {m : MethodId} {args : Array Value} {below : List Frame} {meth : Method} {c : Code} {z : Zt} {b : Nat}  (C : Cx p s m args c cX3_setLeap 3 RX3 z 339 b) (hr : meth.sig.returnType = none) (hk : meth.locks = false) {r : Unit} {M' : Mem} {rc : Nat → List Int32 → List Int64 → Mem → Option (Unit × Mem)} {n : Nat}  {a1 : Int32} {a2 : Int32} {M : Mem} {H : Heap} {locs : List Loc} {ls : Array Slot} (hf : b3_setLeap_0  rc n a1 a2 M = some (r, M')) (hP : va_P z.1 vwCl (pw (xd z b) 339 b M) H) (hS : va_S (pA 339 b) s.heap H locs) (hl : lv_has ls 3 [(0, .ref (b + 17)), (1, .int a1), (2, .int a2)]) : W p l e rm3_setLeap s m args below meth c H locs 0 0 (MQ below (va_Qv (fun (M2 : Mem) => M2 = M') (fun M2 t => va_P z.1 vwCl (pw (xd z b) 339 b M2) t.heap) (pA 339 b)) args s 0 0 (pA 339 b)) (F0 m 0 ls []) := by
  have hx := C.1.1
  have hb := C.1.2.1
  unfold b3_setLeap_0 at hf
  refine lv_iload_n hx hb dX3_setLeap_0 rfl (lv_at hl 1 rfl) ?_
  refine lv_if_lt (tgt := 25) hx hb dX3_setLeap_1 (by decide) (fun c1 => ?_) (fun c1 => ?_)
  · replace hf := ite_t c1 hf
    exact prV C hr hk hP hS hf dX3_setLeap_25
  · replace hf := ite_f c1 hf
    refine lv_iload_n hx hb dX3_setLeap_4 rfl (lv_at hl 1 rfl) ?_
    refine lv_sipush (v := (240 : Int32)) hx hb dX3_setLeap_5 (by decide) ?_
    refine lv_icmp_ge (tgt := 25) hx hb dX3_setLeap_8 (by decide) (fun c2 => ?_) (fun c2 => ?_)
    · replace hf := ite_t c2 hf
      exact prV C hr hk hP hS hf dX3_setLeap_25
    · replace hf := ite_f c2 hf
      refine lv_aload_n hx hb dX3_setLeap_11 rfl (lv_at hl 0 rfl) ?_
      refine pg C hP (k := 17) (j := 0) (Nat.le_of_ble_eq_true rfl) (xd_17 _ _) rfl iw_3 (Nat.le_of_ble_eq_true rfl) g_151 rfl rfl dX3_setLeap_12 ?_
      refine lv_iload_n hx hb dX3_setLeap_15 rfl (lv_at hl 1 rfl) ?_
      refine lv_iload_n hx hb dX3_setLeap_16 rfl (lv_at hl 2 rfl) ?_
      refine lv_aload_n hx hb dX3_setLeap_17 rfl (lv_at hl 0 rfl) ?_
      refine pg C hP (k := 17) (j := 6) (Nat.le_of_ble_eq_true rfl) (xd_17 _ _) rfl iw_3 (Nat.le_of_ble_eq_true rfl) g_161 rfl rfl dX3_setLeap_18 ?_
      refine lv_iconst (v := (4 : Int32)) hx hb dX3_setLeap_21 (by decide) ?_
      refine lv_ishl hx hb dX3_setLeap_22 ?_
      refine lv_ior hx hb dX3_setLeap_23 ?_
      have h3 := chk_1 hf
      replace hf := chk_2 hf
      refine psI C hP hS (k := 18) (Nat.le_of_ble_eq_true rfl) (xd_18) h3 dX3_setLeap_24 (fun M4 H locs eM4 hP hS => ?_)
      replace hf := lt_c eM4 hf
      exact prV C hr hk hP hS hf dX3_setLeap_25
theorem c3_setLeap {l : Launch} {z : Zt} {b n : Nat}  {a1 : Int32} {a2 : Int32} {M M' : Mem} {r : Unit} (hf : f3_setLeap n  a1 a2 M = some (r, M')) : CV l z (xd z b) 339 b yX3_setLeap cX3_setLeap 3 none rm3_setLeap [.ref (b + 17), .int a1, .int a2] M M' :=
  CV.ofW (lv := [(0, .ref (b + 17)), (1, .int a1), (2, .int a2)]) (by decide) (Nat.le_of_ble_eq_true rfl) rfl (fun p e s m args below meth c ls C hr hk hP hS hl => w3_setLeap_0 (n := n)  C hr hk  hf hP hS hl)

-- BronzeKing$LawReader.settle(I)V
theorem dX3_settle_0 : decode cX3_settle 0 = .ok (.iconst 0, 1) := by decide +kernel
theorem dX3_settle_1 : decode cX3_settle 1 = .ok (.istore_n 2, 1) := by decide +kernel
theorem dX3_settle_2 : decode cX3_settle 2 = .ok (.iload_n 2, 1) := by decide +kernel
theorem dX3_settle_3 : decode cX3_settle 3 = .ok (.bipush 64, 2) := by decide +kernel
theorem dX3_settle_5 : decode cX3_settle 5 = .ok (.if_icmp .ge 96, 3) := by decide +kernel
theorem dX3_settle_8 : decode cX3_settle 8 = .ok (.getstatic 109, 3) := by decide +kernel
theorem dX3_settle_11 : decode cX3_settle 11 = .ok (.aload_n 0, 1) := by decide +kernel
theorem dX3_settle_12 : decode cX3_settle 12 = .ok (.invokevirtual 119, 3) := by decide +kernel
theorem dX3_settle_15 : decode cX3_settle 15 = .ok (.iaload, 1) := by decide +kernel
theorem dX3_settle_16 : decode cX3_settle 16 = .ok (.iload_n 1, 1) := by decide +kernel
theorem dX3_settle_17 : decode cX3_settle 17 = .ok (.if_icmp .lt 84, 3) := by decide +kernel
theorem dX3_settle_20 : decode cX3_settle 20 = .ok (.aload_n 0, 1) := by decide +kernel
theorem dX3_settle_21 : decode cX3_settle 21 = .ok (.dup, 1) := by decide +kernel
theorem dX3_settle_22 : decode cX3_settle 22 = .ok (.getfield 34, 3) := by decide +kernel
theorem dX3_settle_25 : decode cX3_settle 25 = .ok (.iconst 1, 1) := by decide +kernel
theorem dX3_settle_26 : decode cX3_settle 26 = .ok (.isub, 1) := by decide +kernel
theorem dX3_settle_27 : decode cX3_settle 27 = .ok (.putfield 34, 3) := by decide +kernel
theorem dX3_settle_30 : decode cX3_settle 30 = .ok (.aload_n 0, 1) := by decide +kernel
theorem dX3_settle_31 : decode cX3_settle 31 = .ok (.getfield 21, 3) := by decide +kernel
theorem dX3_settle_34 : decode cX3_settle 34 = .ok (.aload_n 0, 1) := by decide +kernel
theorem dX3_settle_35 : decode cX3_settle 35 = .ok (.getfield 34, 3) := by decide +kernel
theorem dX3_settle_38 : decode cX3_settle 38 = .ok (.iaload, 1) := by decide +kernel
theorem dX3_settle_39 : decode cX3_settle 39 = .ok (.istore_n 3, 1) := by decide +kernel
theorem dX3_settle_40 : decode cX3_settle 40 = .ok (.iload_n 3, 1) := by decide +kernel
theorem dX3_settle_41 : decode cX3_settle 41 = .ok (.bipush 11, 2) := by decide +kernel
theorem dX3_settle_43 : decode cX3_settle 43 = .ok (.if_icmp .eq 9, 3) := by decide +kernel
theorem dX3_settle_46 : decode cX3_settle 46 = .ok (.iload_n 3, 1) := by decide +kernel
theorem dX3_settle_47 : decode cX3_settle 47 = .ok (.bipush 12, 2) := by decide +kernel
theorem dX3_settle_49 : decode cX3_settle 49 = .ok (.if_icmp .ne 20, 3) := by decide +kernel
theorem dX3_settle_52 : decode cX3_settle 52 = .ok (.aload_n 0, 1) := by decide +kernel
theorem dX3_settle_53 : decode cX3_settle 53 = .ok (.aload_n 0, 1) := by decide +kernel
theorem dX3_settle_54 : decode cX3_settle 54 = .ok (.getfield 24, 3) := by decide +kernel
theorem dX3_settle_57 : decode cX3_settle 57 = .ok (.aload_n 0, 1) := by decide +kernel
theorem dX3_settle_58 : decode cX3_settle 58 = .ok (.getfield 34, 3) := by decide +kernel
theorem dX3_settle_61 : decode cX3_settle 61 = .ok (.iaload, 1) := by decide +kernel
theorem dX3_settle_62 : decode cX3_settle 62 = .ok (.iload_n 3, 1) := by decide +kernel
theorem dX3_settle_63 : decode cX3_settle 63 = .ok (.invokevirtual 133, 3) := by decide +kernel
theorem dX3_settle_66 : decode cX3_settle 66 = .ok (.goto 29, 3) := by decide +kernel
theorem dX3_settle_69 : decode cX3_settle 69 = .ok (.aload_n 0, 1) := by decide +kernel
theorem dX3_settle_70 : decode cX3_settle 70 = .ok (.dup, 1) := by decide +kernel
theorem dX3_settle_71 : decode cX3_settle 71 = .ok (.getfield 37, 3) := by decide +kernel
theorem dX3_settle_74 : decode cX3_settle 74 = .ok (.iload_n 3, 1) := by decide +kernel
theorem dX3_settle_75 : decode cX3_settle 75 = .ok (.bipush 10, 2) := by decide +kernel
theorem dX3_settle_77 : decode cX3_settle 77 = .ok (.if_icmp .ne 7, 3) := by decide +kernel
theorem dX3_settle_80 : decode cX3_settle 80 = .ok (.iconst 1, 1) := by decide +kernel
theorem dX3_settle_81 : decode cX3_settle 81 = .ok (.goto 4, 3) := by decide +kernel
theorem dX3_settle_84 : decode cX3_settle 84 = .ok (.iconst 0, 1) := by decide +kernel
theorem dX3_settle_85 : decode cX3_settle 85 = .ok (.isub, 1) := by decide +kernel
theorem dX3_settle_86 : decode cX3_settle 86 = .ok (.putfield 37, 3) := by decide +kernel
theorem dX3_settle_89 : decode cX3_settle 89 = .ok (.aload_n 0, 1) := by decide +kernel
theorem dX3_settle_90 : decode cX3_settle 90 = .ok (.iload_n 3, 1) := by decide +kernel
theorem dX3_settle_91 : decode cX3_settle 91 = .ok (.iconst 0, 1) := by decide +kernel
theorem dX3_settle_92 : decode cX3_settle 92 = .ok (.invokevirtual 68, 3) := by decide +kernel
theorem dX3_settle_95 : decode cX3_settle 95 = .ok (.iinc 2 1, 3) := by decide +kernel
theorem dX3_settle_98 : decode cX3_settle 98 = .ok (.goto (-96), 3) := by decide +kernel
theorem dX3_settle_101 : decode cX3_settle 101 = .ok (.return_, 1) := by decide +kernel
def b3_settle_95 (rc : Nat → List Int32 → List Int64 → Mem → Option (Unit × Mem)) (n : Nat) (i1 : Int32) (i2 : Int32) (M : Mem) : Option (Unit × Mem) :=
  lt (i2 + (1 : Int32)) fun v17 =>
  rc 2 [i1, v17] [] M
def b3_settle_52 (rc : Nat → List Int32 → List Int64 → Mem → Option (Unit × Mem)) (n : Nat) (i1 : Int32) (i2 : Int32) (i3 : Int32) (M : Mem) : Option (Unit × Mem) :=
  chk (inb (M.1 17 7) 64) <|
  bnd (f3_setLeap n (M.1 22 (M.1 17 7).toNatClampNeg) i3 M) fun r19 M20 =>
  b3_settle_95  rc n i1 i2 M20
def b3_settle_85 (rc : Nat → List Int32 → List Int64 → Mem → Option (Unit × Mem)) (n : Nat) (i1 : Int32) (i2 : Int32) (i3 : Int32) (s1 : Int32) (s2 : Int32) (M : Mem) : Option (Unit × Mem) :=
  lt (wI M 17 8 (s1 - s2)) fun M13 =>
  bnd (f3_add n i3 (0 : Int32) M13) fun r14 M15 =>
  b3_settle_95  rc n i1 i2 M15
def b3_settle_2 (rc : Nat → List Int32 → List Int64 → Mem → Option (Unit × Mem)) (n : Nat) (i1 : Int32) (i2 : Int32) (M : Mem) : Option (Unit × Mem) :=
  (if (64 : Int32) ≤ i2 then (
   some ((), M))
  else (
   bnd (f3_innermost n M) fun r2 M3 =>
   chk (inb r2 16) <|
   (if (ranksL.getD r2.toNatClampNeg 0) < i1 then (
    some ((), M3))
   else (
    lt (wI M3 17 7 ((M3.1 17 7) - (1 : Int32))) fun M7 =>
    chk (inb (M7.1 17 7) 64) <|
    lt (M7.1 21 (M7.1 17 7).toNatClampNeg) fun v9 =>
    (if v9 = (11 : Int32) then (
     b3_settle_52  rc n i1 i2 v9 M7)
    else (
     (if v9 = (12 : Int32) then (
      b3_settle_52  rc n i1 i2 v9 M7)
     else (
      (if v9 = (10 : Int32) then (
       b3_settle_85  rc n i1 i2 v9 (M7.1 17 8) (1 : Int32) M7)
      else (
       b3_settle_85  rc n i1 i2 v9 (M7.1 17 8) (0 : Int32) M7))))))))))
def b3_settle_0 (rc : Nat → List Int32 → List Int64 → Mem → Option (Unit × Mem)) (n : Nat) (a1 : Int32) (M : Mem) : Option (Unit × Mem) :=
  b3_settle_2  rc n a1 (0 : Int32) M
def r3_settle : Nat → Nat → List Int32 → List Int64 → Mem → Option (Unit × Mem)
  | 0 => fun _ _ _ _ => none
  | n + 1 => fun pc li lj M =>
    if pc = 2 then (match li, lj with | [i1, i2], [] => b3_settle_2  (r3_settle  n) n i1 i2 M | _, _ => none) else
    none
theorem e3_settle_2  (n : Nat) (i1 : Int32) (i2 : Int32) (M : Mem) : r3_settle  (n + 1) 2 [i1, i2] [] M = b3_settle_2  (r3_settle  n) n i1 i2 M := by
  rw [r3_settle]
  simp
def f3_settle (n : Nat) (a1 : Int32) (M : Mem) : Option (Unit × Mem) := b3_settle_0 (r3_settle n) n a1 M
abbrev rm3_settle : Room := { frames := 1, cells := 0, slots := 0, locals := 22 }
theorem y3_settle_w : yV RX3 yX3_settle cX3_settle 4 none 1 := ⟨g_634, gp 10 rfl rfl, g_7, g_635, rfl, by decide, by decide, by decide +kernel⟩
set_option maxHeartbeats 4000000 in
set_option maxRecDepth 100000 in
theorem w3_settle_95 {p : Program} {l : Launch} {e : Env} {s : State} {m : MethodId} {args : Array Value} {below : List Frame} {meth : Method} {c : Code} {z : Zt} {b : Nat}  (C : Cx p s m args c cX3_settle 4 RX3 z 339 b) (hr : meth.sig.returnType = none) (hk : meth.locks = false) {r : Unit} {M' : Mem} {rc : Nat → List Int32 → List Int64 → Mem → Option (Unit × Mem)} {n : Nat} (q2 : ∀ (i1 : Int32) (i2 : Int32) (M : Mem) (H : Heap) (locs : List Loc) (ls : Array Slot), rc 2 [i1, i2] [] M = some (r, M') → va_P z.1 vwCl (pw (xd z b) 339 b M) H → va_S (pA 339 b) s.heap H locs → lv_has ls 4 [(0, .ref (b + 17)), (1, .int i1), (2, .int i2)] → W p l e rm3_settle s m args below meth c H locs 0 0 (MQ below (va_Qv (fun (M2 : Mem) => M2 = M') (fun M2 t => va_P z.1 vwCl (pw (xd z b) 339 b M2) t.heap) (pA 339 b)) args s 0 0 (pA 339 b)) (F0 m 2 ls [])) {i1 : Int32} {i2 : Int32} {M : Mem} {H : Heap} {locs : List Loc} {ls : Array Slot} (hf : b3_settle_95  rc n i1 i2 M = some (r, M')) (hP : va_P z.1 vwCl (pw (xd z b) 339 b M) H) (hS : va_S (pA 339 b) s.heap H locs) (hl : lv_has ls 4 [(0, .ref (b + 17)), (1, .int i1), (2, .int i2)]) : W p l e rm3_settle s m args below meth c H locs 0 0 (MQ below (va_Qv (fun (M2 : Mem) => M2 = M') (fun M2 t => va_P z.1 vwCl (pw (xd z b) 339 b M2) t.heap) (pA 339 b)) args s 0 0 (pA 339 b)) (F0 m 95 ls []) := by
  have hx := C.1.1
  have hb := C.1.2.1
  unfold b3_settle_95 at hf
  obtain ⟨v17, ev17⟩ : ∃ v : Int32, v = i2 + (1 : Int32) := ⟨_, rfl⟩
  replace hf := lt_c ev17 hf
  refine lv_iinc (v := v17) (lv' := [(2, .int v17), (0, .ref (b + 17)), (1, .int i1)]) hx hb dX3_settle_95 hl (k := 2) rfl (by rw [ev17]; rfl) (by decide) rfl (fun ls hl => ?_)
  refine lv_goto (tgt := 2) hx hb dX3_settle_98 (by decide) ?_
  exact q2 i1 v17 M _ _ _ hf hP hS (lv_sub hl [1, 2, 0] rfl)
set_option maxHeartbeats 4000000 in
set_option maxRecDepth 100000 in
theorem w3_settle_52 {p : Program} {l : Launch} {e : Env} {s : State} {m : MethodId} {args : Array Value} {below : List Frame} {meth : Method} {c : Code} {z : Zt} {b : Nat}  (C : Cx p s m args c cX3_settle 4 RX3 z 339 b) (hr : meth.sig.returnType = none) (hk : meth.locks = false) {r : Unit} {M' : Mem} {rc : Nat → List Int32 → List Int64 → Mem → Option (Unit × Mem)} {n : Nat} (q2 : ∀ (i1 : Int32) (i2 : Int32) (M : Mem) (H : Heap) (locs : List Loc) (ls : Array Slot), rc 2 [i1, i2] [] M = some (r, M') → va_P z.1 vwCl (pw (xd z b) 339 b M) H → va_S (pA 339 b) s.heap H locs → lv_has ls 4 [(0, .ref (b + 17)), (1, .int i1), (2, .int i2)] → W p l e rm3_settle s m args below meth c H locs 0 0 (MQ below (va_Qv (fun (M2 : Mem) => M2 = M') (fun M2 t => va_P z.1 vwCl (pw (xd z b) 339 b M2) t.heap) (pA 339 b)) args s 0 0 (pA 339 b)) (F0 m 2 ls [])) {i1 : Int32} {i2 : Int32} {i3 : Int32} {M : Mem} {H : Heap} {locs : List Loc} {ls : Array Slot} (hf : b3_settle_52  rc n i1 i2 i3 M = some (r, M')) (hP : va_P z.1 vwCl (pw (xd z b) 339 b M) H) (hS : va_S (pA 339 b) s.heap H locs) (hl : lv_has ls 4 [(0, .ref (b + 17)), (1, .int i1), (2, .int i2), (3, .int i3)]) : W p l e rm3_settle s m args below meth c H locs 0 0 (MQ below (va_Qv (fun (M2 : Mem) => M2 = M') (fun M2 t => va_P z.1 vwCl (pw (xd z b) 339 b M2) t.heap) (pA 339 b)) args s 0 0 (pA 339 b)) (F0 m 52 ls []) := by
  have hx := C.1.1
  have hb := C.1.2.1
  unfold b3_settle_52 at hf
  refine lv_aload_n hx hb dX3_settle_52 rfl (lv_at hl 0 rfl) ?_
  refine lv_aload_n hx hb dX3_settle_53 rfl (lv_at hl 0 rfl) ?_
  refine pg C hP (k := 17) (j := 4) (Nat.le_of_ble_eq_true rfl) (xd_17 _ _) rfl iw_3 (Nat.le_of_ble_eq_true rfl) g_158 rfl rfl dX3_settle_54 ?_
  refine lv_aload_n hx hb dX3_settle_57 rfl (lv_at hl 0 rfl) ?_
  refine pg C hP (k := 17) (j := 7) (Nat.le_of_ble_eq_true rfl) (xd_17 _ _) rfl iw_3 (Nat.le_of_ble_eq_true rfl) g_162 rfl rfl dX3_settle_58 ?_
  have h18 := chk_1 hf
  replace hf := chk_2 hf
  refine paI C hP (k := 22) (Nat.le_of_ble_eq_true rfl) (xd_22 _ _) h18 dX3_settle_61 ?_
  refine lv_iload_n hx hb dX3_settle_62 rfl (lv_at hl 3 rfl) ?_
  obtain ⟨r19, M20, h21, hf⟩ := bnd_s hf
  refine pcVv (As := [.int (M.1 22 (M.1 17 7).toNatClampNeg), .int i3]) C hP hS (k := 17) (Nat.le_of_ble_eq_true rfl) (xd_17 _ _) rfl (c3_setLeap  h21) y3_setLeap_w g_640 rfl rfl rfl ⟨Nat.le_of_ble_eq_true rfl, Nat.le_of_ble_eq_true rfl⟩ hl.1 rfl (Nat.le_of_ble_eq_true rfl) dX3_settle_63 ⟨Nat.le_of_ble_eq_true rfl, Nat.le_of_ble_eq_true rfl⟩ (fun H locs hP hS => ?_)
  refine lv_goto (tgt := 95) hx hb dX3_settle_66 (by decide) ?_
  exact w3_settle_95 (n := n)  C hr hk q2 hf hP hS (lv_sub hl [0, 1, 2] rfl)
set_option maxHeartbeats 4000000 in
set_option maxRecDepth 100000 in
theorem w3_settle_85 {p : Program} {l : Launch} {e : Env} {s : State} {m : MethodId} {args : Array Value} {below : List Frame} {meth : Method} {c : Code} {z : Zt} {b : Nat}  (C : Cx p s m args c cX3_settle 4 RX3 z 339 b) (hr : meth.sig.returnType = none) (hk : meth.locks = false) {r : Unit} {M' : Mem} {rc : Nat → List Int32 → List Int64 → Mem → Option (Unit × Mem)} {n : Nat} (q2 : ∀ (i1 : Int32) (i2 : Int32) (M : Mem) (H : Heap) (locs : List Loc) (ls : Array Slot), rc 2 [i1, i2] [] M = some (r, M') → va_P z.1 vwCl (pw (xd z b) 339 b M) H → va_S (pA 339 b) s.heap H locs → lv_has ls 4 [(0, .ref (b + 17)), (1, .int i1), (2, .int i2)] → W p l e rm3_settle s m args below meth c H locs 0 0 (MQ below (va_Qv (fun (M2 : Mem) => M2 = M') (fun M2 t => va_P z.1 vwCl (pw (xd z b) 339 b M2) t.heap) (pA 339 b)) args s 0 0 (pA 339 b)) (F0 m 2 ls [])) {i1 : Int32} {i2 : Int32} {i3 : Int32} {s1 : Int32} {s2 : Int32} {M : Mem} {H : Heap} {locs : List Loc} {ls : Array Slot} (hf : b3_settle_85  rc n i1 i2 i3 s1 s2 M = some (r, M')) (hP : va_P z.1 vwCl (pw (xd z b) 339 b M) H) (hS : va_S (pA 339 b) s.heap H locs) (hl : lv_has ls 4 [(0, .ref (b + 17)), (1, .int i1), (2, .int i2), (3, .int i3)]) : W p l e rm3_settle s m args below meth c H locs 0 0 (MQ below (va_Qv (fun (M2 : Mem) => M2 = M') (fun M2 t => va_P z.1 vwCl (pw (xd z b) 339 b M2) t.heap) (pA 339 b)) args s 0 0 (pA 339 b)) (F0 m 85 ls [.int s2, .int s1, .ref (b + 17)]) := by
  have hx := C.1.1
  have hb := C.1.2.1
  unfold b3_settle_85 at hf
  refine lv_isub hx hb dX3_settle_85 ?_
  refine ppI C hP hS (k := 17) (j := 8) (ty := .int) (Nat.le_of_ble_eq_true rfl) (xd_17 _ _) rfl iw_3 tyX3 tyX3_ok nmX3 (Nat.le_of_ble_eq_true rfl) g_163 rfl rfl (by decide +kernel) rfl rfl (Nat.le_of_ble_eq_true rfl) (xu_17_8 _ _ _) dX3_settle_86 (fun M13 H locs eM13 hP hS => ?_)
  replace hf := lt_c eM13 hf
  refine lv_aload_n hx hb dX3_settle_89 rfl (lv_at hl 0 rfl) ?_
  refine lv_iload_n hx hb dX3_settle_90 rfl (lv_at hl 3 rfl) ?_
  refine lv_iconst (v := (0 : Int32)) hx hb dX3_settle_91 (by decide) ?_
  obtain ⟨r14, M15, h16, hf⟩ := bnd_s hf
  refine pcVv (As := [.int i3, .int (0 : Int32)]) C hP hS (k := 17) (Nat.le_of_ble_eq_true rfl) (xd_17 _ _) rfl (c3_add  h16) y3_add_w g_506 rfl rfl rfl ⟨Nat.le_of_ble_eq_true rfl, Nat.le_of_ble_eq_true rfl⟩ hl.1 rfl (Nat.le_of_ble_eq_true rfl) dX3_settle_92 ⟨Nat.le_of_ble_eq_true rfl, Nat.le_of_ble_eq_true rfl⟩ (fun H locs hP hS => ?_)
  exact w3_settle_95 (n := n)  C hr hk q2 hf hP hS (lv_sub hl [0, 1, 2] rfl)
set_option maxHeartbeats 4000000 in
set_option maxRecDepth 100000 in
theorem w3_settle_2 {p : Program} {l : Launch} {e : Env} {s : State} {m : MethodId} {args : Array Value} {below : List Frame} {meth : Method} {c : Code} {z : Zt} {b : Nat}  (C : Cx p s m args c cX3_settle 4 RX3 z 339 b) (hr : meth.sig.returnType = none) (hk : meth.locks = false) {r : Unit} {M' : Mem} {rc : Nat → List Int32 → List Int64 → Mem → Option (Unit × Mem)} {n : Nat} (q2 : ∀ (i1 : Int32) (i2 : Int32) (M : Mem) (H : Heap) (locs : List Loc) (ls : Array Slot), rc 2 [i1, i2] [] M = some (r, M') → va_P z.1 vwCl (pw (xd z b) 339 b M) H → va_S (pA 339 b) s.heap H locs → lv_has ls 4 [(0, .ref (b + 17)), (1, .int i1), (2, .int i2)] → W p l e rm3_settle s m args below meth c H locs 0 0 (MQ below (va_Qv (fun (M2 : Mem) => M2 = M') (fun M2 t => va_P z.1 vwCl (pw (xd z b) 339 b M2) t.heap) (pA 339 b)) args s 0 0 (pA 339 b)) (F0 m 2 ls [])) {i1 : Int32} {i2 : Int32} {M : Mem} {H : Heap} {locs : List Loc} {ls : Array Slot} (hf : b3_settle_2  rc n i1 i2 M = some (r, M')) (hP : va_P z.1 vwCl (pw (xd z b) 339 b M) H) (hS : va_S (pA 339 b) s.heap H locs) (hl : lv_has ls 4 [(0, .ref (b + 17)), (1, .int i1), (2, .int i2)]) : W p l e rm3_settle s m args below meth c H locs 0 0 (MQ below (va_Qv (fun (M2 : Mem) => M2 = M') (fun M2 t => va_P z.1 vwCl (pw (xd z b) 339 b M2) t.heap) (pA 339 b)) args s 0 0 (pA 339 b)) (F0 m 2 ls []) := by
  have hx := C.1.1
  have hb := C.1.2.1
  unfold b3_settle_2 at hf
  refine lv_iload_n hx hb dX3_settle_2 rfl (lv_at hl 2 rfl) ?_
  refine lv_bipush (v := (64 : Int32)) hx hb dX3_settle_3 (by decide) ?_
  refine lv_icmp_ge (tgt := 101) hx hb dX3_settle_5 (by decide) (fun c1 => ?_) (fun c1 => ?_)
  · replace hf := ite_t c1 hf
    exact prV C hr hk hP hS hf dX3_settle_101
  · replace hf := ite_f c1 hf
    refine va_gets hx hb C.2.2.1 hS C.1.2.2.2.1 (C.1.2.2.2.2 _ g_630) (fun _ h => h) dX3_settle_8 ?_
    refine lv_aload_n hx hb dX3_settle_11 rfl (lv_at hl 0 rfl) ?_
    obtain ⟨r2, M3, h4, hf⟩ := bnd_s hf
    refine pcVi (As := []) C hP hS (k := 17) (Nat.le_of_ble_eq_true rfl) (xd_17 _ _) rfl (c3_innermost  h4) y3_innermost_w g_636 rfl rfl rfl ⟨Nat.le_of_ble_eq_true rfl, Nat.le_of_ble_eq_true rfl⟩ hl.1 rfl (Nat.le_of_ble_eq_true rfl) dX3_settle_12 ⟨Nat.le_of_ble_eq_true rfl, Nat.le_of_ble_eq_true rfl⟩ (fun H locs hP hS => ?_)
    have h5 := chk_1 hf
    replace hf := chk_2 hf
    refine va_ti hx hb C.2.2.2.1 hS (inb_in h5) rfl dX3_settle_15 ?_
    refine lv_iload_n hx hb dX3_settle_16 rfl (lv_at hl 1 rfl) ?_
    refine lv_icmp_lt (tgt := 101) hx hb dX3_settle_17 (by decide) (fun c6 => ?_) (fun c6 => ?_)
    · replace hf := ite_t c6 hf
      exact prV C hr hk hP hS hf dX3_settle_101
    · replace hf := ite_f c6 hf
      refine lv_aload_n hx hb dX3_settle_20 rfl (lv_at hl 0 rfl) ?_
      refine lv_dup hx hb dX3_settle_21 rfl ?_
      refine pg C hP (k := 17) (j := 7) (Nat.le_of_ble_eq_true rfl) (xd_17 _ _) rfl iw_3 (Nat.le_of_ble_eq_true rfl) g_162 rfl rfl dX3_settle_22 ?_
      refine lv_iconst (v := (1 : Int32)) hx hb dX3_settle_25 (by decide) ?_
      refine lv_isub hx hb dX3_settle_26 ?_
      refine ppI C hP hS (k := 17) (j := 7) (ty := .int) (Nat.le_of_ble_eq_true rfl) (xd_17 _ _) rfl iw_3 tyX3 tyX3_ok nmX3 (Nat.le_of_ble_eq_true rfl) g_162 rfl rfl (by decide +kernel) rfl rfl (Nat.le_of_ble_eq_true rfl) (xu_17_7 _ _ _) dX3_settle_27 (fun M7 H locs eM7 hP hS => ?_)
      replace hf := lt_c eM7 hf
      refine lv_aload_n hx hb dX3_settle_30 rfl (lv_at hl 0 rfl) ?_
      refine pg C hP (k := 17) (j := 3) (Nat.le_of_ble_eq_true rfl) (xd_17 _ _) rfl iw_3 (Nat.le_of_ble_eq_true rfl) g_157 rfl rfl dX3_settle_31 ?_
      refine lv_aload_n hx hb dX3_settle_34 rfl (lv_at hl 0 rfl) ?_
      refine pg C hP (k := 17) (j := 7) (Nat.le_of_ble_eq_true rfl) (xd_17 _ _) rfl iw_3 (Nat.le_of_ble_eq_true rfl) g_162 rfl rfl dX3_settle_35 ?_
      have h8 := chk_1 hf
      replace hf := chk_2 hf
      refine paI C hP (k := 21) (Nat.le_of_ble_eq_true rfl) (xd_21 _ _) h8 dX3_settle_38 ?_
      refine lv_topi (fun v9 ev9 => ?_)
      replace hf := lt_c ev9 hf
      refine lv_istore_n (lv' := [(3, .int v9), (0, .ref (b + 17)), (1, .int i1), (2, .int i2)]) hx hb dX3_settle_39 rfl hl (by decide) rfl (fun ls hl => ?_)
      refine lv_iload_n hx hb dX3_settle_40 rfl (lv_at hl 0 rfl) ?_
      refine lv_bipush (v := (11 : Int32)) hx hb dX3_settle_41 (by decide) ?_
      refine lv_icmp_eq (tgt := 52) hx hb dX3_settle_43 (by decide) (fun c10 => ?_) (fun c10 => ?_)
      · replace hf := ite_t c10 hf
        exact w3_settle_52 (n := n)  C hr hk q2 hf hP hS (lv_sub hl [1, 2, 3, 0] rfl)
      · replace hf := ite_f c10 hf
        refine lv_iload_n hx hb dX3_settle_46 rfl (lv_at hl 0 rfl) ?_
        refine lv_bipush (v := (12 : Int32)) hx hb dX3_settle_47 (by decide) ?_
        refine lv_icmp_ne (tgt := 69) hx hb dX3_settle_49 (by decide) (fun c11 => ?_) (fun c11 => ?_)
        · replace hf := ite_f c11 hf
          refine lv_aload_n hx hb dX3_settle_69 rfl (lv_at hl 1 rfl) ?_
          refine lv_dup hx hb dX3_settle_70 rfl ?_
          refine pg C hP (k := 17) (j := 8) (Nat.le_of_ble_eq_true rfl) (xd_17 _ _) rfl iw_3 (Nat.le_of_ble_eq_true rfl) g_163 rfl rfl dX3_settle_71 ?_
          refine lv_iload_n hx hb dX3_settle_74 rfl (lv_at hl 0 rfl) ?_
          refine lv_bipush (v := (10 : Int32)) hx hb dX3_settle_75 (by decide) ?_
          refine lv_icmp_ne (tgt := 84) hx hb dX3_settle_77 (by decide) (fun c12 => ?_) (fun c12 => ?_)
          · replace hf := ite_f c12 hf
            refine lv_iconst (v := (0 : Int32)) hx hb dX3_settle_84 (by decide) ?_
            exact w3_settle_85 (n := n)  C hr hk q2 hf hP hS (lv_sub hl [1, 2, 3, 0] rfl)
          · replace hf := ite_t c12 hf
            refine lv_iconst (v := (1 : Int32)) hx hb dX3_settle_80 (by decide) ?_
            refine lv_goto (tgt := 85) hx hb dX3_settle_81 (by decide) ?_
            exact w3_settle_85 (n := n)  C hr hk q2 hf hP hS (lv_sub hl [1, 2, 3, 0] rfl)
        · replace hf := ite_t c11 hf
          exact w3_settle_52 (n := n)  C hr hk q2 hf hP hS (lv_sub hl [1, 2, 3, 0] rfl)
set_option maxHeartbeats 4000000 in
set_option maxRecDepth 100000 in
theorem w3_settle_0 {p : Program} {l : Launch} {e : Env} {s : State} {m : MethodId} {args : Array Value} {below : List Frame} {meth : Method} {c : Code} {z : Zt} {b : Nat}  (C : Cx p s m args c cX3_settle 4 RX3 z 339 b) (hr : meth.sig.returnType = none) (hk : meth.locks = false) {r : Unit} {M' : Mem} {rc : Nat → List Int32 → List Int64 → Mem → Option (Unit × Mem)} {n : Nat} (q2 : ∀ (i1 : Int32) (i2 : Int32) (M : Mem) (H : Heap) (locs : List Loc) (ls : Array Slot), rc 2 [i1, i2] [] M = some (r, M') → va_P z.1 vwCl (pw (xd z b) 339 b M) H → va_S (pA 339 b) s.heap H locs → lv_has ls 4 [(0, .ref (b + 17)), (1, .int i1), (2, .int i2)] → W p l e rm3_settle s m args below meth c H locs 0 0 (MQ below (va_Qv (fun (M2 : Mem) => M2 = M') (fun M2 t => va_P z.1 vwCl (pw (xd z b) 339 b M2) t.heap) (pA 339 b)) args s 0 0 (pA 339 b)) (F0 m 2 ls [])) {a1 : Int32} {M : Mem} {H : Heap} {locs : List Loc} {ls : Array Slot} (hf : b3_settle_0  rc n a1 M = some (r, M')) (hP : va_P z.1 vwCl (pw (xd z b) 339 b M) H) (hS : va_S (pA 339 b) s.heap H locs) (hl : lv_has ls 4 [(0, .ref (b + 17)), (1, .int a1)]) : W p l e rm3_settle s m args below meth c H locs 0 0 (MQ below (va_Qv (fun (M2 : Mem) => M2 = M') (fun M2 t => va_P z.1 vwCl (pw (xd z b) 339 b M2) t.heap) (pA 339 b)) args s 0 0 (pA 339 b)) (F0 m 0 ls []) := by
  have hx := C.1.1
  have hb := C.1.2.1
  unfold b3_settle_0 at hf
  refine lv_iconst (v := (0 : Int32)) hx hb dX3_settle_0 (by decide) ?_
  refine lv_istore_n (lv' := [(2, .int (0 : Int32)), (0, .ref (b + 17)), (1, .int a1)]) hx hb dX3_settle_1 rfl hl (by decide) rfl (fun ls hl => ?_)
  exact w3_settle_2 (n := n)  C hr hk q2 hf hP hS (lv_sub hl [1, 2, 0] rfl)
set_option maxHeartbeats 4000000 in
set_option maxRecDepth 100000 in
theorem l3_settle {p : Program} {l : Launch} {e : Env} {s : State} {m : MethodId} {args : Array Value} {below : List Frame} {meth : Method} {c : Code} {z : Zt} {b : Nat}  (C : Cx p s m args c cX3_settle 4 RX3 z 339 b) (hr : meth.sig.returnType = none) (hk : meth.locks = false) {r : Unit} {M' : Mem} (n : Nat) : (∀ (i1 : Int32) (i2 : Int32) (M : Mem) (H : Heap) (locs : List Loc) (ls : Array Slot), (r3_settle  n) 2 [i1, i2] [] M = some (r, M') → va_P z.1 vwCl (pw (xd z b) 339 b M) H → va_S (pA 339 b) s.heap H locs → lv_has ls 4 [(0, .ref (b + 17)), (1, .int i1), (2, .int i2)] → W p l e rm3_settle s m args below meth c H locs 0 0 (MQ below (va_Qv (fun (M2 : Mem) => M2 = M') (fun M2 t => va_P z.1 vwCl (pw (xd z b) 339 b M2) t.heap) (pA 339 b)) args s 0 0 (pA 339 b)) (F0 m 2 ls [])) := by
  induction n with
  | zero => exact fun _ _ _ _ _ _ hf => (by cases hf)
  | succ n ih => exact fun _ _ _ _ _ _ hf hP hS hl => w3_settle_2 (n := n)  C hr hk ih ((e3_settle_2  n _ _ _).symm.trans hf) hP hS hl
theorem c3_settle {l : Launch} {z : Zt} {b n : Nat}  {a1 : Int32} {M M' : Mem} {r : Unit} (hf : f3_settle n  a1 M = some (r, M')) : CV l z (xd z b) 339 b yX3_settle cX3_settle 4 none rm3_settle [.ref (b + 17), .int a1] M M' :=
  CV.ofW (lv := [(0, .ref (b + 17)), (1, .int a1)]) (by decide) (Nat.le_of_ble_eq_true rfl) rfl (fun p e s m args below meth c ls C hr hk hP hS hl => w3_settle_0 (n := n)  C hr hk (l3_settle  C hr hk n) hf hP hS hl)

-- BronzeKing$LawReader.await(II)I
theorem dX3_await_0 : decode cX3_await 0 = .ok (.aload_n 0, 1) := by decide +kernel
theorem dX3_await_1 : decode cX3_await 1 = .ok (.iload_n 1, 1) := by decide +kernel
theorem dX3_await_2 : decode cX3_await 2 = .ok (.invokevirtual 130, 3) := by decide +kernel
theorem dX3_await_5 : decode cX3_await 5 = .ok (.iload_n 1, 1) := by decide +kernel
theorem dX3_await_6 : decode cX3_await 6 = .ok (.bipush 11, 2) := by decide +kernel
theorem dX3_await_8 : decode cX3_await 8 = .ok (.if_icmp .eq 9, 3) := by decide +kernel
theorem dX3_await_11 : decode cX3_await 11 = .ok (.iload_n 1, 1) := by decide +kernel
theorem dX3_await_12 : decode cX3_await 12 = .ok (.bipush 12, 2) := by decide +kernel
theorem dX3_await_14 : decode cX3_await 14 = .ok (.if_icmp .ne 9, 3) := by decide +kernel
theorem dX3_await_17 : decode cX3_await 17 = .ok (.aload_n 0, 1) := by decide +kernel
theorem dX3_await_18 : decode cX3_await 18 = .ok (.iload_n 1, 1) := by decide +kernel
theorem dX3_await_19 : decode cX3_await 19 = .ok (.iconst 0, 1) := by decide +kernel
theorem dX3_await_20 : decode cX3_await 20 = .ok (.invokevirtual 68, 3) := by decide +kernel
theorem dX3_await_23 : decode cX3_await 23 = .ok (.aload_n 0, 1) := by decide +kernel
theorem dX3_await_24 : decode cX3_await 24 = .ok (.iload_n 2, 1) := by decide +kernel
theorem dX3_await_25 : decode cX3_await 25 = .ok (.putfield 40, 3) := by decide +kernel
theorem dX3_await_28 : decode cX3_await 28 = .ok (.iconst 0, 1) := by decide +kernel
theorem dX3_await_29 : decode cX3_await 29 = .ok (.ireturn, 1) := by decide +kernel
def b3_await_23 (rc : Nat → List Int32 → List Int64 → Mem → Option (Int32 × Mem)) (n : Nat) (i2 : Int32) (M : Mem) : Option (Int32 × Mem) :=
  lt (wI M 17 9 i2) fun M6 =>
  some ((0 : Int32), M6)
def b3_await_17 (rc : Nat → List Int32 → List Int64 → Mem → Option (Int32 × Mem)) (n : Nat) (i1 : Int32) (i2 : Int32) (M : Mem) : Option (Int32 × Mem) :=
  bnd (f3_add n i1 (0 : Int32) M) fun r7 M8 =>
  b3_await_23  rc n i2 M8
def b3_await_0 (rc : Nat → List Int32 → List Int64 → Mem → Option (Int32 × Mem)) (n : Nat) (a1 : Int32) (a2 : Int32) (M : Mem) : Option (Int32 × Mem) :=
  bnd (f3_push n a1 M) fun r1 M2 =>
  (if a1 = (11 : Int32) then (
   b3_await_17  rc n a1 a2 M2)
  else (
   (if a1 = (12 : Int32) then (
    b3_await_17  rc n a1 a2 M2)
   else (
    b3_await_23  rc n a2 M2))))
def f3_await (n : Nat) (a1 : Int32) (a2 : Int32) (M : Mem) : Option (Int32 × Mem) := b3_await_0 (fun _ _ _ _ => none) n a1 a2 M
abbrev rm3_await : Room := { frames := 1, cells := 0, slots := 0, locals := 22 }
theorem y3_await_w : yV RX3 yX3_await cX3_await 3 (some .int) 2 := ⟨g_646, gp 13 rfl rfl, g_7, g_647, rfl, by decide, by decide, by decide +kernel⟩
set_option maxHeartbeats 4000000 in
set_option maxRecDepth 100000 in
theorem w3_await_23 {p : Program} {l : Launch} {e : Env} {s : State} {m : MethodId} {args : Array Value} {below : List Frame} {meth : Method} {c : Code} {z : Zt} {b : Nat}  (C : Cx p s m args c cX3_await 3 RX3 z 339 b) (hr : meth.sig.returnType = (some .int)) (hk : meth.locks = false) {r : Int32} {M' : Mem} {rc : Nat → List Int32 → List Int64 → Mem → Option (Int32 × Mem)} {n : Nat}  {i2 : Int32} {M : Mem} {H : Heap} {locs : List Loc} {ls : Array Slot} (hf : b3_await_23  rc n i2 M = some (r, M')) (hP : va_P z.1 vwCl (pw (xd z b) 339 b M) H) (hS : va_S (pA 339 b) s.heap H locs) (hl : lv_has ls 3 [(0, .ref (b + 17)), (2, .int i2)]) : W p l e rm3_await s m args below meth c H locs 0 0 (MQ below (va_Qi (fun (r' : Int32) (M2 : Mem) => r' = r ∧ M2 = M') (fun M2 t => va_P z.1 vwCl (pw (xd z b) 339 b M2) t.heap) (pA 339 b)) args s 0 0 (pA 339 b)) (F0 m 23 ls []) := by
  have hx := C.1.1
  have hb := C.1.2.1
  unfold b3_await_23 at hf
  refine lv_aload_n hx hb dX3_await_23 rfl (lv_at hl 0 rfl) ?_
  refine lv_iload_n hx hb dX3_await_24 rfl (lv_at hl 1 rfl) ?_
  refine ppI C hP hS (k := 17) (j := 9) (ty := .int) (Nat.le_of_ble_eq_true rfl) (xd_17 _ _) rfl iw_3 tyX3 tyX3_ok nmX3 (Nat.le_of_ble_eq_true rfl) g_164 rfl rfl (by decide +kernel) rfl rfl (Nat.le_of_ble_eq_true rfl) (xu_17_9 _ _ _) dX3_await_25 (fun M6 H locs eM6 hP hS => ?_)
  replace hf := lt_c eM6 hf
  refine lv_iconst (v := (0 : Int32)) hx hb dX3_await_28 (by decide) ?_
  exact prI C hr hk hP hS hf dX3_await_29
set_option maxHeartbeats 4000000 in
set_option maxRecDepth 100000 in
theorem w3_await_17 {p : Program} {l : Launch} {e : Env} {s : State} {m : MethodId} {args : Array Value} {below : List Frame} {meth : Method} {c : Code} {z : Zt} {b : Nat}  (C : Cx p s m args c cX3_await 3 RX3 z 339 b) (hr : meth.sig.returnType = (some .int)) (hk : meth.locks = false) {r : Int32} {M' : Mem} {rc : Nat → List Int32 → List Int64 → Mem → Option (Int32 × Mem)} {n : Nat}  {i1 : Int32} {i2 : Int32} {M : Mem} {H : Heap} {locs : List Loc} {ls : Array Slot} (hf : b3_await_17  rc n i1 i2 M = some (r, M')) (hP : va_P z.1 vwCl (pw (xd z b) 339 b M) H) (hS : va_S (pA 339 b) s.heap H locs) (hl : lv_has ls 3 [(0, .ref (b + 17)), (1, .int i1), (2, .int i2)]) : W p l e rm3_await s m args below meth c H locs 0 0 (MQ below (va_Qi (fun (r' : Int32) (M2 : Mem) => r' = r ∧ M2 = M') (fun M2 t => va_P z.1 vwCl (pw (xd z b) 339 b M2) t.heap) (pA 339 b)) args s 0 0 (pA 339 b)) (F0 m 17 ls []) := by
  have hx := C.1.1
  have hb := C.1.2.1
  unfold b3_await_17 at hf
  refine lv_aload_n hx hb dX3_await_17 rfl (lv_at hl 0 rfl) ?_
  refine lv_iload_n hx hb dX3_await_18 rfl (lv_at hl 1 rfl) ?_
  refine lv_iconst (v := (0 : Int32)) hx hb dX3_await_19 (by decide) ?_
  obtain ⟨r7, M8, h9, hf⟩ := bnd_s hf
  refine pcVv (As := [.int i1, .int (0 : Int32)]) C hP hS (k := 17) (Nat.le_of_ble_eq_true rfl) (xd_17 _ _) rfl (c3_add  h9) y3_add_w g_506 rfl rfl rfl ⟨Nat.le_of_ble_eq_true rfl, Nat.le_of_ble_eq_true rfl⟩ hl.1 rfl (Nat.le_of_ble_eq_true rfl) dX3_await_20 ⟨Nat.le_of_ble_eq_true rfl, Nat.le_of_ble_eq_true rfl⟩ (fun H locs hP hS => ?_)
  exact w3_await_23 (n := n)  C hr hk  hf hP hS (lv_sub hl [0, 2] rfl)
set_option maxHeartbeats 4000000 in
set_option maxRecDepth 100000 in
theorem w3_await_0 {p : Program} {l : Launch} {e : Env} {s : State} {m : MethodId} {args : Array Value} {below : List Frame} {meth : Method} {c : Code} {z : Zt} {b : Nat}  (C : Cx p s m args c cX3_await 3 RX3 z 339 b) (hr : meth.sig.returnType = (some .int)) (hk : meth.locks = false) {r : Int32} {M' : Mem} {rc : Nat → List Int32 → List Int64 → Mem → Option (Int32 × Mem)} {n : Nat}  {a1 : Int32} {a2 : Int32} {M : Mem} {H : Heap} {locs : List Loc} {ls : Array Slot} (hf : b3_await_0  rc n a1 a2 M = some (r, M')) (hP : va_P z.1 vwCl (pw (xd z b) 339 b M) H) (hS : va_S (pA 339 b) s.heap H locs) (hl : lv_has ls 3 [(0, .ref (b + 17)), (1, .int a1), (2, .int a2)]) : W p l e rm3_await s m args below meth c H locs 0 0 (MQ below (va_Qi (fun (r' : Int32) (M2 : Mem) => r' = r ∧ M2 = M') (fun M2 t => va_P z.1 vwCl (pw (xd z b) 339 b M2) t.heap) (pA 339 b)) args s 0 0 (pA 339 b)) (F0 m 0 ls []) := by
  have hx := C.1.1
  have hb := C.1.2.1
  unfold b3_await_0 at hf
  refine lv_aload_n hx hb dX3_await_0 rfl (lv_at hl 0 rfl) ?_
  refine lv_iload_n hx hb dX3_await_1 rfl (lv_at hl 1 rfl) ?_
  obtain ⟨r1, M2, h3, hf⟩ := bnd_s hf
  refine pcVv (As := [.int a1]) C hP hS (k := 17) (Nat.le_of_ble_eq_true rfl) (xd_17 _ _) rfl (c3_push  h3) y3_push_w g_522 rfl rfl rfl ⟨Nat.le_of_ble_eq_true rfl, Nat.le_of_ble_eq_true rfl⟩ hl.1 rfl (Nat.le_of_ble_eq_true rfl) dX3_await_2 ⟨Nat.le_of_ble_eq_true rfl, Nat.le_of_ble_eq_true rfl⟩ (fun H locs hP hS => ?_)
  refine lv_iload_n hx hb dX3_await_5 rfl (lv_at hl 1 rfl) ?_
  refine lv_bipush (v := (11 : Int32)) hx hb dX3_await_6 (by decide) ?_
  refine lv_icmp_eq (tgt := 17) hx hb dX3_await_8 (by decide) (fun c4 => ?_) (fun c4 => ?_)
  · replace hf := ite_t c4 hf
    exact w3_await_17 (n := n)  C hr hk  hf hP hS (lv_sub hl [0, 1, 2] rfl)
  · replace hf := ite_f c4 hf
    refine lv_iload_n hx hb dX3_await_11 rfl (lv_at hl 1 rfl) ?_
    refine lv_bipush (v := (12 : Int32)) hx hb dX3_await_12 (by decide) ?_
    refine lv_icmp_ne (tgt := 23) hx hb dX3_await_14 (by decide) (fun c5 => ?_) (fun c5 => ?_)
    · replace hf := ite_f c5 hf
      exact w3_await_23 (n := n)  C hr hk  hf hP hS (lv_sub hl [0, 2] rfl)
    · replace hf := ite_t c5 hf
      exact w3_await_17 (n := n)  C hr hk  hf hP hS (lv_sub hl [0, 1, 2] rfl)
theorem c3_await {l : Launch} {z : Zt} {b n : Nat}  {a1 : Int32} {a2 : Int32} {M M' : Mem} {r : Int32} (hf : f3_await n  a1 a2 M = some (r, M')) : CI l z (xd z b) 339 b yX3_await cX3_await 3 (some .int) rm3_await [.ref (b + 17), .int a1, .int a2] M M' r :=
  CI.ofW (lv := [(0, .ref (b + 17)), (1, .int a1), (2, .int a2)]) (by decide) (Nat.le_of_ble_eq_true rfl) rfl (fun p e s m args below meth c ls C hr hk hP hS hl => w3_await_0 (n := n)  C hr hk  hf hP hS hl)

-- BronzeKing$LawReader.isComparison(I)Z
theorem dX3_isComparison_0 : decode cX3_isComparison 0 = .ok (.iload_n 0, 1) := by decide +kernel
theorem dX3_isComparison_1 : decode cX3_isComparison 1 = .ok (.bipush 7, 2) := by decide +kernel
theorem dX3_isComparison_3 : decode cX3_isComparison 3 = .ok (.if_icmp .lt 13, 3) := by decide +kernel
theorem dX3_isComparison_6 : decode cX3_isComparison 6 = .ok (.iload_n 0, 1) := by decide +kernel
theorem dX3_isComparison_7 : decode cX3_isComparison 7 = .ok (.bipush 9, 2) := by decide +kernel
theorem dX3_isComparison_9 : decode cX3_isComparison 9 = .ok (.if_icmp .gt 7, 3) := by decide +kernel
theorem dX3_isComparison_12 : decode cX3_isComparison 12 = .ok (.iconst 1, 1) := by decide +kernel
theorem dX3_isComparison_13 : decode cX3_isComparison 13 = .ok (.goto 4, 3) := by decide +kernel
theorem dX3_isComparison_16 : decode cX3_isComparison 16 = .ok (.iconst 0, 1) := by decide +kernel
theorem dX3_isComparison_17 : decode cX3_isComparison 17 = .ok (.ireturn, 1) := by decide +kernel
def b3_isComparison_16 (rc : Nat → List Int32 → List Int64 → Mem → Option (Int32 × Mem)) (n : Nat) (M : Mem) : Option (Int32 × Mem) :=
  some ((0 : Int32), M)
def b3_isComparison_0 (rc : Nat → List Int32 → List Int64 → Mem → Option (Int32 × Mem)) (n : Nat) (a0 : Int32) (M : Mem) : Option (Int32 × Mem) :=
  (if a0 < (7 : Int32) then (
   b3_isComparison_16  rc n  M)
  else (
   (if (9 : Int32) < a0 then (
    b3_isComparison_16  rc n  M)
   else (
    some ((1 : Int32), M)))))
def f3_isComparison (n : Nat) (a0 : Int32) (M : Mem) : Option (Int32 × Mem) := b3_isComparison_0 (fun _ _ _ _ => none) n a0 M
abbrev rm3_isComparison : Room := { frames := 0, cells := 0, slots := 0, locals := 0 }
theorem y3_isComparison_w : yS yX3_isComparison cX3_isComparison 1 (some .boolean) 1 := ⟨g_650, g_7, g_651, by decide, by decide, by decide +kernel⟩
set_option maxHeartbeats 4000000 in
set_option maxRecDepth 100000 in
theorem w3_isComparison_16 {p : Program} {l : Launch} {e : Env} {s : State} {m : MethodId} {args : Array Value} {below : List Frame} {meth : Method} {c : Code} {z : Zt} {b : Nat}  (C : Cx p s m args c cX3_isComparison 1 RX3 z 339 b) (hr : meth.sig.returnType = (some .boolean)) (hk : meth.locks = false) {r : Int32} {M' : Mem} {rc : Nat → List Int32 → List Int64 → Mem → Option (Int32 × Mem)} {n : Nat}   {M : Mem} {H : Heap} {locs : List Loc} {ls : Array Slot} (hf : b3_isComparison_16  rc n  M = some (r, M')) (hP : va_P z.1 vwCl (pw (xd z b) 339 b M) H) (hS : va_S (pA 339 b) s.heap H locs) (hl : lv_has ls 1 []) : W p l e rm3_isComparison s m args below meth c H locs 0 0 (MQ below (va_Qi (fun (r' : Int32) (M2 : Mem) => r' = r ∧ M2 = M') (fun M2 t => va_P z.1 vwCl (pw (xd z b) 339 b M2) t.heap) (pA 339 b)) args s 0 0 (pA 339 b)) (F0 m 16 ls []) := by
  have hx := C.1.1
  have hb := C.1.2.1
  unfold b3_isComparison_16 at hf
  refine lv_iconst (v := (0 : Int32)) hx hb dX3_isComparison_16 (by decide) ?_
  exact prZ C hr hk hP hS hf rfl dX3_isComparison_17
set_option maxHeartbeats 4000000 in
set_option maxRecDepth 100000 in
theorem w3_isComparison_0 {p : Program} {l : Launch} {e : Env} {s : State} {m : MethodId} {args : Array Value} {below : List Frame} {meth : Method} {c : Code} {z : Zt} {b : Nat}  (C : Cx p s m args c cX3_isComparison 1 RX3 z 339 b) (hr : meth.sig.returnType = (some .boolean)) (hk : meth.locks = false) {r : Int32} {M' : Mem} {rc : Nat → List Int32 → List Int64 → Mem → Option (Int32 × Mem)} {n : Nat}  {a0 : Int32} {M : Mem} {H : Heap} {locs : List Loc} {ls : Array Slot} (hf : b3_isComparison_0  rc n a0 M = some (r, M')) (hP : va_P z.1 vwCl (pw (xd z b) 339 b M) H) (hS : va_S (pA 339 b) s.heap H locs) (hl : lv_has ls 1 [(0, .int a0)]) : W p l e rm3_isComparison s m args below meth c H locs 0 0 (MQ below (va_Qi (fun (r' : Int32) (M2 : Mem) => r' = r ∧ M2 = M') (fun M2 t => va_P z.1 vwCl (pw (xd z b) 339 b M2) t.heap) (pA 339 b)) args s 0 0 (pA 339 b)) (F0 m 0 ls []) := by
  have hx := C.1.1
  have hb := C.1.2.1
  unfold b3_isComparison_0 at hf
  refine lv_iload_n hx hb dX3_isComparison_0 rfl (lv_at hl 0 rfl) ?_
  refine lv_bipush (v := (7 : Int32)) hx hb dX3_isComparison_1 (by decide) ?_
  refine lv_icmp_lt (tgt := 16) hx hb dX3_isComparison_3 (by decide) (fun c1 => ?_) (fun c1 => ?_)
  · replace hf := ite_t c1 hf
    exact w3_isComparison_16 (n := n)  C hr hk  hf hP hS (lv_sub hl [] rfl)
  · replace hf := ite_f c1 hf
    refine lv_iload_n hx hb dX3_isComparison_6 rfl (lv_at hl 0 rfl) ?_
    refine lv_bipush (v := (9 : Int32)) hx hb dX3_isComparison_7 (by decide) ?_
    refine lv_icmp_gt (tgt := 16) hx hb dX3_isComparison_9 (by decide) (fun c2 => ?_) (fun c2 => ?_)
    · replace hf := ite_t c2 hf
      exact w3_isComparison_16 (n := n)  C hr hk  hf hP hS (lv_sub hl [] rfl)
    · replace hf := ite_f c2 hf
      refine lv_iconst (v := (1 : Int32)) hx hb dX3_isComparison_12 (by decide) ?_
      refine lv_goto (tgt := 17) hx hb dX3_isComparison_13 (by decide) ?_
      exact prZ C hr hk hP hS hf rfl dX3_isComparison_17
theorem c3_isComparison {l : Launch} {z : Zt} {b n : Nat}  {a0 : Int32} {M M' : Mem} {r : Int32} (hf : f3_isComparison n  a0 M = some (r, M')) : CI l z (xd z b) 339 b yX3_isComparison cX3_isComparison 1 (some .boolean) rm3_isComparison [.int a0] M M' r :=
  CI.ofW (lv := [(0, .int a0)]) (by decide) (Nat.le_of_ble_eq_true rfl) rfl (fun p e s m args below meth c ls C hr hk hP hS hl => w3_isComparison_0 (n := n)  C hr hk  hf hP hS hl)

-- BronzeKing$LawReader.close(I)I
theorem dX3_close_0 : decode cX3_close 0 = .ok (.aload_n 0, 1) := by decide +kernel
theorem dX3_close_1 : decode cX3_close 1 = .ok (.dup, 1) := by decide +kernel
theorem dX3_close_2 : decode cX3_close 2 = .ok (.getfield 37, 3) := by decide +kernel
theorem dX3_close_5 : decode cX3_close 5 = .ok (.iconst 1, 1) := by decide +kernel
theorem dX3_close_6 : decode cX3_close 6 = .ok (.isub, 1) := by decide +kernel
theorem dX3_close_7 : decode cX3_close 7 = .ok (.putfield 37, 3) := by decide +kernel
theorem dX3_close_10 : decode cX3_close 10 = .ok (.aload_n 0, 1) := by decide +kernel
theorem dX3_close_11 : decode cX3_close 11 = .ok (.dup, 1) := by decide +kernel
theorem dX3_close_12 : decode cX3_close 12 = .ok (.getfield 34, 3) := by decide +kernel
theorem dX3_close_15 : decode cX3_close 15 = .ok (.iconst 1, 1) := by decide +kernel
theorem dX3_close_16 : decode cX3_close 16 = .ok (.isub, 1) := by decide +kernel
theorem dX3_close_17 : decode cX3_close 17 = .ok (.putfield 34, 3) := by decide +kernel
theorem dX3_close_20 : decode cX3_close 20 = .ok (.aload_n 0, 1) := by decide +kernel
theorem dX3_close_21 : decode cX3_close 21 = .ok (.iload_n 1, 1) := by decide +kernel
theorem dX3_close_22 : decode cX3_close 22 = .ok (.putfield 40, 3) := by decide +kernel
theorem dX3_close_25 : decode cX3_close 25 = .ok (.iconst 0, 1) := by decide +kernel
theorem dX3_close_26 : decode cX3_close 26 = .ok (.ireturn, 1) := by decide +kernel
def b3_close_0 (rc : Nat → List Int32 → List Int64 → Mem → Option (Int32 × Mem)) (n : Nat) (a1 : Int32) (M : Mem) : Option (Int32 × Mem) :=
  lt (wI M 17 8 ((M.1 17 8) - (1 : Int32))) fun M1 =>
  lt (wI M1 17 7 ((M1.1 17 7) - (1 : Int32))) fun M2 =>
  lt (wI M2 17 9 a1) fun M3 =>
  some ((0 : Int32), M3)
def f3_close (n : Nat) (a1 : Int32) (M : Mem) : Option (Int32 × Mem) := b3_close_0 (fun _ _ _ _ => none) n a1 M
abbrev rm3_close : Room := { frames := 0, cells := 0, slots := 0, locals := 0 }
theorem y3_close_w : yV RX3 yX3_close cX3_close 2 (some .int) 1 := ⟨g_654, gp 14 rfl rfl, g_7, g_655, rfl, by decide, by decide, by decide +kernel⟩
set_option maxHeartbeats 4000000 in
set_option maxRecDepth 100000 in
theorem w3_close_0 {p : Program} {l : Launch} {e : Env} {s : State} {m : MethodId} {args : Array Value} {below : List Frame} {meth : Method} {c : Code} {z : Zt} {b : Nat}  (C : Cx p s m args c cX3_close 2 RX3 z 339 b) (hr : meth.sig.returnType = (some .int)) (hk : meth.locks = false) {r : Int32} {M' : Mem} {rc : Nat → List Int32 → List Int64 → Mem → Option (Int32 × Mem)} {n : Nat}  {a1 : Int32} {M : Mem} {H : Heap} {locs : List Loc} {ls : Array Slot} (hf : b3_close_0  rc n a1 M = some (r, M')) (hP : va_P z.1 vwCl (pw (xd z b) 339 b M) H) (hS : va_S (pA 339 b) s.heap H locs) (hl : lv_has ls 2 [(0, .ref (b + 17)), (1, .int a1)]) : W p l e rm3_close s m args below meth c H locs 0 0 (MQ below (va_Qi (fun (r' : Int32) (M2 : Mem) => r' = r ∧ M2 = M') (fun M2 t => va_P z.1 vwCl (pw (xd z b) 339 b M2) t.heap) (pA 339 b)) args s 0 0 (pA 339 b)) (F0 m 0 ls []) := by
  have hx := C.1.1
  have hb := C.1.2.1
  unfold b3_close_0 at hf
  refine lv_aload_n hx hb dX3_close_0 rfl (lv_at hl 0 rfl) ?_
  refine lv_dup hx hb dX3_close_1 rfl ?_
  refine pg C hP (k := 17) (j := 8) (Nat.le_of_ble_eq_true rfl) (xd_17 _ _) rfl iw_3 (Nat.le_of_ble_eq_true rfl) g_163 rfl rfl dX3_close_2 ?_
  refine lv_iconst (v := (1 : Int32)) hx hb dX3_close_5 (by decide) ?_
  refine lv_isub hx hb dX3_close_6 ?_
  refine ppI C hP hS (k := 17) (j := 8) (ty := .int) (Nat.le_of_ble_eq_true rfl) (xd_17 _ _) rfl iw_3 tyX3 tyX3_ok nmX3 (Nat.le_of_ble_eq_true rfl) g_163 rfl rfl (by decide +kernel) rfl rfl (Nat.le_of_ble_eq_true rfl) (xu_17_8 _ _ _) dX3_close_7 (fun M1 H locs eM1 hP hS => ?_)
  replace hf := lt_c eM1 hf
  refine lv_aload_n hx hb dX3_close_10 rfl (lv_at hl 0 rfl) ?_
  refine lv_dup hx hb dX3_close_11 rfl ?_
  refine pg C hP (k := 17) (j := 7) (Nat.le_of_ble_eq_true rfl) (xd_17 _ _) rfl iw_3 (Nat.le_of_ble_eq_true rfl) g_162 rfl rfl dX3_close_12 ?_
  refine lv_iconst (v := (1 : Int32)) hx hb dX3_close_15 (by decide) ?_
  refine lv_isub hx hb dX3_close_16 ?_
  refine ppI C hP hS (k := 17) (j := 7) (ty := .int) (Nat.le_of_ble_eq_true rfl) (xd_17 _ _) rfl iw_3 tyX3 tyX3_ok nmX3 (Nat.le_of_ble_eq_true rfl) g_162 rfl rfl (by decide +kernel) rfl rfl (Nat.le_of_ble_eq_true rfl) (xu_17_7 _ _ _) dX3_close_17 (fun M2 H locs eM2 hP hS => ?_)
  replace hf := lt_c eM2 hf
  refine lv_aload_n hx hb dX3_close_20 rfl (lv_at hl 0 rfl) ?_
  refine lv_iload_n hx hb dX3_close_21 rfl (lv_at hl 1 rfl) ?_
  refine ppI C hP hS (k := 17) (j := 9) (ty := .int) (Nat.le_of_ble_eq_true rfl) (xd_17 _ _) rfl iw_3 tyX3 tyX3_ok nmX3 (Nat.le_of_ble_eq_true rfl) g_164 rfl rfl (by decide +kernel) rfl rfl (Nat.le_of_ble_eq_true rfl) (xu_17_9 _ _ _) dX3_close_22 (fun M3 H locs eM3 hP hS => ?_)
  replace hf := lt_c eM3 hf
  refine lv_iconst (v := (0 : Int32)) hx hb dX3_close_25 (by decide) ?_
  exact prI C hr hk hP hS hf dX3_close_26
theorem c3_close {l : Launch} {z : Zt} {b n : Nat}  {a1 : Int32} {M M' : Mem} {r : Int32} (hf : f3_close n  a1 M = some (r, M')) : CI l z (xd z b) 339 b yX3_close cX3_close 2 (some .int) rm3_close [.ref (b + 17), .int a1] M M' r :=
  CI.ofW (lv := [(0, .ref (b + 17)), (1, .int a1)]) (by decide) (Nat.le_of_ble_eq_true rfl) rfl (fun p e s m args below meth c ls C hr hk hP hS hl => w3_close_0 (n := n)  C hr hk  hf hP hS hl)

-- BronzeKing$LawReader.goOnBehindTest(I)I
theorem dX3_goOnBehindTest_0 : decode cX3_goOnBehindTest 0 = .ok (.iload_n 1, 1) := by decide +kernel
theorem dX3_goOnBehindTest_1 : decode cX3_goOnBehindTest 1 = .ok (.bipush 38, 2) := by decide +kernel
theorem dX3_goOnBehindTest_3 : decode cX3_goOnBehindTest 3 = .ok (.if_icmp .eq 9, 3) := by decide +kernel
theorem dX3_goOnBehindTest_6 : decode cX3_goOnBehindTest 6 = .ok (.iload_n 1, 1) := by decide +kernel
theorem dX3_goOnBehindTest_7 : decode cX3_goOnBehindTest 7 = .ok (.bipush 124, 2) := by decide +kernel
theorem dX3_goOnBehindTest_9 : decode cX3_goOnBehindTest 9 = .ok (.if_icmp .ne 33, 3) := by decide +kernel
theorem dX3_goOnBehindTest_12 : decode cX3_goOnBehindTest 12 = .ok (.iload_n 1, 1) := by decide +kernel
theorem dX3_goOnBehindTest_13 : decode cX3_goOnBehindTest 13 = .ok (.bipush 38, 2) := by decide +kernel
theorem dX3_goOnBehindTest_15 : decode cX3_goOnBehindTest 15 = .ok (.if_icmp .ne 8, 3) := by decide +kernel
theorem dX3_goOnBehindTest_18 : decode cX3_goOnBehindTest 18 = .ok (.bipush 11, 2) := by decide +kernel
theorem dX3_goOnBehindTest_20 : decode cX3_goOnBehindTest 20 = .ok (.goto 5, 3) := by decide +kernel
theorem dX3_goOnBehindTest_23 : decode cX3_goOnBehindTest 23 = .ok (.bipush 12, 2) := by decide +kernel
theorem dX3_goOnBehindTest_25 : decode cX3_goOnBehindTest 25 = .ok (.istore_n 2, 1) := by decide +kernel
theorem dX3_goOnBehindTest_26 : decode cX3_goOnBehindTest 26 = .ok (.aload_n 0, 1) := by decide +kernel
theorem dX3_goOnBehindTest_27 : decode cX3_goOnBehindTest 27 = .ok (.getstatic 109, 3) := by decide +kernel
theorem dX3_goOnBehindTest_30 : decode cX3_goOnBehindTest 30 = .ok (.iload_n 2, 1) := by decide +kernel
theorem dX3_goOnBehindTest_31 : decode cX3_goOnBehindTest 31 = .ok (.iaload, 1) := by decide +kernel
theorem dX3_goOnBehindTest_32 : decode cX3_goOnBehindTest 32 = .ok (.invokevirtual 112, 3) := by decide +kernel
theorem dX3_goOnBehindTest_35 : decode cX3_goOnBehindTest 35 = .ok (.aload_n 0, 1) := by decide +kernel
theorem dX3_goOnBehindTest_36 : decode cX3_goOnBehindTest 36 = .ok (.iload_n 2, 1) := by decide +kernel
theorem dX3_goOnBehindTest_37 : decode cX3_goOnBehindTest 37 = .ok (.iconst 2, 1) := by decide +kernel
theorem dX3_goOnBehindTest_38 : decode cX3_goOnBehindTest 38 = .ok (.invokevirtual 116, 3) := by decide +kernel
theorem dX3_goOnBehindTest_41 : decode cX3_goOnBehindTest 41 = .ok (.ireturn, 1) := by decide +kernel
theorem dX3_goOnBehindTest_42 : decode cX3_goOnBehindTest 42 = .ok (.iload_n 1, 1) := by decide +kernel
theorem dX3_goOnBehindTest_43 : decode cX3_goOnBehindTest 43 = .ok (.bipush 41, 2) := by decide +kernel
theorem dX3_goOnBehindTest_45 : decode cX3_goOnBehindTest 45 = .ok (.if_icmp .eq 5, 3) := by decide +kernel
theorem dX3_goOnBehindTest_48 : decode cX3_goOnBehindTest 48 = .ok (.iconst 1, 1) := by decide +kernel
theorem dX3_goOnBehindTest_49 : decode cX3_goOnBehindTest 49 = .ok (.ireturn, 1) := by decide +kernel
theorem dX3_goOnBehindTest_50 : decode cX3_goOnBehindTest 50 = .ok (.aload_n 0, 1) := by decide +kernel
theorem dX3_goOnBehindTest_51 : decode cX3_goOnBehindTest 51 = .ok (.getstatic 109, 3) := by decide +kernel
theorem dX3_goOnBehindTest_54 : decode cX3_goOnBehindTest 54 = .ok (.bipush 12, 2) := by decide +kernel
theorem dX3_goOnBehindTest_56 : decode cX3_goOnBehindTest 56 = .ok (.iaload, 1) := by decide +kernel
theorem dX3_goOnBehindTest_57 : decode cX3_goOnBehindTest 57 = .ok (.invokevirtual 112, 3) := by decide +kernel
theorem dX3_goOnBehindTest_60 : decode cX3_goOnBehindTest 60 = .ok (.aload_n 0, 1) := by decide +kernel
theorem dX3_goOnBehindTest_61 : decode cX3_goOnBehindTest 61 = .ok (.invokevirtual 119, 3) := by decide +kernel
theorem dX3_goOnBehindTest_64 : decode cX3_goOnBehindTest 64 = .ok (.bipush 13, 2) := by decide +kernel
theorem dX3_goOnBehindTest_66 : decode cX3_goOnBehindTest 66 = .ok (.if_icmp .eq 5, 3) := by decide +kernel
theorem dX3_goOnBehindTest_69 : decode cX3_goOnBehindTest 69 = .ok (.iconst 1, 1) := by decide +kernel
theorem dX3_goOnBehindTest_70 : decode cX3_goOnBehindTest 70 = .ok (.ireturn, 1) := by decide +kernel
theorem dX3_goOnBehindTest_71 : decode cX3_goOnBehindTest 71 = .ok (.aload_n 0, 1) := by decide +kernel
theorem dX3_goOnBehindTest_72 : decode cX3_goOnBehindTest 72 = .ok (.aload_n 0, 1) := by decide +kernel
theorem dX3_goOnBehindTest_73 : decode cX3_goOnBehindTest 73 = .ok (.getfield 34, 3) := by decide +kernel
theorem dX3_goOnBehindTest_76 : decode cX3_goOnBehindTest 76 = .ok (.iconst 1, 1) := by decide +kernel
theorem dX3_goOnBehindTest_77 : decode cX3_goOnBehindTest 77 = .ok (.if_icmp .le 8, 3) := by decide +kernel
theorem dX3_goOnBehindTest_80 : decode cX3_goOnBehindTest 80 = .ok (.bipush 6, 2) := by decide +kernel
theorem dX3_goOnBehindTest_82 : decode cX3_goOnBehindTest 82 = .ok (.goto 5, 3) := by decide +kernel
theorem dX3_goOnBehindTest_85 : decode cX3_goOnBehindTest 85 = .ok (.bipush 7, 2) := by decide +kernel
theorem dX3_goOnBehindTest_87 : decode cX3_goOnBehindTest 87 = .ok (.invokevirtual 127, 3) := by decide +kernel
theorem dX3_goOnBehindTest_90 : decode cX3_goOnBehindTest 90 = .ok (.pop, 1) := by decide +kernel
theorem dX3_goOnBehindTest_91 : decode cX3_goOnBehindTest 91 = .ok (.aload_n 0, 1) := by decide +kernel
theorem dX3_goOnBehindTest_92 : decode cX3_goOnBehindTest 92 = .ok (.getfield 40, 3) := by decide +kernel
theorem dX3_goOnBehindTest_95 : decode cX3_goOnBehindTest 95 = .ok (.bipush 7, 2) := by decide +kernel
theorem dX3_goOnBehindTest_97 : decode cX3_goOnBehindTest 97 = .ok (.if_icmp .ne 37, 3) := by decide +kernel
theorem dX3_goOnBehindTest_100 : decode cX3_goOnBehindTest 100 = .ok (.aload_n 0, 1) := by decide +kernel
theorem dX3_goOnBehindTest_101 : decode cX3_goOnBehindTest 101 = .ok (.getfield 27, 3) := by decide +kernel
theorem dX3_goOnBehindTest_104 : decode cX3_goOnBehindTest 104 = .ok (.bipush 16, 2) := by decide +kernel
theorem dX3_goOnBehindTest_106 : decode cX3_goOnBehindTest 106 = .ok (.if_icmp .ge 28, 3) := by decide +kernel
theorem dX3_goOnBehindTest_109 : decode cX3_goOnBehindTest 109 = .ok (.aload_n 0, 1) := by decide +kernel
theorem dX3_goOnBehindTest_110 : decode cX3_goOnBehindTest 110 = .ok (.dup, 1) := by decide +kernel
theorem dX3_goOnBehindTest_111 : decode cX3_goOnBehindTest 111 = .ok (.getfield 27, 3) := by decide +kernel
theorem dX3_goOnBehindTest_114 : decode cX3_goOnBehindTest 114 = .ok (.iconst 1, 1) := by decide +kernel
theorem dX3_goOnBehindTest_115 : decode cX3_goOnBehindTest 115 = .ok (.iadd, 1) := by decide +kernel
theorem dX3_goOnBehindTest_116 : decode cX3_goOnBehindTest 116 = .ok (.putfield 27, 3) := by decide +kernel
theorem dX3_goOnBehindTest_119 : decode cX3_goOnBehindTest 119 = .ok (.aload_n 0, 1) := by decide +kernel
theorem dX3_goOnBehindTest_120 : decode cX3_goOnBehindTest 120 = .ok (.getfield 15, 3) := by decide +kernel
theorem dX3_goOnBehindTest_123 : decode cX3_goOnBehindTest 123 = .ok (.iconst 2, 1) := by decide +kernel
theorem dX3_goOnBehindTest_124 : decode cX3_goOnBehindTest 124 = .ok (.aload_n 0, 1) := by decide +kernel
theorem dX3_goOnBehindTest_125 : decode cX3_goOnBehindTest 125 = .ok (.getfield 27, 3) := by decide +kernel
theorem dX3_goOnBehindTest_128 : decode cX3_goOnBehindTest 128 = .ok (.imul, 1) := by decide +kernel
theorem dX3_goOnBehindTest_129 : decode cX3_goOnBehindTest 129 = .ok (.aload_n 0, 1) := by decide +kernel
theorem dX3_goOnBehindTest_130 : decode cX3_goOnBehindTest 130 = .ok (.getfield 31, 3) := by decide +kernel
theorem dX3_goOnBehindTest_133 : decode cX3_goOnBehindTest 133 = .ok (.iastore, 1) := by decide +kernel
theorem dX3_goOnBehindTest_134 : decode cX3_goOnBehindTest 134 = .ok (.iconst 0, 1) := by decide +kernel
theorem dX3_goOnBehindTest_135 : decode cX3_goOnBehindTest 135 = .ok (.ireturn, 1) := by decide +kernel
def b3_goOnBehindTest_25 (rc : Nat → List Int32 → List Int64 → Mem → Option (Int32 × Mem)) (n : Nat) (s0 : Int32) (M : Mem) : Option (Int32 × Mem) :=
  chk (inb s0 16) <|
  bnd (f3_settle n (ranksL.getD s0.toNatClampNeg 0) M) fun r23 M24 =>
  bnd (f3_await n s0 (2 : Int32) M24) fun r26 M27 =>
  some (r26, M27)
def b3_goOnBehindTest_12 (rc : Nat → List Int32 → List Int64 → Mem → Option (Int32 × Mem)) (n : Nat) (i1 : Int32) (M : Mem) : Option (Int32 × Mem) :=
  (if i1 = (38 : Int32) then (
   b3_goOnBehindTest_25  rc n (11 : Int32) M)
  else (
   b3_goOnBehindTest_25  rc n (12 : Int32) M))
def b3_goOnBehindTest_134 (rc : Nat → List Int32 → List Int64 → Mem → Option (Int32 × Mem)) (n : Nat) (M : Mem) : Option (Int32 × Mem) :=
  some ((0 : Int32), M)
def b3_goOnBehindTest_87 (rc : Nat → List Int32 → List Int64 → Mem → Option (Int32 × Mem)) (n : Nat) (s1 : Int32) (M : Mem) : Option (Int32 × Mem) :=
  bnd (f3_close n s1 M) fun r13 M14 =>
  (if (M14.1 17 9) = (7 : Int32) then (
   (if (16 : Int32) ≤ (M14.1 17 5) then (
    b3_goOnBehindTest_134  rc n  M14)
   else (
    lt (wI M14 17 5 ((M14.1 17 5) + (1 : Int32))) fun M18 =>
    chk (inb ((2 : Int32) * (M18.1 17 5)) 33) <|
    lt (wI M18 19 ((2 : Int32) * (M18.1 17 5)).toNatClampNeg (M18.1 17 6)) fun M20 =>
    b3_goOnBehindTest_134  rc n  M20)))
  else (
   b3_goOnBehindTest_134  rc n  M14))
def b3_goOnBehindTest_0 (rc : Nat → List Int32 → List Int64 → Mem → Option (Int32 × Mem)) (n : Nat) (a1 : Int32) (M : Mem) : Option (Int32 × Mem) :=
  (if a1 = (38 : Int32) then (
   b3_goOnBehindTest_12  rc n a1 M)
  else (
   (if a1 = (124 : Int32) then (
    b3_goOnBehindTest_12  rc n a1 M)
   else (
    (if a1 = (41 : Int32) then (
     chk (inb (12 : Int32) 16) <|
     bnd (f3_settle n (ranksL.getD (12 : Int32).toNatClampNeg 0) M) fun r5 M6 =>
     bnd (f3_innermost n M6) fun r8 M9 =>
     (if r8 = (13 : Int32) then (
      (if (M9.1 17 7) ≤ (1 : Int32) then (
       b3_goOnBehindTest_87  rc n (7 : Int32) M9)
      else (
       b3_goOnBehindTest_87  rc n (6 : Int32) M9)))
     else (
      some ((1 : Int32), M9))))
    else (
     some ((1 : Int32), M)))))))
def f3_goOnBehindTest (n : Nat) (a1 : Int32) (M : Mem) : Option (Int32 × Mem) := b3_goOnBehindTest_0 (fun _ _ _ _ => none) n a1 M
abbrev rm3_goOnBehindTest : Room := { frames := 2, cells := 0, slots := 0, locals := 45 }
theorem y3_goOnBehindTest_w : yV RX3 yX3_goOnBehindTest cX3_goOnBehindTest 3 (some .int) 1 := ⟨g_658, gp 15 rfl rfl, g_7, g_659, rfl, by decide, by decide, by decide +kernel⟩
set_option maxHeartbeats 4000000 in
set_option maxRecDepth 100000 in
theorem w3_goOnBehindTest_25 {p : Program} {l : Launch} {e : Env} {s : State} {m : MethodId} {args : Array Value} {below : List Frame} {meth : Method} {c : Code} {z : Zt} {b : Nat}  (C : Cx p s m args c cX3_goOnBehindTest 3 RX3 z 339 b) (hr : meth.sig.returnType = (some .int)) (hk : meth.locks = false) {r : Int32} {M' : Mem} {rc : Nat → List Int32 → List Int64 → Mem → Option (Int32 × Mem)} {n : Nat}  {s0 : Int32} {M : Mem} {H : Heap} {locs : List Loc} {ls : Array Slot} (hf : b3_goOnBehindTest_25  rc n s0 M = some (r, M')) (hP : va_P z.1 vwCl (pw (xd z b) 339 b M) H) (hS : va_S (pA 339 b) s.heap H locs) (hl : lv_has ls 3 [(0, .ref (b + 17))]) : W p l e rm3_goOnBehindTest s m args below meth c H locs 0 0 (MQ below (va_Qi (fun (r' : Int32) (M2 : Mem) => r' = r ∧ M2 = M') (fun M2 t => va_P z.1 vwCl (pw (xd z b) 339 b M2) t.heap) (pA 339 b)) args s 0 0 (pA 339 b)) (F0 m 25 ls [.int s0]) := by
  have hx := C.1.1
  have hb := C.1.2.1
  unfold b3_goOnBehindTest_25 at hf
  refine lv_istore_n (lv' := [(2, .int s0), (0, .ref (b + 17))]) hx hb dX3_goOnBehindTest_25 rfl hl (by decide) rfl (fun ls hl => ?_)
  refine lv_aload_n hx hb dX3_goOnBehindTest_26 rfl (lv_at hl 1 rfl) ?_
  refine va_gets hx hb C.2.2.1 hS C.1.2.2.2.1 (C.1.2.2.2.2 _ g_630) (fun _ h => h) dX3_goOnBehindTest_27 ?_
  refine lv_iload_n hx hb dX3_goOnBehindTest_30 rfl (lv_at hl 0 rfl) ?_
  have h22 := chk_1 hf
  replace hf := chk_2 hf
  refine va_ti hx hb C.2.2.2.1 hS (inb_in h22) rfl dX3_goOnBehindTest_31 ?_
  obtain ⟨r23, M24, h25, hf⟩ := bnd_s hf
  refine pcVv (As := [.int (ranksL.getD s0.toNatClampNeg 0)]) C hP hS (k := 17) (Nat.le_of_ble_eq_true rfl) (xd_17 _ _) rfl (c3_settle  h25) y3_settle_w g_632 rfl rfl rfl ⟨Nat.le_of_ble_eq_true rfl, Nat.le_of_ble_eq_true rfl⟩ hl.1 rfl (Nat.le_of_ble_eq_true rfl) dX3_goOnBehindTest_32 ⟨Nat.le_of_ble_eq_true rfl, Nat.le_of_ble_eq_true rfl⟩ (fun H locs hP hS => ?_)
  refine lv_aload_n hx hb dX3_goOnBehindTest_35 rfl (lv_at hl 1 rfl) ?_
  refine lv_iload_n hx hb dX3_goOnBehindTest_36 rfl (lv_at hl 0 rfl) ?_
  refine lv_iconst (v := (2 : Int32)) hx hb dX3_goOnBehindTest_37 (by decide) ?_
  obtain ⟨r26, M27, h28, hf⟩ := bnd_s hf
  refine pcVi (As := [.int s0, .int (2 : Int32)]) C hP hS (k := 17) (Nat.le_of_ble_eq_true rfl) (xd_17 _ _) rfl (c3_await  h28) y3_await_w g_644 rfl rfl rfl ⟨Nat.le_of_ble_eq_true rfl, Nat.le_of_ble_eq_true rfl⟩ hl.1 rfl (Nat.le_of_ble_eq_true rfl) dX3_goOnBehindTest_38 ⟨Nat.le_of_ble_eq_true rfl, Nat.le_of_ble_eq_true rfl⟩ (fun H locs hP hS => ?_)
  exact prI C hr hk hP hS hf dX3_goOnBehindTest_41
set_option maxHeartbeats 4000000 in
set_option maxRecDepth 100000 in
theorem w3_goOnBehindTest_12 {p : Program} {l : Launch} {e : Env} {s : State} {m : MethodId} {args : Array Value} {below : List Frame} {meth : Method} {c : Code} {z : Zt} {b : Nat}  (C : Cx p s m args c cX3_goOnBehindTest 3 RX3 z 339 b) (hr : meth.sig.returnType = (some .int)) (hk : meth.locks = false) {r : Int32} {M' : Mem} {rc : Nat → List Int32 → List Int64 → Mem → Option (Int32 × Mem)} {n : Nat}  {i1 : Int32} {M : Mem} {H : Heap} {locs : List Loc} {ls : Array Slot} (hf : b3_goOnBehindTest_12  rc n i1 M = some (r, M')) (hP : va_P z.1 vwCl (pw (xd z b) 339 b M) H) (hS : va_S (pA 339 b) s.heap H locs) (hl : lv_has ls 3 [(0, .ref (b + 17)), (1, .int i1)]) : W p l e rm3_goOnBehindTest s m args below meth c H locs 0 0 (MQ below (va_Qi (fun (r' : Int32) (M2 : Mem) => r' = r ∧ M2 = M') (fun M2 t => va_P z.1 vwCl (pw (xd z b) 339 b M2) t.heap) (pA 339 b)) args s 0 0 (pA 339 b)) (F0 m 12 ls []) := by
  have hx := C.1.1
  have hb := C.1.2.1
  unfold b3_goOnBehindTest_12 at hf
  refine lv_iload_n hx hb dX3_goOnBehindTest_12 rfl (lv_at hl 1 rfl) ?_
  refine lv_bipush (v := (38 : Int32)) hx hb dX3_goOnBehindTest_13 (by decide) ?_
  refine lv_icmp_ne (tgt := 23) hx hb dX3_goOnBehindTest_15 (by decide) (fun c21 => ?_) (fun c21 => ?_)
  · replace hf := ite_f c21 hf
    refine lv_bipush (v := (12 : Int32)) hx hb dX3_goOnBehindTest_23 (by decide) ?_
    exact w3_goOnBehindTest_25 (n := n)  C hr hk  hf hP hS (lv_sub hl [0] rfl)
  · replace hf := ite_t c21 hf
    refine lv_bipush (v := (11 : Int32)) hx hb dX3_goOnBehindTest_18 (by decide) ?_
    refine lv_goto (tgt := 25) hx hb dX3_goOnBehindTest_20 (by decide) ?_
    exact w3_goOnBehindTest_25 (n := n)  C hr hk  hf hP hS (lv_sub hl [0] rfl)
set_option maxHeartbeats 4000000 in
set_option maxRecDepth 100000 in
theorem w3_goOnBehindTest_134 {p : Program} {l : Launch} {e : Env} {s : State} {m : MethodId} {args : Array Value} {below : List Frame} {meth : Method} {c : Code} {z : Zt} {b : Nat}  (C : Cx p s m args c cX3_goOnBehindTest 3 RX3 z 339 b) (hr : meth.sig.returnType = (some .int)) (hk : meth.locks = false) {r : Int32} {M' : Mem} {rc : Nat → List Int32 → List Int64 → Mem → Option (Int32 × Mem)} {n : Nat}   {M : Mem} {H : Heap} {locs : List Loc} {ls : Array Slot} (hf : b3_goOnBehindTest_134  rc n  M = some (r, M')) (hP : va_P z.1 vwCl (pw (xd z b) 339 b M) H) (hS : va_S (pA 339 b) s.heap H locs) (hl : lv_has ls 3 []) : W p l e rm3_goOnBehindTest s m args below meth c H locs 0 0 (MQ below (va_Qi (fun (r' : Int32) (M2 : Mem) => r' = r ∧ M2 = M') (fun M2 t => va_P z.1 vwCl (pw (xd z b) 339 b M2) t.heap) (pA 339 b)) args s 0 0 (pA 339 b)) (F0 m 134 ls []) := by
  have hx := C.1.1
  have hb := C.1.2.1
  unfold b3_goOnBehindTest_134 at hf
  refine lv_iconst (v := (0 : Int32)) hx hb dX3_goOnBehindTest_134 (by decide) ?_
  exact prI C hr hk hP hS hf dX3_goOnBehindTest_135
set_option maxHeartbeats 4000000 in
set_option maxRecDepth 100000 in
theorem w3_goOnBehindTest_87 {p : Program} {l : Launch} {e : Env} {s : State} {m : MethodId} {args : Array Value} {below : List Frame} {meth : Method} {c : Code} {z : Zt} {b : Nat}  (C : Cx p s m args c cX3_goOnBehindTest 3 RX3 z 339 b) (hr : meth.sig.returnType = (some .int)) (hk : meth.locks = false) {r : Int32} {M' : Mem} {rc : Nat → List Int32 → List Int64 → Mem → Option (Int32 × Mem)} {n : Nat}  {s1 : Int32} {M : Mem} {H : Heap} {locs : List Loc} {ls : Array Slot} (hf : b3_goOnBehindTest_87  rc n s1 M = some (r, M')) (hP : va_P z.1 vwCl (pw (xd z b) 339 b M) H) (hS : va_S (pA 339 b) s.heap H locs) (hl : lv_has ls 3 [(0, .ref (b + 17))]) : W p l e rm3_goOnBehindTest s m args below meth c H locs 0 0 (MQ below (va_Qi (fun (r' : Int32) (M2 : Mem) => r' = r ∧ M2 = M') (fun M2 t => va_P z.1 vwCl (pw (xd z b) 339 b M2) t.heap) (pA 339 b)) args s 0 0 (pA 339 b)) (F0 m 87 ls [.int s1, .ref (b + 17)]) := by
  have hx := C.1.1
  have hb := C.1.2.1
  unfold b3_goOnBehindTest_87 at hf
  obtain ⟨r13, M14, h15, hf⟩ := bnd_s hf
  refine pcVi (As := [.int s1]) C hP hS (k := 17) (Nat.le_of_ble_eq_true rfl) (xd_17 _ _) rfl (c3_close  h15) y3_close_w g_652 rfl rfl rfl ⟨Nat.le_of_ble_eq_true rfl, Nat.le_of_ble_eq_true rfl⟩ hl.1 rfl (Nat.le_of_ble_eq_true rfl) dX3_goOnBehindTest_87 ⟨Nat.le_of_ble_eq_true rfl, Nat.le_of_ble_eq_true rfl⟩ (fun H locs hP hS => ?_)
  refine lv_pop hx hb dX3_goOnBehindTest_90 rfl ?_
  refine lv_aload_n hx hb dX3_goOnBehindTest_91 rfl (lv_at hl 0 rfl) ?_
  refine pg C hP (k := 17) (j := 9) (Nat.le_of_ble_eq_true rfl) (xd_17 _ _) rfl iw_3 (Nat.le_of_ble_eq_true rfl) g_164 rfl rfl dX3_goOnBehindTest_92 ?_
  refine lv_bipush (v := (7 : Int32)) hx hb dX3_goOnBehindTest_95 (by decide) ?_
  refine lv_icmp_ne (tgt := 134) hx hb dX3_goOnBehindTest_97 (by decide) (fun c16 => ?_) (fun c16 => ?_)
  · replace hf := ite_f c16 hf
    exact w3_goOnBehindTest_134 (n := n)  C hr hk  hf hP hS (lv_sub hl [] rfl)
  · replace hf := ite_t c16 hf
    refine lv_aload_n hx hb dX3_goOnBehindTest_100 rfl (lv_at hl 0 rfl) ?_
    refine pg C hP (k := 17) (j := 5) (Nat.le_of_ble_eq_true rfl) (xd_17 _ _) rfl iw_3 (Nat.le_of_ble_eq_true rfl) g_159 rfl rfl dX3_goOnBehindTest_101 ?_
    refine lv_bipush (v := (16 : Int32)) hx hb dX3_goOnBehindTest_104 (by decide) ?_
    refine lv_icmp_ge (tgt := 134) hx hb dX3_goOnBehindTest_106 (by decide) (fun c17 => ?_) (fun c17 => ?_)
    · replace hf := ite_t c17 hf
      exact w3_goOnBehindTest_134 (n := n)  C hr hk  hf hP hS (lv_sub hl [] rfl)
    · replace hf := ite_f c17 hf
      refine lv_aload_n hx hb dX3_goOnBehindTest_109 rfl (lv_at hl 0 rfl) ?_
      refine lv_dup hx hb dX3_goOnBehindTest_110 rfl ?_
      refine pg C hP (k := 17) (j := 5) (Nat.le_of_ble_eq_true rfl) (xd_17 _ _) rfl iw_3 (Nat.le_of_ble_eq_true rfl) g_159 rfl rfl dX3_goOnBehindTest_111 ?_
      refine lv_iconst (v := (1 : Int32)) hx hb dX3_goOnBehindTest_114 (by decide) ?_
      refine lv_iadd hx hb dX3_goOnBehindTest_115 ?_
      refine ppI C hP hS (k := 17) (j := 5) (ty := .int) (Nat.le_of_ble_eq_true rfl) (xd_17 _ _) rfl iw_3 tyX3 tyX3_ok nmX3 (Nat.le_of_ble_eq_true rfl) g_159 rfl rfl (by decide +kernel) rfl rfl (Nat.le_of_ble_eq_true rfl) (xu_17_5 _ _ _) dX3_goOnBehindTest_116 (fun M18 H locs eM18 hP hS => ?_)
      replace hf := lt_c eM18 hf
      refine lv_aload_n hx hb dX3_goOnBehindTest_119 rfl (lv_at hl 0 rfl) ?_
      refine pg C hP (k := 17) (j := 1) (Nat.le_of_ble_eq_true rfl) (xd_17 _ _) rfl iw_3 (Nat.le_of_ble_eq_true rfl) g_153 rfl rfl dX3_goOnBehindTest_120 ?_
      refine lv_iconst (v := (2 : Int32)) hx hb dX3_goOnBehindTest_123 (by decide) ?_
      refine lv_aload_n hx hb dX3_goOnBehindTest_124 rfl (lv_at hl 0 rfl) ?_
      refine pg C hP (k := 17) (j := 5) (Nat.le_of_ble_eq_true rfl) (xd_17 _ _) rfl iw_3 (Nat.le_of_ble_eq_true rfl) g_159 rfl rfl dX3_goOnBehindTest_125 ?_
      refine lv_imul hx hb dX3_goOnBehindTest_128 ?_
      refine lv_aload_n hx hb dX3_goOnBehindTest_129 rfl (lv_at hl 0 rfl) ?_
      refine pg C hP (k := 17) (j := 6) (Nat.le_of_ble_eq_true rfl) (xd_17 _ _) rfl iw_3 (Nat.le_of_ble_eq_true rfl) g_161 rfl rfl dX3_goOnBehindTest_130 ?_
      have h19 := chk_1 hf
      replace hf := chk_2 hf
      refine psI C hP hS (k := 19) (Nat.le_of_ble_eq_true rfl) (xd_19) h19 dX3_goOnBehindTest_133 (fun M20 H locs eM20 hP hS => ?_)
      replace hf := lt_c eM20 hf
      exact w3_goOnBehindTest_134 (n := n)  C hr hk  hf hP hS (lv_sub hl [] rfl)
set_option maxHeartbeats 4000000 in
set_option maxRecDepth 100000 in
theorem w3_goOnBehindTest_0 {p : Program} {l : Launch} {e : Env} {s : State} {m : MethodId} {args : Array Value} {below : List Frame} {meth : Method} {c : Code} {z : Zt} {b : Nat}  (C : Cx p s m args c cX3_goOnBehindTest 3 RX3 z 339 b) (hr : meth.sig.returnType = (some .int)) (hk : meth.locks = false) {r : Int32} {M' : Mem} {rc : Nat → List Int32 → List Int64 → Mem → Option (Int32 × Mem)} {n : Nat}  {a1 : Int32} {M : Mem} {H : Heap} {locs : List Loc} {ls : Array Slot} (hf : b3_goOnBehindTest_0  rc n a1 M = some (r, M')) (hP : va_P z.1 vwCl (pw (xd z b) 339 b M) H) (hS : va_S (pA 339 b) s.heap H locs) (hl : lv_has ls 3 [(0, .ref (b + 17)), (1, .int a1)]) : W p l e rm3_goOnBehindTest s m args below meth c H locs 0 0 (MQ below (va_Qi (fun (r' : Int32) (M2 : Mem) => r' = r ∧ M2 = M') (fun M2 t => va_P z.1 vwCl (pw (xd z b) 339 b M2) t.heap) (pA 339 b)) args s 0 0 (pA 339 b)) (F0 m 0 ls []) := by
  have hx := C.1.1
  have hb := C.1.2.1
  unfold b3_goOnBehindTest_0 at hf
  refine lv_iload_n hx hb dX3_goOnBehindTest_0 rfl (lv_at hl 1 rfl) ?_
  refine lv_bipush (v := (38 : Int32)) hx hb dX3_goOnBehindTest_1 (by decide) ?_
  refine lv_icmp_eq (tgt := 12) hx hb dX3_goOnBehindTest_3 (by decide) (fun c1 => ?_) (fun c1 => ?_)
  · replace hf := ite_t c1 hf
    exact w3_goOnBehindTest_12 (n := n)  C hr hk  hf hP hS (lv_sub hl [0, 1] rfl)
  · replace hf := ite_f c1 hf
    refine lv_iload_n hx hb dX3_goOnBehindTest_6 rfl (lv_at hl 1 rfl) ?_
    refine lv_bipush (v := (124 : Int32)) hx hb dX3_goOnBehindTest_7 (by decide) ?_
    refine lv_icmp_ne (tgt := 42) hx hb dX3_goOnBehindTest_9 (by decide) (fun c2 => ?_) (fun c2 => ?_)
    · replace hf := ite_f c2 hf
      refine lv_iload_n hx hb dX3_goOnBehindTest_42 rfl (lv_at hl 1 rfl) ?_
      refine lv_bipush (v := (41 : Int32)) hx hb dX3_goOnBehindTest_43 (by decide) ?_
      refine lv_icmp_eq (tgt := 50) hx hb dX3_goOnBehindTest_45 (by decide) (fun c3 => ?_) (fun c3 => ?_)
      · replace hf := ite_t c3 hf
        refine lv_aload_n hx hb dX3_goOnBehindTest_50 rfl (lv_at hl 0 rfl) ?_
        refine va_gets hx hb C.2.2.1 hS C.1.2.2.2.1 (C.1.2.2.2.2 _ g_630) (fun _ h => h) dX3_goOnBehindTest_51 ?_
        refine lv_bipush (v := (12 : Int32)) hx hb dX3_goOnBehindTest_54 (by decide) ?_
        have h4 := chk_1 hf
        replace hf := chk_2 hf
        refine va_ti hx hb C.2.2.2.1 hS (inb_in h4) rfl dX3_goOnBehindTest_56 ?_
        obtain ⟨r5, M6, h7, hf⟩ := bnd_s hf
        refine pcVv (As := [.int (ranksL.getD (12 : Int32).toNatClampNeg 0)]) C hP hS (k := 17) (Nat.le_of_ble_eq_true rfl) (xd_17 _ _) rfl (c3_settle  h7) y3_settle_w g_632 rfl rfl rfl ⟨Nat.le_of_ble_eq_true rfl, Nat.le_of_ble_eq_true rfl⟩ hl.1 rfl (Nat.le_of_ble_eq_true rfl) dX3_goOnBehindTest_57 ⟨Nat.le_of_ble_eq_true rfl, Nat.le_of_ble_eq_true rfl⟩ (fun H locs hP hS => ?_)
        refine lv_aload_n hx hb dX3_goOnBehindTest_60 rfl (lv_at hl 0 rfl) ?_
        obtain ⟨r8, M9, h10, hf⟩ := bnd_s hf
        refine pcVi (As := []) C hP hS (k := 17) (Nat.le_of_ble_eq_true rfl) (xd_17 _ _) rfl (c3_innermost  h10) y3_innermost_w g_636 rfl rfl rfl ⟨Nat.le_of_ble_eq_true rfl, Nat.le_of_ble_eq_true rfl⟩ hl.1 rfl (Nat.le_of_ble_eq_true rfl) dX3_goOnBehindTest_61 ⟨Nat.le_of_ble_eq_true rfl, Nat.le_of_ble_eq_true rfl⟩ (fun H locs hP hS => ?_)
        refine lv_bipush (v := (13 : Int32)) hx hb dX3_goOnBehindTest_64 (by decide) ?_
        refine lv_icmp_eq (tgt := 71) hx hb dX3_goOnBehindTest_66 (by decide) (fun c11 => ?_) (fun c11 => ?_)
        · replace hf := ite_t c11 hf
          refine lv_aload_n hx hb dX3_goOnBehindTest_71 rfl (lv_at hl 0 rfl) ?_
          refine lv_aload_n hx hb dX3_goOnBehindTest_72 rfl (lv_at hl 0 rfl) ?_
          refine pg C hP (k := 17) (j := 7) (Nat.le_of_ble_eq_true rfl) (xd_17 _ _) rfl iw_3 (Nat.le_of_ble_eq_true rfl) g_162 rfl rfl dX3_goOnBehindTest_73 ?_
          refine lv_iconst (v := (1 : Int32)) hx hb dX3_goOnBehindTest_76 (by decide) ?_
          refine lv_icmp_le (tgt := 85) hx hb dX3_goOnBehindTest_77 (by decide) (fun c12 => ?_) (fun c12 => ?_)
          · replace hf := ite_t c12 hf
            refine lv_bipush (v := (7 : Int32)) hx hb dX3_goOnBehindTest_85 (by decide) ?_
            exact w3_goOnBehindTest_87 (n := n)  C hr hk  hf hP hS (lv_sub hl [0] rfl)
          · replace hf := ite_f c12 hf
            refine lv_bipush (v := (6 : Int32)) hx hb dX3_goOnBehindTest_80 (by decide) ?_
            refine lv_goto (tgt := 87) hx hb dX3_goOnBehindTest_82 (by decide) ?_
            exact w3_goOnBehindTest_87 (n := n)  C hr hk  hf hP hS (lv_sub hl [0] rfl)
        · replace hf := ite_f c11 hf
          refine lv_iconst (v := (1 : Int32)) hx hb dX3_goOnBehindTest_69 (by decide) ?_
          exact prI C hr hk hP hS hf dX3_goOnBehindTest_70
      · replace hf := ite_f c3 hf
        refine lv_iconst (v := (1 : Int32)) hx hb dX3_goOnBehindTest_48 (by decide) ?_
        exact prI C hr hk hP hS hf dX3_goOnBehindTest_49
    · replace hf := ite_t c2 hf
      exact w3_goOnBehindTest_12 (n := n)  C hr hk  hf hP hS (lv_sub hl [0, 1] rfl)
theorem c3_goOnBehindTest {l : Launch} {z : Zt} {b n : Nat}  {a1 : Int32} {M M' : Mem} {r : Int32} (hf : f3_goOnBehindTest n  a1 M = some (r, M')) : CI l z (xd z b) 339 b yX3_goOnBehindTest cX3_goOnBehindTest 3 (some .int) rm3_goOnBehindTest [.ref (b + 17), .int a1] M M' r :=
  CI.ofW (lv := [(0, .ref (b + 17)), (1, .int a1)]) (by decide) (Nat.le_of_ble_eq_true rfl) rfl (fun p e s m args below meth c ls C hr hk hP hS hl => w3_goOnBehindTest_0 (n := n)  C hr hk  hf hP hS hl)

-- BronzeKing$LawReader.endRule(I)I
theorem dX3_endRule_0 : decode cX3_endRule 0 = .ok (.iload_n 1, 1) := by decide +kernel
theorem dX3_endRule_1 : decode cX3_endRule 1 = .ok (.bipush 59, 2) := by decide +kernel
theorem dX3_endRule_3 : decode cX3_endRule 3 = .ok (.if_icmp .eq 5, 3) := by decide +kernel
theorem dX3_endRule_6 : decode cX3_endRule 6 = .ok (.iconst 1, 1) := by decide +kernel
theorem dX3_endRule_7 : decode cX3_endRule 7 = .ok (.ireturn, 1) := by decide +kernel
theorem dX3_endRule_8 : decode cX3_endRule 8 = .ok (.aload_n 0, 1) := by decide +kernel
theorem dX3_endRule_9 : decode cX3_endRule 9 = .ok (.iconst 0, 1) := by decide +kernel
theorem dX3_endRule_10 : decode cX3_endRule 10 = .ok (.putfield 40, 3) := by decide +kernel
theorem dX3_endRule_13 : decode cX3_endRule 13 = .ok (.iconst 0, 1) := by decide +kernel
theorem dX3_endRule_14 : decode cX3_endRule 14 = .ok (.ireturn, 1) := by decide +kernel
def b3_endRule_0 (rc : Nat → List Int32 → List Int64 → Mem → Option (Int32 × Mem)) (n : Nat) (a1 : Int32) (M : Mem) : Option (Int32 × Mem) :=
  (if a1 = (59 : Int32) then (
   lt (wI M 17 9 (0 : Int32)) fun M2 =>
   some ((0 : Int32), M2))
  else (
   some ((1 : Int32), M)))
def f3_endRule (n : Nat) (a1 : Int32) (M : Mem) : Option (Int32 × Mem) := b3_endRule_0 (fun _ _ _ _ => none) n a1 M
abbrev rm3_endRule : Room := { frames := 0, cells := 0, slots := 0, locals := 0 }
theorem y3_endRule_w : yV RX3 yX3_endRule cX3_endRule 2 (some .int) 1 := ⟨g_662, gp 16 rfl rfl, g_7, g_663, rfl, by decide, by decide, by decide +kernel⟩
set_option maxHeartbeats 4000000 in
set_option maxRecDepth 100000 in
theorem w3_endRule_0 {p : Program} {l : Launch} {e : Env} {s : State} {m : MethodId} {args : Array Value} {below : List Frame} {meth : Method} {c : Code} {z : Zt} {b : Nat}  (C : Cx p s m args c cX3_endRule 2 RX3 z 339 b) (hr : meth.sig.returnType = (some .int)) (hk : meth.locks = false) {r : Int32} {M' : Mem} {rc : Nat → List Int32 → List Int64 → Mem → Option (Int32 × Mem)} {n : Nat}  {a1 : Int32} {M : Mem} {H : Heap} {locs : List Loc} {ls : Array Slot} (hf : b3_endRule_0  rc n a1 M = some (r, M')) (hP : va_P z.1 vwCl (pw (xd z b) 339 b M) H) (hS : va_S (pA 339 b) s.heap H locs) (hl : lv_has ls 2 [(0, .ref (b + 17)), (1, .int a1)]) : W p l e rm3_endRule s m args below meth c H locs 0 0 (MQ below (va_Qi (fun (r' : Int32) (M2 : Mem) => r' = r ∧ M2 = M') (fun M2 t => va_P z.1 vwCl (pw (xd z b) 339 b M2) t.heap) (pA 339 b)) args s 0 0 (pA 339 b)) (F0 m 0 ls []) := by
  have hx := C.1.1
  have hb := C.1.2.1
  unfold b3_endRule_0 at hf
  refine lv_iload_n hx hb dX3_endRule_0 rfl (lv_at hl 1 rfl) ?_
  refine lv_bipush (v := (59 : Int32)) hx hb dX3_endRule_1 (by decide) ?_
  refine lv_icmp_eq (tgt := 8) hx hb dX3_endRule_3 (by decide) (fun c1 => ?_) (fun c1 => ?_)
  · replace hf := ite_t c1 hf
    refine lv_aload_n hx hb dX3_endRule_8 rfl (lv_at hl 0 rfl) ?_
    refine lv_iconst (v := (0 : Int32)) hx hb dX3_endRule_9 (by decide) ?_
    refine ppI C hP hS (k := 17) (j := 9) (ty := .int) (Nat.le_of_ble_eq_true rfl) (xd_17 _ _) rfl iw_3 tyX3 tyX3_ok nmX3 (Nat.le_of_ble_eq_true rfl) g_164 rfl rfl (by decide +kernel) rfl rfl (Nat.le_of_ble_eq_true rfl) (xu_17_9 _ _ _) dX3_endRule_10 (fun M2 H locs eM2 hP hS => ?_)
    replace hf := lt_c eM2 hf
    refine lv_iconst (v := (0 : Int32)) hx hb dX3_endRule_13 (by decide) ?_
    exact prI C hr hk hP hS hf dX3_endRule_14
  · replace hf := ite_f c1 hf
    refine lv_iconst (v := (1 : Int32)) hx hb dX3_endRule_6 (by decide) ?_
    exact prI C hr hk hP hS hf dX3_endRule_7
theorem c3_endRule {l : Launch} {z : Zt} {b n : Nat}  {a1 : Int32} {M M' : Mem} {r : Int32} (hf : f3_endRule n  a1 M = some (r, M')) : CI l z (xd z b) 339 b yX3_endRule cX3_endRule 2 (some .int) rm3_endRule [.ref (b + 17), .int a1] M M' r :=
  CI.ofW (lv := [(0, .ref (b + 17)), (1, .int a1)]) (by decide) (Nat.le_of_ble_eq_true rfl) rfl (fun p e s m args below meth c ls C hr hk hP hS hl => w3_endRule_0 (n := n)  C hr hk  hf hP hS hl)

-- BronzeKing.faultAt(II)I
theorem dX11_faultAt_0 : decode cX11_faultAt 0 = .ok (.sipush (-1000), 3) := by decide +kernel
theorem dX11_faultAt_3 : decode cX11_faultAt 3 = .ok (.iload_n 0, 1) := by decide +kernel
theorem dX11_faultAt_4 : decode cX11_faultAt 4 = .ok (.imul, 1) := by decide +kernel
theorem dX11_faultAt_5 : decode cX11_faultAt 5 = .ok (.iload_n 1, 1) := by decide +kernel
theorem dX11_faultAt_6 : decode cX11_faultAt 6 = .ok (.isub, 1) := by decide +kernel
theorem dX11_faultAt_7 : decode cX11_faultAt 7 = .ok (.ireturn, 1) := by decide +kernel
def b11_faultAt_0 (rc : Nat → List Int32 → List Int64 → Mem → Option (Int32 × Mem)) (n : Nat) (a0 : Int32) (a1 : Int32) (M : Mem) : Option (Int32 × Mem) :=
  some ((((-1000 : Int32) * a0) - a1), M)
def f11_faultAt (n : Nat) (a0 : Int32) (a1 : Int32) (M : Mem) : Option (Int32 × Mem) := b11_faultAt_0 (fun _ _ _ _ => none) n a0 a1 M
abbrev rm11_faultAt : Room := { frames := 0, cells := 0, slots := 0, locals := 0 }
theorem y11_faultAt_w : yS yX11_faultAt cX11_faultAt 2 (some .int) 2 := ⟨g_665, g_1, g_666, by decide, by decide, by decide +kernel⟩
set_option maxHeartbeats 4000000 in
set_option maxRecDepth 100000 in
theorem w11_faultAt_0 {p : Program} {l : Launch} {e : Env} {s : State} {m : MethodId} {args : Array Value} {below : List Frame} {meth : Method} {c : Code} {z : Zt} {b : Nat}  (C : Cx p s m args c cX11_faultAt 2 RX11 z 339 b) (hr : meth.sig.returnType = (some .int)) (hk : meth.locks = false) {r : Int32} {M' : Mem} {rc : Nat → List Int32 → List Int64 → Mem → Option (Int32 × Mem)} {n : Nat}  {a0 : Int32} {a1 : Int32} {M : Mem} {H : Heap} {locs : List Loc} {ls : Array Slot} (hf : b11_faultAt_0  rc n a0 a1 M = some (r, M')) (hP : va_P z.1 vwCl (pw (xd z b) 339 b M) H) (hS : va_S (pA 339 b) s.heap H locs) (hl : lv_has ls 2 [(0, .int a0), (1, .int a1)]) : W p l e rm11_faultAt s m args below meth c H locs 0 0 (MQ below (va_Qi (fun (r' : Int32) (M2 : Mem) => r' = r ∧ M2 = M') (fun M2 t => va_P z.1 vwCl (pw (xd z b) 339 b M2) t.heap) (pA 339 b)) args s 0 0 (pA 339 b)) (F0 m 0 ls []) := by
  have hx := C.1.1
  have hb := C.1.2.1
  unfold b11_faultAt_0 at hf
  refine lv_sipush (v := (-1000 : Int32)) hx hb dX11_faultAt_0 (by decide) ?_
  refine lv_iload_n hx hb dX11_faultAt_3 rfl (lv_at hl 0 rfl) ?_
  refine lv_imul hx hb dX11_faultAt_4 ?_
  refine lv_iload_n hx hb dX11_faultAt_5 rfl (lv_at hl 1 rfl) ?_
  refine lv_isub hx hb dX11_faultAt_6 ?_
  exact prI C hr hk hP hS hf dX11_faultAt_7
theorem c11_faultAt {l : Launch} {z : Zt} {b n : Nat}  {a0 : Int32} {a1 : Int32} {M M' : Mem} {r : Int32} (hf : f11_faultAt n  a0 a1 M = some (r, M')) : CI l z (xd z b) 339 b yX11_faultAt cX11_faultAt 2 (some .int) rm11_faultAt [.int a0, .int a1] M M' r :=
  CI.ofW (lv := [(0, .int a0), (1, .int a1)]) (by decide) (Nat.le_of_ble_eq_true rfl) rfl (fun p e s m args below meth c ls C hr hk hP hS hl => w11_faultAt_0 (n := n)  C hr hk  hf hP hS hl)

-- BronzeKing$PlaceSet.drop(I)V
theorem dX4_drop_0 : decode cX4_drop 0 = .ok (.iload_n 1, 1) := by decide +kernel
theorem dX4_drop_1 : decode cX4_drop 1 = .ok (.bipush 48, 2) := by decide +kernel
theorem dX4_drop_3 : decode cX4_drop 3 = .ok (.if_icmp .ge 22, 3) := by decide +kernel
theorem dX4_drop_6 : decode cX4_drop 6 = .ok (.aload_n 0, 1) := by decide +kernel
theorem dX4_drop_7 : decode cX4_drop 7 = .ok (.dup, 1) := by decide +kernel
theorem dX4_drop_8 : decode cX4_drop 8 = .ok (.getfield 9, 3) := by decide +kernel
theorem dX4_drop_11 : decode cX4_drop 11 = .ok (.lconst 1, 1) := by decide +kernel
theorem dX4_drop_12 : decode cX4_drop 12 = .ok (.iload_n 1, 1) := by decide +kernel
theorem dX4_drop_13 : decode cX4_drop 13 = .ok (.lshl, 1) := by decide +kernel
theorem dX4_drop_14 : decode cX4_drop 14 = .ok (.ldc2_w 18, 3) := by decide +kernel
theorem dX4_drop_17 : decode cX4_drop 17 = .ok (.lxor, 1) := by decide +kernel
theorem dX4_drop_18 : decode cX4_drop 18 = .ok (.land, 1) := by decide +kernel
theorem dX4_drop_19 : decode cX4_drop 19 = .ok (.putfield 9, 3) := by decide +kernel
theorem dX4_drop_22 : decode cX4_drop 22 = .ok (.goto 22, 3) := by decide +kernel
theorem dX4_drop_25 : decode cX4_drop 25 = .ok (.aload_n 0, 1) := by decide +kernel
theorem dX4_drop_26 : decode cX4_drop 26 = .ok (.dup, 1) := by decide +kernel
theorem dX4_drop_27 : decode cX4_drop 27 = .ok (.getfield 15, 3) := by decide +kernel
theorem dX4_drop_30 : decode cX4_drop 30 = .ok (.lconst 1, 1) := by decide +kernel
theorem dX4_drop_31 : decode cX4_drop 31 = .ok (.iload_n 1, 1) := by decide +kernel
theorem dX4_drop_32 : decode cX4_drop 32 = .ok (.bipush 48, 2) := by decide +kernel
theorem dX4_drop_34 : decode cX4_drop 34 = .ok (.isub, 1) := by decide +kernel
theorem dX4_drop_35 : decode cX4_drop 35 = .ok (.lshl, 1) := by decide +kernel
theorem dX4_drop_36 : decode cX4_drop 36 = .ok (.ldc2_w 18, 3) := by decide +kernel
theorem dX4_drop_39 : decode cX4_drop 39 = .ok (.lxor, 1) := by decide +kernel
theorem dX4_drop_40 : decode cX4_drop 40 = .ok (.land, 1) := by decide +kernel
theorem dX4_drop_41 : decode cX4_drop 41 = .ok (.putfield 15, 3) := by decide +kernel
theorem dX4_drop_44 : decode cX4_drop 44 = .ok (.return_, 1) := by decide +kernel
def b4_drop_0 (k0 : Nat) (rc : Nat → List Int32 → List Int64 → Mem → Option (Unit × Mem)) (n : Nat) (a1 : Int32) (M : Mem) : Option (Unit × Mem) :=
  (if (48 : Int32) ≤ a1 then (
   lt (wJ M k0 1 ((M.2 k0 1) &&& (((1 : Int64) <<< ((a1 - (48 : Int32)).toInt64 &&& 63)) ^^^ (-1 : Int64)))) fun M2 =>
   some ((), M2))
  else (
   lt (wJ M k0 0 ((M.2 k0 0) &&& (((1 : Int64) <<< (a1.toInt64 &&& 63)) ^^^ (-1 : Int64)))) fun M3 =>
   some ((), M3)))
def f4_drop (n : Nat) (k0 : Nat) (a1 : Int32) (M : Mem) : Option (Unit × Mem) := b4_drop_0 k0 (fun _ _ _ _ => none) n a1 M
abbrev rm4_drop : Room := { frames := 0, cells := 0, slots := 0, locals := 0 }
theorem y4_drop_w : yV RX4 yX4_drop cX4_drop 2 none 1 := ⟨g_1095, g_1096, g_4, g_1097, rfl, by decide, by decide, by decide +kernel⟩
set_option maxHeartbeats 4000000 in
set_option maxRecDepth 100000 in
theorem w4_drop_0 {p : Program} {l : Launch} {e : Env} {s : State} {m : MethodId} {args : Array Value} {below : List Frame} {meth : Method} {c : Code} {z : Zt} {b : Nat} {k0 : Nat} (hk0 : isPS k0 = true) (C : Cx p s m args c cX4_drop 2 RX4 z 339 b) (hr : meth.sig.returnType = none) (hk : meth.locks = false) {r : Unit} {M' : Mem} {rc : Nat → List Int32 → List Int64 → Mem → Option (Unit × Mem)} {n : Nat}  {a1 : Int32} {M : Mem} {H : Heap} {locs : List Loc} {ls : Array Slot} (hf : b4_drop_0 k0 rc n a1 M = some (r, M')) (hP : va_P z.1 vwCl (pw (xd z b) 339 b M) H) (hS : va_S (pA 339 b) s.heap H locs) (hl : lv_has ls 2 [(0, .ref (b + k0)), (1, .int a1)]) : W p l e rm4_drop s m args below meth c H locs 0 0 (MQ below (va_Qv (fun (M2 : Mem) => M2 = M') (fun M2 t => va_P z.1 vwCl (pw (xd z b) 339 b M2) t.heap) (pA 339 b)) args s 0 0 (pA 339 b)) (F0 m 0 ls []) := by
  have hx := C.1.1
  have hb := C.1.2.1
  unfold b4_drop_0 at hf
  refine lv_iload_n hx hb dX4_drop_0 rfl (lv_at hl 1 rfl) ?_
  refine lv_bipush (v := (48 : Int32)) hx hb dX4_drop_1 (by decide) ?_
  refine lv_icmp_ge (tgt := 25) hx hb dX4_drop_3 (by decide) (fun c1 => ?_) (fun c1 => ?_)
  · replace hf := ite_t c1 hf
    refine lv_aload_n hx hb dX4_drop_25 rfl (lv_at hl 0 rfl) ?_
    refine lv_dup hx hb dX4_drop_26 rfl ?_
    refine pg C hP (k := k0) (j := 1) (ps_lt hk0) ((ps_d hk0) _ _) rfl iw_4 (Nat.le_of_ble_eq_true rfl) g_61 rfl rfl dX4_drop_27 ?_
    refine lv_lconst (v := (1 : Int64)) hx hb dX4_drop_30 (by decide) ?_
    refine lv_iload_n hx hb dX4_drop_31 rfl (lv_at hl 1 rfl) ?_
    refine lv_bipush (v := (48 : Int32)) hx hb dX4_drop_32 (by decide) ?_
    refine lv_isub hx hb dX4_drop_34 ?_
    refine lv_lshl hx hb dX4_drop_35 rfl ?_
    refine lv_ldc2 hx hb C.1.2.2.2.1 (C.1.2.2.2.2 _ g_965) dX4_drop_36 ?_
    refine lv_lxor hx hb dX4_drop_39 ?_
    refine lv_land hx hb dX4_drop_40 ?_
    refine ppJ C hP hS (k := k0) (j := 1) (ty := .long) (ps_lt hk0) ((ps_d hk0) _ _) rfl iw_4 tyX4 tyX4_ok nmX4 (Nat.le_of_ble_eq_true rfl) g_61 rfl rfl (by decide +kernel) rfl rfl (Nat.le_of_ble_eq_true rfl) (xu_ps_1 hk0 _ _ _) dX4_drop_41 (fun M2 H locs eM2 hP hS => ?_)
    replace hf := lt_c eM2 hf
    exact prV C hr hk hP hS hf dX4_drop_44
  · replace hf := ite_f c1 hf
    refine lv_aload_n hx hb dX4_drop_6 rfl (lv_at hl 0 rfl) ?_
    refine lv_dup hx hb dX4_drop_7 rfl ?_
    refine pg C hP (k := k0) (j := 0) (ps_lt hk0) ((ps_d hk0) _ _) rfl iw_4 (Nat.le_of_ble_eq_true rfl) g_60 rfl rfl dX4_drop_8 ?_
    refine lv_lconst (v := (1 : Int64)) hx hb dX4_drop_11 (by decide) ?_
    refine lv_iload_n hx hb dX4_drop_12 rfl (lv_at hl 1 rfl) ?_
    refine lv_lshl hx hb dX4_drop_13 rfl ?_
    refine lv_ldc2 hx hb C.1.2.2.2.1 (C.1.2.2.2.2 _ g_965) dX4_drop_14 ?_
    refine lv_lxor hx hb dX4_drop_17 ?_
    refine lv_land hx hb dX4_drop_18 ?_
    refine ppJ C hP hS (k := k0) (j := 0) (ty := .long) (ps_lt hk0) ((ps_d hk0) _ _) rfl iw_4 tyX4 tyX4_ok nmX4 (Nat.le_of_ble_eq_true rfl) g_60 rfl rfl (by decide +kernel) rfl rfl (Nat.le_of_ble_eq_true rfl) (xu_ps_0 hk0 _ _ _) dX4_drop_19 (fun M3 H locs eM3 hP hS => ?_)
    replace hf := lt_c eM3 hf
    refine lv_goto (tgt := 44) hx hb dX4_drop_22 (by decide) ?_
    exact prV C hr hk hP hS hf dX4_drop_44
theorem c4_drop {l : Launch} {z : Zt} {b n : Nat} {k0 : Nat} (hk0 : isPS k0 = true) {a1 : Int32} {M M' : Mem} {r : Unit} (hf : f4_drop n k0 a1 M = some (r, M')) : CV l z (xd z b) 339 b yX4_drop cX4_drop 2 none rm4_drop [.ref (b + k0), .int a1] M M' :=
  CV.ofW (lv := [(0, .ref (b + k0)), (1, .int a1)]) (by decide) (Nat.le_of_ble_eq_true rfl) rfl (fun p e s m args below meth c ls C hr hk hP hS hl => w4_drop_0 (n := n) hk0 C hr hk  hf hP hS hl)

-- BronzeKing$PlaceSet.meet(LBronzeKing$PlaceSet;)V
theorem dX4_meet_0 : decode cX4_meet 0 = .ok (.aload_n 0, 1) := by decide +kernel
theorem dX4_meet_1 : decode cX4_meet 1 = .ok (.dup, 1) := by decide +kernel
theorem dX4_meet_2 : decode cX4_meet 2 = .ok (.getfield 9, 3) := by decide +kernel
theorem dX4_meet_5 : decode cX4_meet 5 = .ok (.aload_n 1, 1) := by decide +kernel
theorem dX4_meet_6 : decode cX4_meet 6 = .ok (.getfield 9, 3) := by decide +kernel
theorem dX4_meet_9 : decode cX4_meet 9 = .ok (.land, 1) := by decide +kernel
theorem dX4_meet_10 : decode cX4_meet 10 = .ok (.putfield 9, 3) := by decide +kernel
theorem dX4_meet_13 : decode cX4_meet 13 = .ok (.aload_n 0, 1) := by decide +kernel
theorem dX4_meet_14 : decode cX4_meet 14 = .ok (.dup, 1) := by decide +kernel
theorem dX4_meet_15 : decode cX4_meet 15 = .ok (.getfield 15, 3) := by decide +kernel
theorem dX4_meet_18 : decode cX4_meet 18 = .ok (.aload_n 1, 1) := by decide +kernel
theorem dX4_meet_19 : decode cX4_meet 19 = .ok (.getfield 15, 3) := by decide +kernel
theorem dX4_meet_22 : decode cX4_meet 22 = .ok (.land, 1) := by decide +kernel
theorem dX4_meet_23 : decode cX4_meet 23 = .ok (.putfield 15, 3) := by decide +kernel
theorem dX4_meet_26 : decode cX4_meet 26 = .ok (.return_, 1) := by decide +kernel
def b4_meet_0 (k0 : Nat) (k1 : Nat) (rc : Nat → List Int32 → List Int64 → Mem → Option (Unit × Mem)) (n : Nat) (M : Mem) : Option (Unit × Mem) :=
  lt (wJ M k0 0 ((M.2 k0 0) &&& (M.2 k1 0))) fun M1 =>
  lt (wJ M1 k0 1 ((M1.2 k0 1) &&& (M1.2 k1 1))) fun M2 =>
  some ((), M2)
def f4_meet (n : Nat) (k0 : Nat) (k1 : Nat) (M : Mem) : Option (Unit × Mem) := b4_meet_0 k0 k1 (fun _ _ _ _ => none) n M
abbrev rm4_meet : Room := { frames := 0, cells := 0, slots := 0, locals := 0 }
theorem y4_meet_w : yV RX4 yX4_meet cX4_meet 2 none 1 := ⟨g_1025, g_1026, g_4, g_1027, rfl, by decide, by decide, by decide +kernel⟩
set_option maxHeartbeats 4000000 in
set_option maxRecDepth 100000 in
theorem w4_meet_0 {p : Program} {l : Launch} {e : Env} {s : State} {m : MethodId} {args : Array Value} {below : List Frame} {meth : Method} {c : Code} {z : Zt} {b : Nat} {k0 : Nat} (hk0 : isPS k0 = true) {k1 : Nat} (hk1 : isPS k1 = true) (C : Cx p s m args c cX4_meet 2 RX4 z 339 b) (hr : meth.sig.returnType = none) (hk : meth.locks = false) {r : Unit} {M' : Mem} {rc : Nat → List Int32 → List Int64 → Mem → Option (Unit × Mem)} {n : Nat}   {M : Mem} {H : Heap} {locs : List Loc} {ls : Array Slot} (hf : b4_meet_0 k0 k1 rc n  M = some (r, M')) (hP : va_P z.1 vwCl (pw (xd z b) 339 b M) H) (hS : va_S (pA 339 b) s.heap H locs) (hl : lv_has ls 2 [(0, .ref (b + k0)), (1, .ref (b + k1))]) : W p l e rm4_meet s m args below meth c H locs 0 0 (MQ below (va_Qv (fun (M2 : Mem) => M2 = M') (fun M2 t => va_P z.1 vwCl (pw (xd z b) 339 b M2) t.heap) (pA 339 b)) args s 0 0 (pA 339 b)) (F0 m 0 ls []) := by
  have hx := C.1.1
  have hb := C.1.2.1
  unfold b4_meet_0 at hf
  refine lv_aload_n hx hb dX4_meet_0 rfl (lv_at hl 0 rfl) ?_
  refine lv_dup hx hb dX4_meet_1 rfl ?_
  refine pg C hP (k := k0) (j := 0) (ps_lt hk0) ((ps_d hk0) _ _) rfl iw_4 (Nat.le_of_ble_eq_true rfl) g_60 rfl rfl dX4_meet_2 ?_
  refine lv_aload_n hx hb dX4_meet_5 rfl (lv_at hl 1 rfl) ?_
  refine pg C hP (k := k1) (j := 0) (ps_lt hk1) ((ps_d hk1) _ _) rfl iw_4 (Nat.le_of_ble_eq_true rfl) g_60 rfl rfl dX4_meet_6 ?_
  refine lv_land hx hb dX4_meet_9 ?_
  refine ppJ C hP hS (k := k0) (j := 0) (ty := .long) (ps_lt hk0) ((ps_d hk0) _ _) rfl iw_4 tyX4 tyX4_ok nmX4 (Nat.le_of_ble_eq_true rfl) g_60 rfl rfl (by decide +kernel) rfl rfl (Nat.le_of_ble_eq_true rfl) (xu_ps_0 hk0 _ _ _) dX4_meet_10 (fun M1 H locs eM1 hP hS => ?_)
  replace hf := lt_c eM1 hf
  refine lv_aload_n hx hb dX4_meet_13 rfl (lv_at hl 0 rfl) ?_
  refine lv_dup hx hb dX4_meet_14 rfl ?_
  refine pg C hP (k := k0) (j := 1) (ps_lt hk0) ((ps_d hk0) _ _) rfl iw_4 (Nat.le_of_ble_eq_true rfl) g_61 rfl rfl dX4_meet_15 ?_
  refine lv_aload_n hx hb dX4_meet_18 rfl (lv_at hl 1 rfl) ?_
  refine pg C hP (k := k1) (j := 1) (ps_lt hk1) ((ps_d hk1) _ _) rfl iw_4 (Nat.le_of_ble_eq_true rfl) g_61 rfl rfl dX4_meet_19 ?_
  refine lv_land hx hb dX4_meet_22 ?_
  refine ppJ C hP hS (k := k0) (j := 1) (ty := .long) (ps_lt hk0) ((ps_d hk0) _ _) rfl iw_4 tyX4 tyX4_ok nmX4 (Nat.le_of_ble_eq_true rfl) g_61 rfl rfl (by decide +kernel) rfl rfl (Nat.le_of_ble_eq_true rfl) (xu_ps_1 hk0 _ _ _) dX4_meet_23 (fun M2 H locs eM2 hP hS => ?_)
  replace hf := lt_c eM2 hf
  exact prV C hr hk hP hS hf dX4_meet_26
theorem c4_meet {l : Launch} {z : Zt} {b n : Nat} {k0 : Nat} (hk0 : isPS k0 = true) {k1 : Nat} (hk1 : isPS k1 = true)  {M M' : Mem} {r : Unit} (hf : f4_meet n k0 k1  M = some (r, M')) : CV l z (xd z b) 339 b yX4_meet cX4_meet 2 none rm4_meet [.ref (b + k0), .ref (b + k1)] M M' :=
  CV.ofW (lv := [(0, .ref (b + k0)), (1, .ref (b + k1))]) (by decide) (Nat.le_of_ble_eq_true rfl) rfl (fun p e s m args below meth c ls C hr hk hP hS hl => w4_meet_0 (n := n) hk0 hk1 C hr hk  hf hP hS hl)

-- BronzeKing$PlaceSet.flood(LBronzeKing$PlaceSet;)V
theorem dX4_flood_0 : decode cX4_flood 0 = .ok (.iconst 1, 1) := by decide +kernel
theorem dX4_flood_1 : decode cX4_flood 1 = .ok (.istore_n 2, 1) := by decide +kernel
theorem dX4_flood_2 : decode cX4_flood 2 = .ok (.iconst 0, 1) := by decide +kernel
theorem dX4_flood_3 : decode cX4_flood 3 = .ok (.istore_n 3, 1) := by decide +kernel
theorem dX4_flood_4 : decode cX4_flood 4 = .ok (.iload_n 3, 1) := by decide +kernel
theorem dX4_flood_5 : decode cX4_flood 5 = .ok (.bipush 96, 2) := by decide +kernel
theorem dX4_flood_7 : decode cX4_flood 7 = .ok (.if_icmp .ge 60, 3) := by decide +kernel
theorem dX4_flood_10 : decode cX4_flood 10 = .ok (.iload_n 2, 1) := by decide +kernel
theorem dX4_flood_11 : decode cX4_flood 11 = .ok (.ifCond .eq 56, 3) := by decide +kernel
theorem dX4_flood_14 : decode cX4_flood 14 = .ok (.aload_n 0, 1) := by decide +kernel
theorem dX4_flood_15 : decode cX4_flood 15 = .ok (.getfield 9, 3) := by decide +kernel
theorem dX4_flood_18 : decode cX4_flood 18 = .ok (.lstore 4, 2) := by decide +kernel
theorem dX4_flood_20 : decode cX4_flood 20 = .ok (.aload_n 0, 1) := by decide +kernel
theorem dX4_flood_21 : decode cX4_flood 21 = .ok (.getfield 15, 3) := by decide +kernel
theorem dX4_flood_24 : decode cX4_flood 24 = .ok (.lstore 6, 2) := by decide +kernel
theorem dX4_flood_26 : decode cX4_flood 26 = .ok (.aload_n 0, 1) := by decide +kernel
theorem dX4_flood_27 : decode cX4_flood 27 = .ok (.invokevirtual 32, 3) := by decide +kernel
theorem dX4_flood_30 : decode cX4_flood 30 = .ok (.aload_n 0, 1) := by decide +kernel
theorem dX4_flood_31 : decode cX4_flood 31 = .ok (.aload_n 1, 1) := by decide +kernel
theorem dX4_flood_32 : decode cX4_flood 32 = .ok (.invokevirtual 35, 3) := by decide +kernel
theorem dX4_flood_35 : decode cX4_flood 35 = .ok (.lload 4, 2) := by decide +kernel
theorem dX4_flood_37 : decode cX4_flood 37 = .ok (.aload_n 0, 1) := by decide +kernel
theorem dX4_flood_38 : decode cX4_flood 38 = .ok (.getfield 9, 3) := by decide +kernel
theorem dX4_flood_41 : decode cX4_flood 41 = .ok (.lcmp, 1) := by decide +kernel
theorem dX4_flood_42 : decode cX4_flood 42 = .ok (.ifCond .ne 13, 3) := by decide +kernel
theorem dX4_flood_45 : decode cX4_flood 45 = .ok (.lload 6, 2) := by decide +kernel
theorem dX4_flood_47 : decode cX4_flood 47 = .ok (.aload_n 0, 1) := by decide +kernel
theorem dX4_flood_48 : decode cX4_flood 48 = .ok (.getfield 15, 3) := by decide +kernel
theorem dX4_flood_51 : decode cX4_flood 51 = .ok (.lcmp, 1) := by decide +kernel
theorem dX4_flood_52 : decode cX4_flood 52 = .ok (.ifCond .eq 7, 3) := by decide +kernel
theorem dX4_flood_55 : decode cX4_flood 55 = .ok (.iconst 1, 1) := by decide +kernel
theorem dX4_flood_56 : decode cX4_flood 56 = .ok (.goto 4, 3) := by decide +kernel
theorem dX4_flood_59 : decode cX4_flood 59 = .ok (.iconst 0, 1) := by decide +kernel
theorem dX4_flood_60 : decode cX4_flood 60 = .ok (.istore_n 2, 1) := by decide +kernel
theorem dX4_flood_61 : decode cX4_flood 61 = .ok (.iinc 3 1, 3) := by decide +kernel
theorem dX4_flood_64 : decode cX4_flood 64 = .ok (.goto (-60), 3) := by decide +kernel
theorem dX4_flood_67 : decode cX4_flood 67 = .ok (.return_, 1) := by decide +kernel
def b4_flood_60 (k0 : Nat) (k1 : Nat) (rc : Nat → List Int32 → List Int64 → Mem → Option (Unit × Mem)) (n : Nat) (i3 : Int32) (s0 : Int32) (M : Mem) : Option (Unit × Mem) :=
  lt (i3 + (1 : Int32)) fun v13 =>
  rc 4 [s0, v13] [] M
def b4_flood_55 (k0 : Nat) (k1 : Nat) (rc : Nat → List Int32 → List Int64 → Mem → Option (Unit × Mem)) (n : Nat) (i3 : Int32) (M : Mem) : Option (Unit × Mem) :=
  b4_flood_60 k0 k1 rc n i3 (1 : Int32) M
def b4_flood_4 (k0 : Nat) (k1 : Nat) (rc : Nat → List Int32 → List Int64 → Mem → Option (Unit × Mem)) (n : Nat) (i2 : Int32) (i3 : Int32) (M : Mem) : Option (Unit × Mem) :=
  (if (96 : Int32) ≤ i3 then (
   some ((), M))
  else (
   (if i2 = 0 then (
    some ((), M))
   else (
    lt (M.2 k0 0) fun v3 =>
    lt (M.2 k0 1) fun v4 =>
    bnd (f4_grow n k0 M) fun r5 M6 =>
    bnd (f4_meet n k0 k1 M6) fun r8 M9 =>
    (if (lg_cmp v3 (M9.2 k0 0)) = 0 then (
     (if (lg_cmp v4 (M9.2 k0 1)) = 0 then (
      b4_flood_60 k0 k1 rc n i3 (0 : Int32) M9)
     else (
      b4_flood_55 k0 k1 rc n i3 M9)))
    else (
     b4_flood_55 k0 k1 rc n i3 M9))))))
def b4_flood_0 (k0 : Nat) (k1 : Nat) (rc : Nat → List Int32 → List Int64 → Mem → Option (Unit × Mem)) (n : Nat) (M : Mem) : Option (Unit × Mem) :=
  b4_flood_4 k0 k1 rc n (1 : Int32) (0 : Int32) M
def r4_flood (k0 : Nat) (k1 : Nat) : Nat → Nat → List Int32 → List Int64 → Mem → Option (Unit × Mem)
  | 0 => fun _ _ _ _ => none
  | n + 1 => fun pc li lj M =>
    if pc = 4 then (match li, lj with | [i2, i3], [] => b4_flood_4 k0 k1 (r4_flood k0 k1 n) n i2 i3 M | _, _ => none) else
    none
theorem e4_flood_4 (k0 : Nat) (k1 : Nat) (n : Nat) (i2 : Int32) (i3 : Int32) (M : Mem) : r4_flood k0 k1 (n + 1) 4 [i2, i3] [] M = b4_flood_4 k0 k1 (r4_flood k0 k1 n) n i2 i3 M := by
  rw [r4_flood]
  simp
def f4_flood (n : Nat) (k0 : Nat) (k1 : Nat) (M : Mem) : Option (Unit × Mem) := b4_flood_0 k0 k1 (r4_flood k0 k1 n) n M
abbrev rm4_flood : Room := { frames := 2, cells := 0, slots := 0, locals := 45 }
theorem y4_flood_w : yV RX4 yX4_flood cX4_flood 8 none 1 := ⟨g_1061, g_1062, g_4, g_1063, rfl, by decide, by decide, by decide +kernel⟩
set_option maxHeartbeats 4000000 in
set_option maxRecDepth 100000 in
theorem w4_flood_60 {p : Program} {l : Launch} {e : Env} {s : State} {m : MethodId} {args : Array Value} {below : List Frame} {meth : Method} {c : Code} {z : Zt} {b : Nat} {k0 : Nat} (hk0 : isPS k0 = true) {k1 : Nat} (hk1 : isPS k1 = true) (C : Cx p s m args c cX4_flood 8 RX4 z 339 b) (hr : meth.sig.returnType = none) (hk : meth.locks = false) {r : Unit} {M' : Mem} {rc : Nat → List Int32 → List Int64 → Mem → Option (Unit × Mem)} {n : Nat} (q4 : ∀ (i2 : Int32) (i3 : Int32) (M : Mem) (H : Heap) (locs : List Loc) (ls : Array Slot), rc 4 [i2, i3] [] M = some (r, M') → va_P z.1 vwCl (pw (xd z b) 339 b M) H → va_S (pA 339 b) s.heap H locs → lv_has ls 8 [(0, .ref (b + k0)), (1, .ref (b + k1)), (2, .int i2), (3, .int i3)] → W p l e rm4_flood s m args below meth c H locs 0 0 (MQ below (va_Qv (fun (M2 : Mem) => M2 = M') (fun M2 t => va_P z.1 vwCl (pw (xd z b) 339 b M2) t.heap) (pA 339 b)) args s 0 0 (pA 339 b)) (F0 m 4 ls [])) {i3 : Int32} {s0 : Int32} {M : Mem} {H : Heap} {locs : List Loc} {ls : Array Slot} (hf : b4_flood_60 k0 k1 rc n i3 s0 M = some (r, M')) (hP : va_P z.1 vwCl (pw (xd z b) 339 b M) H) (hS : va_S (pA 339 b) s.heap H locs) (hl : lv_has ls 8 [(0, .ref (b + k0)), (1, .ref (b + k1)), (3, .int i3)]) : W p l e rm4_flood s m args below meth c H locs 0 0 (MQ below (va_Qv (fun (M2 : Mem) => M2 = M') (fun M2 t => va_P z.1 vwCl (pw (xd z b) 339 b M2) t.heap) (pA 339 b)) args s 0 0 (pA 339 b)) (F0 m 60 ls [.int s0]) := by
  have hx := C.1.1
  have hb := C.1.2.1
  unfold b4_flood_60 at hf
  refine lv_istore_n (lv' := [(2, .int s0), (0, .ref (b + k0)), (1, .ref (b + k1)), (3, .int i3)]) hx hb dX4_flood_60 rfl hl (by decide) rfl (fun ls hl => ?_)
  obtain ⟨v13, ev13⟩ : ∃ v : Int32, v = i3 + (1 : Int32) := ⟨_, rfl⟩
  replace hf := lt_c ev13 hf
  refine lv_iinc (v := v13) (lv' := [(3, .int v13), (2, .int s0), (0, .ref (b + k0)), (1, .ref (b + k1))]) hx hb dX4_flood_61 hl (k := 3) rfl (by rw [ev13]; rfl) (by decide) rfl (fun ls hl => ?_)
  refine lv_goto (tgt := 4) hx hb dX4_flood_64 (by decide) ?_
  exact q4 s0 v13 M _ _ _ hf hP hS (lv_sub hl [2, 3, 1, 0] rfl)
set_option maxHeartbeats 4000000 in
set_option maxRecDepth 100000 in
theorem w4_flood_55 {p : Program} {l : Launch} {e : Env} {s : State} {m : MethodId} {args : Array Value} {below : List Frame} {meth : Method} {c : Code} {z : Zt} {b : Nat} {k0 : Nat} (hk0 : isPS k0 = true) {k1 : Nat} (hk1 : isPS k1 = true) (C : Cx p s m args c cX4_flood 8 RX4 z 339 b) (hr : meth.sig.returnType = none) (hk : meth.locks = false) {r : Unit} {M' : Mem} {rc : Nat → List Int32 → List Int64 → Mem → Option (Unit × Mem)} {n : Nat} (q4 : ∀ (i2 : Int32) (i3 : Int32) (M : Mem) (H : Heap) (locs : List Loc) (ls : Array Slot), rc 4 [i2, i3] [] M = some (r, M') → va_P z.1 vwCl (pw (xd z b) 339 b M) H → va_S (pA 339 b) s.heap H locs → lv_has ls 8 [(0, .ref (b + k0)), (1, .ref (b + k1)), (2, .int i2), (3, .int i3)] → W p l e rm4_flood s m args below meth c H locs 0 0 (MQ below (va_Qv (fun (M2 : Mem) => M2 = M') (fun M2 t => va_P z.1 vwCl (pw (xd z b) 339 b M2) t.heap) (pA 339 b)) args s 0 0 (pA 339 b)) (F0 m 4 ls [])) {i3 : Int32} {M : Mem} {H : Heap} {locs : List Loc} {ls : Array Slot} (hf : b4_flood_55 k0 k1 rc n i3 M = some (r, M')) (hP : va_P z.1 vwCl (pw (xd z b) 339 b M) H) (hS : va_S (pA 339 b) s.heap H locs) (hl : lv_has ls 8 [(0, .ref (b + k0)), (1, .ref (b + k1)), (3, .int i3)]) : W p l e rm4_flood s m args below meth c H locs 0 0 (MQ below (va_Qv (fun (M2 : Mem) => M2 = M') (fun M2 t => va_P z.1 vwCl (pw (xd z b) 339 b M2) t.heap) (pA 339 b)) args s 0 0 (pA 339 b)) (F0 m 55 ls []) := by
  have hx := C.1.1
  have hb := C.1.2.1
  unfold b4_flood_55 at hf
  refine lv_iconst (v := (1 : Int32)) hx hb dX4_flood_55 (by decide) ?_
  refine lv_goto (tgt := 60) hx hb dX4_flood_56 (by decide) ?_
  exact w4_flood_60 (n := n) hk0 hk1 C hr hk q4 hf hP hS (lv_sub hl [0, 1, 2] rfl)
set_option maxHeartbeats 4000000 in
set_option maxRecDepth 100000 in
theorem w4_flood_4 {p : Program} {l : Launch} {e : Env} {s : State} {m : MethodId} {args : Array Value} {below : List Frame} {meth : Method} {c : Code} {z : Zt} {b : Nat} {k0 : Nat} (hk0 : isPS k0 = true) {k1 : Nat} (hk1 : isPS k1 = true) (C : Cx p s m args c cX4_flood 8 RX4 z 339 b) (hr : meth.sig.returnType = none) (hk : meth.locks = false) {r : Unit} {M' : Mem} {rc : Nat → List Int32 → List Int64 → Mem → Option (Unit × Mem)} {n : Nat} (q4 : ∀ (i2 : Int32) (i3 : Int32) (M : Mem) (H : Heap) (locs : List Loc) (ls : Array Slot), rc 4 [i2, i3] [] M = some (r, M') → va_P z.1 vwCl (pw (xd z b) 339 b M) H → va_S (pA 339 b) s.heap H locs → lv_has ls 8 [(0, .ref (b + k0)), (1, .ref (b + k1)), (2, .int i2), (3, .int i3)] → W p l e rm4_flood s m args below meth c H locs 0 0 (MQ below (va_Qv (fun (M2 : Mem) => M2 = M') (fun M2 t => va_P z.1 vwCl (pw (xd z b) 339 b M2) t.heap) (pA 339 b)) args s 0 0 (pA 339 b)) (F0 m 4 ls [])) {i2 : Int32} {i3 : Int32} {M : Mem} {H : Heap} {locs : List Loc} {ls : Array Slot} (hf : b4_flood_4 k0 k1 rc n i2 i3 M = some (r, M')) (hP : va_P z.1 vwCl (pw (xd z b) 339 b M) H) (hS : va_S (pA 339 b) s.heap H locs) (hl : lv_has ls 8 [(0, .ref (b + k0)), (1, .ref (b + k1)), (2, .int i2), (3, .int i3)]) : W p l e rm4_flood s m args below meth c H locs 0 0 (MQ below (va_Qv (fun (M2 : Mem) => M2 = M') (fun M2 t => va_P z.1 vwCl (pw (xd z b) 339 b M2) t.heap) (pA 339 b)) args s 0 0 (pA 339 b)) (F0 m 4 ls []) := by
  have hx := C.1.1
  have hb := C.1.2.1
  unfold b4_flood_4 at hf
  refine lv_iload_n hx hb dX4_flood_4 rfl (lv_at hl 3 rfl) ?_
  refine lv_bipush (v := (96 : Int32)) hx hb dX4_flood_5 (by decide) ?_
  refine lv_icmp_ge (tgt := 67) hx hb dX4_flood_7 (by decide) (fun c1 => ?_) (fun c1 => ?_)
  · replace hf := ite_t c1 hf
    exact prV C hr hk hP hS hf dX4_flood_67
  · replace hf := ite_f c1 hf
    refine lv_iload_n hx hb dX4_flood_10 rfl (lv_at hl 2 rfl) ?_
    refine lv_if_eq (tgt := 67) hx hb dX4_flood_11 (by decide) (fun c2 => ?_) (fun c2 => ?_)
    · replace hf := ite_t c2 hf
      exact prV C hr hk hP hS hf dX4_flood_67
    · replace hf := ite_f c2 hf
      refine lv_aload_n hx hb dX4_flood_14 rfl (lv_at hl 0 rfl) ?_
      refine pg C hP (k := k0) (j := 0) (ps_lt hk0) ((ps_d hk0) _ _) rfl iw_4 (Nat.le_of_ble_eq_true rfl) g_60 rfl rfl dX4_flood_15 ?_
      refine lv_topl (fun v3 ev3 => ?_)
      replace hf := lt_c ev3 hf
      refine lv_lstore (lv' := [(4, .long v3), (0, .ref (b + k0)), (1, .ref (b + k1)), (2, .int i2), (3, .int i3)]) hx hb dX4_flood_18 hl (by decide) rfl (fun ls hl => ?_)
      refine lv_aload_n hx hb dX4_flood_20 rfl (lv_at hl 1 rfl) ?_
      refine pg C hP (k := k0) (j := 1) (ps_lt hk0) ((ps_d hk0) _ _) rfl iw_4 (Nat.le_of_ble_eq_true rfl) g_61 rfl rfl dX4_flood_21 ?_
      refine lv_topl (fun v4 ev4 => ?_)
      replace hf := lt_c ev4 hf
      refine lv_lstore (lv' := [(6, .long v4), (4, .long v3), (0, .ref (b + k0)), (1, .ref (b + k1)), (2, .int i2), (3, .int i3)]) hx hb dX4_flood_24 hl (by decide) rfl (fun ls hl => ?_)
      refine lv_aload_n hx hb dX4_flood_26 rfl (lv_at hl 2 rfl) ?_
      obtain ⟨r5, M6, h7, hf⟩ := bnd_s hf
      refine pcVv (As := []) C hP hS (k := k0) (ps_lt hk0) ((ps_d hk0) _ _) rfl (c4_grow hk0 h7) y4_grow_w g_1064 rfl rfl rfl ⟨Nat.le_of_ble_eq_true rfl, Nat.le_of_ble_eq_true rfl⟩ hl.1 rfl (Nat.le_of_ble_eq_true rfl) dX4_flood_27 ⟨Nat.le_of_ble_eq_true rfl, Nat.le_of_ble_eq_true rfl⟩ (fun H locs hP hS => ?_)
      refine lv_aload_n hx hb dX4_flood_30 rfl (lv_at hl 2 rfl) ?_
      refine lv_aload_n hx hb dX4_flood_31 rfl (lv_at hl 3 rfl) ?_
      obtain ⟨r8, M9, h10, hf⟩ := bnd_s hf
      refine pcVv (As := [.ref (b + k1)]) C hP hS (k := k0) (ps_lt hk0) ((ps_d hk0) _ _) rfl (c4_meet hk0 hk1 h10) y4_meet_w g_1065 rfl rfl rfl ⟨Nat.le_of_ble_eq_true rfl, Nat.le_of_ble_eq_true rfl⟩ hl.1 rfl (Nat.le_of_ble_eq_true rfl) dX4_flood_32 ⟨Nat.le_of_ble_eq_true rfl, Nat.le_of_ble_eq_true rfl⟩ (fun H locs hP hS => ?_)
      refine lv_lload hx hb dX4_flood_35 (lv_at hl 1 rfl) ?_
      refine lv_aload_n hx hb dX4_flood_37 rfl (lv_at hl 2 rfl) ?_
      refine pg C hP (k := k0) (j := 0) (ps_lt hk0) ((ps_d hk0) _ _) rfl iw_4 (Nat.le_of_ble_eq_true rfl) g_60 rfl rfl dX4_flood_38 ?_
      refine W.lcmp hx hb dX4_flood_41 ?_
      refine lv_if_ne (tgt := 55) hx hb dX4_flood_42 (by decide) (fun c11 => ?_) (fun c11 => ?_)
      · replace hf := ite_f c11 hf
        exact w4_flood_55 (n := n) hk0 hk1 C hr hk q4 hf hP hS (lv_sub hl [2, 3, 5] rfl)
      · replace hf := ite_t c11 hf
        refine lv_lload hx hb dX4_flood_45 (lv_at hl 0 rfl) ?_
        refine lv_aload_n hx hb dX4_flood_47 rfl (lv_at hl 2 rfl) ?_
        refine pg C hP (k := k0) (j := 1) (ps_lt hk0) ((ps_d hk0) _ _) rfl iw_4 (Nat.le_of_ble_eq_true rfl) g_61 rfl rfl dX4_flood_48 ?_
        refine W.lcmp hx hb dX4_flood_51 ?_
        refine lv_if_eq (tgt := 59) hx hb dX4_flood_52 (by decide) (fun c12 => ?_) (fun c12 => ?_)
        · replace hf := ite_t c12 hf
          refine lv_iconst (v := (0 : Int32)) hx hb dX4_flood_59 (by decide) ?_
          exact w4_flood_60 (n := n) hk0 hk1 C hr hk q4 hf hP hS (lv_sub hl [2, 3, 5] rfl)
        · replace hf := ite_f c12 hf
          exact w4_flood_55 (n := n) hk0 hk1 C hr hk q4 hf hP hS (lv_sub hl [2, 3, 5] rfl)
set_option maxHeartbeats 4000000 in
set_option maxRecDepth 100000 in
theorem w4_flood_0 {p : Program} {l : Launch} {e : Env} {s : State} {m : MethodId} {args : Array Value} {below : List Frame} {meth : Method} {c : Code} {z : Zt} {b : Nat} {k0 : Nat} (hk0 : isPS k0 = true) {k1 : Nat} (hk1 : isPS k1 = true) (C : Cx p s m args c cX4_flood 8 RX4 z 339 b) (hr : meth.sig.returnType = none) (hk : meth.locks = false) {r : Unit} {M' : Mem} {rc : Nat → List Int32 → List Int64 → Mem → Option (Unit × Mem)} {n : Nat} (q4 : ∀ (i2 : Int32) (i3 : Int32) (M : Mem) (H : Heap) (locs : List Loc) (ls : Array Slot), rc 4 [i2, i3] [] M = some (r, M') → va_P z.1 vwCl (pw (xd z b) 339 b M) H → va_S (pA 339 b) s.heap H locs → lv_has ls 8 [(0, .ref (b + k0)), (1, .ref (b + k1)), (2, .int i2), (3, .int i3)] → W p l e rm4_flood s m args below meth c H locs 0 0 (MQ below (va_Qv (fun (M2 : Mem) => M2 = M') (fun M2 t => va_P z.1 vwCl (pw (xd z b) 339 b M2) t.heap) (pA 339 b)) args s 0 0 (pA 339 b)) (F0 m 4 ls []))  {M : Mem} {H : Heap} {locs : List Loc} {ls : Array Slot} (hf : b4_flood_0 k0 k1 rc n  M = some (r, M')) (hP : va_P z.1 vwCl (pw (xd z b) 339 b M) H) (hS : va_S (pA 339 b) s.heap H locs) (hl : lv_has ls 8 [(0, .ref (b + k0)), (1, .ref (b + k1))]) : W p l e rm4_flood s m args below meth c H locs 0 0 (MQ below (va_Qv (fun (M2 : Mem) => M2 = M') (fun M2 t => va_P z.1 vwCl (pw (xd z b) 339 b M2) t.heap) (pA 339 b)) args s 0 0 (pA 339 b)) (F0 m 0 ls []) := by
  have hx := C.1.1
  have hb := C.1.2.1
  unfold b4_flood_0 at hf
  refine lv_iconst (v := (1 : Int32)) hx hb dX4_flood_0 (by decide) ?_
  refine lv_istore_n (lv' := [(2, .int (1 : Int32)), (0, .ref (b + k0)), (1, .ref (b + k1))]) hx hb dX4_flood_1 rfl hl (by decide) rfl (fun ls hl => ?_)
  refine lv_iconst (v := (0 : Int32)) hx hb dX4_flood_2 (by decide) ?_
  refine lv_istore_n (lv' := [(3, .int (0 : Int32)), (2, .int (1 : Int32)), (0, .ref (b + k0)), (1, .ref (b + k1))]) hx hb dX4_flood_3 rfl hl (by decide) rfl (fun ls hl => ?_)
  exact w4_flood_4 (n := n) hk0 hk1 C hr hk q4 hf hP hS (lv_sub hl [2, 3, 1, 0] rfl)
set_option maxHeartbeats 4000000 in
set_option maxRecDepth 100000 in
theorem l4_flood {p : Program} {l : Launch} {e : Env} {s : State} {m : MethodId} {args : Array Value} {below : List Frame} {meth : Method} {c : Code} {z : Zt} {b : Nat} {k0 : Nat} (hk0 : isPS k0 = true) {k1 : Nat} (hk1 : isPS k1 = true) (C : Cx p s m args c cX4_flood 8 RX4 z 339 b) (hr : meth.sig.returnType = none) (hk : meth.locks = false) {r : Unit} {M' : Mem} (n : Nat) : (∀ (i2 : Int32) (i3 : Int32) (M : Mem) (H : Heap) (locs : List Loc) (ls : Array Slot), (r4_flood k0 k1 n) 4 [i2, i3] [] M = some (r, M') → va_P z.1 vwCl (pw (xd z b) 339 b M) H → va_S (pA 339 b) s.heap H locs → lv_has ls 8 [(0, .ref (b + k0)), (1, .ref (b + k1)), (2, .int i2), (3, .int i3)] → W p l e rm4_flood s m args below meth c H locs 0 0 (MQ below (va_Qv (fun (M2 : Mem) => M2 = M') (fun M2 t => va_P z.1 vwCl (pw (xd z b) 339 b M2) t.heap) (pA 339 b)) args s 0 0 (pA 339 b)) (F0 m 4 ls [])) := by
  induction n with
  | zero => exact fun _ _ _ _ _ _ hf => (by cases hf)
  | succ n ih => exact fun _ _ _ _ _ _ hf hP hS hl => w4_flood_4 (n := n) hk0 hk1 C hr hk ih ((e4_flood_4 _ _ n _ _ _).symm.trans hf) hP hS hl
theorem c4_flood {l : Launch} {z : Zt} {b n : Nat} {k0 : Nat} (hk0 : isPS k0 = true) {k1 : Nat} (hk1 : isPS k1 = true)  {M M' : Mem} {r : Unit} (hf : f4_flood n k0 k1  M = some (r, M')) : CV l z (xd z b) 339 b yX4_flood cX4_flood 8 none rm4_flood [.ref (b + k0), .ref (b + k1)] M M' :=
  CV.ofW (lv := [(0, .ref (b + k0)), (1, .ref (b + k1))]) (by decide) (Nat.le_of_ble_eq_true rfl) rfl (fun p e s m args below meth c ls C hr hk hP hS hl => w4_flood_0 (n := n) hk0 hk1 C hr hk (l4_flood hk0 hk1 C hr hk n) hf hP hS hl)
