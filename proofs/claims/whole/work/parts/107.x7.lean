-- BronzeKing.placeAt(II)I
theorem dX11_placeAt_0 : decode cX11_placeAt 0 = .ok (.iload_n 0, 1) := by decide +kernel
theorem dX11_placeAt_1 : decode cX11_placeAt 1 = .ok (.ifCond .lt 23, 3) := by decide +kernel
theorem dX11_placeAt_4 : decode cX11_placeAt 4 = .ok (.iload_n 0, 1) := by decide +kernel
theorem dX11_placeAt_5 : decode cX11_placeAt 5 = .ok (.bipush 12, 2) := by decide +kernel
theorem dX11_placeAt_7 : decode cX11_placeAt 7 = .ok (.if_icmp .ge 17, 3) := by decide +kernel
theorem dX11_placeAt_10 : decode cX11_placeAt 10 = .ok (.iload_n 1, 1) := by decide +kernel
theorem dX11_placeAt_11 : decode cX11_placeAt 11 = .ok (.ifCond .lt 13, 3) := by decide +kernel
theorem dX11_placeAt_14 : decode cX11_placeAt 14 = .ok (.iload_n 1, 1) := by decide +kernel
theorem dX11_placeAt_15 : decode cX11_placeAt 15 = .ok (.bipush 8, 2) := by decide +kernel
theorem dX11_placeAt_17 : decode cX11_placeAt 17 = .ok (.if_icmp .ge 7, 3) := by decide +kernel
theorem dX11_placeAt_20 : decode cX11_placeAt 20 = .ok (.iconst 1, 1) := by decide +kernel
theorem dX11_placeAt_21 : decode cX11_placeAt 21 = .ok (.goto 4, 3) := by decide +kernel
theorem dX11_placeAt_24 : decode cX11_placeAt 24 = .ok (.iconst 0, 1) := by decide +kernel
theorem dX11_placeAt_25 : decode cX11_placeAt 25 = .ok (.istore_n 2, 1) := by decide +kernel
theorem dX11_placeAt_26 : decode cX11_placeAt 26 = .ok (.iload_n 2, 1) := by decide +kernel
theorem dX11_placeAt_27 : decode cX11_placeAt 27 = .ok (.ifCond .eq 12, 3) := by decide +kernel
theorem dX11_placeAt_30 : decode cX11_placeAt 30 = .ok (.bipush 12, 2) := by decide +kernel
theorem dX11_placeAt_32 : decode cX11_placeAt 32 = .ok (.iload_n 1, 1) := by decide +kernel
theorem dX11_placeAt_33 : decode cX11_placeAt 33 = .ok (.imul, 1) := by decide +kernel
theorem dX11_placeAt_34 : decode cX11_placeAt 34 = .ok (.iload_n 0, 1) := by decide +kernel
theorem dX11_placeAt_35 : decode cX11_placeAt 35 = .ok (.iadd, 1) := by decide +kernel
theorem dX11_placeAt_36 : decode cX11_placeAt 36 = .ok (.goto 4, 3) := by decide +kernel
theorem dX11_placeAt_39 : decode cX11_placeAt 39 = .ok (.iconst (-1), 1) := by decide +kernel
theorem dX11_placeAt_40 : decode cX11_placeAt 40 = .ok (.ireturn, 1) := by decide +kernel
def b11_placeAt_25 (rc : Nat → List Int32 → List Int64 → Mem → Option (Int32 × Mem)) (n : Nat) (i0 : Int32) (i1 : Int32) (s0 : Int32) (M : Mem) : Option (Int32 × Mem) :=
  (if s0 = 0 then (
   some ((-1 : Int32), M))
  else (
   some ((((12 : Int32) * i1) + i0), M)))
def b11_placeAt_24 (rc : Nat → List Int32 → List Int64 → Mem → Option (Int32 × Mem)) (n : Nat) (i0 : Int32) (i1 : Int32) (M : Mem) : Option (Int32 × Mem) :=
  b11_placeAt_25  rc n i0 i1 (0 : Int32) M
def b11_placeAt_0 (rc : Nat → List Int32 → List Int64 → Mem → Option (Int32 × Mem)) (n : Nat) (a0 : Int32) (a1 : Int32) (M : Mem) : Option (Int32 × Mem) :=
  (if a0 < 0 then (
   b11_placeAt_24  rc n a0 a1 M)
  else (
   (if (12 : Int32) ≤ a0 then (
    b11_placeAt_24  rc n a0 a1 M)
   else (
    (if a1 < 0 then (
     b11_placeAt_24  rc n a0 a1 M)
    else (
     (if (8 : Int32) ≤ a1 then (
      b11_placeAt_24  rc n a0 a1 M)
     else (
      b11_placeAt_25  rc n a0 a1 (1 : Int32) M))))))))
def f11_placeAt (n : Nat) (a0 : Int32) (a1 : Int32) (M : Mem) : Option (Int32 × Mem) := b11_placeAt_0 (fun _ _ _ _ => none) n a0 a1 M
abbrev rm11_placeAt : Room := { frames := 0, cells := 0, slots := 0, locals := 0 }
theorem y11_placeAt_w : yS yX11_placeAt cX11_placeAt 3 (some .int) 2 := ⟨g_465, g_1, g_466, by decide, by decide, by decide +kernel⟩
set_option maxHeartbeats 4000000 in
set_option maxRecDepth 100000 in
theorem w11_placeAt_25 {p : Program} {l : Launch} {e : Env} {s : State} {m : MethodId} {args : Array Value} {below : List Frame} {meth : Method} {c : Code} {z : Zt} {b : Nat}  (C : Cx p s m args c cX11_placeAt 3 RX11 z 339 b) (hr : meth.sig.returnType = (some .int)) (hk : meth.locks = false) {r : Int32} {M' : Mem} {rc : Nat → List Int32 → List Int64 → Mem → Option (Int32 × Mem)} {n : Nat}  {i0 : Int32} {i1 : Int32} {s0 : Int32} {M : Mem} {H : Heap} {locs : List Loc} {ls : Array Slot} (hf : b11_placeAt_25  rc n i0 i1 s0 M = some (r, M')) (hP : va_P z.1 vwCl (pw (xd z b) 339 b M) H) (hS : va_S (pA 339 b) s.heap H locs) (hl : lv_has ls 3 [(0, .int i0), (1, .int i1)]) : W p l e rm11_placeAt s m args below meth c H locs 0 0 (MQ below (va_Qi (fun (r' : Int32) (M2 : Mem) => r' = r ∧ M2 = M') (fun M2 t => va_P z.1 vwCl (pw (xd z b) 339 b M2) t.heap) (pA 339 b)) args s 0 0 (pA 339 b)) (F0 m 25 ls [.int s0]) := by
  have hx := C.1.1
  have hb := C.1.2.1
  unfold b11_placeAt_25 at hf
  refine lv_istore_n (lv' := [(2, .int s0), (0, .int i0), (1, .int i1)]) hx hb dX11_placeAt_25 rfl hl (by decide) rfl (fun ls hl => ?_)
  refine lv_iload_n hx hb dX11_placeAt_26 rfl (lv_at hl 0 rfl) ?_
  refine lv_if_eq (tgt := 39) hx hb dX11_placeAt_27 (by decide) (fun c5 => ?_) (fun c5 => ?_)
  · replace hf := ite_t c5 hf
    refine lv_iconst (v := (-1 : Int32)) hx hb dX11_placeAt_39 (by decide) ?_
    exact prI C hr hk hP hS hf dX11_placeAt_40
  · replace hf := ite_f c5 hf
    refine lv_bipush (v := (12 : Int32)) hx hb dX11_placeAt_30 (by decide) ?_
    refine lv_iload_n hx hb dX11_placeAt_32 rfl (lv_at hl 2 rfl) ?_
    refine lv_imul hx hb dX11_placeAt_33 ?_
    refine lv_iload_n hx hb dX11_placeAt_34 rfl (lv_at hl 1 rfl) ?_
    refine lv_iadd hx hb dX11_placeAt_35 ?_
    refine lv_goto (tgt := 40) hx hb dX11_placeAt_36 (by decide) ?_
    exact prI C hr hk hP hS hf dX11_placeAt_40
set_option maxHeartbeats 4000000 in
set_option maxRecDepth 100000 in
theorem w11_placeAt_24 {p : Program} {l : Launch} {e : Env} {s : State} {m : MethodId} {args : Array Value} {below : List Frame} {meth : Method} {c : Code} {z : Zt} {b : Nat}  (C : Cx p s m args c cX11_placeAt 3 RX11 z 339 b) (hr : meth.sig.returnType = (some .int)) (hk : meth.locks = false) {r : Int32} {M' : Mem} {rc : Nat → List Int32 → List Int64 → Mem → Option (Int32 × Mem)} {n : Nat}  {i0 : Int32} {i1 : Int32} {M : Mem} {H : Heap} {locs : List Loc} {ls : Array Slot} (hf : b11_placeAt_24  rc n i0 i1 M = some (r, M')) (hP : va_P z.1 vwCl (pw (xd z b) 339 b M) H) (hS : va_S (pA 339 b) s.heap H locs) (hl : lv_has ls 3 [(0, .int i0), (1, .int i1)]) : W p l e rm11_placeAt s m args below meth c H locs 0 0 (MQ below (va_Qi (fun (r' : Int32) (M2 : Mem) => r' = r ∧ M2 = M') (fun M2 t => va_P z.1 vwCl (pw (xd z b) 339 b M2) t.heap) (pA 339 b)) args s 0 0 (pA 339 b)) (F0 m 24 ls []) := by
  have hx := C.1.1
  have hb := C.1.2.1
  unfold b11_placeAt_24 at hf
  refine lv_iconst (v := (0 : Int32)) hx hb dX11_placeAt_24 (by decide) ?_
  exact w11_placeAt_25 (n := n)  C hr hk  hf hP hS (lv_sub hl [0, 1] rfl)
set_option maxHeartbeats 4000000 in
set_option maxRecDepth 100000 in
theorem w11_placeAt_0 {p : Program} {l : Launch} {e : Env} {s : State} {m : MethodId} {args : Array Value} {below : List Frame} {meth : Method} {c : Code} {z : Zt} {b : Nat}  (C : Cx p s m args c cX11_placeAt 3 RX11 z 339 b) (hr : meth.sig.returnType = (some .int)) (hk : meth.locks = false) {r : Int32} {M' : Mem} {rc : Nat → List Int32 → List Int64 → Mem → Option (Int32 × Mem)} {n : Nat}  {a0 : Int32} {a1 : Int32} {M : Mem} {H : Heap} {locs : List Loc} {ls : Array Slot} (hf : b11_placeAt_0  rc n a0 a1 M = some (r, M')) (hP : va_P z.1 vwCl (pw (xd z b) 339 b M) H) (hS : va_S (pA 339 b) s.heap H locs) (hl : lv_has ls 3 [(0, .int a0), (1, .int a1)]) : W p l e rm11_placeAt s m args below meth c H locs 0 0 (MQ below (va_Qi (fun (r' : Int32) (M2 : Mem) => r' = r ∧ M2 = M') (fun M2 t => va_P z.1 vwCl (pw (xd z b) 339 b M2) t.heap) (pA 339 b)) args s 0 0 (pA 339 b)) (F0 m 0 ls []) := by
  have hx := C.1.1
  have hb := C.1.2.1
  unfold b11_placeAt_0 at hf
  refine lv_iload_n hx hb dX11_placeAt_0 rfl (lv_at hl 0 rfl) ?_
  refine lv_if_lt (tgt := 24) hx hb dX11_placeAt_1 (by decide) (fun c1 => ?_) (fun c1 => ?_)
  · replace hf := ite_t c1 hf
    exact w11_placeAt_24 (n := n)  C hr hk  hf hP hS (lv_sub hl [0, 1] rfl)
  · replace hf := ite_f c1 hf
    refine lv_iload_n hx hb dX11_placeAt_4 rfl (lv_at hl 0 rfl) ?_
    refine lv_bipush (v := (12 : Int32)) hx hb dX11_placeAt_5 (by decide) ?_
    refine lv_icmp_ge (tgt := 24) hx hb dX11_placeAt_7 (by decide) (fun c2 => ?_) (fun c2 => ?_)
    · replace hf := ite_t c2 hf
      exact w11_placeAt_24 (n := n)  C hr hk  hf hP hS (lv_sub hl [0, 1] rfl)
    · replace hf := ite_f c2 hf
      refine lv_iload_n hx hb dX11_placeAt_10 rfl (lv_at hl 1 rfl) ?_
      refine lv_if_lt (tgt := 24) hx hb dX11_placeAt_11 (by decide) (fun c3 => ?_) (fun c3 => ?_)
      · replace hf := ite_t c3 hf
        exact w11_placeAt_24 (n := n)  C hr hk  hf hP hS (lv_sub hl [0, 1] rfl)
      · replace hf := ite_f c3 hf
        refine lv_iload_n hx hb dX11_placeAt_14 rfl (lv_at hl 1 rfl) ?_
        refine lv_bipush (v := (8 : Int32)) hx hb dX11_placeAt_15 (by decide) ?_
        refine lv_icmp_ge (tgt := 24) hx hb dX11_placeAt_17 (by decide) (fun c4 => ?_) (fun c4 => ?_)
        · replace hf := ite_t c4 hf
          exact w11_placeAt_24 (n := n)  C hr hk  hf hP hS (lv_sub hl [0, 1] rfl)
        · replace hf := ite_f c4 hf
          refine lv_iconst (v := (1 : Int32)) hx hb dX11_placeAt_20 (by decide) ?_
          refine lv_goto (tgt := 25) hx hb dX11_placeAt_21 (by decide) ?_
          exact w11_placeAt_25 (n := n)  C hr hk  hf hP hS (lv_sub hl [0, 1] rfl)
theorem c11_placeAt {l : Launch} {z : Zt} {b n : Nat}  {a0 : Int32} {a1 : Int32} {M M' : Mem} {r : Int32} (hf : f11_placeAt n  a0 a1 M = some (r, M')) : CI l z (xd z b) 339 b yX11_placeAt cX11_placeAt 3 (some .int) rm11_placeAt [.int a0, .int a1] M M' r :=
  CI.ofW (lv := [(0, .int a0), (1, .int a1)]) (by decide) (Nat.le_of_ble_eq_true rfl) rfl (fun p e s m args below meth c ls C hr hk hP hS hl => w11_placeAt_0 (n := n)  C hr hk  hf hP hS hl)

-- BronzeKing.square(II)Z
theorem dX11_square_0 : decode cX11_square 0 = .ok (.iload_n 1, 1) := by decide +kernel
theorem dX11_square_1 : decode cX11_square 1 = .ok (.iload_n 2, 1) := by decide +kernel
theorem dX11_square_2 : decode cX11_square 2 = .ok (.invokestatic 98, 3) := by decide +kernel
theorem dX11_square_5 : decode cX11_square 5 = .ok (.istore_n 3, 1) := by decide +kernel
theorem dX11_square_6 : decode cX11_square 6 = .ok (.iload_n 3, 1) := by decide +kernel
theorem dX11_square_7 : decode cX11_square 7 = .ok (.iconst (-1), 1) := by decide +kernel
theorem dX11_square_8 : decode cX11_square 8 = .ok (.if_icmp .ne 5, 3) := by decide +kernel
theorem dX11_square_11 : decode cX11_square 11 = .ok (.iconst 0, 1) := by decide +kernel
theorem dX11_square_12 : decode cX11_square 12 = .ok (.ireturn, 1) := by decide +kernel
theorem dX11_square_13 : decode cX11_square 13 = .ok (.aload_n 0, 1) := by decide +kernel
theorem dX11_square_14 : decode cX11_square 14 = .ok (.getfield 19, 3) := by decide +kernel
theorem dX11_square_17 : decode cX11_square 17 = .ok (.iload_n 3, 1) := by decide +kernel
theorem dX11_square_18 : decode cX11_square 18 = .ok (.putfield 102, 3) := by decide +kernel
theorem dX11_square_21 : decode cX11_square 21 = .ok (.aload_n 0, 1) := by decide +kernel
theorem dX11_square_22 : decode cX11_square 22 = .ok (.getfield 19, 3) := by decide +kernel
theorem dX11_square_25 : decode cX11_square 25 = .ok (.invokevirtual 95, 3) := by decide +kernel
theorem dX11_square_28 : decode cX11_square 28 = .ok (.iconst 1, 1) := by decide +kernel
theorem dX11_square_29 : decode cX11_square 29 = .ok (.ireturn, 1) := by decide +kernel
def b11_square_0 (rc : Nat → List Int32 → List Int64 → Mem → Option (Int32 × Mem)) (n : Nat) (a1 : Int32) (a2 : Int32) (M : Mem) : Option (Int32 × Mem) :=
  bnd (f11_placeAt n a1 a2 M) fun r1 M2 =>
  (if r1 = (-1 : Int32) then (
   some ((0 : Int32), M2))
  else (
   lt (wI M2 3 7 r1) fun M5 =>
   bnd (f8_refresh n M5) fun r6 M7 =>
   some ((1 : Int32), M7)))
def f11_square (n : Nat) (a1 : Int32) (a2 : Int32) (M : Mem) : Option (Int32 × Mem) := b11_square_0 (fun _ _ _ _ => none) n a1 a2 M
abbrev rm11_square : Room := { frames := 3, cells := 0, slots := 0, locals := 72 }
theorem y11_square_w : yV RX11 yX11_square cX11_square 4 (some .boolean) 2 := ⟨g_461, g_462, g_1, g_463, rfl, by decide, by decide, by decide +kernel⟩
set_option maxHeartbeats 4000000 in
set_option maxRecDepth 100000 in
theorem w11_square_0 {p : Program} {l : Launch} {e : Env} {s : State} {m : MethodId} {args : Array Value} {below : List Frame} {meth : Method} {c : Code} {z : Zt} {b : Nat}  (C : Cx p s m args c cX11_square 4 RX11 z 339 b) (hr : meth.sig.returnType = (some .boolean)) (hk : meth.locks = false) {r : Int32} {M' : Mem} {rc : Nat → List Int32 → List Int64 → Mem → Option (Int32 × Mem)} {n : Nat}  {a1 : Int32} {a2 : Int32} {M : Mem} {H : Heap} {locs : List Loc} {ls : Array Slot} (hf : b11_square_0  rc n a1 a2 M = some (r, M')) (hP : va_P z.1 vwCl (pw (xd z b) 339 b M) H) (hS : va_S (pA 339 b) s.heap H locs) (hl : lv_has ls 4 [(0, .ref (b + 0)), (1, .int a1), (2, .int a2)]) : W p l e rm11_square s m args below meth c H locs 0 0 (MQ below (va_Qi (fun (r' : Int32) (M2 : Mem) => r' = r ∧ M2 = M') (fun M2 t => va_P z.1 vwCl (pw (xd z b) 339 b M2) t.heap) (pA 339 b)) args s 0 0 (pA 339 b)) (F0 m 0 ls []) := by
  have hx := C.1.1
  have hb := C.1.2.1
  unfold b11_square_0 at hf
  refine lv_iload_n hx hb dX11_square_0 rfl (lv_at hl 1 rfl) ?_
  refine lv_iload_n hx hb dX11_square_1 rfl (lv_at hl 2 rfl) ?_
  obtain ⟨r1, M2, h3, hf⟩ := bnd_s hf
  refine pcSi (As := [.int a1, .int a2]) C hP hS (c11_placeAt  h3) y11_placeAt_w g_464 rfl rfl rfl ⟨Nat.le_of_ble_eq_true rfl, Nat.le_of_ble_eq_true rfl⟩ hl.1 rfl (Nat.le_of_ble_eq_true rfl) dX11_square_2 ⟨Nat.le_of_ble_eq_true rfl, Nat.le_of_ble_eq_true rfl⟩ (fun H locs hP hS => ?_)
  refine lv_istore_n (lv' := [(3, .int r1), (0, .ref (b + 0)), (1, .int a1), (2, .int a2)]) hx hb dX11_square_5 rfl hl (by decide) rfl (fun ls hl => ?_)
  refine lv_iload_n hx hb dX11_square_6 rfl (lv_at hl 0 rfl) ?_
  refine lv_iconst (v := (-1 : Int32)) hx hb dX11_square_7 (by decide) ?_
  refine lv_icmp_ne (tgt := 13) hx hb dX11_square_8 (by decide) (fun c4 => ?_) (fun c4 => ?_)
  · replace hf := ite_f c4 hf
    refine lv_aload_n hx hb dX11_square_13 rfl (lv_at hl 1 rfl) ?_
    refine pg C hP (k := 0) (j := 1) (Nat.le_of_ble_eq_true rfl) (xd_0 _ _) rfl iw_11 (Nat.le_of_ble_eq_true rfl) g_421 rfl rfl dX11_square_14 ?_
    refine lv_iload_n hx hb dX11_square_17 rfl (lv_at hl 0 rfl) ?_
    refine ppIN C hP hS (k := 3) (j := 7) (ty := .int) (Nat.le_of_ble_eq_true rfl) (xd_3 _ _) rfl iw_8 tyX8 tyX8_ok nmX8 (Nat.le_of_ble_eq_true rfl) g_90 rfl rfl (by decide +kernel) rfl rfl (Nat.le_of_ble_eq_true rfl) (xu_3_7 _ _ _) dX11_square_18 (fun M5 H locs eM5 hP hS => ?_)
    replace hf := lt_c eM5 hf
    refine lv_aload_n hx hb dX11_square_21 rfl (lv_at hl 1 rfl) ?_
    refine pg C hP (k := 0) (j := 1) (Nat.le_of_ble_eq_true rfl) (xd_0 _ _) rfl iw_11 (Nat.le_of_ble_eq_true rfl) g_421 rfl rfl dX11_square_22 ?_
    obtain ⟨r6, M7, h8, hf⟩ := bnd_s hf
    refine pcVv (As := []) C hP hS (k := 3) (Nat.le_of_ble_eq_true rfl) (xd_3 _ _) rfl (c8_refresh  h8) y8_refresh_w g_393 rfl rfl rfl ⟨Nat.le_of_ble_eq_true rfl, Nat.le_of_ble_eq_true rfl⟩ hl.1 rfl (Nat.le_of_ble_eq_true rfl) dX11_square_25 ⟨Nat.le_of_ble_eq_true rfl, Nat.le_of_ble_eq_true rfl⟩ (fun H locs hP hS => ?_)
    refine lv_iconst (v := (1 : Int32)) hx hb dX11_square_28 (by decide) ?_
    exact prZ C hr hk hP hS hf rfl dX11_square_29
  · replace hf := ite_t c4 hf
    refine lv_iconst (v := (0 : Int32)) hx hb dX11_square_11 (by decide) ?_
    exact prZ C hr hk hP hS hf rfl dX11_square_12
theorem c11_square {l : Launch} {z : Zt} {b n : Nat}  {a1 : Int32} {a2 : Int32} {M M' : Mem} {r : Int32} (hf : f11_square n  a1 a2 M = some (r, M')) : CI l z (xd z b) 339 b yX11_square cX11_square 4 (some .boolean) rm11_square [.ref (b + 0), .int a1, .int a2] M M' r :=
  CI.ofW (lv := [(0, .ref (b + 0)), (1, .int a1), (2, .int a2)]) (by decide) (Nat.le_of_ble_eq_true rfl) rfl (fun p e s m args below meth c ls C hr hk hP hS hl => w11_square_0 (n := n)  C hr hk  hf hP hS hl)

-- BronzeKing.door(III)Z
theorem dX11_door_0 : decode cX11_door 0 = .ok (.iload_n 2, 1) := by decide +kernel
theorem dX11_door_1 : decode cX11_door 1 = .ok (.iload_n 3, 1) := by decide +kernel
theorem dX11_door_2 : decode cX11_door 2 = .ok (.invokestatic 98, 3) := by decide +kernel
theorem dX11_door_5 : decode cX11_door 5 = .ok (.istore 4, 2) := by decide +kernel
theorem dX11_door_7 : decode cX11_door 7 = .ok (.iload 4, 2) := by decide +kernel
theorem dX11_door_9 : decode cX11_door 9 = .ok (.iconst (-1), 1) := by decide +kernel
theorem dX11_door_10 : decode cX11_door 10 = .ok (.if_icmp .eq 14, 3) := by decide +kernel
theorem dX11_door_13 : decode cX11_door 13 = .ok (.iload_n 1, 1) := by decide +kernel
theorem dX11_door_14 : decode cX11_door 14 = .ok (.iconst 1, 1) := by decide +kernel
theorem dX11_door_15 : decode cX11_door 15 = .ok (.if_icmp .lt 9, 3) := by decide +kernel
theorem dX11_door_18 : decode cX11_door 18 = .ok (.iload_n 1, 1) := by decide +kernel
theorem dX11_door_19 : decode cX11_door 19 = .ok (.bipush 9, 2) := by decide +kernel
theorem dX11_door_21 : decode cX11_door 21 = .ok (.if_icmp .le 5, 3) := by decide +kernel
theorem dX11_door_24 : decode cX11_door 24 = .ok (.iconst 0, 1) := by decide +kernel
theorem dX11_door_25 : decode cX11_door 25 = .ok (.ireturn, 1) := by decide +kernel
theorem dX11_door_26 : decode cX11_door 26 = .ok (.aload_n 0, 1) := by decide +kernel
theorem dX11_door_27 : decode cX11_door 27 = .ok (.getfield 19, 3) := by decide +kernel
theorem dX11_door_30 : decode cX11_door 30 = .ok (.getfield 106, 3) := by decide +kernel
theorem dX11_door_33 : decode cX11_door 33 = .ok (.iload_n 1, 1) := by decide +kernel
theorem dX11_door_34 : decode cX11_door 34 = .ok (.iload 4, 2) := by decide +kernel
theorem dX11_door_36 : decode cX11_door 36 = .ok (.iastore, 1) := by decide +kernel
theorem dX11_door_37 : decode cX11_door 37 = .ok (.aload_n 0, 1) := by decide +kernel
theorem dX11_door_38 : decode cX11_door 38 = .ok (.getfield 19, 3) := by decide +kernel
theorem dX11_door_41 : decode cX11_door 41 = .ok (.dup, 1) := by decide +kernel
theorem dX11_door_42 : decode cX11_door 42 = .ok (.getfield 110, 3) := by decide +kernel
theorem dX11_door_45 : decode cX11_door 45 = .ok (.iconst 1, 1) := by decide +kernel
theorem dX11_door_46 : decode cX11_door 46 = .ok (.iload_n 1, 1) := by decide +kernel
theorem dX11_door_47 : decode cX11_door 47 = .ok (.ishl, 1) := by decide +kernel
theorem dX11_door_48 : decode cX11_door 48 = .ok (.ior, 1) := by decide +kernel
theorem dX11_door_49 : decode cX11_door 49 = .ok (.putfield 110, 3) := by decide +kernel
theorem dX11_door_52 : decode cX11_door 52 = .ok (.aload_n 0, 1) := by decide +kernel
theorem dX11_door_53 : decode cX11_door 53 = .ok (.getfield 19, 3) := by decide +kernel
theorem dX11_door_56 : decode cX11_door 56 = .ok (.invokevirtual 95, 3) := by decide +kernel
theorem dX11_door_59 : decode cX11_door 59 = .ok (.iconst 1, 1) := by decide +kernel
theorem dX11_door_60 : decode cX11_door 60 = .ok (.ireturn, 1) := by decide +kernel
def b11_door_24 (rc : Nat → List Int32 → List Int64 → Mem → Option (Int32 × Mem)) (n : Nat) (M : Mem) : Option (Int32 × Mem) :=
  some ((0 : Int32), M)
def b11_door_0 (rc : Nat → List Int32 → List Int64 → Mem → Option (Int32 × Mem)) (n : Nat) (a1 : Int32) (a2 : Int32) (a3 : Int32) (M : Mem) : Option (Int32 × Mem) :=
  bnd (f11_placeAt n a2 a3 M) fun r1 M2 =>
  (if r1 = (-1 : Int32) then (
   b11_door_24  rc n  M2)
  else (
   (if a1 < (1 : Int32) then (
    b11_door_24  rc n  M2)
   else (
    (if a1 ≤ (9 : Int32) then (
     chk (inb a1 10) <|
     lt (wI M2 6 a1.toNatClampNeg r1) fun M8 =>
     lt (wI M8 3 8 ((M8.1 3 8) ||| ((1 : Int32) <<< (a1 &&& 31)))) fun M9 =>
     bnd (f8_refresh n M9) fun r10 M11 =>
     some ((1 : Int32), M11))
    else (
     b11_door_24  rc n  M2))))))
def f11_door (n : Nat) (a1 : Int32) (a2 : Int32) (a3 : Int32) (M : Mem) : Option (Int32 × Mem) := b11_door_0 (fun _ _ _ _ => none) n a1 a2 a3 M
abbrev rm11_door : Room := { frames := 3, cells := 0, slots := 0, locals := 72 }
theorem y11_door_w : yV RX11 yX11_door cX11_door 5 (some .boolean) 3 := ⟨g_468, g_469, g_1, g_470, rfl, by decide, by decide, by decide +kernel⟩
set_option maxHeartbeats 4000000 in
set_option maxRecDepth 100000 in
theorem w11_door_24 {p : Program} {l : Launch} {e : Env} {s : State} {m : MethodId} {args : Array Value} {below : List Frame} {meth : Method} {c : Code} {z : Zt} {b : Nat}  (C : Cx p s m args c cX11_door 5 RX11 z 339 b) (hr : meth.sig.returnType = (some .boolean)) (hk : meth.locks = false) {r : Int32} {M' : Mem} {rc : Nat → List Int32 → List Int64 → Mem → Option (Int32 × Mem)} {n : Nat}   {M : Mem} {H : Heap} {locs : List Loc} {ls : Array Slot} (hf : b11_door_24  rc n  M = some (r, M')) (hP : va_P z.1 vwCl (pw (xd z b) 339 b M) H) (hS : va_S (pA 339 b) s.heap H locs) (hl : lv_has ls 5 []) : W p l e rm11_door s m args below meth c H locs 0 0 (MQ below (va_Qi (fun (r' : Int32) (M2 : Mem) => r' = r ∧ M2 = M') (fun M2 t => va_P z.1 vwCl (pw (xd z b) 339 b M2) t.heap) (pA 339 b)) args s 0 0 (pA 339 b)) (F0 m 24 ls []) := by
  have hx := C.1.1
  have hb := C.1.2.1
  unfold b11_door_24 at hf
  refine lv_iconst (v := (0 : Int32)) hx hb dX11_door_24 (by decide) ?_
  exact prZ C hr hk hP hS hf rfl dX11_door_25
set_option maxHeartbeats 4000000 in
set_option maxRecDepth 100000 in
theorem w11_door_0 {p : Program} {l : Launch} {e : Env} {s : State} {m : MethodId} {args : Array Value} {below : List Frame} {meth : Method} {c : Code} {z : Zt} {b : Nat}  (C : Cx p s m args c cX11_door 5 RX11 z 339 b) (hr : meth.sig.returnType = (some .boolean)) (hk : meth.locks = false) {r : Int32} {M' : Mem} {rc : Nat → List Int32 → List Int64 → Mem → Option (Int32 × Mem)} {n : Nat}  {a1 : Int32} {a2 : Int32} {a3 : Int32} {M : Mem} {H : Heap} {locs : List Loc} {ls : Array Slot} (hf : b11_door_0  rc n a1 a2 a3 M = some (r, M')) (hP : va_P z.1 vwCl (pw (xd z b) 339 b M) H) (hS : va_S (pA 339 b) s.heap H locs) (hl : lv_has ls 5 [(0, .ref (b + 0)), (1, .int a1), (2, .int a2), (3, .int a3)]) : W p l e rm11_door s m args below meth c H locs 0 0 (MQ below (va_Qi (fun (r' : Int32) (M2 : Mem) => r' = r ∧ M2 = M') (fun M2 t => va_P z.1 vwCl (pw (xd z b) 339 b M2) t.heap) (pA 339 b)) args s 0 0 (pA 339 b)) (F0 m 0 ls []) := by
  have hx := C.1.1
  have hb := C.1.2.1
  unfold b11_door_0 at hf
  refine lv_iload_n hx hb dX11_door_0 rfl (lv_at hl 2 rfl) ?_
  refine lv_iload_n hx hb dX11_door_1 rfl (lv_at hl 3 rfl) ?_
  obtain ⟨r1, M2, h3, hf⟩ := bnd_s hf
  refine pcSi (As := [.int a2, .int a3]) C hP hS (c11_placeAt  h3) y11_placeAt_w g_464 rfl rfl rfl ⟨Nat.le_of_ble_eq_true rfl, Nat.le_of_ble_eq_true rfl⟩ hl.1 rfl (Nat.le_of_ble_eq_true rfl) dX11_door_2 ⟨Nat.le_of_ble_eq_true rfl, Nat.le_of_ble_eq_true rfl⟩ (fun H locs hP hS => ?_)
  refine lv_istore (lv' := [(4, .int r1), (0, .ref (b + 0)), (1, .int a1), (2, .int a2), (3, .int a3)]) hx hb dX11_door_5 hl (by decide) rfl (fun ls hl => ?_)
  refine lv_iload hx hb dX11_door_7 (lv_at hl 0 rfl) ?_
  refine lv_iconst (v := (-1 : Int32)) hx hb dX11_door_9 (by decide) ?_
  refine lv_icmp_eq (tgt := 24) hx hb dX11_door_10 (by decide) (fun c4 => ?_) (fun c4 => ?_)
  · replace hf := ite_t c4 hf
    exact w11_door_24 (n := n)  C hr hk  hf hP hS (lv_sub hl [] rfl)
  · replace hf := ite_f c4 hf
    refine lv_iload_n hx hb dX11_door_13 rfl (lv_at hl 2 rfl) ?_
    refine lv_iconst (v := (1 : Int32)) hx hb dX11_door_14 (by decide) ?_
    refine lv_icmp_lt (tgt := 24) hx hb dX11_door_15 (by decide) (fun c5 => ?_) (fun c5 => ?_)
    · replace hf := ite_t c5 hf
      exact w11_door_24 (n := n)  C hr hk  hf hP hS (lv_sub hl [] rfl)
    · replace hf := ite_f c5 hf
      refine lv_iload_n hx hb dX11_door_18 rfl (lv_at hl 2 rfl) ?_
      refine lv_bipush (v := (9 : Int32)) hx hb dX11_door_19 (by decide) ?_
      refine lv_icmp_le (tgt := 26) hx hb dX11_door_21 (by decide) (fun c6 => ?_) (fun c6 => ?_)
      · replace hf := ite_t c6 hf
        refine lv_aload_n hx hb dX11_door_26 rfl (lv_at hl 1 rfl) ?_
        refine pg C hP (k := 0) (j := 1) (Nat.le_of_ble_eq_true rfl) (xd_0 _ _) rfl iw_11 (Nat.le_of_ble_eq_true rfl) g_421 rfl rfl dX11_door_27 ?_
        refine pgN C hP (k := 3) (j := 2) (Nat.le_of_ble_eq_true rfl) (xd_3 _ _) rfl iw_8 (Nat.le_of_ble_eq_true rfl) g_73 rfl rfl dX11_door_30 ?_
        refine lv_iload_n hx hb dX11_door_33 rfl (lv_at hl 2 rfl) ?_
        refine lv_iload hx hb dX11_door_34 (lv_at hl 0 rfl) ?_
        have h7 := chk_1 hf
        replace hf := chk_2 hf
        refine psI C hP hS (k := 6) (Nat.le_of_ble_eq_true rfl) (xd_6) h7 dX11_door_36 (fun M8 H locs eM8 hP hS => ?_)
        replace hf := lt_c eM8 hf
        refine lv_aload_n hx hb dX11_door_37 rfl (lv_at hl 1 rfl) ?_
        refine pg C hP (k := 0) (j := 1) (Nat.le_of_ble_eq_true rfl) (xd_0 _ _) rfl iw_11 (Nat.le_of_ble_eq_true rfl) g_421 rfl rfl dX11_door_38 ?_
        refine lv_dup hx hb dX11_door_41 rfl ?_
        refine pgN C hP (k := 3) (j := 8) (Nat.le_of_ble_eq_true rfl) (xd_3 _ _) rfl iw_8 (Nat.le_of_ble_eq_true rfl) g_94 rfl rfl dX11_door_42 ?_
        refine lv_iconst (v := (1 : Int32)) hx hb dX11_door_45 (by decide) ?_
        refine lv_iload_n hx hb dX11_door_46 rfl (lv_at hl 2 rfl) ?_
        refine lv_ishl hx hb dX11_door_47 ?_
        refine lv_ior hx hb dX11_door_48 ?_
        refine ppIN C hP hS (k := 3) (j := 8) (ty := .int) (Nat.le_of_ble_eq_true rfl) (xd_3 _ _) rfl iw_8 tyX8 tyX8_ok nmX8 (Nat.le_of_ble_eq_true rfl) g_94 rfl rfl (by decide +kernel) rfl rfl (Nat.le_of_ble_eq_true rfl) (xu_3_8 _ _ _) dX11_door_49 (fun M9 H locs eM9 hP hS => ?_)
        replace hf := lt_c eM9 hf
        refine lv_aload_n hx hb dX11_door_52 rfl (lv_at hl 1 rfl) ?_
        refine pg C hP (k := 0) (j := 1) (Nat.le_of_ble_eq_true rfl) (xd_0 _ _) rfl iw_11 (Nat.le_of_ble_eq_true rfl) g_421 rfl rfl dX11_door_53 ?_
        obtain ⟨r10, M11, h12, hf⟩ := bnd_s hf
        refine pcVv (As := []) C hP hS (k := 3) (Nat.le_of_ble_eq_true rfl) (xd_3 _ _) rfl (c8_refresh  h12) y8_refresh_w g_393 rfl rfl rfl ⟨Nat.le_of_ble_eq_true rfl, Nat.le_of_ble_eq_true rfl⟩ hl.1 rfl (Nat.le_of_ble_eq_true rfl) dX11_door_56 ⟨Nat.le_of_ble_eq_true rfl, Nat.le_of_ble_eq_true rfl⟩ (fun H locs hP hS => ?_)
        refine lv_iconst (v := (1 : Int32)) hx hb dX11_door_59 (by decide) ?_
        exact prZ C hr hk hP hS hf rfl dX11_door_60
      · replace hf := ite_f c6 hf
        exact w11_door_24 (n := n)  C hr hk  hf hP hS (lv_sub hl [] rfl)
theorem c11_door {l : Launch} {z : Zt} {b n : Nat}  {a1 : Int32} {a2 : Int32} {a3 : Int32} {M M' : Mem} {r : Int32} (hf : f11_door n  a1 a2 a3 M = some (r, M')) : CI l z (xd z b) 339 b yX11_door cX11_door 5 (some .boolean) rm11_door [.ref (b + 0), .int a1, .int a2, .int a3] M M' r :=
  CI.ofW (lv := [(0, .ref (b + 0)), (1, .int a1), (2, .int a2), (3, .int a3)]) (by decide) (Nat.le_of_ble_eq_true rfl) rfl (fun p e s m args below meth c ls C hr hk hP hS hl => w11_door_0 (n := n)  C hr hk  hf hP hS hl)

-- BronzeKing.feed(IIIII)I
theorem dX11_feed_0 : decode cX11_feed 0 = .ok (.aload_n 0, 1) := by decide +kernel
theorem dX11_feed_1 : decode cX11_feed 1 = .ok (.getfield 10, 3) := by decide +kernel
theorem dX11_feed_4 : decode cX11_feed 4 = .ok (.invokevirtual 113, 3) := by decide +kernel
theorem dX11_feed_7 : decode cX11_feed 7 = .ok (.ifCond .ne 5, 3) := by decide +kernel
theorem dX11_feed_10 : decode cX11_feed 10 = .ok (.iconst (-1), 1) := by decide +kernel
theorem dX11_feed_11 : decode cX11_feed 11 = .ok (.ireturn, 1) := by decide +kernel
theorem dX11_feed_12 : decode cX11_feed 12 = .ok (.aload_n 0, 1) := by decide +kernel
theorem dX11_feed_13 : decode cX11_feed 13 = .ok (.getfield 10, 3) := by decide +kernel
theorem dX11_feed_16 : decode cX11_feed 16 = .ok (.iload_n 1, 1) := by decide +kernel
theorem dX11_feed_17 : decode cX11_feed 17 = .ok (.invokevirtual 117, 3) := by decide +kernel
theorem dX11_feed_20 : decode cX11_feed 20 = .ok (.aload_n 0, 1) := by decide +kernel
theorem dX11_feed_21 : decode cX11_feed 21 = .ok (.getfield 10, 3) := by decide +kernel
theorem dX11_feed_24 : decode cX11_feed 24 = .ok (.iload_n 2, 1) := by decide +kernel
theorem dX11_feed_25 : decode cX11_feed 25 = .ok (.invokevirtual 117, 3) := by decide +kernel
theorem dX11_feed_28 : decode cX11_feed 28 = .ok (.aload_n 0, 1) := by decide +kernel
theorem dX11_feed_29 : decode cX11_feed 29 = .ok (.getfield 10, 3) := by decide +kernel
theorem dX11_feed_32 : decode cX11_feed 32 = .ok (.iload_n 3, 1) := by decide +kernel
theorem dX11_feed_33 : decode cX11_feed 33 = .ok (.invokevirtual 117, 3) := by decide +kernel
theorem dX11_feed_36 : decode cX11_feed 36 = .ok (.aload_n 0, 1) := by decide +kernel
theorem dX11_feed_37 : decode cX11_feed 37 = .ok (.getfield 10, 3) := by decide +kernel
theorem dX11_feed_40 : decode cX11_feed 40 = .ok (.iload 4, 2) := by decide +kernel
theorem dX11_feed_42 : decode cX11_feed 42 = .ok (.invokevirtual 117, 3) := by decide +kernel
theorem dX11_feed_45 : decode cX11_feed 45 = .ok (.aload_n 0, 1) := by decide +kernel
theorem dX11_feed_46 : decode cX11_feed 46 = .ok (.getfield 10, 3) := by decide +kernel
theorem dX11_feed_49 : decode cX11_feed 49 = .ok (.iload 5, 2) := by decide +kernel
theorem dX11_feed_51 : decode cX11_feed 51 = .ok (.invokevirtual 117, 3) := by decide +kernel
theorem dX11_feed_54 : decode cX11_feed 54 = .ok (.aload_n 0, 1) := by decide +kernel
theorem dX11_feed_55 : decode cX11_feed 55 = .ok (.getfield 10, 3) := by decide +kernel
theorem dX11_feed_58 : decode cX11_feed 58 = .ok (.getfield 121, 3) := by decide +kernel
theorem dX11_feed_61 : decode cX11_feed 61 = .ok (.ireturn, 1) := by decide +kernel
def b11_feed_0 (rc : Nat → List Int32 → List Int64 → Mem → Option (Int32 × Mem)) (n : Nat) (a1 : Int32) (a2 : Int32) (a3 : Int32) (a4 : Int32) (a5 : Int32) (M : Mem) : Option (Int32 × Mem) :=
  bnd (f7_hasRoomForFive n M) fun r1 M2 =>
  (if r1 = 0 then (
   some ((-1 : Int32), M2))
  else (
   bnd (f7_addInt n a1 M2) fun r5 M6 =>
   bnd (f7_addInt n a2 M6) fun r8 M9 =>
   bnd (f7_addInt n a3 M9) fun r11 M12 =>
   bnd (f7_addInt n a4 M12) fun r14 M15 =>
   bnd (f7_addInt n a5 M15) fun r17 M18 =>
   some ((M18.1 1 1), M18)))
def f11_feed (n : Nat) (a1 : Int32) (a2 : Int32) (a3 : Int32) (a4 : Int32) (a5 : Int32) (M : Mem) : Option (Int32 × Mem) := b11_feed_0 (fun _ _ _ _ => none) n a1 a2 a3 a4 a5 M
abbrev rm11_feed : Room := { frames := 1, cells := 0, slots := 0, locals := 22 }
theorem y11_feed_w : yV RX11 yX11_feed cX11_feed 6 (some .int) 5 := ⟨g_472, g_473, g_1, g_474, rfl, by decide, by decide, by decide +kernel⟩
set_option maxHeartbeats 4000000 in
set_option maxRecDepth 100000 in
theorem w11_feed_0 {p : Program} {l : Launch} {e : Env} {s : State} {m : MethodId} {args : Array Value} {below : List Frame} {meth : Method} {c : Code} {z : Zt} {b : Nat}  (C : Cx p s m args c cX11_feed 6 RX11 z 339 b) (hr : meth.sig.returnType = (some .int)) (hk : meth.locks = false) {r : Int32} {M' : Mem} {rc : Nat → List Int32 → List Int64 → Mem → Option (Int32 × Mem)} {n : Nat}  {a1 : Int32} {a2 : Int32} {a3 : Int32} {a4 : Int32} {a5 : Int32} {M : Mem} {H : Heap} {locs : List Loc} {ls : Array Slot} (hf : b11_feed_0  rc n a1 a2 a3 a4 a5 M = some (r, M')) (hP : va_P z.1 vwCl (pw (xd z b) 339 b M) H) (hS : va_S (pA 339 b) s.heap H locs) (hl : lv_has ls 6 [(0, .ref (b + 0)), (1, .int a1), (2, .int a2), (3, .int a3), (4, .int a4), (5, .int a5)]) : W p l e rm11_feed s m args below meth c H locs 0 0 (MQ below (va_Qi (fun (r' : Int32) (M2 : Mem) => r' = r ∧ M2 = M') (fun M2 t => va_P z.1 vwCl (pw (xd z b) 339 b M2) t.heap) (pA 339 b)) args s 0 0 (pA 339 b)) (F0 m 0 ls []) := by
  have hx := C.1.1
  have hb := C.1.2.1
  unfold b11_feed_0 at hf
  refine lv_aload_n hx hb dX11_feed_0 rfl (lv_at hl 0 rfl) ?_
  refine pg C hP (k := 0) (j := 0) (Nat.le_of_ble_eq_true rfl) (xd_0 _ _) rfl iw_11 (Nat.le_of_ble_eq_true rfl) g_420 rfl rfl dX11_feed_1 ?_
  obtain ⟨r1, M2, h3, hf⟩ := bnd_s hf
  refine pcVi (As := []) C hP hS (k := 1) (Nat.le_of_ble_eq_true rfl) (xd_1 _ _) rfl (c7_hasRoomForFive  h3) y7_hasRoomForFive_w g_475 rfl rfl rfl ⟨Nat.le_of_ble_eq_true rfl, Nat.le_of_ble_eq_true rfl⟩ hl.1 rfl (Nat.le_of_ble_eq_true rfl) dX11_feed_4 ⟨Nat.le_of_ble_eq_true rfl, Nat.le_of_ble_eq_true rfl⟩ (fun H locs hP hS => ?_)
  refine lv_if_ne (tgt := 12) hx hb dX11_feed_7 (by decide) (fun c4 => ?_) (fun c4 => ?_)
  · replace hf := ite_f c4 hf
    refine lv_aload_n hx hb dX11_feed_12 rfl (lv_at hl 0 rfl) ?_
    refine pg C hP (k := 0) (j := 0) (Nat.le_of_ble_eq_true rfl) (xd_0 _ _) rfl iw_11 (Nat.le_of_ble_eq_true rfl) g_420 rfl rfl dX11_feed_13 ?_
    refine lv_iload_n hx hb dX11_feed_16 rfl (lv_at hl 1 rfl) ?_
    obtain ⟨r5, M6, h7, hf⟩ := bnd_s hf
    refine pcVv (As := [.int a1]) C hP hS (k := 1) (Nat.le_of_ble_eq_true rfl) (xd_1 _ _) rfl (c7_addInt  h7) y7_addInt_w g_479 rfl rfl rfl ⟨Nat.le_of_ble_eq_true rfl, Nat.le_of_ble_eq_true rfl⟩ hl.1 rfl (Nat.le_of_ble_eq_true rfl) dX11_feed_17 ⟨Nat.le_of_ble_eq_true rfl, Nat.le_of_ble_eq_true rfl⟩ (fun H locs hP hS => ?_)
    refine lv_aload_n hx hb dX11_feed_20 rfl (lv_at hl 0 rfl) ?_
    refine pg C hP (k := 0) (j := 0) (Nat.le_of_ble_eq_true rfl) (xd_0 _ _) rfl iw_11 (Nat.le_of_ble_eq_true rfl) g_420 rfl rfl dX11_feed_21 ?_
    refine lv_iload_n hx hb dX11_feed_24 rfl (lv_at hl 2 rfl) ?_
    obtain ⟨r8, M9, h10, hf⟩ := bnd_s hf
    refine pcVv (As := [.int a2]) C hP hS (k := 1) (Nat.le_of_ble_eq_true rfl) (xd_1 _ _) rfl (c7_addInt  h10) y7_addInt_w g_479 rfl rfl rfl ⟨Nat.le_of_ble_eq_true rfl, Nat.le_of_ble_eq_true rfl⟩ hl.1 rfl (Nat.le_of_ble_eq_true rfl) dX11_feed_25 ⟨Nat.le_of_ble_eq_true rfl, Nat.le_of_ble_eq_true rfl⟩ (fun H locs hP hS => ?_)
    refine lv_aload_n hx hb dX11_feed_28 rfl (lv_at hl 0 rfl) ?_
    refine pg C hP (k := 0) (j := 0) (Nat.le_of_ble_eq_true rfl) (xd_0 _ _) rfl iw_11 (Nat.le_of_ble_eq_true rfl) g_420 rfl rfl dX11_feed_29 ?_
    refine lv_iload_n hx hb dX11_feed_32 rfl (lv_at hl 3 rfl) ?_
    obtain ⟨r11, M12, h13, hf⟩ := bnd_s hf
    refine pcVv (As := [.int a3]) C hP hS (k := 1) (Nat.le_of_ble_eq_true rfl) (xd_1 _ _) rfl (c7_addInt  h13) y7_addInt_w g_479 rfl rfl rfl ⟨Nat.le_of_ble_eq_true rfl, Nat.le_of_ble_eq_true rfl⟩ hl.1 rfl (Nat.le_of_ble_eq_true rfl) dX11_feed_33 ⟨Nat.le_of_ble_eq_true rfl, Nat.le_of_ble_eq_true rfl⟩ (fun H locs hP hS => ?_)
    refine lv_aload_n hx hb dX11_feed_36 rfl (lv_at hl 0 rfl) ?_
    refine pg C hP (k := 0) (j := 0) (Nat.le_of_ble_eq_true rfl) (xd_0 _ _) rfl iw_11 (Nat.le_of_ble_eq_true rfl) g_420 rfl rfl dX11_feed_37 ?_
    refine lv_iload hx hb dX11_feed_40 (lv_at hl 4 rfl) ?_
    obtain ⟨r14, M15, h16, hf⟩ := bnd_s hf
    refine pcVv (As := [.int a4]) C hP hS (k := 1) (Nat.le_of_ble_eq_true rfl) (xd_1 _ _) rfl (c7_addInt  h16) y7_addInt_w g_479 rfl rfl rfl ⟨Nat.le_of_ble_eq_true rfl, Nat.le_of_ble_eq_true rfl⟩ hl.1 rfl (Nat.le_of_ble_eq_true rfl) dX11_feed_42 ⟨Nat.le_of_ble_eq_true rfl, Nat.le_of_ble_eq_true rfl⟩ (fun H locs hP hS => ?_)
    refine lv_aload_n hx hb dX11_feed_45 rfl (lv_at hl 0 rfl) ?_
    refine pg C hP (k := 0) (j := 0) (Nat.le_of_ble_eq_true rfl) (xd_0 _ _) rfl iw_11 (Nat.le_of_ble_eq_true rfl) g_420 rfl rfl dX11_feed_46 ?_
    refine lv_iload hx hb dX11_feed_49 (lv_at hl 5 rfl) ?_
    obtain ⟨r17, M18, h19, hf⟩ := bnd_s hf
    refine pcVv (As := [.int a5]) C hP hS (k := 1) (Nat.le_of_ble_eq_true rfl) (xd_1 _ _) rfl (c7_addInt  h19) y7_addInt_w g_479 rfl rfl rfl ⟨Nat.le_of_ble_eq_true rfl, Nat.le_of_ble_eq_true rfl⟩ hl.1 rfl (Nat.le_of_ble_eq_true rfl) dX11_feed_51 ⟨Nat.le_of_ble_eq_true rfl, Nat.le_of_ble_eq_true rfl⟩ (fun H locs hP hS => ?_)
    refine lv_aload_n hx hb dX11_feed_54 rfl (lv_at hl 0 rfl) ?_
    refine pg C hP (k := 0) (j := 0) (Nat.le_of_ble_eq_true rfl) (xd_0 _ _) rfl iw_11 (Nat.le_of_ble_eq_true rfl) g_420 rfl rfl dX11_feed_55 ?_
    refine pgN C hP (k := 1) (j := 1) (Nat.le_of_ble_eq_true rfl) (xd_1 _ _) rfl iw_7 (Nat.le_of_ble_eq_true rfl) g_41 rfl rfl dX11_feed_58 ?_
    exact prI C hr hk hP hS hf dX11_feed_61
  · replace hf := ite_t c4 hf
    refine lv_iconst (v := (-1 : Int32)) hx hb dX11_feed_10 (by decide) ?_
    exact prI C hr hk hP hS hf dX11_feed_11
theorem c11_feed {l : Launch} {z : Zt} {b n : Nat}  {a1 : Int32} {a2 : Int32} {a3 : Int32} {a4 : Int32} {a5 : Int32} {M M' : Mem} {r : Int32} (hf : f11_feed n  a1 a2 a3 a4 a5 M = some (r, M')) : CI l z (xd z b) 339 b yX11_feed cX11_feed 6 (some .int) rm11_feed [.ref (b + 0), .int a1, .int a2, .int a3, .int a4, .int a5] M M' r :=
  CI.ofW (lv := [(0, .ref (b + 0)), (1, .int a1), (2, .int a2), (3, .int a3), (4, .int a4), (5, .int a5)]) (by decide) (Nat.le_of_ble_eq_true rfl) rfl (fun p e s m args below meth c ls C hr hk hP hS hl => w11_feed_0 (n := n)  C hr hk  hf hP hS hl)

-- BronzeKing.map(I)I
theorem dX11_map_0 : decode cX11_map 0 = .ok (.aload_n 0, 1) := by decide +kernel
theorem dX11_map_1 : decode cX11_map 1 = .ok (.getfield 10, 3) := by decide +kernel
theorem dX11_map_4 : decode cX11_map 4 = .ok (.iload_n 1, 1) := by decide +kernel
theorem dX11_map_5 : decode cX11_map 5 = .ok (.iconst 1, 1) := by decide +kernel
theorem dX11_map_6 : decode cX11_map 6 = .ok (.bipush 110, 2) := by decide +kernel
theorem dX11_map_8 : decode cX11_map 8 = .ok (.invokevirtual 124, 3) := by decide +kernel
theorem dX11_map_11 : decode cX11_map 11 = .ok (.ifCond .ne 5, 3) := by decide +kernel
theorem dX11_map_14 : decode cX11_map 14 = .ok (.iconst (-1), 1) := by decide +kernel
theorem dX11_map_15 : decode cX11_map 15 = .ok (.ireturn, 1) := by decide +kernel
theorem dX11_map_16 : decode cX11_map 16 = .ok (.aload_n 0, 1) := by decide +kernel
theorem dX11_map_17 : decode cX11_map 17 = .ok (.getfield 19, 3) := by decide +kernel
theorem dX11_map_20 : decode cX11_map 20 = .ok (.aload_n 0, 1) := by decide +kernel
theorem dX11_map_21 : decode cX11_map 21 = .ok (.getfield 10, 3) := by decide +kernel
theorem dX11_map_24 : decode cX11_map 24 = .ok (.iload_n 1, 1) := by decide +kernel
theorem dX11_map_25 : decode cX11_map 25 = .ok (.invokevirtual 136, 3) := by decide +kernel
theorem dX11_map_28 : decode cX11_map 28 = .ok (.istore_n 2, 1) := by decide +kernel
theorem dX11_map_29 : decode cX11_map 29 = .ok (.aload_n 0, 1) := by decide +kernel
theorem dX11_map_30 : decode cX11_map 30 = .ok (.getfield 10, 3) := by decide +kernel
theorem dX11_map_33 : decode cX11_map 33 = .ok (.iconst 0, 1) := by decide +kernel
theorem dX11_map_34 : decode cX11_map 34 = .ok (.putfield 121, 3) := by decide +kernel
theorem dX11_map_37 : decode cX11_map 37 = .ok (.iload_n 2, 1) := by decide +kernel
theorem dX11_map_38 : decode cX11_map 38 = .ok (.ireturn, 1) := by decide +kernel
def b11_map_0 (rc : Nat → List Int32 → List Int64 → Mem → Option (Int32 × Mem)) (n : Nat) (a1 : Int32) (M : Mem) : Option (Int32 × Mem) :=
  bnd (f7_canGive n a1 (1 : Int32) (110 : Int32) M) fun r1 M2 =>
  (if r1 = 0 then (
   some ((-1 : Int32), M2))
  else (
   bnd (f8_readMap n a1 M2) fun r5 M6 =>
   lt (wI M6 1 1 (0 : Int32)) fun M8 =>
   some (r5, M8)))
def f11_map (n : Nat) (a1 : Int32) (M : Mem) : Option (Int32 × Mem) := b11_map_0 (fun _ _ _ _ => none) n a1 M
abbrev rm11_map : Room := { frames := 4, cells := 0, slots := 0, locals := 104 }
theorem y11_map_w : yV RX11 yX11_map cX11_map 3 (some .int) 1 := ⟨g_676, g_677, g_1, g_678, rfl, by decide, by decide, by decide +kernel⟩
set_option maxHeartbeats 4000000 in
set_option maxRecDepth 100000 in
theorem w11_map_0 {p : Program} {l : Launch} {e : Env} {s : State} {m : MethodId} {args : Array Value} {below : List Frame} {meth : Method} {c : Code} {z : Zt} {b : Nat}  (C : Cx p s m args c cX11_map 3 RX11 z 339 b) (hr : meth.sig.returnType = (some .int)) (hk : meth.locks = false) {r : Int32} {M' : Mem} {rc : Nat → List Int32 → List Int64 → Mem → Option (Int32 × Mem)} {n : Nat}  {a1 : Int32} {M : Mem} {H : Heap} {locs : List Loc} {ls : Array Slot} (hf : b11_map_0  rc n a1 M = some (r, M')) (hP : va_P z.1 vwCl (pw (xd z b) 339 b M) H) (hS : va_S (pA 339 b) s.heap H locs) (hl : lv_has ls 3 [(0, .ref (b + 0)), (1, .int a1)]) : W p l e rm11_map s m args below meth c H locs 0 0 (MQ below (va_Qi (fun (r' : Int32) (M2 : Mem) => r' = r ∧ M2 = M') (fun M2 t => va_P z.1 vwCl (pw (xd z b) 339 b M2) t.heap) (pA 339 b)) args s 0 0 (pA 339 b)) (F0 m 0 ls []) := by
  have hx := C.1.1
  have hb := C.1.2.1
  unfold b11_map_0 at hf
  refine lv_aload_n hx hb dX11_map_0 rfl (lv_at hl 0 rfl) ?_
  refine pg C hP (k := 0) (j := 0) (Nat.le_of_ble_eq_true rfl) (xd_0 _ _) rfl iw_11 (Nat.le_of_ble_eq_true rfl) g_420 rfl rfl dX11_map_1 ?_
  refine lv_iload_n hx hb dX11_map_4 rfl (lv_at hl 1 rfl) ?_
  refine lv_iconst (v := (1 : Int32)) hx hb dX11_map_5 (by decide) ?_
  refine lv_bipush (v := (110 : Int32)) hx hb dX11_map_6 (by decide) ?_
  obtain ⟨r1, M2, h3, hf⟩ := bnd_s hf
  refine pcVi (As := [.int a1, .int (1 : Int32), .int (110 : Int32)]) C hP hS (k := 1) (Nat.le_of_ble_eq_true rfl) (xd_1 _ _) rfl (c7_canGive  h3) y7_canGive_w g_487 rfl rfl rfl ⟨Nat.le_of_ble_eq_true rfl, Nat.le_of_ble_eq_true rfl⟩ hl.1 rfl (Nat.le_of_ble_eq_true rfl) dX11_map_8 ⟨Nat.le_of_ble_eq_true rfl, Nat.le_of_ble_eq_true rfl⟩ (fun H locs hP hS => ?_)
  refine lv_if_ne (tgt := 16) hx hb dX11_map_11 (by decide) (fun c4 => ?_) (fun c4 => ?_)
  · replace hf := ite_f c4 hf
    refine lv_aload_n hx hb dX11_map_16 rfl (lv_at hl 0 rfl) ?_
    refine pg C hP (k := 0) (j := 1) (Nat.le_of_ble_eq_true rfl) (xd_0 _ _) rfl iw_11 (Nat.le_of_ble_eq_true rfl) g_421 rfl rfl dX11_map_17 ?_
    refine lv_aload_n hx hb dX11_map_20 rfl (lv_at hl 0 rfl) ?_
    refine pg C hP (k := 0) (j := 0) (Nat.le_of_ble_eq_true rfl) (xd_0 _ _) rfl iw_11 (Nat.le_of_ble_eq_true rfl) g_420 rfl rfl dX11_map_21 ?_
    refine lv_iload_n hx hb dX11_map_24 rfl (lv_at hl 1 rfl) ?_
    obtain ⟨r5, M6, h7, hf⟩ := bnd_s hf
    refine pcVi (As := [.ref (b + 1), .int a1]) C hP hS (k := 3) (Nat.le_of_ble_eq_true rfl) (xd_3 _ _) rfl (c8_readMap  h7) y8_readMap_w g_679 rfl rfl rfl ⟨Nat.le_of_ble_eq_true rfl, Nat.le_of_ble_eq_true rfl⟩ hl.1 rfl (Nat.le_of_ble_eq_true rfl) dX11_map_25 ⟨Nat.le_of_ble_eq_true rfl, Nat.le_of_ble_eq_true rfl⟩ (fun H locs hP hS => ?_)
    refine lv_istore_n (lv' := [(2, .int r5), (0, .ref (b + 0)), (1, .int a1)]) hx hb dX11_map_28 rfl hl (by decide) rfl (fun ls hl => ?_)
    refine lv_aload_n hx hb dX11_map_29 rfl (lv_at hl 1 rfl) ?_
    refine pg C hP (k := 0) (j := 0) (Nat.le_of_ble_eq_true rfl) (xd_0 _ _) rfl iw_11 (Nat.le_of_ble_eq_true rfl) g_420 rfl rfl dX11_map_30 ?_
    refine lv_iconst (v := (0 : Int32)) hx hb dX11_map_33 (by decide) ?_
    refine ppIN C hP hS (k := 1) (j := 1) (ty := .int) (Nat.le_of_ble_eq_true rfl) (xd_1 _ _) rfl iw_7 tyX7 tyX7_ok nmX7 (Nat.le_of_ble_eq_true rfl) g_41 rfl rfl (by decide +kernel) rfl rfl (Nat.le_of_ble_eq_true rfl) (xu_1_1 _ _ _) dX11_map_34 (fun M8 H locs eM8 hP hS => ?_)
    replace hf := lt_c eM8 hf
    refine lv_iload_n hx hb dX11_map_37 rfl (lv_at hl 0 rfl) ?_
    exact prI C hr hk hP hS hf dX11_map_38
  · replace hf := ite_t c4 hf
    refine lv_iconst (v := (-1 : Int32)) hx hb dX11_map_14 (by decide) ?_
    exact prI C hr hk hP hS hf dX11_map_15
theorem c11_map {l : Launch} {z : Zt} {b n : Nat}  {a1 : Int32} {M M' : Mem} {r : Int32} (hf : f11_map n  a1 M = some (r, M')) : CI l z (xd z b) 339 b yX11_map cX11_map 3 (some .int) rm11_map [.ref (b + 0), .int a1] M M' r :=
  CI.ofW (lv := [(0, .ref (b + 0)), (1, .int a1)]) (by decide) (Nat.le_of_ble_eq_true rfl) rfl (fun p e s m args below meth c ls C hr hk hP hS hl => w11_map_0 (n := n)  C hr hk  hf hP hS hl)

-- BronzeKing.notes(I)I
theorem dX11_notes_0 : decode cX11_notes 0 = .ok (.aload_n 0, 1) := by decide +kernel
theorem dX11_notes_1 : decode cX11_notes 1 = .ok (.getfield 10, 3) := by decide +kernel
theorem dX11_notes_4 : decode cX11_notes 4 = .ok (.iload_n 1, 1) := by decide +kernel
theorem dX11_notes_5 : decode cX11_notes 5 = .ok (.iconst 1, 1) := by decide +kernel
theorem dX11_notes_6 : decode cX11_notes 6 = .ok (.bipush 90, 2) := by decide +kernel
theorem dX11_notes_8 : decode cX11_notes 8 = .ok (.invokevirtual 124, 3) := by decide +kernel
theorem dX11_notes_11 : decode cX11_notes 11 = .ok (.ifCond .ne 5, 3) := by decide +kernel
theorem dX11_notes_14 : decode cX11_notes 14 = .ok (.iconst (-1), 1) := by decide +kernel
theorem dX11_notes_15 : decode cX11_notes 15 = .ok (.ireturn, 1) := by decide +kernel
theorem dX11_notes_16 : decode cX11_notes 16 = .ok (.aload_n 0, 1) := by decide +kernel
theorem dX11_notes_17 : decode cX11_notes 17 = .ok (.getfield 51, 3) := by decide +kernel
theorem dX11_notes_20 : decode cX11_notes 20 = .ok (.aload_n 0, 1) := by decide +kernel
theorem dX11_notes_21 : decode cX11_notes 21 = .ok (.getfield 10, 3) := by decide +kernel
theorem dX11_notes_24 : decode cX11_notes 24 = .ok (.iload_n 1, 1) := by decide +kernel
theorem dX11_notes_25 : decode cX11_notes 25 = .ok (.invokevirtual 139, 3) := by decide +kernel
theorem dX11_notes_28 : decode cX11_notes 28 = .ok (.istore_n 2, 1) := by decide +kernel
theorem dX11_notes_29 : decode cX11_notes 29 = .ok (.aload_n 0, 1) := by decide +kernel
theorem dX11_notes_30 : decode cX11_notes 30 = .ok (.getfield 10, 3) := by decide +kernel
theorem dX11_notes_33 : decode cX11_notes 33 = .ok (.iconst 0, 1) := by decide +kernel
theorem dX11_notes_34 : decode cX11_notes 34 = .ok (.putfield 121, 3) := by decide +kernel
theorem dX11_notes_37 : decode cX11_notes 37 = .ok (.iload_n 2, 1) := by decide +kernel
theorem dX11_notes_38 : decode cX11_notes 38 = .ok (.ireturn, 1) := by decide +kernel
def b11_notes_0 (rc : Nat → List Int32 → List Int64 → Mem → Option (Int32 × Mem)) (n : Nat) (a1 : Int32) (M : Mem) : Option (Int32 × Mem) :=
  bnd (f7_canGive n a1 (1 : Int32) (90 : Int32) M) fun r1 M2 =>
  (if r1 = 0 then (
   some ((-1 : Int32), M2))
  else (
   bnd (f9_read n a1 M2) fun r5 M6 =>
   lt (wI M6 1 1 (0 : Int32)) fun M8 =>
   some (r5, M8)))
def f11_notes (n : Nat) (a1 : Int32) (M : Mem) : Option (Int32 × Mem) := b11_notes_0 (fun _ _ _ _ => none) n a1 M
abbrev rm11_notes : Room := { frames := 4, cells := 0, slots := 0, locals := 97 }
theorem y11_notes_w : yV RX11 yX11_notes cX11_notes 3 (some .int) 1 := ⟨g_692, g_693, g_1, g_694, rfl, by decide, by decide, by decide +kernel⟩
set_option maxHeartbeats 4000000 in
set_option maxRecDepth 100000 in
theorem w11_notes_0 {p : Program} {l : Launch} {e : Env} {s : State} {m : MethodId} {args : Array Value} {below : List Frame} {meth : Method} {c : Code} {z : Zt} {b : Nat}  (C : Cx p s m args c cX11_notes 3 RX11 z 339 b) (hr : meth.sig.returnType = (some .int)) (hk : meth.locks = false) {r : Int32} {M' : Mem} {rc : Nat → List Int32 → List Int64 → Mem → Option (Int32 × Mem)} {n : Nat}  {a1 : Int32} {M : Mem} {H : Heap} {locs : List Loc} {ls : Array Slot} (hf : b11_notes_0  rc n a1 M = some (r, M')) (hP : va_P z.1 vwCl (pw (xd z b) 339 b M) H) (hS : va_S (pA 339 b) s.heap H locs) (hl : lv_has ls 3 [(0, .ref (b + 0)), (1, .int a1)]) : W p l e rm11_notes s m args below meth c H locs 0 0 (MQ below (va_Qi (fun (r' : Int32) (M2 : Mem) => r' = r ∧ M2 = M') (fun M2 t => va_P z.1 vwCl (pw (xd z b) 339 b M2) t.heap) (pA 339 b)) args s 0 0 (pA 339 b)) (F0 m 0 ls []) := by
  have hx := C.1.1
  have hb := C.1.2.1
  unfold b11_notes_0 at hf
  refine lv_aload_n hx hb dX11_notes_0 rfl (lv_at hl 0 rfl) ?_
  refine pg C hP (k := 0) (j := 0) (Nat.le_of_ble_eq_true rfl) (xd_0 _ _) rfl iw_11 (Nat.le_of_ble_eq_true rfl) g_420 rfl rfl dX11_notes_1 ?_
  refine lv_iload_n hx hb dX11_notes_4 rfl (lv_at hl 1 rfl) ?_
  refine lv_iconst (v := (1 : Int32)) hx hb dX11_notes_5 (by decide) ?_
  refine lv_bipush (v := (90 : Int32)) hx hb dX11_notes_6 (by decide) ?_
  obtain ⟨r1, M2, h3, hf⟩ := bnd_s hf
  refine pcVi (As := [.int a1, .int (1 : Int32), .int (90 : Int32)]) C hP hS (k := 1) (Nat.le_of_ble_eq_true rfl) (xd_1 _ _) rfl (c7_canGive  h3) y7_canGive_w g_487 rfl rfl rfl ⟨Nat.le_of_ble_eq_true rfl, Nat.le_of_ble_eq_true rfl⟩ hl.1 rfl (Nat.le_of_ble_eq_true rfl) dX11_notes_8 ⟨Nat.le_of_ble_eq_true rfl, Nat.le_of_ble_eq_true rfl⟩ (fun H locs hP hS => ?_)
  refine lv_if_ne (tgt := 16) hx hb dX11_notes_11 (by decide) (fun c4 => ?_) (fun c4 => ?_)
  · replace hf := ite_f c4 hf
    refine lv_aload_n hx hb dX11_notes_16 rfl (lv_at hl 0 rfl) ?_
    refine pg C hP (k := 0) (j := 5) (Nat.le_of_ble_eq_true rfl) (xd_0 _ _) rfl iw_11 (Nat.le_of_ble_eq_true rfl) g_425 rfl rfl dX11_notes_17 ?_
    refine lv_aload_n hx hb dX11_notes_20 rfl (lv_at hl 0 rfl) ?_
    refine pg C hP (k := 0) (j := 0) (Nat.le_of_ble_eq_true rfl) (xd_0 _ _) rfl iw_11 (Nat.le_of_ble_eq_true rfl) g_420 rfl rfl dX11_notes_21 ?_
    refine lv_iload_n hx hb dX11_notes_24 rfl (lv_at hl 1 rfl) ?_
    obtain ⟨r5, M6, h7, hf⟩ := bnd_s hf
    refine pcVi (As := [.ref (b + 1), .int a1]) C hP hS (k := 25) (Nat.le_of_ble_eq_true rfl) (xd_25 _ _) rfl (c9_read  h7) y9_read_w g_695 rfl rfl rfl ⟨Nat.le_of_ble_eq_true rfl, Nat.le_of_ble_eq_true rfl⟩ hl.1 rfl (Nat.le_of_ble_eq_true rfl) dX11_notes_25 ⟨Nat.le_of_ble_eq_true rfl, Nat.le_of_ble_eq_true rfl⟩ (fun H locs hP hS => ?_)
    refine lv_istore_n (lv' := [(2, .int r5), (0, .ref (b + 0)), (1, .int a1)]) hx hb dX11_notes_28 rfl hl (by decide) rfl (fun ls hl => ?_)
    refine lv_aload_n hx hb dX11_notes_29 rfl (lv_at hl 1 rfl) ?_
    refine pg C hP (k := 0) (j := 0) (Nat.le_of_ble_eq_true rfl) (xd_0 _ _) rfl iw_11 (Nat.le_of_ble_eq_true rfl) g_420 rfl rfl dX11_notes_30 ?_
    refine lv_iconst (v := (0 : Int32)) hx hb dX11_notes_33 (by decide) ?_
    refine ppIN C hP hS (k := 1) (j := 1) (ty := .int) (Nat.le_of_ble_eq_true rfl) (xd_1 _ _) rfl iw_7 tyX7 tyX7_ok nmX7 (Nat.le_of_ble_eq_true rfl) g_41 rfl rfl (by decide +kernel) rfl rfl (Nat.le_of_ble_eq_true rfl) (xu_1_1 _ _ _) dX11_notes_34 (fun M8 H locs eM8 hP hS => ?_)
    replace hf := lt_c eM8 hf
    refine lv_iload_n hx hb dX11_notes_37 rfl (lv_at hl 0 rfl) ?_
    exact prI C hr hk hP hS hf dX11_notes_38
  · replace hf := ite_t c4 hf
    refine lv_iconst (v := (-1 : Int32)) hx hb dX11_notes_14 (by decide) ?_
    exact prI C hr hk hP hS hf dX11_notes_15
theorem c11_notes {l : Launch} {z : Zt} {b n : Nat}  {a1 : Int32} {M M' : Mem} {r : Int32} (hf : f11_notes n  a1 M = some (r, M')) : CI l z (xd z b) 339 b yX11_notes cX11_notes 3 (some .int) rm11_notes [.ref (b + 0), .int a1] M M' r :=
  CI.ofW (lv := [(0, .ref (b + 0)), (1, .int a1)]) (by decide) (Nat.le_of_ble_eq_true rfl) rfl (fun p e s m args below meth c ls C hr hk hP hS hl => w11_notes_0 (n := n)  C hr hk  hf hP hS hl)

-- BronzeKing.days(I)I
theorem dX11_days_0 : decode cX11_days 0 = .ok (.iload_n 1, 1) := by decide +kernel
theorem dX11_days_1 : decode cX11_days 1 = .ok (.iconst 1, 1) := by decide +kernel
theorem dX11_days_2 : decode cX11_days 2 = .ok (.if_icmp .lt 9, 3) := by decide +kernel
theorem dX11_days_5 : decode cX11_days 5 = .ok (.iload_n 1, 1) := by decide +kernel
theorem dX11_days_6 : decode cX11_days 6 = .ok (.bipush 30, 2) := by decide +kernel
theorem dX11_days_8 : decode cX11_days 8 = .ok (.if_icmp .le 5, 3) := by decide +kernel
theorem dX11_days_11 : decode cX11_days 11 = .ok (.iconst (-1), 1) := by decide +kernel
theorem dX11_days_12 : decode cX11_days 12 = .ok (.ireturn, 1) := by decide +kernel
theorem dX11_days_13 : decode cX11_days 13 = .ok (.iconst 0, 1) := by decide +kernel
theorem dX11_days_14 : decode cX11_days 14 = .ok (.istore_n 2, 1) := by decide +kernel
theorem dX11_days_15 : decode cX11_days 15 = .ok (.iconst 0, 1) := by decide +kernel
theorem dX11_days_16 : decode cX11_days 16 = .ok (.istore_n 3, 1) := by decide +kernel
theorem dX11_days_17 : decode cX11_days 17 = .ok (.iload_n 3, 1) := by decide +kernel
theorem dX11_days_18 : decode cX11_days 18 = .ok (.iload_n 1, 1) := by decide +kernel
theorem dX11_days_19 : decode cX11_days 19 = .ok (.if_icmp .ge 33, 3) := by decide +kernel
theorem dX11_days_22 : decode cX11_days 22 = .ok (.aload_n 0, 1) := by decide +kernel
theorem dX11_days_23 : decode cX11_days 23 = .ok (.getfield 42, 3) := by decide +kernel
theorem dX11_days_26 : decode cX11_days 26 = .ok (.aload_n 0, 1) := by decide +kernel
theorem dX11_days_27 : decode cX11_days 27 = .ok (.getfield 81, 3) := by decide +kernel
theorem dX11_days_30 : decode cX11_days 30 = .ok (.invokevirtual 140, 3) := by decide +kernel
theorem dX11_days_33 : decode cX11_days 33 = .ok (.ifCond .eq 19, 3) := by decide +kernel
theorem dX11_days_36 : decode cX11_days 36 = .ok (.iload_n 2, 1) := by decide +kernel
theorem dX11_days_37 : decode cX11_days 37 = .ok (.aload_n 0, 1) := by decide +kernel
theorem dX11_days_38 : decode cX11_days 38 = .ok (.getfield 81, 3) := by decide +kernel
theorem dX11_days_41 : decode cX11_days 41 = .ok (.getfield 144, 3) := by decide +kernel
theorem dX11_days_44 : decode cX11_days 44 = .ok (.iadd, 1) := by decide +kernel
theorem dX11_days_45 : decode cX11_days 45 = .ok (.istore_n 2, 1) := by decide +kernel
theorem dX11_days_46 : decode cX11_days 46 = .ok (.iinc 3 1, 3) := by decide +kernel
theorem dX11_days_49 : decode cX11_days 49 = .ok (.goto (-32), 3) := by decide +kernel
theorem dX11_days_52 : decode cX11_days 52 = .ok (.iload_n 2, 1) := by decide +kernel
theorem dX11_days_53 : decode cX11_days 53 = .ok (.ireturn, 1) := by decide +kernel
def b11_days_11 (rc : Nat → List Int32 → List Int64 → Mem → Option (Int32 × Mem)) (n : Nat) (M : Mem) : Option (Int32 × Mem) :=
  some ((-1 : Int32), M)
def b11_days_52 (rc : Nat → List Int32 → List Int64 → Mem → Option (Int32 × Mem)) (n : Nat) (i2 : Int32) (M : Mem) : Option (Int32 × Mem) :=
  some (i2, M)
def b11_days_17 (rc : Nat → List Int32 → List Int64 → Mem → Option (Int32 × Mem)) (n : Nat) (i1 : Int32) (i2 : Int32) (i3 : Int32) (M : Mem) : Option (Int32 × Mem) :=
  (if i1 ≤ i3 then (
   b11_days_52  rc n i2 M)
  else (
   bnd (f10_goDay n 330 M) fun r4 M5 =>
   (if r4 = 0 then (
    b11_days_52  rc n i2 M5)
   else (
    lt (i2 + (M5.1 330 5)) fun v8 =>
    lt (i3 + (1 : Int32)) fun v9 =>
    rc 17 [i1, v8, v9] [] M5))))
def b11_days_0 (rc : Nat → List Int32 → List Int64 → Mem → Option (Int32 × Mem)) (n : Nat) (a1 : Int32) (M : Mem) : Option (Int32 × Mem) :=
  (if a1 < (1 : Int32) then (
   b11_days_11  rc n  M)
  else (
   (if a1 ≤ (30 : Int32) then (
    b11_days_17  rc n a1 (0 : Int32) (0 : Int32) M)
   else (
    b11_days_11  rc n  M))))
def r11_days : Nat → Nat → List Int32 → List Int64 → Mem → Option (Int32 × Mem)
  | 0 => fun _ _ _ _ => none
  | n + 1 => fun pc li lj M =>
    if pc = 17 then (match li, lj with | [i1, i2, i3], [] => b11_days_17  (r11_days  n) n i1 i2 i3 M | _, _ => none) else
    none
theorem e11_days_17  (n : Nat) (i1 : Int32) (i2 : Int32) (i3 : Int32) (M : Mem) : r11_days  (n + 1) 17 [i1, i2, i3] [] M = b11_days_17  (r11_days  n) n i1 i2 i3 M := by
  rw [r11_days]
  simp
def f11_days (n : Nat) (a1 : Int32) (M : Mem) : Option (Int32 × Mem) := b11_days_0 (r11_days n) n a1 M
abbrev rm11_days : Room := { frames := 6, cells := 0, slots := 0, locals := 145 }
theorem y11_days_w : yV RX11 yX11_days cX11_days 4 (some .int) 1 := ⟨g_718, g_719, g_1, g_720, rfl, by decide, by decide, by decide +kernel⟩
set_option maxHeartbeats 4000000 in
set_option maxRecDepth 100000 in
theorem w11_days_11 {p : Program} {l : Launch} {e : Env} {s : State} {m : MethodId} {args : Array Value} {below : List Frame} {meth : Method} {c : Code} {z : Zt} {b : Nat}  (C : Cx p s m args c cX11_days 4 RX11 z 339 b) (hr : meth.sig.returnType = (some .int)) (hk : meth.locks = false) {r : Int32} {M' : Mem} {rc : Nat → List Int32 → List Int64 → Mem → Option (Int32 × Mem)} {n : Nat} (q17 : ∀ (i1 : Int32) (i2 : Int32) (i3 : Int32) (M : Mem) (H : Heap) (locs : List Loc) (ls : Array Slot), rc 17 [i1, i2, i3] [] M = some (r, M') → va_P z.1 vwCl (pw (xd z b) 339 b M) H → va_S (pA 339 b) s.heap H locs → lv_has ls 4 [(0, .ref (b + 0)), (1, .int i1), (2, .int i2), (3, .int i3)] → W p l e rm11_days s m args below meth c H locs 0 0 (MQ below (va_Qi (fun (r' : Int32) (M2 : Mem) => r' = r ∧ M2 = M') (fun M2 t => va_P z.1 vwCl (pw (xd z b) 339 b M2) t.heap) (pA 339 b)) args s 0 0 (pA 339 b)) (F0 m 17 ls []))  {M : Mem} {H : Heap} {locs : List Loc} {ls : Array Slot} (hf : b11_days_11  rc n  M = some (r, M')) (hP : va_P z.1 vwCl (pw (xd z b) 339 b M) H) (hS : va_S (pA 339 b) s.heap H locs) (hl : lv_has ls 4 []) : W p l e rm11_days s m args below meth c H locs 0 0 (MQ below (va_Qi (fun (r' : Int32) (M2 : Mem) => r' = r ∧ M2 = M') (fun M2 t => va_P z.1 vwCl (pw (xd z b) 339 b M2) t.heap) (pA 339 b)) args s 0 0 (pA 339 b)) (F0 m 11 ls []) := by
  have hx := C.1.1
  have hb := C.1.2.1
  unfold b11_days_11 at hf
  refine lv_iconst (v := (-1 : Int32)) hx hb dX11_days_11 (by decide) ?_
  exact prI C hr hk hP hS hf dX11_days_12
set_option maxHeartbeats 4000000 in
set_option maxRecDepth 100000 in
theorem w11_days_52 {p : Program} {l : Launch} {e : Env} {s : State} {m : MethodId} {args : Array Value} {below : List Frame} {meth : Method} {c : Code} {z : Zt} {b : Nat}  (C : Cx p s m args c cX11_days 4 RX11 z 339 b) (hr : meth.sig.returnType = (some .int)) (hk : meth.locks = false) {r : Int32} {M' : Mem} {rc : Nat → List Int32 → List Int64 → Mem → Option (Int32 × Mem)} {n : Nat} (q17 : ∀ (i1 : Int32) (i2 : Int32) (i3 : Int32) (M : Mem) (H : Heap) (locs : List Loc) (ls : Array Slot), rc 17 [i1, i2, i3] [] M = some (r, M') → va_P z.1 vwCl (pw (xd z b) 339 b M) H → va_S (pA 339 b) s.heap H locs → lv_has ls 4 [(0, .ref (b + 0)), (1, .int i1), (2, .int i2), (3, .int i3)] → W p l e rm11_days s m args below meth c H locs 0 0 (MQ below (va_Qi (fun (r' : Int32) (M2 : Mem) => r' = r ∧ M2 = M') (fun M2 t => va_P z.1 vwCl (pw (xd z b) 339 b M2) t.heap) (pA 339 b)) args s 0 0 (pA 339 b)) (F0 m 17 ls [])) {i2 : Int32} {M : Mem} {H : Heap} {locs : List Loc} {ls : Array Slot} (hf : b11_days_52  rc n i2 M = some (r, M')) (hP : va_P z.1 vwCl (pw (xd z b) 339 b M) H) (hS : va_S (pA 339 b) s.heap H locs) (hl : lv_has ls 4 [(2, .int i2)]) : W p l e rm11_days s m args below meth c H locs 0 0 (MQ below (va_Qi (fun (r' : Int32) (M2 : Mem) => r' = r ∧ M2 = M') (fun M2 t => va_P z.1 vwCl (pw (xd z b) 339 b M2) t.heap) (pA 339 b)) args s 0 0 (pA 339 b)) (F0 m 52 ls []) := by
  have hx := C.1.1
  have hb := C.1.2.1
  unfold b11_days_52 at hf
  refine lv_iload_n hx hb dX11_days_52 rfl (lv_at hl 0 rfl) ?_
  exact prI C hr hk hP hS hf dX11_days_53
set_option maxHeartbeats 4000000 in
set_option maxRecDepth 100000 in
theorem w11_days_17 {p : Program} {l : Launch} {e : Env} {s : State} {m : MethodId} {args : Array Value} {below : List Frame} {meth : Method} {c : Code} {z : Zt} {b : Nat}  (C : Cx p s m args c cX11_days 4 RX11 z 339 b) (hr : meth.sig.returnType = (some .int)) (hk : meth.locks = false) {r : Int32} {M' : Mem} {rc : Nat → List Int32 → List Int64 → Mem → Option (Int32 × Mem)} {n : Nat} (q17 : ∀ (i1 : Int32) (i2 : Int32) (i3 : Int32) (M : Mem) (H : Heap) (locs : List Loc) (ls : Array Slot), rc 17 [i1, i2, i3] [] M = some (r, M') → va_P z.1 vwCl (pw (xd z b) 339 b M) H → va_S (pA 339 b) s.heap H locs → lv_has ls 4 [(0, .ref (b + 0)), (1, .int i1), (2, .int i2), (3, .int i3)] → W p l e rm11_days s m args below meth c H locs 0 0 (MQ below (va_Qi (fun (r' : Int32) (M2 : Mem) => r' = r ∧ M2 = M') (fun M2 t => va_P z.1 vwCl (pw (xd z b) 339 b M2) t.heap) (pA 339 b)) args s 0 0 (pA 339 b)) (F0 m 17 ls [])) {i1 : Int32} {i2 : Int32} {i3 : Int32} {M : Mem} {H : Heap} {locs : List Loc} {ls : Array Slot} (hf : b11_days_17  rc n i1 i2 i3 M = some (r, M')) (hP : va_P z.1 vwCl (pw (xd z b) 339 b M) H) (hS : va_S (pA 339 b) s.heap H locs) (hl : lv_has ls 4 [(0, .ref (b + 0)), (1, .int i1), (2, .int i2), (3, .int i3)]) : W p l e rm11_days s m args below meth c H locs 0 0 (MQ below (va_Qi (fun (r' : Int32) (M2 : Mem) => r' = r ∧ M2 = M') (fun M2 t => va_P z.1 vwCl (pw (xd z b) 339 b M2) t.heap) (pA 339 b)) args s 0 0 (pA 339 b)) (F0 m 17 ls []) := by
  have hx := C.1.1
  have hb := C.1.2.1
  unfold b11_days_17 at hf
  refine lv_iload_n hx hb dX11_days_17 rfl (lv_at hl 3 rfl) ?_
  refine lv_iload_n hx hb dX11_days_18 rfl (lv_at hl 1 rfl) ?_
  refine lv_icmp_ge (tgt := 52) hx hb dX11_days_19 (by decide) (fun c3 => ?_) (fun c3 => ?_)
  · replace hf := ite_t c3 hf
    exact w11_days_52 (n := n)  C hr hk q17 hf hP hS (lv_sub hl [2] rfl)
  · replace hf := ite_f c3 hf
    refine lv_aload_n hx hb dX11_days_22 rfl (lv_at hl 0 rfl) ?_
    refine pg C hP (k := 0) (j := 4) (Nat.le_of_ble_eq_true rfl) (xd_0 _ _) rfl iw_11 (Nat.le_of_ble_eq_true rfl) g_424 rfl rfl dX11_days_23 ?_
    refine lv_aload_n hx hb dX11_days_26 rfl (lv_at hl 0 rfl) ?_
    refine pg C hP (k := 0) (j := 9) (Nat.le_of_ble_eq_true rfl) (xd_0 _ _) rfl iw_11 (Nat.le_of_ble_eq_true rfl) g_429 rfl rfl dX11_days_27 ?_
    obtain ⟨r4, M5, h6, hf⟩ := bnd_s hf
    refine pcVi (As := [.ref (b + 330)]) C hP hS (k := 23) (Nat.le_of_ble_eq_true rfl) (xd_23 _ _) rfl (c10_goDay co_330 h6) y10_goDay_w g_721 rfl rfl rfl ⟨Nat.le_of_ble_eq_true rfl, Nat.le_of_ble_eq_true rfl⟩ hl.1 rfl (Nat.le_of_ble_eq_true rfl) dX11_days_30 ⟨Nat.le_of_ble_eq_true rfl, Nat.le_of_ble_eq_true rfl⟩ (fun H locs hP hS => ?_)
    refine lv_if_eq (tgt := 52) hx hb dX11_days_33 (by decide) (fun c7 => ?_) (fun c7 => ?_)
    · replace hf := ite_t c7 hf
      exact w11_days_52 (n := n)  C hr hk q17 hf hP hS (lv_sub hl [2] rfl)
    · replace hf := ite_f c7 hf
      refine lv_iload_n hx hb dX11_days_36 rfl (lv_at hl 2 rfl) ?_
      refine lv_aload_n hx hb dX11_days_37 rfl (lv_at hl 0 rfl) ?_
      refine pg C hP (k := 0) (j := 9) (Nat.le_of_ble_eq_true rfl) (xd_0 _ _) rfl iw_11 (Nat.le_of_ble_eq_true rfl) g_429 rfl rfl dX11_days_38 ?_
      refine pgN C hP (k := 330) (j := 5) (co_lt co_330) ((co_d co_330) _ _) rfl iw_0 (Nat.le_of_ble_eq_true rfl) g_369 rfl rfl dX11_days_41 ?_
      refine lv_iadd hx hb dX11_days_44 ?_
      refine lv_topi (fun v8 ev8 => ?_)
      replace hf := lt_c ev8 hf
      refine lv_istore_n (lv' := [(2, .int v8), (0, .ref (b + 0)), (1, .int i1), (3, .int i3)]) hx hb dX11_days_45 rfl hl (by decide) rfl (fun ls hl => ?_)
      obtain ⟨v9, ev9⟩ : ∃ v : Int32, v = i3 + (1 : Int32) := ⟨_, rfl⟩
      replace hf := lt_c ev9 hf
      refine lv_iinc (v := v9) (lv' := [(3, .int v9), (2, .int v8), (0, .ref (b + 0)), (1, .int i1)]) hx hb dX11_days_46 hl (k := 3) rfl (by rw [ev9]; rfl) (by decide) rfl (fun ls hl => ?_)
      refine lv_goto (tgt := 17) hx hb dX11_days_49 (by decide) ?_
      exact q17 i1 v8 v9 M5 _ _ _ hf hP hS (lv_sub hl [2, 3, 1, 0] rfl)
set_option maxHeartbeats 4000000 in
set_option maxRecDepth 100000 in
theorem w11_days_0 {p : Program} {l : Launch} {e : Env} {s : State} {m : MethodId} {args : Array Value} {below : List Frame} {meth : Method} {c : Code} {z : Zt} {b : Nat}  (C : Cx p s m args c cX11_days 4 RX11 z 339 b) (hr : meth.sig.returnType = (some .int)) (hk : meth.locks = false) {r : Int32} {M' : Mem} {rc : Nat → List Int32 → List Int64 → Mem → Option (Int32 × Mem)} {n : Nat} (q17 : ∀ (i1 : Int32) (i2 : Int32) (i3 : Int32) (M : Mem) (H : Heap) (locs : List Loc) (ls : Array Slot), rc 17 [i1, i2, i3] [] M = some (r, M') → va_P z.1 vwCl (pw (xd z b) 339 b M) H → va_S (pA 339 b) s.heap H locs → lv_has ls 4 [(0, .ref (b + 0)), (1, .int i1), (2, .int i2), (3, .int i3)] → W p l e rm11_days s m args below meth c H locs 0 0 (MQ below (va_Qi (fun (r' : Int32) (M2 : Mem) => r' = r ∧ M2 = M') (fun M2 t => va_P z.1 vwCl (pw (xd z b) 339 b M2) t.heap) (pA 339 b)) args s 0 0 (pA 339 b)) (F0 m 17 ls [])) {a1 : Int32} {M : Mem} {H : Heap} {locs : List Loc} {ls : Array Slot} (hf : b11_days_0  rc n a1 M = some (r, M')) (hP : va_P z.1 vwCl (pw (xd z b) 339 b M) H) (hS : va_S (pA 339 b) s.heap H locs) (hl : lv_has ls 4 [(0, .ref (b + 0)), (1, .int a1)]) : W p l e rm11_days s m args below meth c H locs 0 0 (MQ below (va_Qi (fun (r' : Int32) (M2 : Mem) => r' = r ∧ M2 = M') (fun M2 t => va_P z.1 vwCl (pw (xd z b) 339 b M2) t.heap) (pA 339 b)) args s 0 0 (pA 339 b)) (F0 m 0 ls []) := by
  have hx := C.1.1
  have hb := C.1.2.1
  unfold b11_days_0 at hf
  refine lv_iload_n hx hb dX11_days_0 rfl (lv_at hl 1 rfl) ?_
  refine lv_iconst (v := (1 : Int32)) hx hb dX11_days_1 (by decide) ?_
  refine lv_icmp_lt (tgt := 11) hx hb dX11_days_2 (by decide) (fun c1 => ?_) (fun c1 => ?_)
  · replace hf := ite_t c1 hf
    exact w11_days_11 (n := n)  C hr hk q17 hf hP hS (lv_sub hl [] rfl)
  · replace hf := ite_f c1 hf
    refine lv_iload_n hx hb dX11_days_5 rfl (lv_at hl 1 rfl) ?_
    refine lv_bipush (v := (30 : Int32)) hx hb dX11_days_6 (by decide) ?_
    refine lv_icmp_le (tgt := 13) hx hb dX11_days_8 (by decide) (fun c2 => ?_) (fun c2 => ?_)
    · replace hf := ite_t c2 hf
      refine lv_iconst (v := (0 : Int32)) hx hb dX11_days_13 (by decide) ?_
      refine lv_istore_n (lv' := [(2, .int (0 : Int32)), (0, .ref (b + 0)), (1, .int a1)]) hx hb dX11_days_14 rfl hl (by decide) rfl (fun ls hl => ?_)
      refine lv_iconst (v := (0 : Int32)) hx hb dX11_days_15 (by decide) ?_
      refine lv_istore_n (lv' := [(3, .int (0 : Int32)), (2, .int (0 : Int32)), (0, .ref (b + 0)), (1, .int a1)]) hx hb dX11_days_16 rfl hl (by decide) rfl (fun ls hl => ?_)
      exact w11_days_17 (n := n)  C hr hk q17 hf hP hS (lv_sub hl [2, 3, 1, 0] rfl)
    · replace hf := ite_f c2 hf
      exact w11_days_11 (n := n)  C hr hk q17 hf hP hS (lv_sub hl [] rfl)
set_option maxHeartbeats 4000000 in
set_option maxRecDepth 100000 in
theorem l11_days {p : Program} {l : Launch} {e : Env} {s : State} {m : MethodId} {args : Array Value} {below : List Frame} {meth : Method} {c : Code} {z : Zt} {b : Nat}  (C : Cx p s m args c cX11_days 4 RX11 z 339 b) (hr : meth.sig.returnType = (some .int)) (hk : meth.locks = false) {r : Int32} {M' : Mem} (n : Nat) : (∀ (i1 : Int32) (i2 : Int32) (i3 : Int32) (M : Mem) (H : Heap) (locs : List Loc) (ls : Array Slot), (r11_days  n) 17 [i1, i2, i3] [] M = some (r, M') → va_P z.1 vwCl (pw (xd z b) 339 b M) H → va_S (pA 339 b) s.heap H locs → lv_has ls 4 [(0, .ref (b + 0)), (1, .int i1), (2, .int i2), (3, .int i3)] → W p l e rm11_days s m args below meth c H locs 0 0 (MQ below (va_Qi (fun (r' : Int32) (M2 : Mem) => r' = r ∧ M2 = M') (fun M2 t => va_P z.1 vwCl (pw (xd z b) 339 b M2) t.heap) (pA 339 b)) args s 0 0 (pA 339 b)) (F0 m 17 ls [])) := by
  induction n with
  | zero => exact fun _ _ _ _ _ _ _ hf => (by cases hf)
  | succ n ih => exact fun _ _ _ _ _ _ _ hf hP hS hl => w11_days_17 (n := n)  C hr hk ih ((e11_days_17  n _ _ _ _).symm.trans hf) hP hS hl
theorem c11_days {l : Launch} {z : Zt} {b n : Nat}  {a1 : Int32} {M M' : Mem} {r : Int32} (hf : f11_days n  a1 M = some (r, M')) : CI l z (xd z b) 339 b yX11_days cX11_days 4 (some .int) rm11_days [.ref (b + 0), .int a1] M M' r :=
  CI.ofW (lv := [(0, .ref (b + 0)), (1, .int a1)]) (by decide) (Nat.le_of_ble_eq_true rfl) rfl (fun p e s m args below meth c ls C hr hk hP hS hl => w11_days_0 (n := n)  C hr hk (l11_days  C hr hk n) hf hP hS hl)

-- BronzeKing.tried(II)I
theorem dX11_tried_0 : decode cX11_tried 0 = .ok (.iload_n 2, 1) := by decide +kernel
theorem dX11_tried_1 : decode cX11_tried 1 = .ok (.bipush 100, 2) := by decide +kernel
theorem dX11_tried_3 : decode cX11_tried 3 = .ok (.if_icmp .lt 14, 3) := by decide +kernel
theorem dX11_tried_6 : decode cX11_tried 6 = .ok (.iload_n 2, 1) := by decide +kernel
theorem dX11_tried_7 : decode cX11_tried 7 = .ok (.sipush 196, 3) := by decide +kernel
theorem dX11_tried_10 : decode cX11_tried 10 = .ok (.if_icmp .ge 7, 3) := by decide +kernel
theorem dX11_tried_13 : decode cX11_tried 13 = .ok (.iconst 1, 1) := by decide +kernel
theorem dX11_tried_14 : decode cX11_tried 14 = .ok (.goto 4, 3) := by decide +kernel
theorem dX11_tried_17 : decode cX11_tried 17 = .ok (.iconst 0, 1) := by decide +kernel
theorem dX11_tried_18 : decode cX11_tried 18 = .ok (.istore_n 3, 1) := by decide +kernel
theorem dX11_tried_19 : decode cX11_tried 19 = .ok (.iload_n 1, 1) := by decide +kernel
theorem dX11_tried_20 : decode cX11_tried 20 = .ok (.iconst 1, 1) := by decide +kernel
theorem dX11_tried_21 : decode cX11_tried 21 = .ok (.if_icmp .lt 22, 3) := by decide +kernel
theorem dX11_tried_24 : decode cX11_tried 24 = .ok (.iload_n 1, 1) := by decide +kernel
theorem dX11_tried_25 : decode cX11_tried 25 = .ok (.bipush 30, 2) := by decide +kernel
theorem dX11_tried_27 : decode cX11_tried 27 = .ok (.if_icmp .gt 16, 3) := by decide +kernel
theorem dX11_tried_30 : decode cX11_tried 30 = .ok (.iload_n 2, 1) := by decide +kernel
theorem dX11_tried_31 : decode cX11_tried 31 = .ok (.ifCond .lt 12, 3) := by decide +kernel
theorem dX11_tried_34 : decode cX11_tried 34 = .ok (.iload_n 2, 1) := by decide +kernel
theorem dX11_tried_35 : decode cX11_tried 35 = .ok (.iconst 3, 1) := by decide +kernel
theorem dX11_tried_36 : decode cX11_tried 36 = .ok (.if_icmp .le 9, 3) := by decide +kernel
theorem dX11_tried_39 : decode cX11_tried 39 = .ok (.iload_n 3, 1) := by decide +kernel
theorem dX11_tried_40 : decode cX11_tried 40 = .ok (.ifCond .ne 5, 3) := by decide +kernel
theorem dX11_tried_43 : decode cX11_tried 43 = .ok (.iconst (-1), 1) := by decide +kernel
theorem dX11_tried_44 : decode cX11_tried 44 = .ok (.ireturn, 1) := by decide +kernel
theorem dX11_tried_45 : decode cX11_tried 45 = .ok (.aload_n 0, 1) := by decide +kernel
theorem dX11_tried_46 : decode cX11_tried 46 = .ok (.getfield 88, 3) := by decide +kernel
theorem dX11_tried_49 : decode cX11_tried 49 = .ok (.aload_n 0, 1) := by decide +kernel
theorem dX11_tried_50 : decode cX11_tried 50 = .ok (.getfield 81, 3) := by decide +kernel
theorem dX11_tried_53 : decode cX11_tried 53 = .ok (.invokevirtual 147, 3) := by decide +kernel
theorem dX11_tried_56 : decode cX11_tried 56 = .ok (.iconst 0, 1) := by decide +kernel
theorem dX11_tried_57 : decode cX11_tried 57 = .ok (.istore 4, 2) := by decide +kernel
theorem dX11_tried_59 : decode cX11_tried 59 = .ok (.iconst 0, 1) := by decide +kernel
theorem dX11_tried_60 : decode cX11_tried 60 = .ok (.istore 5, 2) := by decide +kernel
theorem dX11_tried_62 : decode cX11_tried 62 = .ok (.iconst 0, 1) := by decide +kernel
theorem dX11_tried_63 : decode cX11_tried 63 = .ok (.istore 6, 2) := by decide +kernel
theorem dX11_tried_65 : decode cX11_tried 65 = .ok (.bipush (-2), 2) := by decide +kernel
theorem dX11_tried_67 : decode cX11_tried 67 = .ok (.istore 7, 2) := by decide +kernel
theorem dX11_tried_69 : decode cX11_tried 69 = .ok (.iconst 0, 1) := by decide +kernel
theorem dX11_tried_70 : decode cX11_tried 70 = .ok (.istore 8, 2) := by decide +kernel
theorem dX11_tried_72 : decode cX11_tried 72 = .ok (.iload 8, 2) := by decide +kernel
theorem dX11_tried_74 : decode cX11_tried 74 = .ok (.iload_n 1, 1) := by decide +kernel
theorem dX11_tried_75 : decode cX11_tried 75 = .ok (.if_icmp .ge 79, 3) := by decide +kernel
theorem dX11_tried_78 : decode cX11_tried 78 = .ok (.aload_n 0, 1) := by decide +kernel
theorem dX11_tried_79 : decode cX11_tried 79 = .ok (.getfield 42, 3) := by decide +kernel
theorem dX11_tried_82 : decode cX11_tried 82 = .ok (.aload_n 0, 1) := by decide +kernel
theorem dX11_tried_83 : decode cX11_tried 83 = .ok (.getfield 88, 3) := by decide +kernel
theorem dX11_tried_86 : decode cX11_tried 86 = .ok (.invokevirtual 140, 3) := by decide +kernel
theorem dX11_tried_89 : decode cX11_tried 89 = .ok (.ifCond .eq 65, 3) := by decide +kernel
theorem dX11_tried_92 : decode cX11_tried 92 = .ok (.iload 4, 2) := by decide +kernel
theorem dX11_tried_94 : decode cX11_tried 94 = .ok (.aload_n 0, 1) := by decide +kernel
theorem dX11_tried_95 : decode cX11_tried 95 = .ok (.getfield 88, 3) := by decide +kernel
theorem dX11_tried_98 : decode cX11_tried 98 = .ok (.getfield 144, 3) := by decide +kernel
theorem dX11_tried_101 : decode cX11_tried 101 = .ok (.iadd, 1) := by decide +kernel
theorem dX11_tried_102 : decode cX11_tried 102 = .ok (.istore 4, 2) := by decide +kernel
theorem dX11_tried_104 : decode cX11_tried 104 = .ok (.iload 5, 2) := by decide +kernel
theorem dX11_tried_106 : decode cX11_tried 106 = .ok (.aload_n 0, 1) := by decide +kernel
theorem dX11_tried_107 : decode cX11_tried 107 = .ok (.getfield 88, 3) := by decide +kernel
theorem dX11_tried_110 : decode cX11_tried 110 = .ok (.getfield 150, 3) := by decide +kernel
theorem dX11_tried_113 : decode cX11_tried 113 = .ok (.ifCond .lt 7, 3) := by decide +kernel
theorem dX11_tried_116 : decode cX11_tried 116 = .ok (.iconst 1, 1) := by decide +kernel
theorem dX11_tried_117 : decode cX11_tried 117 = .ok (.goto 4, 3) := by decide +kernel
theorem dX11_tried_120 : decode cX11_tried 120 = .ok (.iconst 0, 1) := by decide +kernel
theorem dX11_tried_121 : decode cX11_tried 121 = .ok (.iadd, 1) := by decide +kernel
theorem dX11_tried_122 : decode cX11_tried 122 = .ok (.istore 5, 2) := by decide +kernel
theorem dX11_tried_124 : decode cX11_tried 124 = .ok (.iload 6, 2) := by decide +kernel
theorem dX11_tried_126 : decode cX11_tried 126 = .ok (.aload_n 0, 1) := by decide +kernel
theorem dX11_tried_127 : decode cX11_tried 127 = .ok (.getfield 88, 3) := by decide +kernel
theorem dX11_tried_130 : decode cX11_tried 130 = .ok (.getfield 153, 3) := by decide +kernel
theorem dX11_tried_133 : decode cX11_tried 133 = .ok (.invokestatic 156, 3) := by decide +kernel
theorem dX11_tried_136 : decode cX11_tried 136 = .ok (.iadd, 1) := by decide +kernel
theorem dX11_tried_137 : decode cX11_tried 137 = .ok (.istore 6, 2) := by decide +kernel
theorem dX11_tried_139 : decode cX11_tried 139 = .ok (.aload_n 0, 1) := by decide +kernel
theorem dX11_tried_140 : decode cX11_tried 140 = .ok (.getfield 88, 3) := by decide +kernel
theorem dX11_tried_143 : decode cX11_tried 143 = .ok (.getfield 150, 3) := by decide +kernel
theorem dX11_tried_146 : decode cX11_tried 146 = .ok (.istore 7, 2) := by decide +kernel
theorem dX11_tried_148 : decode cX11_tried 148 = .ok (.iinc 8 1, 3) := by decide +kernel
theorem dX11_tried_151 : decode cX11_tried 151 = .ok (.goto (-79), 3) := by decide +kernel
theorem dX11_tried_154 : decode cX11_tried 154 = .ok (.iload_n 3, 1) := by decide +kernel
theorem dX11_tried_155 : decode cX11_tried 155 = .ok (.ifCond .eq 16, 3) := by decide +kernel
theorem dX11_tried_158 : decode cX11_tried 158 = .ok (.aload_n 0, 1) := by decide +kernel
theorem dX11_tried_159 : decode cX11_tried 159 = .ok (.getfield 88, 3) := by decide +kernel
theorem dX11_tried_162 : decode cX11_tried 162 = .ok (.getfield 162, 3) := by decide +kernel
theorem dX11_tried_165 : decode cX11_tried 165 = .ok (.iload_n 2, 1) := by decide +kernel
theorem dX11_tried_166 : decode cX11_tried 166 = .ok (.bipush 100, 2) := by decide +kernel
theorem dX11_tried_168 : decode cX11_tried 168 = .ok (.isub, 1) := by decide +kernel
theorem dX11_tried_169 : decode cX11_tried 169 = .ok (.iaload, 1) := by decide +kernel
theorem dX11_tried_170 : decode cX11_tried 170 = .ok (.ireturn, 1) := by decide +kernel
theorem dX11_tried_171 : decode cX11_tried 171 = .ok (.iload_n 2, 1) := by decide +kernel
theorem dX11_tried_172 : decode cX11_tried 172 = .ok (.tableswitch 37 0 2 #[28, 31, 34], 28) := by decide +kernel
theorem dX11_tried_200 : decode cX11_tried 200 = .ok (.iload 4, 2) := by decide +kernel
theorem dX11_tried_202 : decode cX11_tried 202 = .ok (.ireturn, 1) := by decide +kernel
theorem dX11_tried_203 : decode cX11_tried 203 = .ok (.iload 5, 2) := by decide +kernel
theorem dX11_tried_205 : decode cX11_tried 205 = .ok (.ireturn, 1) := by decide +kernel
theorem dX11_tried_206 : decode cX11_tried 206 = .ok (.iload 6, 2) := by decide +kernel
theorem dX11_tried_208 : decode cX11_tried 208 = .ok (.ireturn, 1) := by decide +kernel
theorem dX11_tried_209 : decode cX11_tried 209 = .ok (.iload 7, 2) := by decide +kernel
theorem dX11_tried_211 : decode cX11_tried 211 = .ok (.ireturn, 1) := by decide +kernel
def b11_tried_43 (rc : Nat → List Int32 → List Int64 → Mem → Option (Int32 × Mem)) (n : Nat) (M : Mem) : Option (Int32 × Mem) :=
  some ((-1 : Int32), M)
def b11_tried_154 (rc : Nat → List Int32 → List Int64 → Mem → Option (Int32 × Mem)) (n : Nat) (i2 : Int32) (i3 : Int32) (i4 : Int32) (i5 : Int32) (i6 : Int32) (i7 : Int32) (M : Mem) : Option (Int32 × Mem) :=
  (if i3 = 0 then (
   (if i2 = (0 : Int32) then (
    some (i4, M))
   else (
    (if i2 = (1 : Int32) then (
     some (i5, M))
    else (
     (if i2 = (2 : Int32) then (
      some (i6, M))
     else (
      some (i7, M))))))))
  else (
   chk (inb (i2 - (100 : Int32)) 96) <|
   some ((M.1 (336 + 1) (i2 - (100 : Int32)).toNatClampNeg), M)))
def b11_tried_121 (rc : Nat → List Int32 → List Int64 → Mem → Option (Int32 × Mem)) (n : Nat) (i1 : Int32) (i2 : Int32) (i3 : Int32) (i4 : Int32) (i6 : Int32) (i8 : Int32) (s0 : Int32) (s1 : Int32) (M : Mem) : Option (Int32 × Mem) :=
  lt (s0 + s1) fun v18 =>
  bnd (fZJ6_bitCount_0f7a4 n (M.1 336 6) M) fun r19 M20 =>
  lt (i6 + r19) fun v22 =>
  lt (M20.1 336 4) fun v23 =>
  lt (i8 + (1 : Int32)) fun v24 =>
  rc 72 [i1, i2, i3, i4, v18, v22, v23, v24] [] M20
def b11_tried_72 (rc : Nat → List Int32 → List Int64 → Mem → Option (Int32 × Mem)) (n : Nat) (i1 : Int32) (i2 : Int32) (i3 : Int32) (i4 : Int32) (i5 : Int32) (i6 : Int32) (i7 : Int32) (i8 : Int32) (M : Mem) : Option (Int32 × Mem) :=
  (if i1 ≤ i8 then (
   b11_tried_154  rc n i2 i3 i4 i5 i6 i7 M)
  else (
   bnd (f10_goDay n 336 M) fun r12 M13 =>
   (if r12 = 0 then (
    b11_tried_154  rc n i2 i3 i4 i5 i6 i7 M13)
   else (
    lt (i4 + (M13.1 336 5)) fun v16 =>
    (if (M13.1 336 4) < 0 then (
     b11_tried_121  rc n i1 i2 i3 v16 i6 i8 i5 (0 : Int32) M13)
    else (
     b11_tried_121  rc n i1 i2 i3 v16 i6 i8 i5 (1 : Int32) M13))))))
def b11_tried_45 (rc : Nat → List Int32 → List Int64 → Mem → Option (Int32 × Mem)) (n : Nat) (i1 : Int32) (i2 : Int32) (i3 : Int32) (M : Mem) : Option (Int32 × Mem) :=
  bnd (f0_take n 336 330 M) fun r8 M9 =>
  b11_tried_72  rc n i1 i2 i3 (0 : Int32) (0 : Int32) (0 : Int32) (-2 : Int32) (0 : Int32) M9
def b11_tried_18 (rc : Nat → List Int32 → List Int64 → Mem → Option (Int32 × Mem)) (n : Nat) (i1 : Int32) (i2 : Int32) (s0 : Int32) (M : Mem) : Option (Int32 × Mem) :=
  (if i1 < (1 : Int32) then (
   b11_tried_43  rc n  M)
  else (
   (if (30 : Int32) < i1 then (
    b11_tried_43  rc n  M)
   else (
    (if i2 < 0 then (
     b11_tried_43  rc n  M)
    else (
     (if i2 ≤ (3 : Int32) then (
      b11_tried_45  rc n i1 i2 s0 M)
     else (
      (if s0 = 0 then (
       b11_tried_43  rc n  M)
      else (
       b11_tried_45  rc n i1 i2 s0 M))))))))))
def b11_tried_17 (rc : Nat → List Int32 → List Int64 → Mem → Option (Int32 × Mem)) (n : Nat) (i1 : Int32) (i2 : Int32) (M : Mem) : Option (Int32 × Mem) :=
  b11_tried_18  rc n i1 i2 (0 : Int32) M
def b11_tried_0 (rc : Nat → List Int32 → List Int64 → Mem → Option (Int32 × Mem)) (n : Nat) (a1 : Int32) (a2 : Int32) (M : Mem) : Option (Int32 × Mem) :=
  (if a2 < (100 : Int32) then (
   b11_tried_17  rc n a1 a2 M)
  else (
   (if (196 : Int32) ≤ a2 then (
    b11_tried_17  rc n a1 a2 M)
   else (
    b11_tried_18  rc n a1 a2 (1 : Int32) M))))
def r11_tried : Nat → Nat → List Int32 → List Int64 → Mem → Option (Int32 × Mem)
  | 0 => fun _ _ _ _ => none
  | n + 1 => fun pc li lj M =>
    if pc = 72 then (match li, lj with | [i1, i2, i3, i4, i5, i6, i7, i8], [] => b11_tried_72  (r11_tried  n) n i1 i2 i3 i4 i5 i6 i7 i8 M | _, _ => none) else
    none
theorem e11_tried_72  (n : Nat) (i1 : Int32) (i2 : Int32) (i3 : Int32) (i4 : Int32) (i5 : Int32) (i6 : Int32) (i7 : Int32) (i8 : Int32) (M : Mem) : r11_tried  (n + 1) 72 [i1, i2, i3, i4, i5, i6, i7, i8] [] M = b11_tried_72  (r11_tried  n) n i1 i2 i3 i4 i5 i6 i7 i8 M := by
  rw [r11_tried]
  simp
def f11_tried (n : Nat) (a1 : Int32) (a2 : Int32) (M : Mem) : Option (Int32 × Mem) := b11_tried_0 (r11_tried n) n a1 a2 M
abbrev rm11_tried : Room := { frames := 6, cells := 0, slots := 0, locals := 145 }
theorem y11_tried_w : yV RX11 yX11_tried cX11_tried 9 (some .int) 2 := ⟨g_808, g_809, g_1, g_810, rfl, by decide, by decide, by decide +kernel⟩
set_option maxHeartbeats 4000000 in
set_option maxRecDepth 100000 in
theorem w11_tried_43 {p : Program} {l : Launch} {e : Env} {s : State} {m : MethodId} {args : Array Value} {below : List Frame} {meth : Method} {c : Code} {z : Zt} {b : Nat}  (C : Cx p s m args c cX11_tried 9 RX11 z 339 b) (hr : meth.sig.returnType = (some .int)) (hk : meth.locks = false) {r : Int32} {M' : Mem} {rc : Nat → List Int32 → List Int64 → Mem → Option (Int32 × Mem)} {n : Nat} (q72 : ∀ (i1 : Int32) (i2 : Int32) (i3 : Int32) (i4 : Int32) (i5 : Int32) (i6 : Int32) (i7 : Int32) (i8 : Int32) (M : Mem) (H : Heap) (locs : List Loc) (ls : Array Slot), rc 72 [i1, i2, i3, i4, i5, i6, i7, i8] [] M = some (r, M') → va_P z.1 vwCl (pw (xd z b) 339 b M) H → va_S (pA 339 b) s.heap H locs → lv_has ls 9 [(0, .ref (b + 0)), (1, .int i1), (2, .int i2), (3, .int i3), (4, .int i4), (5, .int i5), (6, .int i6), (7, .int i7), (8, .int i8)] → W p l e rm11_tried s m args below meth c H locs 0 0 (MQ below (va_Qi (fun (r' : Int32) (M2 : Mem) => r' = r ∧ M2 = M') (fun M2 t => va_P z.1 vwCl (pw (xd z b) 339 b M2) t.heap) (pA 339 b)) args s 0 0 (pA 339 b)) (F0 m 72 ls []))  {M : Mem} {H : Heap} {locs : List Loc} {ls : Array Slot} (hf : b11_tried_43  rc n  M = some (r, M')) (hP : va_P z.1 vwCl (pw (xd z b) 339 b M) H) (hS : va_S (pA 339 b) s.heap H locs) (hl : lv_has ls 9 []) : W p l e rm11_tried s m args below meth c H locs 0 0 (MQ below (va_Qi (fun (r' : Int32) (M2 : Mem) => r' = r ∧ M2 = M') (fun M2 t => va_P z.1 vwCl (pw (xd z b) 339 b M2) t.heap) (pA 339 b)) args s 0 0 (pA 339 b)) (F0 m 43 ls []) := by
  have hx := C.1.1
  have hb := C.1.2.1
  unfold b11_tried_43 at hf
  refine lv_iconst (v := (-1 : Int32)) hx hb dX11_tried_43 (by decide) ?_
  exact prI C hr hk hP hS hf dX11_tried_44
set_option maxHeartbeats 4000000 in
set_option maxRecDepth 100000 in
theorem w11_tried_154 {p : Program} {l : Launch} {e : Env} {s : State} {m : MethodId} {args : Array Value} {below : List Frame} {meth : Method} {c : Code} {z : Zt} {b : Nat}  (C : Cx p s m args c cX11_tried 9 RX11 z 339 b) (hr : meth.sig.returnType = (some .int)) (hk : meth.locks = false) {r : Int32} {M' : Mem} {rc : Nat → List Int32 → List Int64 → Mem → Option (Int32 × Mem)} {n : Nat} (q72 : ∀ (i1 : Int32) (i2 : Int32) (i3 : Int32) (i4 : Int32) (i5 : Int32) (i6 : Int32) (i7 : Int32) (i8 : Int32) (M : Mem) (H : Heap) (locs : List Loc) (ls : Array Slot), rc 72 [i1, i2, i3, i4, i5, i6, i7, i8] [] M = some (r, M') → va_P z.1 vwCl (pw (xd z b) 339 b M) H → va_S (pA 339 b) s.heap H locs → lv_has ls 9 [(0, .ref (b + 0)), (1, .int i1), (2, .int i2), (3, .int i3), (4, .int i4), (5, .int i5), (6, .int i6), (7, .int i7), (8, .int i8)] → W p l e rm11_tried s m args below meth c H locs 0 0 (MQ below (va_Qi (fun (r' : Int32) (M2 : Mem) => r' = r ∧ M2 = M') (fun M2 t => va_P z.1 vwCl (pw (xd z b) 339 b M2) t.heap) (pA 339 b)) args s 0 0 (pA 339 b)) (F0 m 72 ls [])) {i2 : Int32} {i3 : Int32} {i4 : Int32} {i5 : Int32} {i6 : Int32} {i7 : Int32} {M : Mem} {H : Heap} {locs : List Loc} {ls : Array Slot} (hf : b11_tried_154  rc n i2 i3 i4 i5 i6 i7 M = some (r, M')) (hP : va_P z.1 vwCl (pw (xd z b) 339 b M) H) (hS : va_S (pA 339 b) s.heap H locs) (hl : lv_has ls 9 [(0, .ref (b + 0)), (2, .int i2), (3, .int i3), (4, .int i4), (5, .int i5), (6, .int i6), (7, .int i7)]) : W p l e rm11_tried s m args below meth c H locs 0 0 (MQ below (va_Qi (fun (r' : Int32) (M2 : Mem) => r' = r ∧ M2 = M') (fun M2 t => va_P z.1 vwCl (pw (xd z b) 339 b M2) t.heap) (pA 339 b)) args s 0 0 (pA 339 b)) (F0 m 154 ls []) := by
  have hx := C.1.1
  have hb := C.1.2.1
  unfold b11_tried_154 at hf
  refine lv_iload_n hx hb dX11_tried_154 rfl (lv_at hl 2 rfl) ?_
  refine lv_if_eq (tgt := 171) hx hb dX11_tried_155 (by decide) (fun c25 => ?_) (fun c25 => ?_)
  · replace hf := ite_t c25 hf
    refine lv_iload_n hx hb dX11_tried_171 rfl (lv_at hl 1 rfl) ?_
    by_cases c26 : i2 = (0 : Int32)
    · replace hf := ite_t c26 hf
      refine lv_tableIn (off := 28) (tgt := 200) hx hb dX11_tried_172 (by rw [c26]; decide) (by rw [c26]; decide) (by rw [c26]; rfl) (by decide) ?_
      refine lv_iload hx hb dX11_tried_200 (lv_at hl 3 rfl) ?_
      exact prI C hr hk hP hS hf dX11_tried_202
    · replace hf := ite_f c26 hf
      by_cases c27 : i2 = (1 : Int32)
      · replace hf := ite_t c27 hf
        refine lv_tableIn (off := 31) (tgt := 203) hx hb dX11_tried_172 (by rw [c27]; decide) (by rw [c27]; decide) (by rw [c27]; rfl) (by decide) ?_
        refine lv_iload hx hb dX11_tried_203 (lv_at hl 4 rfl) ?_
        exact prI C hr hk hP hS hf dX11_tried_205
      · replace hf := ite_f c27 hf
        by_cases c28 : i2 = (2 : Int32)
        · replace hf := ite_t c28 hf
          refine lv_tableIn (off := 34) (tgt := 206) hx hb dX11_tried_172 (by rw [c28]; decide) (by rw [c28]; decide) (by rw [c28]; rfl) (by decide) ?_
          refine lv_iload hx hb dX11_tried_206 (lv_at hl 5 rfl) ?_
          exact prI C hr hk hP hS hf dX11_tried_208
        · replace hf := ite_f c28 hf
          refine lv_tableOut (tgt := 209) hx hb dX11_tried_172 (by have z0 : ¬ i2.toInt = 0 := tsn c26; have z1 : ¬ i2.toInt = 1 := tsn c27; have z2 : ¬ i2.toInt = 2 := tsn c28; omega) (by decide) ?_
          refine lv_iload hx hb dX11_tried_209 (lv_at hl 6 rfl) ?_
          exact prI C hr hk hP hS hf dX11_tried_211
  · replace hf := ite_f c25 hf
    refine lv_aload_n hx hb dX11_tried_158 rfl (lv_at hl 0 rfl) ?_
    refine pg C hP (k := 0) (j := 11) (Nat.le_of_ble_eq_true rfl) (xd_0 _ _) rfl iw_11 (Nat.le_of_ble_eq_true rfl) g_431 rfl rfl dX11_tried_159 ?_
    refine pgN C hP (k := 336) (j := 0) (co_lt co_336) ((co_d co_336) _ _) rfl iw_0 (Nat.le_of_ble_eq_true rfl) g_355 rfl rfl dX11_tried_162 ?_
    refine lv_iload_n hx hb dX11_tried_165 rfl (lv_at hl 1 rfl) ?_
    refine lv_bipush (v := (100 : Int32)) hx hb dX11_tried_166 (by decide) ?_
    refine lv_isub hx hb dX11_tried_168 ?_
    have h29 := chk_1 hf
    replace hf := chk_2 hf
    refine paI C hP (k := 336 + 1) (co_lt1 co_336) ((co_d1 co_336) _ _) h29 dX11_tried_169 ?_
    exact prI C hr hk hP hS hf dX11_tried_170
set_option maxHeartbeats 4000000 in
set_option maxRecDepth 100000 in
theorem w11_tried_121 {p : Program} {l : Launch} {e : Env} {s : State} {m : MethodId} {args : Array Value} {below : List Frame} {meth : Method} {c : Code} {z : Zt} {b : Nat}  (C : Cx p s m args c cX11_tried 9 RX11 z 339 b) (hr : meth.sig.returnType = (some .int)) (hk : meth.locks = false) {r : Int32} {M' : Mem} {rc : Nat → List Int32 → List Int64 → Mem → Option (Int32 × Mem)} {n : Nat} (q72 : ∀ (i1 : Int32) (i2 : Int32) (i3 : Int32) (i4 : Int32) (i5 : Int32) (i6 : Int32) (i7 : Int32) (i8 : Int32) (M : Mem) (H : Heap) (locs : List Loc) (ls : Array Slot), rc 72 [i1, i2, i3, i4, i5, i6, i7, i8] [] M = some (r, M') → va_P z.1 vwCl (pw (xd z b) 339 b M) H → va_S (pA 339 b) s.heap H locs → lv_has ls 9 [(0, .ref (b + 0)), (1, .int i1), (2, .int i2), (3, .int i3), (4, .int i4), (5, .int i5), (6, .int i6), (7, .int i7), (8, .int i8)] → W p l e rm11_tried s m args below meth c H locs 0 0 (MQ below (va_Qi (fun (r' : Int32) (M2 : Mem) => r' = r ∧ M2 = M') (fun M2 t => va_P z.1 vwCl (pw (xd z b) 339 b M2) t.heap) (pA 339 b)) args s 0 0 (pA 339 b)) (F0 m 72 ls [])) {i1 : Int32} {i2 : Int32} {i3 : Int32} {i4 : Int32} {i6 : Int32} {i8 : Int32} {s0 : Int32} {s1 : Int32} {M : Mem} {H : Heap} {locs : List Loc} {ls : Array Slot} (hf : b11_tried_121  rc n i1 i2 i3 i4 i6 i8 s0 s1 M = some (r, M')) (hP : va_P z.1 vwCl (pw (xd z b) 339 b M) H) (hS : va_S (pA 339 b) s.heap H locs) (hl : lv_has ls 9 [(0, .ref (b + 0)), (1, .int i1), (2, .int i2), (3, .int i3), (4, .int i4), (6, .int i6), (8, .int i8)]) : W p l e rm11_tried s m args below meth c H locs 0 0 (MQ below (va_Qi (fun (r' : Int32) (M2 : Mem) => r' = r ∧ M2 = M') (fun M2 t => va_P z.1 vwCl (pw (xd z b) 339 b M2) t.heap) (pA 339 b)) args s 0 0 (pA 339 b)) (F0 m 121 ls [.int s1, .int s0]) := by
  have hx := C.1.1
  have hb := C.1.2.1
  unfold b11_tried_121 at hf
  refine lv_iadd hx hb dX11_tried_121 ?_
  refine lv_topi (fun v18 ev18 => ?_)
  replace hf := lt_c ev18 hf
  refine lv_istore (lv' := [(5, .int v18), (0, .ref (b + 0)), (1, .int i1), (2, .int i2), (3, .int i3), (4, .int i4), (6, .int i6), (8, .int i8)]) hx hb dX11_tried_122 hl (by decide) rfl (fun ls hl => ?_)
  refine lv_iload hx hb dX11_tried_124 (lv_at hl 6 rfl) ?_
  refine lv_aload_n hx hb dX11_tried_126 rfl (lv_at hl 1 rfl) ?_
  refine pg C hP (k := 0) (j := 11) (Nat.le_of_ble_eq_true rfl) (xd_0 _ _) rfl iw_11 (Nat.le_of_ble_eq_true rfl) g_431 rfl rfl dX11_tried_127 ?_
  refine pgN C hP (k := 336) (j := 6) (co_lt co_336) ((co_d co_336) _ _) rfl iw_0 (Nat.le_of_ble_eq_true rfl) g_372 rfl rfl dX11_tried_130 ?_
  obtain ⟨r19, M20, h21, hf⟩ := bnd_s hf
  refine pcSi (As := [.int (M.1 336 6)]) C hP hS (cZJ6_bitCount_0f7a4  h21) yZJ6_bitCount_0f7a4_w g_816 rfl rfl rfl ⟨Nat.le_of_ble_eq_true rfl, Nat.le_of_ble_eq_true rfl⟩ hl.1 rfl (Nat.le_of_ble_eq_true rfl) dX11_tried_133 ⟨Nat.le_of_ble_eq_true rfl, Nat.le_of_ble_eq_true rfl⟩ (fun H locs hP hS => ?_)
  refine lv_iadd hx hb dX11_tried_136 ?_
  refine lv_topi (fun v22 ev22 => ?_)
  replace hf := lt_c ev22 hf
  refine lv_istore (lv' := [(6, .int v22), (5, .int v18), (0, .ref (b + 0)), (1, .int i1), (2, .int i2), (3, .int i3), (4, .int i4), (8, .int i8)]) hx hb dX11_tried_137 hl (by decide) rfl (fun ls hl => ?_)
  refine lv_aload_n hx hb dX11_tried_139 rfl (lv_at hl 2 rfl) ?_
  refine pg C hP (k := 0) (j := 11) (Nat.le_of_ble_eq_true rfl) (xd_0 _ _) rfl iw_11 (Nat.le_of_ble_eq_true rfl) g_431 rfl rfl dX11_tried_140 ?_
  refine pgN C hP (k := 336) (j := 4) (co_lt co_336) ((co_d co_336) _ _) rfl iw_0 (Nat.le_of_ble_eq_true rfl) g_366 rfl rfl dX11_tried_143 ?_
  refine lv_topi (fun v23 ev23 => ?_)
  replace hf := lt_c ev23 hf
  refine lv_istore (lv' := [(7, .int v23), (6, .int v22), (5, .int v18), (0, .ref (b + 0)), (1, .int i1), (2, .int i2), (3, .int i3), (4, .int i4), (8, .int i8)]) hx hb dX11_tried_146 hl (by decide) rfl (fun ls hl => ?_)
  obtain ⟨v24, ev24⟩ : ∃ v : Int32, v = i8 + (1 : Int32) := ⟨_, rfl⟩
  replace hf := lt_c ev24 hf
  refine lv_iinc (v := v24) (lv' := [(8, .int v24), (7, .int v23), (6, .int v22), (5, .int v18), (0, .ref (b + 0)), (1, .int i1), (2, .int i2), (3, .int i3), (4, .int i4)]) hx hb dX11_tried_148 hl (k := 8) rfl (by rw [ev24]; rfl) (by decide) rfl (fun ls hl => ?_)
  refine lv_goto (tgt := 72) hx hb dX11_tried_151 (by decide) ?_
  exact q72 i1 i2 i3 i4 v18 v22 v23 v24 M20 _ _ _ hf hP hS (lv_sub hl [4, 5, 6, 7, 8, 3, 2, 1, 0] rfl)
set_option maxHeartbeats 4000000 in
set_option maxRecDepth 100000 in
theorem w11_tried_72 {p : Program} {l : Launch} {e : Env} {s : State} {m : MethodId} {args : Array Value} {below : List Frame} {meth : Method} {c : Code} {z : Zt} {b : Nat}  (C : Cx p s m args c cX11_tried 9 RX11 z 339 b) (hr : meth.sig.returnType = (some .int)) (hk : meth.locks = false) {r : Int32} {M' : Mem} {rc : Nat → List Int32 → List Int64 → Mem → Option (Int32 × Mem)} {n : Nat} (q72 : ∀ (i1 : Int32) (i2 : Int32) (i3 : Int32) (i4 : Int32) (i5 : Int32) (i6 : Int32) (i7 : Int32) (i8 : Int32) (M : Mem) (H : Heap) (locs : List Loc) (ls : Array Slot), rc 72 [i1, i2, i3, i4, i5, i6, i7, i8] [] M = some (r, M') → va_P z.1 vwCl (pw (xd z b) 339 b M) H → va_S (pA 339 b) s.heap H locs → lv_has ls 9 [(0, .ref (b + 0)), (1, .int i1), (2, .int i2), (3, .int i3), (4, .int i4), (5, .int i5), (6, .int i6), (7, .int i7), (8, .int i8)] → W p l e rm11_tried s m args below meth c H locs 0 0 (MQ below (va_Qi (fun (r' : Int32) (M2 : Mem) => r' = r ∧ M2 = M') (fun M2 t => va_P z.1 vwCl (pw (xd z b) 339 b M2) t.heap) (pA 339 b)) args s 0 0 (pA 339 b)) (F0 m 72 ls [])) {i1 : Int32} {i2 : Int32} {i3 : Int32} {i4 : Int32} {i5 : Int32} {i6 : Int32} {i7 : Int32} {i8 : Int32} {M : Mem} {H : Heap} {locs : List Loc} {ls : Array Slot} (hf : b11_tried_72  rc n i1 i2 i3 i4 i5 i6 i7 i8 M = some (r, M')) (hP : va_P z.1 vwCl (pw (xd z b) 339 b M) H) (hS : va_S (pA 339 b) s.heap H locs) (hl : lv_has ls 9 [(0, .ref (b + 0)), (1, .int i1), (2, .int i2), (3, .int i3), (4, .int i4), (5, .int i5), (6, .int i6), (7, .int i7), (8, .int i8)]) : W p l e rm11_tried s m args below meth c H locs 0 0 (MQ below (va_Qi (fun (r' : Int32) (M2 : Mem) => r' = r ∧ M2 = M') (fun M2 t => va_P z.1 vwCl (pw (xd z b) 339 b M2) t.heap) (pA 339 b)) args s 0 0 (pA 339 b)) (F0 m 72 ls []) := by
  have hx := C.1.1
  have hb := C.1.2.1
  unfold b11_tried_72 at hf
  refine lv_iload hx hb dX11_tried_72 (lv_at hl 8 rfl) ?_
  refine lv_iload_n hx hb dX11_tried_74 rfl (lv_at hl 1 rfl) ?_
  refine lv_icmp_ge (tgt := 154) hx hb dX11_tried_75 (by decide) (fun c11 => ?_) (fun c11 => ?_)
  · replace hf := ite_t c11 hf
    exact w11_tried_154 (n := n)  C hr hk q72 hf hP hS (lv_sub hl [0, 2, 3, 4, 5, 6, 7] rfl)
  · replace hf := ite_f c11 hf
    refine lv_aload_n hx hb dX11_tried_78 rfl (lv_at hl 0 rfl) ?_
    refine pg C hP (k := 0) (j := 4) (Nat.le_of_ble_eq_true rfl) (xd_0 _ _) rfl iw_11 (Nat.le_of_ble_eq_true rfl) g_424 rfl rfl dX11_tried_79 ?_
    refine lv_aload_n hx hb dX11_tried_82 rfl (lv_at hl 0 rfl) ?_
    refine pg C hP (k := 0) (j := 11) (Nat.le_of_ble_eq_true rfl) (xd_0 _ _) rfl iw_11 (Nat.le_of_ble_eq_true rfl) g_431 rfl rfl dX11_tried_83 ?_
    obtain ⟨r12, M13, h14, hf⟩ := bnd_s hf
    refine pcVi (As := [.ref (b + 336)]) C hP hS (k := 23) (Nat.le_of_ble_eq_true rfl) (xd_23 _ _) rfl (c10_goDay co_336 h14) y10_goDay_w g_721 rfl rfl rfl ⟨Nat.le_of_ble_eq_true rfl, Nat.le_of_ble_eq_true rfl⟩ hl.1 rfl (Nat.le_of_ble_eq_true rfl) dX11_tried_86 ⟨Nat.le_of_ble_eq_true rfl, Nat.le_of_ble_eq_true rfl⟩ (fun H locs hP hS => ?_)
    refine lv_if_eq (tgt := 154) hx hb dX11_tried_89 (by decide) (fun c15 => ?_) (fun c15 => ?_)
    · replace hf := ite_t c15 hf
      exact w11_tried_154 (n := n)  C hr hk q72 hf hP hS (lv_sub hl [0, 2, 3, 4, 5, 6, 7] rfl)
    · replace hf := ite_f c15 hf
      refine lv_iload hx hb dX11_tried_92 (lv_at hl 4 rfl) ?_
      refine lv_aload_n hx hb dX11_tried_94 rfl (lv_at hl 0 rfl) ?_
      refine pg C hP (k := 0) (j := 11) (Nat.le_of_ble_eq_true rfl) (xd_0 _ _) rfl iw_11 (Nat.le_of_ble_eq_true rfl) g_431 rfl rfl dX11_tried_95 ?_
      refine pgN C hP (k := 336) (j := 5) (co_lt co_336) ((co_d co_336) _ _) rfl iw_0 (Nat.le_of_ble_eq_true rfl) g_369 rfl rfl dX11_tried_98 ?_
      refine lv_iadd hx hb dX11_tried_101 ?_
      refine lv_topi (fun v16 ev16 => ?_)
      replace hf := lt_c ev16 hf
      refine lv_istore (lv' := [(4, .int v16), (0, .ref (b + 0)), (1, .int i1), (2, .int i2), (3, .int i3), (5, .int i5), (6, .int i6), (7, .int i7), (8, .int i8)]) hx hb dX11_tried_102 hl (by decide) rfl (fun ls hl => ?_)
      refine lv_iload hx hb dX11_tried_104 (lv_at hl 5 rfl) ?_
      refine lv_aload_n hx hb dX11_tried_106 rfl (lv_at hl 1 rfl) ?_
      refine pg C hP (k := 0) (j := 11) (Nat.le_of_ble_eq_true rfl) (xd_0 _ _) rfl iw_11 (Nat.le_of_ble_eq_true rfl) g_431 rfl rfl dX11_tried_107 ?_
      refine pgN C hP (k := 336) (j := 4) (co_lt co_336) ((co_d co_336) _ _) rfl iw_0 (Nat.le_of_ble_eq_true rfl) g_366 rfl rfl dX11_tried_110 ?_
      refine lv_if_lt (tgt := 120) hx hb dX11_tried_113 (by decide) (fun c17 => ?_) (fun c17 => ?_)
      · replace hf := ite_t c17 hf
        refine lv_iconst (v := (0 : Int32)) hx hb dX11_tried_120 (by decide) ?_
        exact w11_tried_121 (n := n)  C hr hk q72 hf hP hS (lv_sub hl [1, 2, 3, 4, 0, 6, 8] rfl)
      · replace hf := ite_f c17 hf
        refine lv_iconst (v := (1 : Int32)) hx hb dX11_tried_116 (by decide) ?_
        refine lv_goto (tgt := 121) hx hb dX11_tried_117 (by decide) ?_
        exact w11_tried_121 (n := n)  C hr hk q72 hf hP hS (lv_sub hl [1, 2, 3, 4, 0, 6, 8] rfl)
set_option maxHeartbeats 4000000 in
set_option maxRecDepth 100000 in
theorem w11_tried_45 {p : Program} {l : Launch} {e : Env} {s : State} {m : MethodId} {args : Array Value} {below : List Frame} {meth : Method} {c : Code} {z : Zt} {b : Nat}  (C : Cx p s m args c cX11_tried 9 RX11 z 339 b) (hr : meth.sig.returnType = (some .int)) (hk : meth.locks = false) {r : Int32} {M' : Mem} {rc : Nat → List Int32 → List Int64 → Mem → Option (Int32 × Mem)} {n : Nat} (q72 : ∀ (i1 : Int32) (i2 : Int32) (i3 : Int32) (i4 : Int32) (i5 : Int32) (i6 : Int32) (i7 : Int32) (i8 : Int32) (M : Mem) (H : Heap) (locs : List Loc) (ls : Array Slot), rc 72 [i1, i2, i3, i4, i5, i6, i7, i8] [] M = some (r, M') → va_P z.1 vwCl (pw (xd z b) 339 b M) H → va_S (pA 339 b) s.heap H locs → lv_has ls 9 [(0, .ref (b + 0)), (1, .int i1), (2, .int i2), (3, .int i3), (4, .int i4), (5, .int i5), (6, .int i6), (7, .int i7), (8, .int i8)] → W p l e rm11_tried s m args below meth c H locs 0 0 (MQ below (va_Qi (fun (r' : Int32) (M2 : Mem) => r' = r ∧ M2 = M') (fun M2 t => va_P z.1 vwCl (pw (xd z b) 339 b M2) t.heap) (pA 339 b)) args s 0 0 (pA 339 b)) (F0 m 72 ls [])) {i1 : Int32} {i2 : Int32} {i3 : Int32} {M : Mem} {H : Heap} {locs : List Loc} {ls : Array Slot} (hf : b11_tried_45  rc n i1 i2 i3 M = some (r, M')) (hP : va_P z.1 vwCl (pw (xd z b) 339 b M) H) (hS : va_S (pA 339 b) s.heap H locs) (hl : lv_has ls 9 [(0, .ref (b + 0)), (1, .int i1), (2, .int i2), (3, .int i3)]) : W p l e rm11_tried s m args below meth c H locs 0 0 (MQ below (va_Qi (fun (r' : Int32) (M2 : Mem) => r' = r ∧ M2 = M') (fun M2 t => va_P z.1 vwCl (pw (xd z b) 339 b M2) t.heap) (pA 339 b)) args s 0 0 (pA 339 b)) (F0 m 45 ls []) := by
  have hx := C.1.1
  have hb := C.1.2.1
  unfold b11_tried_45 at hf
  refine lv_aload_n hx hb dX11_tried_45 rfl (lv_at hl 0 rfl) ?_
  refine pg C hP (k := 0) (j := 11) (Nat.le_of_ble_eq_true rfl) (xd_0 _ _) rfl iw_11 (Nat.le_of_ble_eq_true rfl) g_431 rfl rfl dX11_tried_46 ?_
  refine lv_aload_n hx hb dX11_tried_49 rfl (lv_at hl 0 rfl) ?_
  refine pg C hP (k := 0) (j := 9) (Nat.le_of_ble_eq_true rfl) (xd_0 _ _) rfl iw_11 (Nat.le_of_ble_eq_true rfl) g_429 rfl rfl dX11_tried_50 ?_
  obtain ⟨r8, M9, h10, hf⟩ := bnd_s hf
  refine pcVv (As := [.ref (b + 330)]) C hP hS (k := 336) (co_lt co_336) ((co_d co_336) _ _) rfl (c0_take co_336 co_330 h10) y0_take_w g_811 rfl rfl rfl ⟨Nat.le_of_ble_eq_true rfl, Nat.le_of_ble_eq_true rfl⟩ hl.1 rfl (Nat.le_of_ble_eq_true rfl) dX11_tried_53 ⟨Nat.le_of_ble_eq_true rfl, Nat.le_of_ble_eq_true rfl⟩ (fun H locs hP hS => ?_)
  refine lv_iconst (v := (0 : Int32)) hx hb dX11_tried_56 (by decide) ?_
  refine lv_istore (lv' := [(4, .int (0 : Int32)), (0, .ref (b + 0)), (1, .int i1), (2, .int i2), (3, .int i3)]) hx hb dX11_tried_57 hl (by decide) rfl (fun ls hl => ?_)
  refine lv_iconst (v := (0 : Int32)) hx hb dX11_tried_59 (by decide) ?_
  refine lv_istore (lv' := [(5, .int (0 : Int32)), (4, .int (0 : Int32)), (0, .ref (b + 0)), (1, .int i1), (2, .int i2), (3, .int i3)]) hx hb dX11_tried_60 hl (by decide) rfl (fun ls hl => ?_)
  refine lv_iconst (v := (0 : Int32)) hx hb dX11_tried_62 (by decide) ?_
  refine lv_istore (lv' := [(6, .int (0 : Int32)), (5, .int (0 : Int32)), (4, .int (0 : Int32)), (0, .ref (b + 0)), (1, .int i1), (2, .int i2), (3, .int i3)]) hx hb dX11_tried_63 hl (by decide) rfl (fun ls hl => ?_)
  refine lv_bipush (v := (-2 : Int32)) hx hb dX11_tried_65 (by decide) ?_
  refine lv_istore (lv' := [(7, .int (-2 : Int32)), (6, .int (0 : Int32)), (5, .int (0 : Int32)), (4, .int (0 : Int32)), (0, .ref (b + 0)), (1, .int i1), (2, .int i2), (3, .int i3)]) hx hb dX11_tried_67 hl (by decide) rfl (fun ls hl => ?_)
  refine lv_iconst (v := (0 : Int32)) hx hb dX11_tried_69 (by decide) ?_
  refine lv_istore (lv' := [(8, .int (0 : Int32)), (7, .int (-2 : Int32)), (6, .int (0 : Int32)), (5, .int (0 : Int32)), (4, .int (0 : Int32)), (0, .ref (b + 0)), (1, .int i1), (2, .int i2), (3, .int i3)]) hx hb dX11_tried_70 hl (by decide) rfl (fun ls hl => ?_)
  exact w11_tried_72 (n := n)  C hr hk q72 hf hP hS (lv_sub hl [5, 6, 7, 8, 4, 3, 2, 1, 0] rfl)
set_option maxHeartbeats 4000000 in
set_option maxRecDepth 100000 in
theorem w11_tried_18 {p : Program} {l : Launch} {e : Env} {s : State} {m : MethodId} {args : Array Value} {below : List Frame} {meth : Method} {c : Code} {z : Zt} {b : Nat}  (C : Cx p s m args c cX11_tried 9 RX11 z 339 b) (hr : meth.sig.returnType = (some .int)) (hk : meth.locks = false) {r : Int32} {M' : Mem} {rc : Nat → List Int32 → List Int64 → Mem → Option (Int32 × Mem)} {n : Nat} (q72 : ∀ (i1 : Int32) (i2 : Int32) (i3 : Int32) (i4 : Int32) (i5 : Int32) (i6 : Int32) (i7 : Int32) (i8 : Int32) (M : Mem) (H : Heap) (locs : List Loc) (ls : Array Slot), rc 72 [i1, i2, i3, i4, i5, i6, i7, i8] [] M = some (r, M') → va_P z.1 vwCl (pw (xd z b) 339 b M) H → va_S (pA 339 b) s.heap H locs → lv_has ls 9 [(0, .ref (b + 0)), (1, .int i1), (2, .int i2), (3, .int i3), (4, .int i4), (5, .int i5), (6, .int i6), (7, .int i7), (8, .int i8)] → W p l e rm11_tried s m args below meth c H locs 0 0 (MQ below (va_Qi (fun (r' : Int32) (M2 : Mem) => r' = r ∧ M2 = M') (fun M2 t => va_P z.1 vwCl (pw (xd z b) 339 b M2) t.heap) (pA 339 b)) args s 0 0 (pA 339 b)) (F0 m 72 ls [])) {i1 : Int32} {i2 : Int32} {s0 : Int32} {M : Mem} {H : Heap} {locs : List Loc} {ls : Array Slot} (hf : b11_tried_18  rc n i1 i2 s0 M = some (r, M')) (hP : va_P z.1 vwCl (pw (xd z b) 339 b M) H) (hS : va_S (pA 339 b) s.heap H locs) (hl : lv_has ls 9 [(0, .ref (b + 0)), (1, .int i1), (2, .int i2)]) : W p l e rm11_tried s m args below meth c H locs 0 0 (MQ below (va_Qi (fun (r' : Int32) (M2 : Mem) => r' = r ∧ M2 = M') (fun M2 t => va_P z.1 vwCl (pw (xd z b) 339 b M2) t.heap) (pA 339 b)) args s 0 0 (pA 339 b)) (F0 m 18 ls [.int s0]) := by
  have hx := C.1.1
  have hb := C.1.2.1
  unfold b11_tried_18 at hf
  refine lv_istore_n (lv' := [(3, .int s0), (0, .ref (b + 0)), (1, .int i1), (2, .int i2)]) hx hb dX11_tried_18 rfl hl (by decide) rfl (fun ls hl => ?_)
  refine lv_iload_n hx hb dX11_tried_19 rfl (lv_at hl 2 rfl) ?_
  refine lv_iconst (v := (1 : Int32)) hx hb dX11_tried_20 (by decide) ?_
  refine lv_icmp_lt (tgt := 43) hx hb dX11_tried_21 (by decide) (fun c3 => ?_) (fun c3 => ?_)
  · replace hf := ite_t c3 hf
    exact w11_tried_43 (n := n)  C hr hk q72 hf hP hS (lv_sub hl [] rfl)
  · replace hf := ite_f c3 hf
    refine lv_iload_n hx hb dX11_tried_24 rfl (lv_at hl 2 rfl) ?_
    refine lv_bipush (v := (30 : Int32)) hx hb dX11_tried_25 (by decide) ?_
    refine lv_icmp_gt (tgt := 43) hx hb dX11_tried_27 (by decide) (fun c4 => ?_) (fun c4 => ?_)
    · replace hf := ite_t c4 hf
      exact w11_tried_43 (n := n)  C hr hk q72 hf hP hS (lv_sub hl [] rfl)
    · replace hf := ite_f c4 hf
      refine lv_iload_n hx hb dX11_tried_30 rfl (lv_at hl 3 rfl) ?_
      refine lv_if_lt (tgt := 43) hx hb dX11_tried_31 (by decide) (fun c5 => ?_) (fun c5 => ?_)
      · replace hf := ite_t c5 hf
        exact w11_tried_43 (n := n)  C hr hk q72 hf hP hS (lv_sub hl [] rfl)
      · replace hf := ite_f c5 hf
        refine lv_iload_n hx hb dX11_tried_34 rfl (lv_at hl 3 rfl) ?_
        refine lv_iconst (v := (3 : Int32)) hx hb dX11_tried_35 (by decide) ?_
        refine lv_icmp_le (tgt := 45) hx hb dX11_tried_36 (by decide) (fun c6 => ?_) (fun c6 => ?_)
        · replace hf := ite_t c6 hf
          exact w11_tried_45 (n := n)  C hr hk q72 hf hP hS (lv_sub hl [1, 2, 3, 0] rfl)
        · replace hf := ite_f c6 hf
          refine lv_iload_n hx hb dX11_tried_39 rfl (lv_at hl 0 rfl) ?_
          refine lv_if_ne (tgt := 45) hx hb dX11_tried_40 (by decide) (fun c7 => ?_) (fun c7 => ?_)
          · replace hf := ite_f c7 hf
            exact w11_tried_45 (n := n)  C hr hk q72 hf hP hS (lv_sub hl [1, 2, 3, 0] rfl)
          · replace hf := ite_t c7 hf
            exact w11_tried_43 (n := n)  C hr hk q72 hf hP hS (lv_sub hl [] rfl)
set_option maxHeartbeats 4000000 in
set_option maxRecDepth 100000 in
theorem w11_tried_17 {p : Program} {l : Launch} {e : Env} {s : State} {m : MethodId} {args : Array Value} {below : List Frame} {meth : Method} {c : Code} {z : Zt} {b : Nat}  (C : Cx p s m args c cX11_tried 9 RX11 z 339 b) (hr : meth.sig.returnType = (some .int)) (hk : meth.locks = false) {r : Int32} {M' : Mem} {rc : Nat → List Int32 → List Int64 → Mem → Option (Int32 × Mem)} {n : Nat} (q72 : ∀ (i1 : Int32) (i2 : Int32) (i3 : Int32) (i4 : Int32) (i5 : Int32) (i6 : Int32) (i7 : Int32) (i8 : Int32) (M : Mem) (H : Heap) (locs : List Loc) (ls : Array Slot), rc 72 [i1, i2, i3, i4, i5, i6, i7, i8] [] M = some (r, M') → va_P z.1 vwCl (pw (xd z b) 339 b M) H → va_S (pA 339 b) s.heap H locs → lv_has ls 9 [(0, .ref (b + 0)), (1, .int i1), (2, .int i2), (3, .int i3), (4, .int i4), (5, .int i5), (6, .int i6), (7, .int i7), (8, .int i8)] → W p l e rm11_tried s m args below meth c H locs 0 0 (MQ below (va_Qi (fun (r' : Int32) (M2 : Mem) => r' = r ∧ M2 = M') (fun M2 t => va_P z.1 vwCl (pw (xd z b) 339 b M2) t.heap) (pA 339 b)) args s 0 0 (pA 339 b)) (F0 m 72 ls [])) {i1 : Int32} {i2 : Int32} {M : Mem} {H : Heap} {locs : List Loc} {ls : Array Slot} (hf : b11_tried_17  rc n i1 i2 M = some (r, M')) (hP : va_P z.1 vwCl (pw (xd z b) 339 b M) H) (hS : va_S (pA 339 b) s.heap H locs) (hl : lv_has ls 9 [(0, .ref (b + 0)), (1, .int i1), (2, .int i2)]) : W p l e rm11_tried s m args below meth c H locs 0 0 (MQ below (va_Qi (fun (r' : Int32) (M2 : Mem) => r' = r ∧ M2 = M') (fun M2 t => va_P z.1 vwCl (pw (xd z b) 339 b M2) t.heap) (pA 339 b)) args s 0 0 (pA 339 b)) (F0 m 17 ls []) := by
  have hx := C.1.1
  have hb := C.1.2.1
  unfold b11_tried_17 at hf
  refine lv_iconst (v := (0 : Int32)) hx hb dX11_tried_17 (by decide) ?_
  exact w11_tried_18 (n := n)  C hr hk q72 hf hP hS (lv_sub hl [0, 1, 2] rfl)
set_option maxHeartbeats 4000000 in
set_option maxRecDepth 100000 in
theorem w11_tried_0 {p : Program} {l : Launch} {e : Env} {s : State} {m : MethodId} {args : Array Value} {below : List Frame} {meth : Method} {c : Code} {z : Zt} {b : Nat}  (C : Cx p s m args c cX11_tried 9 RX11 z 339 b) (hr : meth.sig.returnType = (some .int)) (hk : meth.locks = false) {r : Int32} {M' : Mem} {rc : Nat → List Int32 → List Int64 → Mem → Option (Int32 × Mem)} {n : Nat} (q72 : ∀ (i1 : Int32) (i2 : Int32) (i3 : Int32) (i4 : Int32) (i5 : Int32) (i6 : Int32) (i7 : Int32) (i8 : Int32) (M : Mem) (H : Heap) (locs : List Loc) (ls : Array Slot), rc 72 [i1, i2, i3, i4, i5, i6, i7, i8] [] M = some (r, M') → va_P z.1 vwCl (pw (xd z b) 339 b M) H → va_S (pA 339 b) s.heap H locs → lv_has ls 9 [(0, .ref (b + 0)), (1, .int i1), (2, .int i2), (3, .int i3), (4, .int i4), (5, .int i5), (6, .int i6), (7, .int i7), (8, .int i8)] → W p l e rm11_tried s m args below meth c H locs 0 0 (MQ below (va_Qi (fun (r' : Int32) (M2 : Mem) => r' = r ∧ M2 = M') (fun M2 t => va_P z.1 vwCl (pw (xd z b) 339 b M2) t.heap) (pA 339 b)) args s 0 0 (pA 339 b)) (F0 m 72 ls [])) {a1 : Int32} {a2 : Int32} {M : Mem} {H : Heap} {locs : List Loc} {ls : Array Slot} (hf : b11_tried_0  rc n a1 a2 M = some (r, M')) (hP : va_P z.1 vwCl (pw (xd z b) 339 b M) H) (hS : va_S (pA 339 b) s.heap H locs) (hl : lv_has ls 9 [(0, .ref (b + 0)), (1, .int a1), (2, .int a2)]) : W p l e rm11_tried s m args below meth c H locs 0 0 (MQ below (va_Qi (fun (r' : Int32) (M2 : Mem) => r' = r ∧ M2 = M') (fun M2 t => va_P z.1 vwCl (pw (xd z b) 339 b M2) t.heap) (pA 339 b)) args s 0 0 (pA 339 b)) (F0 m 0 ls []) := by
  have hx := C.1.1
  have hb := C.1.2.1
  unfold b11_tried_0 at hf
  refine lv_iload_n hx hb dX11_tried_0 rfl (lv_at hl 2 rfl) ?_
  refine lv_bipush (v := (100 : Int32)) hx hb dX11_tried_1 (by decide) ?_
  refine lv_icmp_lt (tgt := 17) hx hb dX11_tried_3 (by decide) (fun c1 => ?_) (fun c1 => ?_)
  · replace hf := ite_t c1 hf
    exact w11_tried_17 (n := n)  C hr hk q72 hf hP hS (lv_sub hl [0, 1, 2] rfl)
  · replace hf := ite_f c1 hf
    refine lv_iload_n hx hb dX11_tried_6 rfl (lv_at hl 2 rfl) ?_
    refine lv_sipush (v := (196 : Int32)) hx hb dX11_tried_7 (by decide) ?_
    refine lv_icmp_ge (tgt := 17) hx hb dX11_tried_10 (by decide) (fun c2 => ?_) (fun c2 => ?_)
    · replace hf := ite_t c2 hf
      exact w11_tried_17 (n := n)  C hr hk q72 hf hP hS (lv_sub hl [0, 1, 2] rfl)
    · replace hf := ite_f c2 hf
      refine lv_iconst (v := (1 : Int32)) hx hb dX11_tried_13 (by decide) ?_
      refine lv_goto (tgt := 18) hx hb dX11_tried_14 (by decide) ?_
      exact w11_tried_18 (n := n)  C hr hk q72 hf hP hS (lv_sub hl [0, 1, 2] rfl)
set_option maxHeartbeats 4000000 in
set_option maxRecDepth 100000 in
theorem l11_tried {p : Program} {l : Launch} {e : Env} {s : State} {m : MethodId} {args : Array Value} {below : List Frame} {meth : Method} {c : Code} {z : Zt} {b : Nat}  (C : Cx p s m args c cX11_tried 9 RX11 z 339 b) (hr : meth.sig.returnType = (some .int)) (hk : meth.locks = false) {r : Int32} {M' : Mem} (n : Nat) : (∀ (i1 : Int32) (i2 : Int32) (i3 : Int32) (i4 : Int32) (i5 : Int32) (i6 : Int32) (i7 : Int32) (i8 : Int32) (M : Mem) (H : Heap) (locs : List Loc) (ls : Array Slot), (r11_tried  n) 72 [i1, i2, i3, i4, i5, i6, i7, i8] [] M = some (r, M') → va_P z.1 vwCl (pw (xd z b) 339 b M) H → va_S (pA 339 b) s.heap H locs → lv_has ls 9 [(0, .ref (b + 0)), (1, .int i1), (2, .int i2), (3, .int i3), (4, .int i4), (5, .int i5), (6, .int i6), (7, .int i7), (8, .int i8)] → W p l e rm11_tried s m args below meth c H locs 0 0 (MQ below (va_Qi (fun (r' : Int32) (M2 : Mem) => r' = r ∧ M2 = M') (fun M2 t => va_P z.1 vwCl (pw (xd z b) 339 b M2) t.heap) (pA 339 b)) args s 0 0 (pA 339 b)) (F0 m 72 ls [])) := by
  induction n with
  | zero => exact fun _ _ _ _ _ _ _ _ _ _ _ _ hf => (by cases hf)
  | succ n ih => exact fun _ _ _ _ _ _ _ _ _ _ _ _ hf hP hS hl => w11_tried_72 (n := n)  C hr hk ih ((e11_tried_72  n _ _ _ _ _ _ _ _ _).symm.trans hf) hP hS hl
theorem c11_tried {l : Launch} {z : Zt} {b n : Nat}  {a1 : Int32} {a2 : Int32} {M M' : Mem} {r : Int32} (hf : f11_tried n  a1 a2 M = some (r, M')) : CI l z (xd z b) 339 b yX11_tried cX11_tried 9 (some .int) rm11_tried [.ref (b + 0), .int a1, .int a2] M M' r :=
  CI.ofW (lv := [(0, .ref (b + 0)), (1, .int a1), (2, .int a2)]) (by decide) (Nat.le_of_ble_eq_true rfl) rfl (fun p e s m args below meth c ls C hr hk hP hS hl => w11_tried_0 (n := n)  C hr hk (l11_tried  C hr hk n) hf hP hS hl)

-- BronzeKing.placeIs(III)I
theorem dX11_placeIs_0 : decode cX11_placeIs 0 = .ok (.iload_n 1, 1) := by decide +kernel
theorem dX11_placeIs_1 : decode cX11_placeIs 1 = .ok (.iload_n 2, 1) := by decide +kernel
theorem dX11_placeIs_2 : decode cX11_placeIs 2 = .ok (.invokestatic 98, 3) := by decide +kernel
theorem dX11_placeIs_5 : decode cX11_placeIs 5 = .ok (.istore 4, 2) := by decide +kernel
theorem dX11_placeIs_7 : decode cX11_placeIs 7 = .ok (.iload 4, 2) := by decide +kernel
theorem dX11_placeIs_9 : decode cX11_placeIs 9 = .ok (.iconst (-1), 1) := by decide +kernel
theorem dX11_placeIs_10 : decode cX11_placeIs 10 = .ok (.if_icmp .ne 5, 3) := by decide +kernel
theorem dX11_placeIs_13 : decode cX11_placeIs 13 = .ok (.iconst (-1), 1) := by decide +kernel
theorem dX11_placeIs_14 : decode cX11_placeIs 14 = .ok (.ireturn, 1) := by decide +kernel
theorem dX11_placeIs_15 : decode cX11_placeIs 15 = .ok (.iload_n 3, 1) := by decide +kernel
theorem dX11_placeIs_16 : decode cX11_placeIs 16 = .ok (.tableswitch 89 0 4 #[36, 46, 57, 68, 79], 36) := by decide +kernel
theorem dX11_placeIs_52 : decode cX11_placeIs 52 = .ok (.aload_n 0, 1) := by decide +kernel
theorem dX11_placeIs_53 : decode cX11_placeIs 53 = .ok (.getfield 19, 3) := by decide +kernel
theorem dX11_placeIs_56 : decode cX11_placeIs 56 = .ok (.iload 4, 2) := by decide +kernel
theorem dX11_placeIs_58 : decode cX11_placeIs 58 = .ok (.invokevirtual 165, 3) := by decide +kernel
theorem dX11_placeIs_61 : decode cX11_placeIs 61 = .ok (.ireturn, 1) := by decide +kernel
theorem dX11_placeIs_62 : decode cX11_placeIs 62 = .ok (.aload_n 0, 1) := by decide +kernel
theorem dX11_placeIs_63 : decode cX11_placeIs 63 = .ok (.getfield 81, 3) := by decide +kernel
theorem dX11_placeIs_66 : decode cX11_placeIs 66 = .ok (.getfield 162, 3) := by decide +kernel
theorem dX11_placeIs_69 : decode cX11_placeIs 69 = .ok (.iload 4, 2) := by decide +kernel
theorem dX11_placeIs_71 : decode cX11_placeIs 71 = .ok (.iaload, 1) := by decide +kernel
theorem dX11_placeIs_72 : decode cX11_placeIs 72 = .ok (.ireturn, 1) := by decide +kernel
theorem dX11_placeIs_73 : decode cX11_placeIs 73 = .ok (.aload_n 0, 1) := by decide +kernel
theorem dX11_placeIs_74 : decode cX11_placeIs 74 = .ok (.getfield 19, 3) := by decide +kernel
theorem dX11_placeIs_77 : decode cX11_placeIs 77 = .ok (.getfield 168, 3) := by decide +kernel
theorem dX11_placeIs_80 : decode cX11_placeIs 80 = .ok (.iload 4, 2) := by decide +kernel
theorem dX11_placeIs_82 : decode cX11_placeIs 82 = .ok (.iaload, 1) := by decide +kernel
theorem dX11_placeIs_83 : decode cX11_placeIs 83 = .ok (.ireturn, 1) := by decide +kernel
theorem dX11_placeIs_84 : decode cX11_placeIs 84 = .ok (.aload_n 0, 1) := by decide +kernel
theorem dX11_placeIs_85 : decode cX11_placeIs 85 = .ok (.getfield 19, 3) := by decide +kernel
theorem dX11_placeIs_88 : decode cX11_placeIs 88 = .ok (.getfield 171, 3) := by decide +kernel
theorem dX11_placeIs_91 : decode cX11_placeIs 91 = .ok (.iload 4, 2) := by decide +kernel
theorem dX11_placeIs_93 : decode cX11_placeIs 93 = .ok (.iaload, 1) := by decide +kernel
theorem dX11_placeIs_94 : decode cX11_placeIs 94 = .ok (.ireturn, 1) := by decide +kernel
theorem dX11_placeIs_95 : decode cX11_placeIs 95 = .ok (.aload_n 0, 1) := by decide +kernel
theorem dX11_placeIs_96 : decode cX11_placeIs 96 = .ok (.getfield 19, 3) := by decide +kernel
theorem dX11_placeIs_99 : decode cX11_placeIs 99 = .ok (.iload 4, 2) := by decide +kernel
theorem dX11_placeIs_101 : decode cX11_placeIs 101 = .ok (.invokevirtual 174, 3) := by decide +kernel
theorem dX11_placeIs_104 : decode cX11_placeIs 104 = .ok (.ireturn, 1) := by decide +kernel
theorem dX11_placeIs_105 : decode cX11_placeIs 105 = .ok (.iconst (-1), 1) := by decide +kernel
theorem dX11_placeIs_106 : decode cX11_placeIs 106 = .ok (.ireturn, 1) := by decide +kernel
def b11_placeIs_0 (rc : Nat → List Int32 → List Int64 → Mem → Option (Int32 × Mem)) (n : Nat) (a1 : Int32) (a2 : Int32) (a3 : Int32) (M : Mem) : Option (Int32 × Mem) :=
  bnd (f11_placeAt n a1 a2 M) fun r1 M2 =>
  (if r1 = (-1 : Int32) then (
   some ((-1 : Int32), M2))
  else (
   (if a3 = (0 : Int32) then (
    bnd (f8_kindOf n r1 M2) fun r6 M7 =>
    some (r6, M7))
   else (
    (if a3 = (1 : Int32) then (
     chk (inb r1 96) <|
     some ((M2.1 (330 + 1) r1.toNatClampNeg), M2))
    else (
     (if a3 = (2 : Int32) then (
      chk (inb r1 96) <|
      some ((M2.1 7 r1.toNatClampNeg), M2))
     else (
      (if a3 = (3 : Int32) then (
       chk (inb r1 96) <|
       some ((M2.1 8 r1.toNatClampNeg), M2))
      else (
       (if a3 = (4 : Int32) then (
        bnd (f8_openBeside n r1 M2) fun r16 M17 =>
        some (r16, M17))
       else (
        some ((-1 : Int32), M2)))))))))))))
def f11_placeIs (n : Nat) (a1 : Int32) (a2 : Int32) (a3 : Int32) (M : Mem) : Option (Int32 × Mem) := b11_placeIs_0 (fun _ _ _ _ => none) n a1 a2 a3 M
abbrev rm11_placeIs : Room := { frames := 3, cells := 0, slots := 0, locals := 65 }
theorem y11_placeIs_w : yV RX11 yX11_placeIs cX11_placeIs 5 (some .int) 3 := ⟨g_818, g_819, g_1, g_820, rfl, by decide, by decide, by decide +kernel⟩
set_option maxHeartbeats 4000000 in
set_option maxRecDepth 100000 in
theorem w11_placeIs_0 {p : Program} {l : Launch} {e : Env} {s : State} {m : MethodId} {args : Array Value} {below : List Frame} {meth : Method} {c : Code} {z : Zt} {b : Nat}  (C : Cx p s m args c cX11_placeIs 5 RX11 z 339 b) (hr : meth.sig.returnType = (some .int)) (hk : meth.locks = false) {r : Int32} {M' : Mem} {rc : Nat → List Int32 → List Int64 → Mem → Option (Int32 × Mem)} {n : Nat}  {a1 : Int32} {a2 : Int32} {a3 : Int32} {M : Mem} {H : Heap} {locs : List Loc} {ls : Array Slot} (hf : b11_placeIs_0  rc n a1 a2 a3 M = some (r, M')) (hP : va_P z.1 vwCl (pw (xd z b) 339 b M) H) (hS : va_S (pA 339 b) s.heap H locs) (hl : lv_has ls 5 [(0, .ref (b + 0)), (1, .int a1), (2, .int a2), (3, .int a3)]) : W p l e rm11_placeIs s m args below meth c H locs 0 0 (MQ below (va_Qi (fun (r' : Int32) (M2 : Mem) => r' = r ∧ M2 = M') (fun M2 t => va_P z.1 vwCl (pw (xd z b) 339 b M2) t.heap) (pA 339 b)) args s 0 0 (pA 339 b)) (F0 m 0 ls []) := by
  have hx := C.1.1
  have hb := C.1.2.1
  unfold b11_placeIs_0 at hf
  refine lv_iload_n hx hb dX11_placeIs_0 rfl (lv_at hl 1 rfl) ?_
  refine lv_iload_n hx hb dX11_placeIs_1 rfl (lv_at hl 2 rfl) ?_
  obtain ⟨r1, M2, h3, hf⟩ := bnd_s hf
  refine pcSi (As := [.int a1, .int a2]) C hP hS (c11_placeAt  h3) y11_placeAt_w g_464 rfl rfl rfl ⟨Nat.le_of_ble_eq_true rfl, Nat.le_of_ble_eq_true rfl⟩ hl.1 rfl (Nat.le_of_ble_eq_true rfl) dX11_placeIs_2 ⟨Nat.le_of_ble_eq_true rfl, Nat.le_of_ble_eq_true rfl⟩ (fun H locs hP hS => ?_)
  refine lv_istore (lv' := [(4, .int r1), (0, .ref (b + 0)), (1, .int a1), (2, .int a2), (3, .int a3)]) hx hb dX11_placeIs_5 hl (by decide) rfl (fun ls hl => ?_)
  refine lv_iload hx hb dX11_placeIs_7 (lv_at hl 0 rfl) ?_
  refine lv_iconst (v := (-1 : Int32)) hx hb dX11_placeIs_9 (by decide) ?_
  refine lv_icmp_ne (tgt := 15) hx hb dX11_placeIs_10 (by decide) (fun c4 => ?_) (fun c4 => ?_)
  · replace hf := ite_f c4 hf
    refine lv_iload_n hx hb dX11_placeIs_15 rfl (lv_at hl 4 rfl) ?_
    by_cases c5 : a3 = (0 : Int32)
    · replace hf := ite_t c5 hf
      refine lv_tableIn (off := 36) (tgt := 52) hx hb dX11_placeIs_16 (by rw [c5]; decide) (by rw [c5]; decide) (by rw [c5]; rfl) (by decide) ?_
      refine lv_aload_n hx hb dX11_placeIs_52 rfl (lv_at hl 1 rfl) ?_
      refine pg C hP (k := 0) (j := 1) (Nat.le_of_ble_eq_true rfl) (xd_0 _ _) rfl iw_11 (Nat.le_of_ble_eq_true rfl) g_421 rfl rfl dX11_placeIs_53 ?_
      refine lv_iload hx hb dX11_placeIs_56 (lv_at hl 0 rfl) ?_
      obtain ⟨r6, M7, h8, hf⟩ := bnd_s hf
      refine pcVi (As := [.int r1]) C hP hS (k := 3) (Nat.le_of_ble_eq_true rfl) (xd_3 _ _) rfl (c8_kindOf  h8) y8_kindOf_w g_821 rfl rfl rfl ⟨Nat.le_of_ble_eq_true rfl, Nat.le_of_ble_eq_true rfl⟩ hl.1 rfl (Nat.le_of_ble_eq_true rfl) dX11_placeIs_58 ⟨Nat.le_of_ble_eq_true rfl, Nat.le_of_ble_eq_true rfl⟩ (fun H locs hP hS => ?_)
      exact prI C hr hk hP hS hf dX11_placeIs_61
    · replace hf := ite_f c5 hf
      by_cases c9 : a3 = (1 : Int32)
      · replace hf := ite_t c9 hf
        refine lv_tableIn (off := 46) (tgt := 62) hx hb dX11_placeIs_16 (by rw [c9]; decide) (by rw [c9]; decide) (by rw [c9]; rfl) (by decide) ?_
        refine lv_aload_n hx hb dX11_placeIs_62 rfl (lv_at hl 1 rfl) ?_
        refine pg C hP (k := 0) (j := 9) (Nat.le_of_ble_eq_true rfl) (xd_0 _ _) rfl iw_11 (Nat.le_of_ble_eq_true rfl) g_429 rfl rfl dX11_placeIs_63 ?_
        refine pgN C hP (k := 330) (j := 0) (co_lt co_330) ((co_d co_330) _ _) rfl iw_0 (Nat.le_of_ble_eq_true rfl) g_355 rfl rfl dX11_placeIs_66 ?_
        refine lv_iload hx hb dX11_placeIs_69 (lv_at hl 0 rfl) ?_
        have h10 := chk_1 hf
        replace hf := chk_2 hf
        refine paI C hP (k := 330 + 1) (co_lt1 co_330) ((co_d1 co_330) _ _) h10 dX11_placeIs_71 ?_
        exact prI C hr hk hP hS hf dX11_placeIs_72
      · replace hf := ite_f c9 hf
        by_cases c11 : a3 = (2 : Int32)
        · replace hf := ite_t c11 hf
          refine lv_tableIn (off := 57) (tgt := 73) hx hb dX11_placeIs_16 (by rw [c11]; decide) (by rw [c11]; decide) (by rw [c11]; rfl) (by decide) ?_
          refine lv_aload_n hx hb dX11_placeIs_73 rfl (lv_at hl 1 rfl) ?_
          refine pg C hP (k := 0) (j := 1) (Nat.le_of_ble_eq_true rfl) (xd_0 _ _) rfl iw_11 (Nat.le_of_ble_eq_true rfl) g_421 rfl rfl dX11_placeIs_74 ?_
          refine pgN C hP (k := 3) (j := 3) (Nat.le_of_ble_eq_true rfl) (xd_3 _ _) rfl iw_8 (Nat.le_of_ble_eq_true rfl) g_78 rfl rfl dX11_placeIs_77 ?_
          refine lv_iload hx hb dX11_placeIs_80 (lv_at hl 0 rfl) ?_
          have h12 := chk_1 hf
          replace hf := chk_2 hf
          refine paI C hP (k := 7) (Nat.le_of_ble_eq_true rfl) (xd_7 _ _) h12 dX11_placeIs_82 ?_
          exact prI C hr hk hP hS hf dX11_placeIs_83
        · replace hf := ite_f c11 hf
          by_cases c13 : a3 = (3 : Int32)
          · replace hf := ite_t c13 hf
            refine lv_tableIn (off := 68) (tgt := 84) hx hb dX11_placeIs_16 (by rw [c13]; decide) (by rw [c13]; decide) (by rw [c13]; rfl) (by decide) ?_
            refine lv_aload_n hx hb dX11_placeIs_84 rfl (lv_at hl 1 rfl) ?_
            refine pg C hP (k := 0) (j := 1) (Nat.le_of_ble_eq_true rfl) (xd_0 _ _) rfl iw_11 (Nat.le_of_ble_eq_true rfl) g_421 rfl rfl dX11_placeIs_85 ?_
            refine pgN C hP (k := 3) (j := 4) (Nat.le_of_ble_eq_true rfl) (xd_3 _ _) rfl iw_8 (Nat.le_of_ble_eq_true rfl) g_82 rfl rfl dX11_placeIs_88 ?_
            refine lv_iload hx hb dX11_placeIs_91 (lv_at hl 0 rfl) ?_
            have h14 := chk_1 hf
            replace hf := chk_2 hf
            refine paI C hP (k := 8) (Nat.le_of_ble_eq_true rfl) (xd_8 _ _) h14 dX11_placeIs_93 ?_
            exact prI C hr hk hP hS hf dX11_placeIs_94
          · replace hf := ite_f c13 hf
            by_cases c15 : a3 = (4 : Int32)
            · replace hf := ite_t c15 hf
              refine lv_tableIn (off := 79) (tgt := 95) hx hb dX11_placeIs_16 (by rw [c15]; decide) (by rw [c15]; decide) (by rw [c15]; rfl) (by decide) ?_
              refine lv_aload_n hx hb dX11_placeIs_95 rfl (lv_at hl 1 rfl) ?_
              refine pg C hP (k := 0) (j := 1) (Nat.le_of_ble_eq_true rfl) (xd_0 _ _) rfl iw_11 (Nat.le_of_ble_eq_true rfl) g_421 rfl rfl dX11_placeIs_96 ?_
              refine lv_iload hx hb dX11_placeIs_99 (lv_at hl 0 rfl) ?_
              obtain ⟨r16, M17, h18, hf⟩ := bnd_s hf
              refine pcVi (As := [.int r1]) C hP hS (k := 3) (Nat.le_of_ble_eq_true rfl) (xd_3 _ _) rfl (c8_openBeside  h18) y8_openBeside_w g_822 rfl rfl rfl ⟨Nat.le_of_ble_eq_true rfl, Nat.le_of_ble_eq_true rfl⟩ hl.1 rfl (Nat.le_of_ble_eq_true rfl) dX11_placeIs_101 ⟨Nat.le_of_ble_eq_true rfl, Nat.le_of_ble_eq_true rfl⟩ (fun H locs hP hS => ?_)
              exact prI C hr hk hP hS hf dX11_placeIs_104
            · replace hf := ite_f c15 hf
              refine lv_tableOut (tgt := 105) hx hb dX11_placeIs_16 (by have z0 : ¬ a3.toInt = 0 := tsn c5; have z1 : ¬ a3.toInt = 1 := tsn c9; have z2 : ¬ a3.toInt = 2 := tsn c11; have z3 : ¬ a3.toInt = 3 := tsn c13; have z4 : ¬ a3.toInt = 4 := tsn c15; omega) (by decide) ?_
              refine lv_iconst (v := (-1 : Int32)) hx hb dX11_placeIs_105 (by decide) ?_
              exact prI C hr hk hP hS hf dX11_placeIs_106
  · replace hf := ite_t c4 hf
    refine lv_iconst (v := (-1 : Int32)) hx hb dX11_placeIs_13 (by decide) ?_
    exact prI C hr hk hP hS hf dX11_placeIs_14
theorem c11_placeIs {l : Launch} {z : Zt} {b n : Nat}  {a1 : Int32} {a2 : Int32} {a3 : Int32} {M M' : Mem} {r : Int32} (hf : f11_placeIs n  a1 a2 a3 M = some (r, M')) : CI l z (xd z b) 339 b yX11_placeIs cX11_placeIs 5 (some .int) rm11_placeIs [.ref (b + 0), .int a1, .int a2, .int a3] M M' r :=
  CI.ofW (lv := [(0, .ref (b + 0)), (1, .int a1), (2, .int a2), (3, .int a3)]) (by decide) (Nat.le_of_ble_eq_true rfl) rfl (fun p e s m args below meth c ls C hr hk hP hS hl => w11_placeIs_0 (n := n)  C hr hk  hf hP hS hl)

-- BronzeKing.partOfFraction(IIZ)I
theorem dX11_partOfFraction_0 : decode cX11_partOfFraction 0 = .ok (.iload_n 1, 1) := by decide +kernel
theorem dX11_partOfFraction_1 : decode cX11_partOfFraction 1 = .ok (.istore_n 3, 1) := by decide +kernel
theorem dX11_partOfFraction_2 : decode cX11_partOfFraction 2 = .ok (.iload_n 0, 1) := by decide +kernel
theorem dX11_partOfFraction_3 : decode cX11_partOfFraction 3 = .ok (.istore 4, 2) := by decide +kernel
theorem dX11_partOfFraction_5 : decode cX11_partOfFraction 5 = .ok (.iconst 0, 1) := by decide +kernel
theorem dX11_partOfFraction_6 : decode cX11_partOfFraction 6 = .ok (.istore 5, 2) := by decide +kernel
theorem dX11_partOfFraction_8 : decode cX11_partOfFraction 8 = .ok (.iload 5, 2) := by decide +kernel
theorem dX11_partOfFraction_10 : decode cX11_partOfFraction 10 = .ok (.bipush 64, 2) := by decide +kernel
theorem dX11_partOfFraction_12 : decode cX11_partOfFraction 12 = .ok (.if_icmp .ge 27, 3) := by decide +kernel
theorem dX11_partOfFraction_15 : decode cX11_partOfFraction 15 = .ok (.iload 4, 2) := by decide +kernel
theorem dX11_partOfFraction_17 : decode cX11_partOfFraction 17 = .ok (.ifCond .eq 22, 3) := by decide +kernel
theorem dX11_partOfFraction_20 : decode cX11_partOfFraction 20 = .ok (.iload_n 3, 1) := by decide +kernel
theorem dX11_partOfFraction_21 : decode cX11_partOfFraction 21 = .ok (.iload 4, 2) := by decide +kernel
theorem dX11_partOfFraction_23 : decode cX11_partOfFraction 23 = .ok (.irem, 1) := by decide +kernel
theorem dX11_partOfFraction_24 : decode cX11_partOfFraction 24 = .ok (.istore 6, 2) := by decide +kernel
theorem dX11_partOfFraction_26 : decode cX11_partOfFraction 26 = .ok (.iload 4, 2) := by decide +kernel
theorem dX11_partOfFraction_28 : decode cX11_partOfFraction 28 = .ok (.istore_n 3, 1) := by decide +kernel
theorem dX11_partOfFraction_29 : decode cX11_partOfFraction 29 = .ok (.iload 6, 2) := by decide +kernel
theorem dX11_partOfFraction_31 : decode cX11_partOfFraction 31 = .ok (.istore 4, 2) := by decide +kernel
theorem dX11_partOfFraction_33 : decode cX11_partOfFraction 33 = .ok (.iinc 5 1, 3) := by decide +kernel
theorem dX11_partOfFraction_36 : decode cX11_partOfFraction 36 = .ok (.goto (-28), 3) := by decide +kernel
theorem dX11_partOfFraction_39 : decode cX11_partOfFraction 39 = .ok (.iload_n 3, 1) := by decide +kernel
theorem dX11_partOfFraction_40 : decode cX11_partOfFraction 40 = .ok (.ifCond .ne 5, 3) := by decide +kernel
theorem dX11_partOfFraction_43 : decode cX11_partOfFraction 43 = .ok (.iconst 0, 1) := by decide +kernel
theorem dX11_partOfFraction_44 : decode cX11_partOfFraction 44 = .ok (.ireturn, 1) := by decide +kernel
theorem dX11_partOfFraction_45 : decode cX11_partOfFraction 45 = .ok (.iload_n 2, 1) := by decide +kernel
theorem dX11_partOfFraction_46 : decode cX11_partOfFraction 46 = .ok (.ifCond .eq 7, 3) := by decide +kernel
theorem dX11_partOfFraction_49 : decode cX11_partOfFraction 49 = .ok (.iload_n 0, 1) := by decide +kernel
theorem dX11_partOfFraction_50 : decode cX11_partOfFraction 50 = .ok (.goto 4, 3) := by decide +kernel
theorem dX11_partOfFraction_53 : decode cX11_partOfFraction 53 = .ok (.iload_n 1, 1) := by decide +kernel
theorem dX11_partOfFraction_54 : decode cX11_partOfFraction 54 = .ok (.iload_n 3, 1) := by decide +kernel
theorem dX11_partOfFraction_55 : decode cX11_partOfFraction 55 = .ok (.idiv, 1) := by decide +kernel
theorem dX11_partOfFraction_56 : decode cX11_partOfFraction 56 = .ok (.ireturn, 1) := by decide +kernel
def b11_partOfFraction_54 (rc : Nat → List Int32 → List Int64 → Mem → Option (Int32 × Mem)) (n : Nat) (i3 : Int32) (s0 : Int32) (M : Mem) : Option (Int32 × Mem) :=
  chk (decide (¬ i3 = 0)) <|
  some ((s0 / i3), M)
def b11_partOfFraction_39 (rc : Nat → List Int32 → List Int64 → Mem → Option (Int32 × Mem)) (n : Nat) (i0 : Int32) (i1 : Int32) (i2 : Int32) (i3 : Int32) (M : Mem) : Option (Int32 × Mem) :=
  (if i3 = 0 then (
   some ((0 : Int32), M))
  else (
   (if i2 = 0 then (
    b11_partOfFraction_54  rc n i3 i1 M)
   else (
    b11_partOfFraction_54  rc n i3 i0 M))))
def b11_partOfFraction_8 (rc : Nat → List Int32 → List Int64 → Mem → Option (Int32 × Mem)) (n : Nat) (i0 : Int32) (i1 : Int32) (i2 : Int32) (i3 : Int32) (i4 : Int32) (i5 : Int32) (M : Mem) : Option (Int32 × Mem) :=
  (if (64 : Int32) ≤ i5 then (
   b11_partOfFraction_39  rc n i0 i1 i2 i3 M)
  else (
   (if i4 = 0 then (
    b11_partOfFraction_39  rc n i0 i1 i2 i3 M)
   else (
    chk (decide (¬ i4 = 0)) <|
    lt (i3 - i3 / i4 * i4) fun v4 =>
    lt (i5 + (1 : Int32)) fun v5 =>
    rc 8 [i0, i1, i2, i4, v4, v5] [] M))))
def b11_partOfFraction_0 (rc : Nat → List Int32 → List Int64 → Mem → Option (Int32 × Mem)) (n : Nat) (a0 : Int32) (a1 : Int32) (a2 : Int32) (M : Mem) : Option (Int32 × Mem) :=
  b11_partOfFraction_8  rc n a0 a1 a2 a1 a0 (0 : Int32) M
def r11_partOfFraction : Nat → Nat → List Int32 → List Int64 → Mem → Option (Int32 × Mem)
  | 0 => fun _ _ _ _ => none
  | n + 1 => fun pc li lj M =>
    if pc = 8 then (match li, lj with | [i0, i1, i2, i3, i4, i5], [] => b11_partOfFraction_8  (r11_partOfFraction  n) n i0 i1 i2 i3 i4 i5 M | _, _ => none) else
    none
theorem e11_partOfFraction_8  (n : Nat) (i0 : Int32) (i1 : Int32) (i2 : Int32) (i3 : Int32) (i4 : Int32) (i5 : Int32) (M : Mem) : r11_partOfFraction  (n + 1) 8 [i0, i1, i2, i3, i4, i5] [] M = b11_partOfFraction_8  (r11_partOfFraction  n) n i0 i1 i2 i3 i4 i5 M := by
  rw [r11_partOfFraction]
  simp
def f11_partOfFraction (n : Nat) (a0 : Int32) (a1 : Int32) (a2 : Int32) (M : Mem) : Option (Int32 × Mem) := b11_partOfFraction_0 (r11_partOfFraction n) n a0 a1 a2 M
abbrev rm11_partOfFraction : Room := { frames := 0, cells := 0, slots := 0, locals := 0 }
theorem y11_partOfFraction_w : yS yX11_partOfFraction cX11_partOfFraction 7 (some .int) 3 := ⟨g_841, g_1, g_842, by decide, by decide, by decide +kernel⟩
set_option maxHeartbeats 4000000 in
set_option maxRecDepth 100000 in
theorem w11_partOfFraction_54 {p : Program} {l : Launch} {e : Env} {s : State} {m : MethodId} {args : Array Value} {below : List Frame} {meth : Method} {c : Code} {z : Zt} {b : Nat}  (C : Cx p s m args c cX11_partOfFraction 7 RX11 z 339 b) (hr : meth.sig.returnType = (some .int)) (hk : meth.locks = false) {r : Int32} {M' : Mem} {rc : Nat → List Int32 → List Int64 → Mem → Option (Int32 × Mem)} {n : Nat} (q8 : ∀ (i0 : Int32) (i1 : Int32) (i2 : Int32) (i3 : Int32) (i4 : Int32) (i5 : Int32) (M : Mem) (H : Heap) (locs : List Loc) (ls : Array Slot), rc 8 [i0, i1, i2, i3, i4, i5] [] M = some (r, M') → va_P z.1 vwCl (pw (xd z b) 339 b M) H → va_S (pA 339 b) s.heap H locs → lv_has ls 7 [(0, .int i0), (1, .int i1), (2, .int i2), (3, .int i3), (4, .int i4), (5, .int i5)] → W p l e rm11_partOfFraction s m args below meth c H locs 0 0 (MQ below (va_Qi (fun (r' : Int32) (M2 : Mem) => r' = r ∧ M2 = M') (fun M2 t => va_P z.1 vwCl (pw (xd z b) 339 b M2) t.heap) (pA 339 b)) args s 0 0 (pA 339 b)) (F0 m 8 ls [])) {i3 : Int32} {s0 : Int32} {M : Mem} {H : Heap} {locs : List Loc} {ls : Array Slot} (hf : b11_partOfFraction_54  rc n i3 s0 M = some (r, M')) (hP : va_P z.1 vwCl (pw (xd z b) 339 b M) H) (hS : va_S (pA 339 b) s.heap H locs) (hl : lv_has ls 7 [(3, .int i3)]) : W p l e rm11_partOfFraction s m args below meth c H locs 0 0 (MQ below (va_Qi (fun (r' : Int32) (M2 : Mem) => r' = r ∧ M2 = M') (fun M2 t => va_P z.1 vwCl (pw (xd z b) 339 b M2) t.heap) (pA 339 b)) args s 0 0 (pA 339 b)) (F0 m 54 ls [.int s0]) := by
  have hx := C.1.1
  have hb := C.1.2.1
  unfold b11_partOfFraction_54 at hf
  refine lv_iload_n hx hb dX11_partOfFraction_54 rfl (lv_at hl 0 rfl) ?_
  have h8 := of_decide_eq_true (chk_1 hf)
  replace hf := chk_2 hf
  refine lv_idiv hx hb dX11_partOfFraction_55 h8 ?_
  exact prI C hr hk hP hS hf dX11_partOfFraction_56
set_option maxHeartbeats 4000000 in
set_option maxRecDepth 100000 in
theorem w11_partOfFraction_39 {p : Program} {l : Launch} {e : Env} {s : State} {m : MethodId} {args : Array Value} {below : List Frame} {meth : Method} {c : Code} {z : Zt} {b : Nat}  (C : Cx p s m args c cX11_partOfFraction 7 RX11 z 339 b) (hr : meth.sig.returnType = (some .int)) (hk : meth.locks = false) {r : Int32} {M' : Mem} {rc : Nat → List Int32 → List Int64 → Mem → Option (Int32 × Mem)} {n : Nat} (q8 : ∀ (i0 : Int32) (i1 : Int32) (i2 : Int32) (i3 : Int32) (i4 : Int32) (i5 : Int32) (M : Mem) (H : Heap) (locs : List Loc) (ls : Array Slot), rc 8 [i0, i1, i2, i3, i4, i5] [] M = some (r, M') → va_P z.1 vwCl (pw (xd z b) 339 b M) H → va_S (pA 339 b) s.heap H locs → lv_has ls 7 [(0, .int i0), (1, .int i1), (2, .int i2), (3, .int i3), (4, .int i4), (5, .int i5)] → W p l e rm11_partOfFraction s m args below meth c H locs 0 0 (MQ below (va_Qi (fun (r' : Int32) (M2 : Mem) => r' = r ∧ M2 = M') (fun M2 t => va_P z.1 vwCl (pw (xd z b) 339 b M2) t.heap) (pA 339 b)) args s 0 0 (pA 339 b)) (F0 m 8 ls [])) {i0 : Int32} {i1 : Int32} {i2 : Int32} {i3 : Int32} {M : Mem} {H : Heap} {locs : List Loc} {ls : Array Slot} (hf : b11_partOfFraction_39  rc n i0 i1 i2 i3 M = some (r, M')) (hP : va_P z.1 vwCl (pw (xd z b) 339 b M) H) (hS : va_S (pA 339 b) s.heap H locs) (hl : lv_has ls 7 [(0, .int i0), (1, .int i1), (2, .int i2), (3, .int i3)]) : W p l e rm11_partOfFraction s m args below meth c H locs 0 0 (MQ below (va_Qi (fun (r' : Int32) (M2 : Mem) => r' = r ∧ M2 = M') (fun M2 t => va_P z.1 vwCl (pw (xd z b) 339 b M2) t.heap) (pA 339 b)) args s 0 0 (pA 339 b)) (F0 m 39 ls []) := by
  have hx := C.1.1
  have hb := C.1.2.1
  unfold b11_partOfFraction_39 at hf
  refine lv_iload_n hx hb dX11_partOfFraction_39 rfl (lv_at hl 3 rfl) ?_
  refine lv_if_ne (tgt := 45) hx hb dX11_partOfFraction_40 (by decide) (fun c6 => ?_) (fun c6 => ?_)
  · replace hf := ite_f c6 hf
    refine lv_iload_n hx hb dX11_partOfFraction_45 rfl (lv_at hl 2 rfl) ?_
    refine lv_if_eq (tgt := 53) hx hb dX11_partOfFraction_46 (by decide) (fun c7 => ?_) (fun c7 => ?_)
    · replace hf := ite_t c7 hf
      refine lv_iload_n hx hb dX11_partOfFraction_53 rfl (lv_at hl 1 rfl) ?_
      exact w11_partOfFraction_54 (n := n)  C hr hk q8 hf hP hS (lv_sub hl [3] rfl)
    · replace hf := ite_f c7 hf
      refine lv_iload_n hx hb dX11_partOfFraction_49 rfl (lv_at hl 0 rfl) ?_
      refine lv_goto (tgt := 54) hx hb dX11_partOfFraction_50 (by decide) ?_
      exact w11_partOfFraction_54 (n := n)  C hr hk q8 hf hP hS (lv_sub hl [3] rfl)
  · replace hf := ite_t c6 hf
    refine lv_iconst (v := (0 : Int32)) hx hb dX11_partOfFraction_43 (by decide) ?_
    exact prI C hr hk hP hS hf dX11_partOfFraction_44
set_option maxHeartbeats 4000000 in
set_option maxRecDepth 100000 in
theorem w11_partOfFraction_8 {p : Program} {l : Launch} {e : Env} {s : State} {m : MethodId} {args : Array Value} {below : List Frame} {meth : Method} {c : Code} {z : Zt} {b : Nat}  (C : Cx p s m args c cX11_partOfFraction 7 RX11 z 339 b) (hr : meth.sig.returnType = (some .int)) (hk : meth.locks = false) {r : Int32} {M' : Mem} {rc : Nat → List Int32 → List Int64 → Mem → Option (Int32 × Mem)} {n : Nat} (q8 : ∀ (i0 : Int32) (i1 : Int32) (i2 : Int32) (i3 : Int32) (i4 : Int32) (i5 : Int32) (M : Mem) (H : Heap) (locs : List Loc) (ls : Array Slot), rc 8 [i0, i1, i2, i3, i4, i5] [] M = some (r, M') → va_P z.1 vwCl (pw (xd z b) 339 b M) H → va_S (pA 339 b) s.heap H locs → lv_has ls 7 [(0, .int i0), (1, .int i1), (2, .int i2), (3, .int i3), (4, .int i4), (5, .int i5)] → W p l e rm11_partOfFraction s m args below meth c H locs 0 0 (MQ below (va_Qi (fun (r' : Int32) (M2 : Mem) => r' = r ∧ M2 = M') (fun M2 t => va_P z.1 vwCl (pw (xd z b) 339 b M2) t.heap) (pA 339 b)) args s 0 0 (pA 339 b)) (F0 m 8 ls [])) {i0 : Int32} {i1 : Int32} {i2 : Int32} {i3 : Int32} {i4 : Int32} {i5 : Int32} {M : Mem} {H : Heap} {locs : List Loc} {ls : Array Slot} (hf : b11_partOfFraction_8  rc n i0 i1 i2 i3 i4 i5 M = some (r, M')) (hP : va_P z.1 vwCl (pw (xd z b) 339 b M) H) (hS : va_S (pA 339 b) s.heap H locs) (hl : lv_has ls 7 [(0, .int i0), (1, .int i1), (2, .int i2), (3, .int i3), (4, .int i4), (5, .int i5)]) : W p l e rm11_partOfFraction s m args below meth c H locs 0 0 (MQ below (va_Qi (fun (r' : Int32) (M2 : Mem) => r' = r ∧ M2 = M') (fun M2 t => va_P z.1 vwCl (pw (xd z b) 339 b M2) t.heap) (pA 339 b)) args s 0 0 (pA 339 b)) (F0 m 8 ls []) := by
  have hx := C.1.1
  have hb := C.1.2.1
  unfold b11_partOfFraction_8 at hf
  refine lv_iload hx hb dX11_partOfFraction_8 (lv_at hl 5 rfl) ?_
  refine lv_bipush (v := (64 : Int32)) hx hb dX11_partOfFraction_10 (by decide) ?_
  refine lv_icmp_ge (tgt := 39) hx hb dX11_partOfFraction_12 (by decide) (fun c1 => ?_) (fun c1 => ?_)
  · replace hf := ite_t c1 hf
    exact w11_partOfFraction_39 (n := n)  C hr hk q8 hf hP hS (lv_sub hl [0, 1, 2, 3] rfl)
  · replace hf := ite_f c1 hf
    refine lv_iload hx hb dX11_partOfFraction_15 (lv_at hl 4 rfl) ?_
    refine lv_if_eq (tgt := 39) hx hb dX11_partOfFraction_17 (by decide) (fun c2 => ?_) (fun c2 => ?_)
    · replace hf := ite_t c2 hf
      exact w11_partOfFraction_39 (n := n)  C hr hk q8 hf hP hS (lv_sub hl [0, 1, 2, 3] rfl)
    · replace hf := ite_f c2 hf
      refine lv_iload_n hx hb dX11_partOfFraction_20 rfl (lv_at hl 3 rfl) ?_
      refine lv_iload hx hb dX11_partOfFraction_21 (lv_at hl 4 rfl) ?_
      have h3 := of_decide_eq_true (chk_1 hf)
      replace hf := chk_2 hf
      refine lv_irem hx hb dX11_partOfFraction_23 h3 ?_
      refine lv_topi (fun v4 ev4 => ?_)
      replace hf := lt_c ev4 hf
      refine lv_istore (lv' := [(6, .int v4), (0, .int i0), (1, .int i1), (2, .int i2), (3, .int i3), (4, .int i4), (5, .int i5)]) hx hb dX11_partOfFraction_24 hl (by decide) rfl (fun ls hl => ?_)
      refine lv_iload hx hb dX11_partOfFraction_26 (lv_at hl 5 rfl) ?_
      refine lv_istore_n (lv' := [(3, .int i4), (6, .int v4), (0, .int i0), (1, .int i1), (2, .int i2), (4, .int i4), (5, .int i5)]) hx hb dX11_partOfFraction_28 rfl hl (by decide) rfl (fun ls hl => ?_)
      refine lv_iload hx hb dX11_partOfFraction_29 (lv_at hl 1 rfl) ?_
      refine lv_istore (lv' := [(4, .int v4), (3, .int i4), (6, .int v4), (0, .int i0), (1, .int i1), (2, .int i2), (5, .int i5)]) hx hb dX11_partOfFraction_31 hl (by decide) rfl (fun ls hl => ?_)
      obtain ⟨v5, ev5⟩ : ∃ v : Int32, v = i5 + (1 : Int32) := ⟨_, rfl⟩
      replace hf := lt_c ev5 hf
      refine lv_iinc (v := v5) (lv' := [(5, .int v5), (4, .int v4), (3, .int i4), (6, .int v4), (0, .int i0), (1, .int i1), (2, .int i2)]) hx hb dX11_partOfFraction_33 hl (k := 6) rfl (by rw [ev5]; rfl) (by decide) rfl (fun ls hl => ?_)
      refine lv_goto (tgt := 8) hx hb dX11_partOfFraction_36 (by decide) ?_
      exact q8 i0 i1 i2 i4 v4 v5 M _ _ _ hf hP hS (lv_sub hl [4, 5, 6, 2, 1, 0] rfl)
set_option maxHeartbeats 4000000 in
set_option maxRecDepth 100000 in
theorem w11_partOfFraction_0 {p : Program} {l : Launch} {e : Env} {s : State} {m : MethodId} {args : Array Value} {below : List Frame} {meth : Method} {c : Code} {z : Zt} {b : Nat}  (C : Cx p s m args c cX11_partOfFraction 7 RX11 z 339 b) (hr : meth.sig.returnType = (some .int)) (hk : meth.locks = false) {r : Int32} {M' : Mem} {rc : Nat → List Int32 → List Int64 → Mem → Option (Int32 × Mem)} {n : Nat} (q8 : ∀ (i0 : Int32) (i1 : Int32) (i2 : Int32) (i3 : Int32) (i4 : Int32) (i5 : Int32) (M : Mem) (H : Heap) (locs : List Loc) (ls : Array Slot), rc 8 [i0, i1, i2, i3, i4, i5] [] M = some (r, M') → va_P z.1 vwCl (pw (xd z b) 339 b M) H → va_S (pA 339 b) s.heap H locs → lv_has ls 7 [(0, .int i0), (1, .int i1), (2, .int i2), (3, .int i3), (4, .int i4), (5, .int i5)] → W p l e rm11_partOfFraction s m args below meth c H locs 0 0 (MQ below (va_Qi (fun (r' : Int32) (M2 : Mem) => r' = r ∧ M2 = M') (fun M2 t => va_P z.1 vwCl (pw (xd z b) 339 b M2) t.heap) (pA 339 b)) args s 0 0 (pA 339 b)) (F0 m 8 ls [])) {a0 : Int32} {a1 : Int32} {a2 : Int32} {M : Mem} {H : Heap} {locs : List Loc} {ls : Array Slot} (hf : b11_partOfFraction_0  rc n a0 a1 a2 M = some (r, M')) (hP : va_P z.1 vwCl (pw (xd z b) 339 b M) H) (hS : va_S (pA 339 b) s.heap H locs) (hl : lv_has ls 7 [(0, .int a0), (1, .int a1), (2, .int a2)]) : W p l e rm11_partOfFraction s m args below meth c H locs 0 0 (MQ below (va_Qi (fun (r' : Int32) (M2 : Mem) => r' = r ∧ M2 = M') (fun M2 t => va_P z.1 vwCl (pw (xd z b) 339 b M2) t.heap) (pA 339 b)) args s 0 0 (pA 339 b)) (F0 m 0 ls []) := by
  have hx := C.1.1
  have hb := C.1.2.1
  unfold b11_partOfFraction_0 at hf
  refine lv_iload_n hx hb dX11_partOfFraction_0 rfl (lv_at hl 1 rfl) ?_
  refine lv_istore_n (lv' := [(3, .int a1), (0, .int a0), (1, .int a1), (2, .int a2)]) hx hb dX11_partOfFraction_1 rfl hl (by decide) rfl (fun ls hl => ?_)
  refine lv_iload_n hx hb dX11_partOfFraction_2 rfl (lv_at hl 1 rfl) ?_
  refine lv_istore (lv' := [(4, .int a0), (3, .int a1), (0, .int a0), (1, .int a1), (2, .int a2)]) hx hb dX11_partOfFraction_3 hl (by decide) rfl (fun ls hl => ?_)
  refine lv_iconst (v := (0 : Int32)) hx hb dX11_partOfFraction_5 (by decide) ?_
  refine lv_istore (lv' := [(5, .int (0 : Int32)), (4, .int a0), (3, .int a1), (0, .int a0), (1, .int a1), (2, .int a2)]) hx hb dX11_partOfFraction_6 hl (by decide) rfl (fun ls hl => ?_)
  exact w11_partOfFraction_8 (n := n)  C hr hk q8 hf hP hS (lv_sub hl [3, 4, 5, 2, 1, 0] rfl)
set_option maxHeartbeats 4000000 in
set_option maxRecDepth 100000 in
theorem l11_partOfFraction {p : Program} {l : Launch} {e : Env} {s : State} {m : MethodId} {args : Array Value} {below : List Frame} {meth : Method} {c : Code} {z : Zt} {b : Nat}  (C : Cx p s m args c cX11_partOfFraction 7 RX11 z 339 b) (hr : meth.sig.returnType = (some .int)) (hk : meth.locks = false) {r : Int32} {M' : Mem} (n : Nat) : (∀ (i0 : Int32) (i1 : Int32) (i2 : Int32) (i3 : Int32) (i4 : Int32) (i5 : Int32) (M : Mem) (H : Heap) (locs : List Loc) (ls : Array Slot), (r11_partOfFraction  n) 8 [i0, i1, i2, i3, i4, i5] [] M = some (r, M') → va_P z.1 vwCl (pw (xd z b) 339 b M) H → va_S (pA 339 b) s.heap H locs → lv_has ls 7 [(0, .int i0), (1, .int i1), (2, .int i2), (3, .int i3), (4, .int i4), (5, .int i5)] → W p l e rm11_partOfFraction s m args below meth c H locs 0 0 (MQ below (va_Qi (fun (r' : Int32) (M2 : Mem) => r' = r ∧ M2 = M') (fun M2 t => va_P z.1 vwCl (pw (xd z b) 339 b M2) t.heap) (pA 339 b)) args s 0 0 (pA 339 b)) (F0 m 8 ls [])) := by
  induction n with
  | zero => exact fun _ _ _ _ _ _ _ _ _ _ hf => (by cases hf)
  | succ n ih => exact fun _ _ _ _ _ _ _ _ _ _ hf hP hS hl => w11_partOfFraction_8 (n := n)  C hr hk ih ((e11_partOfFraction_8  n _ _ _ _ _ _ _).symm.trans hf) hP hS hl
theorem c11_partOfFraction {l : Launch} {z : Zt} {b n : Nat}  {a0 : Int32} {a1 : Int32} {a2 : Int32} {M M' : Mem} {r : Int32} (hf : f11_partOfFraction n  a0 a1 a2 M = some (r, M')) : CI l z (xd z b) 339 b yX11_partOfFraction cX11_partOfFraction 7 (some .int) rm11_partOfFraction [.int a0, .int a1, .int a2] M M' r :=
  CI.ofW (lv := [(0, .int a0), (1, .int a1), (2, .int a2)]) (by decide) (Nat.le_of_ble_eq_true rfl) rfl (fun p e s m args below meth c ls C hr hk hP hS hl => w11_partOfFraction_0 (n := n)  C hr hk (l11_partOfFraction  C hr hk n) hf hP hS hl)

-- BronzeKing.likely(II)I
theorem dX11_likely_0 : decode cX11_likely 0 = .ok (.iload_n 1, 1) := by decide +kernel
theorem dX11_likely_1 : decode cX11_likely 1 = .ok (.ifCond .lt 18, 3) := by decide +kernel
theorem dX11_likely_4 : decode cX11_likely 4 = .ok (.iload_n 1, 1) := by decide +kernel
theorem dX11_likely_5 : decode cX11_likely 5 = .ok (.bipush 24, 2) := by decide +kernel
theorem dX11_likely_7 : decode cX11_likely 7 = .ok (.if_icmp .ge 12, 3) := by decide +kernel
theorem dX11_likely_10 : decode cX11_likely 10 = .ok (.iload_n 2, 1) := by decide +kernel
theorem dX11_likely_11 : decode cX11_likely 11 = .ok (.ifCond .lt 8, 3) := by decide +kernel
theorem dX11_likely_14 : decode cX11_likely 14 = .ok (.iload_n 2, 1) := by decide +kernel
theorem dX11_likely_15 : decode cX11_likely 15 = .ok (.iconst 1, 1) := by decide +kernel
theorem dX11_likely_16 : decode cX11_likely 16 = .ok (.if_icmp .le 5, 3) := by decide +kernel
theorem dX11_likely_19 : decode cX11_likely 19 = .ok (.iconst (-1), 1) := by decide +kernel
theorem dX11_likely_20 : decode cX11_likely 20 = .ok (.ireturn, 1) := by decide +kernel
theorem dX11_likely_21 : decode cX11_likely 21 = .ok (.aload_n 0, 1) := by decide +kernel
theorem dX11_likely_22 : decode cX11_likely 22 = .ok (.getfield 51, 3) := by decide +kernel
theorem dX11_likely_25 : decode cX11_likely 25 = .ok (.aload_n 0, 1) := by decide +kernel
theorem dX11_likely_26 : decode cX11_likely 26 = .ok (.getfield 81, 3) := by decide +kernel
theorem dX11_likely_29 : decode cX11_likely 29 = .ok (.getfield 177, 3) := by decide +kernel
theorem dX11_likely_32 : decode cX11_likely 32 = .ok (.invokevirtual 180, 3) := by decide +kernel
theorem dX11_likely_35 : decode cX11_likely 35 = .ok (.aload_n 0, 1) := by decide +kernel
theorem dX11_likely_36 : decode cX11_likely 36 = .ok (.getfield 51, 3) := by decide +kernel
theorem dX11_likely_39 : decode cX11_likely 39 = .ok (.iload_n 1, 1) := by decide +kernel
theorem dX11_likely_40 : decode cX11_likely 40 = .ok (.invokevirtual 183, 3) := by decide +kernel
theorem dX11_likely_43 : decode cX11_likely 43 = .ok (.ifCond .ne 13, 3) := by decide +kernel
theorem dX11_likely_46 : decode cX11_likely 46 = .ok (.aload_n 0, 1) := by decide +kernel
theorem dX11_likely_47 : decode cX11_likely 47 = .ok (.getfield 51, 3) := by decide +kernel
theorem dX11_likely_50 : decode cX11_likely 50 = .ok (.getfield 187, 3) := by decide +kernel
theorem dX11_likely_53 : decode cX11_likely 53 = .ok (.ifCond .ne 6, 3) := by decide +kernel
theorem dX11_likely_56 : decode cX11_likely 56 = .ok (.bipush (-2), 2) := by decide +kernel
theorem dX11_likely_58 : decode cX11_likely 58 = .ok (.ireturn, 1) := by decide +kernel
theorem dX11_likely_59 : decode cX11_likely 59 = .ok (.aload_n 0, 1) := by decide +kernel
theorem dX11_likely_60 : decode cX11_likely 60 = .ok (.getfield 51, 3) := by decide +kernel
theorem dX11_likely_63 : decode cX11_likely 63 = .ok (.getfield 190, 3) := by decide +kernel
theorem dX11_likely_66 : decode cX11_likely 66 = .ok (.iload_n 1, 1) := by decide +kernel
theorem dX11_likely_67 : decode cX11_likely 67 = .ok (.iaload, 1) := by decide +kernel
theorem dX11_likely_68 : decode cX11_likely 68 = .ok (.aload_n 0, 1) := by decide +kernel
theorem dX11_likely_69 : decode cX11_likely 69 = .ok (.getfield 51, 3) := by decide +kernel
theorem dX11_likely_72 : decode cX11_likely 72 = .ok (.getfield 187, 3) := by decide +kernel
theorem dX11_likely_75 : decode cX11_likely 75 = .ok (.iload_n 2, 1) := by decide +kernel
theorem dX11_likely_76 : decode cX11_likely 76 = .ok (.ifCond .ne 7, 3) := by decide +kernel
theorem dX11_likely_79 : decode cX11_likely 79 = .ok (.iconst 1, 1) := by decide +kernel
theorem dX11_likely_80 : decode cX11_likely 80 = .ok (.goto 4, 3) := by decide +kernel
theorem dX11_likely_83 : decode cX11_likely 83 = .ok (.iconst 0, 1) := by decide +kernel
theorem dX11_likely_84 : decode cX11_likely 84 = .ok (.invokestatic 193, 3) := by decide +kernel
theorem dX11_likely_87 : decode cX11_likely 87 = .ok (.ireturn, 1) := by decide +kernel
def b11_likely_19 (rc : Nat → List Int32 → List Int64 → Mem → Option (Int32 × Mem)) (n : Nat) (M : Mem) : Option (Int32 × Mem) :=
  some ((-1 : Int32), M)
def b11_likely_56 (rc : Nat → List Int32 → List Int64 → Mem → Option (Int32 × Mem)) (n : Nat) (M : Mem) : Option (Int32 × Mem) :=
  some ((-2 : Int32), M)
def b11_likely_84 (rc : Nat → List Int32 → List Int64 → Mem → Option (Int32 × Mem)) (n : Nat) (s0 : Int32) (s1 : Int32) (s2 : Int32) (M : Mem) : Option (Int32 × Mem) :=
  bnd (f11_partOfFraction n s0 s1 s2 M) fun r15 M16 =>
  some (r15, M16)
def b11_likely_0 (rc : Nat → List Int32 → List Int64 → Mem → Option (Int32 × Mem)) (n : Nat) (a1 : Int32) (a2 : Int32) (M : Mem) : Option (Int32 × Mem) :=
  (if a1 < 0 then (
   b11_likely_19  rc n  M)
  else (
   (if (24 : Int32) ≤ a1 then (
    b11_likely_19  rc n  M)
   else (
    (if a2 < 0 then (
     b11_likely_19  rc n  M)
    else (
     (if a2 ≤ (1 : Int32) then (
      bnd (f9_weigh n (M.1 330 2) M) fun r5 M6 =>
      bnd (f9_isWatched n a1 M6) fun r8 M9 =>
      (if r8 = 0 then (
       (if (M9.1 25 5) = 0 then (
        b11_likely_56  rc n  M9)
       else (
        chk (inb a1 24) <|
        (if a2 = 0 then (
         b11_likely_84  rc n (M9.1 26 a1.toNatClampNeg) (M9.1 25 5) (1 : Int32) M9)
        else (
         b11_likely_84  rc n (M9.1 26 a1.toNatClampNeg) (M9.1 25 5) (0 : Int32) M9)))))
      else (
       b11_likely_56  rc n  M9)))
     else (
      b11_likely_19  rc n  M))))))))
def f11_likely (n : Nat) (a1 : Int32) (a2 : Int32) (M : Mem) : Option (Int32 × Mem) := b11_likely_0 (fun _ _ _ _ => none) n a1 a2 M
abbrev rm11_likely : Room := { frames := 5, cells := 0, slots := 0, locals := 116 }
theorem y11_likely_w : yV RX11 yX11_likely cX11_likely 3 (some .int) 2 := ⟨g_827, g_828, g_1, g_829, rfl, by decide, by decide, by decide +kernel⟩
set_option maxHeartbeats 4000000 in
set_option maxRecDepth 100000 in
theorem w11_likely_19 {p : Program} {l : Launch} {e : Env} {s : State} {m : MethodId} {args : Array Value} {below : List Frame} {meth : Method} {c : Code} {z : Zt} {b : Nat}  (C : Cx p s m args c cX11_likely 3 RX11 z 339 b) (hr : meth.sig.returnType = (some .int)) (hk : meth.locks = false) {r : Int32} {M' : Mem} {rc : Nat → List Int32 → List Int64 → Mem → Option (Int32 × Mem)} {n : Nat}   {M : Mem} {H : Heap} {locs : List Loc} {ls : Array Slot} (hf : b11_likely_19  rc n  M = some (r, M')) (hP : va_P z.1 vwCl (pw (xd z b) 339 b M) H) (hS : va_S (pA 339 b) s.heap H locs) (hl : lv_has ls 3 []) : W p l e rm11_likely s m args below meth c H locs 0 0 (MQ below (va_Qi (fun (r' : Int32) (M2 : Mem) => r' = r ∧ M2 = M') (fun M2 t => va_P z.1 vwCl (pw (xd z b) 339 b M2) t.heap) (pA 339 b)) args s 0 0 (pA 339 b)) (F0 m 19 ls []) := by
  have hx := C.1.1
  have hb := C.1.2.1
  unfold b11_likely_19 at hf
  refine lv_iconst (v := (-1 : Int32)) hx hb dX11_likely_19 (by decide) ?_
  exact prI C hr hk hP hS hf dX11_likely_20
set_option maxHeartbeats 4000000 in
set_option maxRecDepth 100000 in
theorem w11_likely_56 {p : Program} {l : Launch} {e : Env} {s : State} {m : MethodId} {args : Array Value} {below : List Frame} {meth : Method} {c : Code} {z : Zt} {b : Nat}  (C : Cx p s m args c cX11_likely 3 RX11 z 339 b) (hr : meth.sig.returnType = (some .int)) (hk : meth.locks = false) {r : Int32} {M' : Mem} {rc : Nat → List Int32 → List Int64 → Mem → Option (Int32 × Mem)} {n : Nat}   {M : Mem} {H : Heap} {locs : List Loc} {ls : Array Slot} (hf : b11_likely_56  rc n  M = some (r, M')) (hP : va_P z.1 vwCl (pw (xd z b) 339 b M) H) (hS : va_S (pA 339 b) s.heap H locs) (hl : lv_has ls 3 []) : W p l e rm11_likely s m args below meth c H locs 0 0 (MQ below (va_Qi (fun (r' : Int32) (M2 : Mem) => r' = r ∧ M2 = M') (fun M2 t => va_P z.1 vwCl (pw (xd z b) 339 b M2) t.heap) (pA 339 b)) args s 0 0 (pA 339 b)) (F0 m 56 ls []) := by
  have hx := C.1.1
  have hb := C.1.2.1
  unfold b11_likely_56 at hf
  refine lv_bipush (v := (-2 : Int32)) hx hb dX11_likely_56 (by decide) ?_
  exact prI C hr hk hP hS hf dX11_likely_58
set_option maxHeartbeats 4000000 in
set_option maxRecDepth 100000 in
theorem w11_likely_84 {p : Program} {l : Launch} {e : Env} {s : State} {m : MethodId} {args : Array Value} {below : List Frame} {meth : Method} {c : Code} {z : Zt} {b : Nat}  (C : Cx p s m args c cX11_likely 3 RX11 z 339 b) (hr : meth.sig.returnType = (some .int)) (hk : meth.locks = false) {r : Int32} {M' : Mem} {rc : Nat → List Int32 → List Int64 → Mem → Option (Int32 × Mem)} {n : Nat}  {s0 : Int32} {s1 : Int32} {s2 : Int32} {M : Mem} {H : Heap} {locs : List Loc} {ls : Array Slot} (hf : b11_likely_84  rc n s0 s1 s2 M = some (r, M')) (hP : va_P z.1 vwCl (pw (xd z b) 339 b M) H) (hS : va_S (pA 339 b) s.heap H locs) (hl : lv_has ls 3 []) : W p l e rm11_likely s m args below meth c H locs 0 0 (MQ below (va_Qi (fun (r' : Int32) (M2 : Mem) => r' = r ∧ M2 = M') (fun M2 t => va_P z.1 vwCl (pw (xd z b) 339 b M2) t.heap) (pA 339 b)) args s 0 0 (pA 339 b)) (F0 m 84 ls [.int s2, .int s1, .int s0]) := by
  have hx := C.1.1
  have hb := C.1.2.1
  unfold b11_likely_84 at hf
  obtain ⟨r15, M16, h17, hf⟩ := bnd_s hf
  refine pcSi (As := [.int s0, .int s1, .int s2]) C hP hS (c11_partOfFraction  h17) y11_partOfFraction_w g_840 rfl rfl rfl ⟨Nat.le_of_ble_eq_true rfl, Nat.le_of_ble_eq_true rfl⟩ hl.1 rfl (Nat.le_of_ble_eq_true rfl) dX11_likely_84 ⟨Nat.le_of_ble_eq_true rfl, Nat.le_of_ble_eq_true rfl⟩ (fun H locs hP hS => ?_)
  exact prI C hr hk hP hS hf dX11_likely_87
set_option maxHeartbeats 4000000 in
set_option maxRecDepth 100000 in
theorem w11_likely_0 {p : Program} {l : Launch} {e : Env} {s : State} {m : MethodId} {args : Array Value} {below : List Frame} {meth : Method} {c : Code} {z : Zt} {b : Nat}  (C : Cx p s m args c cX11_likely 3 RX11 z 339 b) (hr : meth.sig.returnType = (some .int)) (hk : meth.locks = false) {r : Int32} {M' : Mem} {rc : Nat → List Int32 → List Int64 → Mem → Option (Int32 × Mem)} {n : Nat}  {a1 : Int32} {a2 : Int32} {M : Mem} {H : Heap} {locs : List Loc} {ls : Array Slot} (hf : b11_likely_0  rc n a1 a2 M = some (r, M')) (hP : va_P z.1 vwCl (pw (xd z b) 339 b M) H) (hS : va_S (pA 339 b) s.heap H locs) (hl : lv_has ls 3 [(0, .ref (b + 0)), (1, .int a1), (2, .int a2)]) : W p l e rm11_likely s m args below meth c H locs 0 0 (MQ below (va_Qi (fun (r' : Int32) (M2 : Mem) => r' = r ∧ M2 = M') (fun M2 t => va_P z.1 vwCl (pw (xd z b) 339 b M2) t.heap) (pA 339 b)) args s 0 0 (pA 339 b)) (F0 m 0 ls []) := by
  have hx := C.1.1
  have hb := C.1.2.1
  unfold b11_likely_0 at hf
  refine lv_iload_n hx hb dX11_likely_0 rfl (lv_at hl 1 rfl) ?_
  refine lv_if_lt (tgt := 19) hx hb dX11_likely_1 (by decide) (fun c1 => ?_) (fun c1 => ?_)
  · replace hf := ite_t c1 hf
    exact w11_likely_19 (n := n)  C hr hk  hf hP hS (lv_sub hl [] rfl)
  · replace hf := ite_f c1 hf
    refine lv_iload_n hx hb dX11_likely_4 rfl (lv_at hl 1 rfl) ?_
    refine lv_bipush (v := (24 : Int32)) hx hb dX11_likely_5 (by decide) ?_
    refine lv_icmp_ge (tgt := 19) hx hb dX11_likely_7 (by decide) (fun c2 => ?_) (fun c2 => ?_)
    · replace hf := ite_t c2 hf
      exact w11_likely_19 (n := n)  C hr hk  hf hP hS (lv_sub hl [] rfl)
    · replace hf := ite_f c2 hf
      refine lv_iload_n hx hb dX11_likely_10 rfl (lv_at hl 2 rfl) ?_
      refine lv_if_lt (tgt := 19) hx hb dX11_likely_11 (by decide) (fun c3 => ?_) (fun c3 => ?_)
      · replace hf := ite_t c3 hf
        exact w11_likely_19 (n := n)  C hr hk  hf hP hS (lv_sub hl [] rfl)
      · replace hf := ite_f c3 hf
        refine lv_iload_n hx hb dX11_likely_14 rfl (lv_at hl 2 rfl) ?_
        refine lv_iconst (v := (1 : Int32)) hx hb dX11_likely_15 (by decide) ?_
        refine lv_icmp_le (tgt := 21) hx hb dX11_likely_16 (by decide) (fun c4 => ?_) (fun c4 => ?_)
        · replace hf := ite_t c4 hf
          refine lv_aload_n hx hb dX11_likely_21 rfl (lv_at hl 0 rfl) ?_
          refine pg C hP (k := 0) (j := 5) (Nat.le_of_ble_eq_true rfl) (xd_0 _ _) rfl iw_11 (Nat.le_of_ble_eq_true rfl) g_425 rfl rfl dX11_likely_22 ?_
          refine lv_aload_n hx hb dX11_likely_25 rfl (lv_at hl 0 rfl) ?_
          refine pg C hP (k := 0) (j := 9) (Nat.le_of_ble_eq_true rfl) (xd_0 _ _) rfl iw_11 (Nat.le_of_ble_eq_true rfl) g_429 rfl rfl dX11_likely_26 ?_
          refine pgN C hP (k := 330) (j := 2) (co_lt co_330) ((co_d co_330) _ _) rfl iw_0 (Nat.le_of_ble_eq_true rfl) g_361 rfl rfl dX11_likely_29 ?_
          obtain ⟨r5, M6, h7, hf⟩ := bnd_s hf
          refine pcVv (As := [.int (M.1 330 2)]) C hP hS (k := 25) (Nat.le_of_ble_eq_true rfl) (xd_25 _ _) rfl (c9_weigh  h7) y9_weigh_w g_830 rfl rfl rfl ⟨Nat.le_of_ble_eq_true rfl, Nat.le_of_ble_eq_true rfl⟩ hl.1 rfl (Nat.le_of_ble_eq_true rfl) dX11_likely_32 ⟨Nat.le_of_ble_eq_true rfl, Nat.le_of_ble_eq_true rfl⟩ (fun H locs hP hS => ?_)
          refine lv_aload_n hx hb dX11_likely_35 rfl (lv_at hl 0 rfl) ?_
          refine pg C hP (k := 0) (j := 5) (Nat.le_of_ble_eq_true rfl) (xd_0 _ _) rfl iw_11 (Nat.le_of_ble_eq_true rfl) g_425 rfl rfl dX11_likely_36 ?_
          refine lv_iload_n hx hb dX11_likely_39 rfl (lv_at hl 1 rfl) ?_
          obtain ⟨r8, M9, h10, hf⟩ := bnd_s hf
          refine pcVi (As := [.int a1]) C hP hS (k := 25) (Nat.le_of_ble_eq_true rfl) (xd_25 _ _) rfl (c9_isWatched  h10) y9_isWatched_w g_839 rfl rfl rfl ⟨Nat.le_of_ble_eq_true rfl, Nat.le_of_ble_eq_true rfl⟩ hl.1 rfl (Nat.le_of_ble_eq_true rfl) dX11_likely_40 ⟨Nat.le_of_ble_eq_true rfl, Nat.le_of_ble_eq_true rfl⟩ (fun H locs hP hS => ?_)
          refine lv_if_ne (tgt := 56) hx hb dX11_likely_43 (by decide) (fun c11 => ?_) (fun c11 => ?_)
          · replace hf := ite_f c11 hf
            exact w11_likely_56 (n := n)  C hr hk  hf hP hS (lv_sub hl [] rfl)
          · replace hf := ite_t c11 hf
            refine lv_aload_n hx hb dX11_likely_46 rfl (lv_at hl 0 rfl) ?_
            refine pg C hP (k := 0) (j := 5) (Nat.le_of_ble_eq_true rfl) (xd_0 _ _) rfl iw_11 (Nat.le_of_ble_eq_true rfl) g_425 rfl rfl dX11_likely_47 ?_
            refine pgN C hP (k := 25) (j := 5) (Nat.le_of_ble_eq_true rfl) (xd_25 _ _) rfl iw_9 (Nat.le_of_ble_eq_true rfl) g_222 rfl rfl dX11_likely_50 ?_
            refine lv_if_ne (tgt := 59) hx hb dX11_likely_53 (by decide) (fun c12 => ?_) (fun c12 => ?_)
            · replace hf := ite_f c12 hf
              refine lv_aload_n hx hb dX11_likely_59 rfl (lv_at hl 0 rfl) ?_
              refine pg C hP (k := 0) (j := 5) (Nat.le_of_ble_eq_true rfl) (xd_0 _ _) rfl iw_11 (Nat.le_of_ble_eq_true rfl) g_425 rfl rfl dX11_likely_60 ?_
              refine pgN C hP (k := 25) (j := 1) (Nat.le_of_ble_eq_true rfl) (xd_25 _ _) rfl iw_9 (Nat.le_of_ble_eq_true rfl) g_216 rfl rfl dX11_likely_63 ?_
              refine lv_iload_n hx hb dX11_likely_66 rfl (lv_at hl 1 rfl) ?_
              have h13 := chk_1 hf
              replace hf := chk_2 hf
              refine paI C hP (k := 26) (Nat.le_of_ble_eq_true rfl) (xd_26 _ _) h13 dX11_likely_67 ?_
              refine lv_aload_n hx hb dX11_likely_68 rfl (lv_at hl 0 rfl) ?_
              refine pg C hP (k := 0) (j := 5) (Nat.le_of_ble_eq_true rfl) (xd_0 _ _) rfl iw_11 (Nat.le_of_ble_eq_true rfl) g_425 rfl rfl dX11_likely_69 ?_
              refine pgN C hP (k := 25) (j := 5) (Nat.le_of_ble_eq_true rfl) (xd_25 _ _) rfl iw_9 (Nat.le_of_ble_eq_true rfl) g_222 rfl rfl dX11_likely_72 ?_
              refine lv_iload_n hx hb dX11_likely_75 rfl (lv_at hl 2 rfl) ?_
              refine lv_if_ne (tgt := 83) hx hb dX11_likely_76 (by decide) (fun c14 => ?_) (fun c14 => ?_)
              · replace hf := ite_f c14 hf
                refine lv_iconst (v := (0 : Int32)) hx hb dX11_likely_83 (by decide) ?_
                exact w11_likely_84 (n := n)  C hr hk  hf hP hS (lv_sub hl [] rfl)
              · replace hf := ite_t c14 hf
                refine lv_iconst (v := (1 : Int32)) hx hb dX11_likely_79 (by decide) ?_
                refine lv_goto (tgt := 84) hx hb dX11_likely_80 (by decide) ?_
                exact w11_likely_84 (n := n)  C hr hk  hf hP hS (lv_sub hl [] rfl)
            · replace hf := ite_t c12 hf
              exact w11_likely_56 (n := n)  C hr hk  hf hP hS (lv_sub hl [] rfl)
        · replace hf := ite_f c4 hf
          exact w11_likely_19 (n := n)  C hr hk  hf hP hS (lv_sub hl [] rfl)
theorem c11_likely {l : Launch} {z : Zt} {b n : Nat}  {a1 : Int32} {a2 : Int32} {M M' : Mem} {r : Int32} (hf : f11_likely n  a1 a2 M = some (r, M')) : CI l z (xd z b) 339 b yX11_likely cX11_likely 3 (some .int) rm11_likely [.ref (b + 0), .int a1, .int a2] M M' r :=
  CI.ofW (lv := [(0, .ref (b + 0)), (1, .int a1), (2, .int a2)]) (by decide) (Nat.le_of_ble_eq_true rfl) rfl (fun p e s m args below meth c ls C hr hk hP hS hl => w11_likely_0 (n := n)  C hr hk  hf hP hS hl)

-- BronzeKing.watch(II)I
theorem dX11_watch_0 : decode cX11_watch 0 = .ok (.iload_n 1, 1) := by decide +kernel
theorem dX11_watch_1 : decode cX11_watch 1 = .ok (.iconst 1, 1) := by decide +kernel
theorem dX11_watch_2 : decode cX11_watch 2 = .ok (.if_icmp .lt 18, 3) := by decide +kernel
theorem dX11_watch_5 : decode cX11_watch 5 = .ok (.iload_n 1, 1) := by decide +kernel
theorem dX11_watch_6 : decode cX11_watch 6 = .ok (.bipush 6, 2) := by decide +kernel
theorem dX11_watch_8 : decode cX11_watch 8 = .ok (.if_icmp .gt 12, 3) := by decide +kernel
theorem dX11_watch_11 : decode cX11_watch 11 = .ok (.iload_n 2, 1) := by decide +kernel
theorem dX11_watch_12 : decode cX11_watch 12 = .ok (.ifCond .lt 8, 3) := by decide +kernel
theorem dX11_watch_15 : decode cX11_watch 15 = .ok (.iload_n 2, 1) := by decide +kernel
theorem dX11_watch_16 : decode cX11_watch 16 = .ok (.iconst 2, 1) := by decide +kernel
theorem dX11_watch_17 : decode cX11_watch 17 = .ok (.if_icmp .le 5, 3) := by decide +kernel
theorem dX11_watch_20 : decode cX11_watch 20 = .ok (.iconst (-1), 1) := by decide +kernel
theorem dX11_watch_21 : decode cX11_watch 21 = .ok (.ireturn, 1) := by decide +kernel
theorem dX11_watch_22 : decode cX11_watch 22 = .ok (.aload_n 0, 1) := by decide +kernel
theorem dX11_watch_23 : decode cX11_watch 23 = .ok (.getfield 51, 3) := by decide +kernel
theorem dX11_watch_26 : decode cX11_watch 26 = .ok (.aload_n 0, 1) := by decide +kernel
theorem dX11_watch_27 : decode cX11_watch 27 = .ok (.getfield 81, 3) := by decide +kernel
theorem dX11_watch_30 : decode cX11_watch 30 = .ok (.getfield 177, 3) := by decide +kernel
theorem dX11_watch_33 : decode cX11_watch 33 = .ok (.invokevirtual 180, 3) := by decide +kernel
theorem dX11_watch_36 : decode cX11_watch 36 = .ok (.bipush 24, 2) := by decide +kernel
theorem dX11_watch_38 : decode cX11_watch 38 = .ok (.aload_n 0, 1) := by decide +kernel
theorem dX11_watch_39 : decode cX11_watch 39 = .ok (.getfield 51, 3) := by decide +kernel
theorem dX11_watch_42 : decode cX11_watch 42 = .ok (.getfield 197, 3) := by decide +kernel
theorem dX11_watch_45 : decode cX11_watch 45 = .ok (.invokestatic 156, 3) := by decide +kernel
theorem dX11_watch_48 : decode cX11_watch 48 = .ok (.isub, 1) := by decide +kernel
theorem dX11_watch_49 : decode cX11_watch 49 = .ok (.iload_n 1, 1) := by decide +kernel
theorem dX11_watch_50 : decode cX11_watch 50 = .ok (.if_icmp .lt 13, 3) := by decide +kernel
theorem dX11_watch_53 : decode cX11_watch 53 = .ok (.aload_n 0, 1) := by decide +kernel
theorem dX11_watch_54 : decode cX11_watch 54 = .ok (.getfield 51, 3) := by decide +kernel
theorem dX11_watch_57 : decode cX11_watch 57 = .ok (.getfield 187, 3) := by decide +kernel
theorem dX11_watch_60 : decode cX11_watch 60 = .ok (.ifCond .ne 6, 3) := by decide +kernel
theorem dX11_watch_63 : decode cX11_watch 63 = .ok (.bipush (-2), 2) := by decide +kernel
theorem dX11_watch_65 : decode cX11_watch 65 = .ok (.ireturn, 1) := by decide +kernel
theorem dX11_watch_66 : decode cX11_watch 66 = .ok (.iconst 0, 1) := by decide +kernel
theorem dX11_watch_67 : decode cX11_watch 67 = .ok (.istore_n 3, 1) := by decide +kernel
theorem dX11_watch_68 : decode cX11_watch 68 = .ok (.iload_n 3, 1) := by decide +kernel
theorem dX11_watch_69 : decode cX11_watch 69 = .ok (.iload_n 1, 1) := by decide +kernel
theorem dX11_watch_70 : decode cX11_watch 70 = .ok (.if_icmp .ge 16, 3) := by decide +kernel
theorem dX11_watch_73 : decode cX11_watch 73 = .ok (.aload_n 0, 1) := by decide +kernel
theorem dX11_watch_74 : decode cX11_watch 74 = .ok (.getfield 51, 3) := by decide +kernel
theorem dX11_watch_77 : decode cX11_watch 77 = .ok (.invokevirtual 200, 3) := by decide +kernel
theorem dX11_watch_80 : decode cX11_watch 80 = .ok (.iinc 3 1, 3) := by decide +kernel
theorem dX11_watch_83 : decode cX11_watch 83 = .ok (.goto (-15), 3) := by decide +kernel
theorem dX11_watch_86 : decode cX11_watch 86 = .ok (.iload_n 2, 1) := by decide +kernel
theorem dX11_watch_87 : decode cX11_watch 87 = .ok (.ifCond .ne 11, 3) := by decide +kernel
theorem dX11_watch_90 : decode cX11_watch 90 = .ok (.aload_n 0, 1) := by decide +kernel
theorem dX11_watch_91 : decode cX11_watch 91 = .ok (.getfield 51, 3) := by decide +kernel
theorem dX11_watch_94 : decode cX11_watch 94 = .ok (.getfield 203, 3) := by decide +kernel
theorem dX11_watch_97 : decode cX11_watch 97 = .ok (.ireturn, 1) := by decide +kernel
theorem dX11_watch_98 : decode cX11_watch 98 = .ok (.aload_n 0, 1) := by decide +kernel
theorem dX11_watch_99 : decode cX11_watch 99 = .ok (.getfield 51, 3) := by decide +kernel
theorem dX11_watch_102 : decode cX11_watch 102 = .ok (.getfield 206, 3) := by decide +kernel
theorem dX11_watch_105 : decode cX11_watch 105 = .ok (.aload_n 0, 1) := by decide +kernel
theorem dX11_watch_106 : decode cX11_watch 106 = .ok (.getfield 51, 3) := by decide +kernel
theorem dX11_watch_109 : decode cX11_watch 109 = .ok (.getfield 187, 3) := by decide +kernel
theorem dX11_watch_112 : decode cX11_watch 112 = .ok (.iload_n 2, 1) := by decide +kernel
theorem dX11_watch_113 : decode cX11_watch 113 = .ok (.iconst 1, 1) := by decide +kernel
theorem dX11_watch_114 : decode cX11_watch 114 = .ok (.if_icmp .ne 7, 3) := by decide +kernel
theorem dX11_watch_117 : decode cX11_watch 117 = .ok (.iconst 1, 1) := by decide +kernel
theorem dX11_watch_118 : decode cX11_watch 118 = .ok (.goto 4, 3) := by decide +kernel
theorem dX11_watch_121 : decode cX11_watch 121 = .ok (.iconst 0, 1) := by decide +kernel
theorem dX11_watch_122 : decode cX11_watch 122 = .ok (.invokestatic 193, 3) := by decide +kernel
theorem dX11_watch_125 : decode cX11_watch 125 = .ok (.ireturn, 1) := by decide +kernel
def b11_watch_20 (rc : Nat → List Int32 → List Int64 → Mem → Option (Int32 × Mem)) (n : Nat) (M : Mem) : Option (Int32 × Mem) :=
  some ((-1 : Int32), M)
def b11_watch_63 (rc : Nat → List Int32 → List Int64 → Mem → Option (Int32 × Mem)) (n : Nat) (M : Mem) : Option (Int32 × Mem) :=
  some ((-2 : Int32), M)
def b11_watch_122 (rc : Nat → List Int32 → List Int64 → Mem → Option (Int32 × Mem)) (n : Nat) (s0 : Int32) (s1 : Int32) (s2 : Int32) (M : Mem) : Option (Int32 × Mem) :=
  bnd (f11_partOfFraction n s0 s1 s2 M) fun r20 M21 =>
  some (r20, M21)
def b11_watch_68 (rc : Nat → List Int32 → List Int64 → Mem → Option (Int32 × Mem)) (n : Nat) (i1 : Int32) (i2 : Int32) (i3 : Int32) (M : Mem) : Option (Int32 × Mem) :=
  (if i1 ≤ i3 then (
   (if i2 = 0 then (
    some ((M.1 25 6), M))
   else (
    (if i2 = (1 : Int32) then (
     b11_watch_122  rc n (M.1 25 7) (M.1 25 5) (1 : Int32) M)
    else (
     b11_watch_122  rc n (M.1 25 7) (M.1 25 5) (0 : Int32) M)))))
  else (
   bnd (f9_pickHeaviest n M) fun r16 M17 =>
   lt (i3 + (1 : Int32)) fun v19 =>
   rc 68 [i1, i2, v19] [] M17))
def b11_watch_0 (rc : Nat → List Int32 → List Int64 → Mem → Option (Int32 × Mem)) (n : Nat) (a1 : Int32) (a2 : Int32) (M : Mem) : Option (Int32 × Mem) :=
  (if a1 < (1 : Int32) then (
   b11_watch_20  rc n  M)
  else (
   (if (6 : Int32) < a1 then (
    b11_watch_20  rc n  M)
   else (
    (if a2 < 0 then (
     b11_watch_20  rc n  M)
    else (
     (if a2 ≤ (2 : Int32) then (
      bnd (f9_weigh n (M.1 330 2) M) fun r5 M6 =>
      bnd (fZJ6_bitCount_0f7a4 n (M6.1 25 2) M6) fun r8 M9 =>
      (if ((24 : Int32) - r8) < a1 then (
       b11_watch_63  rc n  M9)
      else (
       (if (M9.1 25 5) = 0 then (
        b11_watch_63  rc n  M9)
       else (
        b11_watch_68  rc n a1 a2 (0 : Int32) M9)))))
     else (
      b11_watch_20  rc n  M))))))))
def r11_watch : Nat → Nat → List Int32 → List Int64 → Mem → Option (Int32 × Mem)
  | 0 => fun _ _ _ _ => none
  | n + 1 => fun pc li lj M =>
    if pc = 68 then (match li, lj with | [i1, i2, i3], [] => b11_watch_68  (r11_watch  n) n i1 i2 i3 M | _, _ => none) else
    none
theorem e11_watch_68  (n : Nat) (i1 : Int32) (i2 : Int32) (i3 : Int32) (M : Mem) : r11_watch  (n + 1) 68 [i1, i2, i3] [] M = b11_watch_68  (r11_watch  n) n i1 i2 i3 M := by
  rw [r11_watch]
  simp
def f11_watch (n : Nat) (a1 : Int32) (a2 : Int32) (M : Mem) : Option (Int32 × Mem) := b11_watch_0 (r11_watch n) n a1 a2 M
abbrev rm11_watch : Room := { frames := 5, cells := 0, slots := 0, locals := 116 }
theorem y11_watch_w : yV RX11 yX11_watch cX11_watch 4 (some .int) 2 := ⟨g_844, g_845, g_1, g_846, rfl, by decide, by decide, by decide +kernel⟩
set_option maxHeartbeats 4000000 in
set_option maxRecDepth 100000 in
theorem w11_watch_20 {p : Program} {l : Launch} {e : Env} {s : State} {m : MethodId} {args : Array Value} {below : List Frame} {meth : Method} {c : Code} {z : Zt} {b : Nat}  (C : Cx p s m args c cX11_watch 4 RX11 z 339 b) (hr : meth.sig.returnType = (some .int)) (hk : meth.locks = false) {r : Int32} {M' : Mem} {rc : Nat → List Int32 → List Int64 → Mem → Option (Int32 × Mem)} {n : Nat} (q68 : ∀ (i1 : Int32) (i2 : Int32) (i3 : Int32) (M : Mem) (H : Heap) (locs : List Loc) (ls : Array Slot), rc 68 [i1, i2, i3] [] M = some (r, M') → va_P z.1 vwCl (pw (xd z b) 339 b M) H → va_S (pA 339 b) s.heap H locs → lv_has ls 4 [(0, .ref (b + 0)), (1, .int i1), (2, .int i2), (3, .int i3)] → W p l e rm11_watch s m args below meth c H locs 0 0 (MQ below (va_Qi (fun (r' : Int32) (M2 : Mem) => r' = r ∧ M2 = M') (fun M2 t => va_P z.1 vwCl (pw (xd z b) 339 b M2) t.heap) (pA 339 b)) args s 0 0 (pA 339 b)) (F0 m 68 ls []))  {M : Mem} {H : Heap} {locs : List Loc} {ls : Array Slot} (hf : b11_watch_20  rc n  M = some (r, M')) (hP : va_P z.1 vwCl (pw (xd z b) 339 b M) H) (hS : va_S (pA 339 b) s.heap H locs) (hl : lv_has ls 4 []) : W p l e rm11_watch s m args below meth c H locs 0 0 (MQ below (va_Qi (fun (r' : Int32) (M2 : Mem) => r' = r ∧ M2 = M') (fun M2 t => va_P z.1 vwCl (pw (xd z b) 339 b M2) t.heap) (pA 339 b)) args s 0 0 (pA 339 b)) (F0 m 20 ls []) := by
  have hx := C.1.1
  have hb := C.1.2.1
  unfold b11_watch_20 at hf
  refine lv_iconst (v := (-1 : Int32)) hx hb dX11_watch_20 (by decide) ?_
  exact prI C hr hk hP hS hf dX11_watch_21
set_option maxHeartbeats 4000000 in
set_option maxRecDepth 100000 in
theorem w11_watch_63 {p : Program} {l : Launch} {e : Env} {s : State} {m : MethodId} {args : Array Value} {below : List Frame} {meth : Method} {c : Code} {z : Zt} {b : Nat}  (C : Cx p s m args c cX11_watch 4 RX11 z 339 b) (hr : meth.sig.returnType = (some .int)) (hk : meth.locks = false) {r : Int32} {M' : Mem} {rc : Nat → List Int32 → List Int64 → Mem → Option (Int32 × Mem)} {n : Nat} (q68 : ∀ (i1 : Int32) (i2 : Int32) (i3 : Int32) (M : Mem) (H : Heap) (locs : List Loc) (ls : Array Slot), rc 68 [i1, i2, i3] [] M = some (r, M') → va_P z.1 vwCl (pw (xd z b) 339 b M) H → va_S (pA 339 b) s.heap H locs → lv_has ls 4 [(0, .ref (b + 0)), (1, .int i1), (2, .int i2), (3, .int i3)] → W p l e rm11_watch s m args below meth c H locs 0 0 (MQ below (va_Qi (fun (r' : Int32) (M2 : Mem) => r' = r ∧ M2 = M') (fun M2 t => va_P z.1 vwCl (pw (xd z b) 339 b M2) t.heap) (pA 339 b)) args s 0 0 (pA 339 b)) (F0 m 68 ls []))  {M : Mem} {H : Heap} {locs : List Loc} {ls : Array Slot} (hf : b11_watch_63  rc n  M = some (r, M')) (hP : va_P z.1 vwCl (pw (xd z b) 339 b M) H) (hS : va_S (pA 339 b) s.heap H locs) (hl : lv_has ls 4 []) : W p l e rm11_watch s m args below meth c H locs 0 0 (MQ below (va_Qi (fun (r' : Int32) (M2 : Mem) => r' = r ∧ M2 = M') (fun M2 t => va_P z.1 vwCl (pw (xd z b) 339 b M2) t.heap) (pA 339 b)) args s 0 0 (pA 339 b)) (F0 m 63 ls []) := by
  have hx := C.1.1
  have hb := C.1.2.1
  unfold b11_watch_63 at hf
  refine lv_bipush (v := (-2 : Int32)) hx hb dX11_watch_63 (by decide) ?_
  exact prI C hr hk hP hS hf dX11_watch_65
set_option maxHeartbeats 4000000 in
set_option maxRecDepth 100000 in
theorem w11_watch_122 {p : Program} {l : Launch} {e : Env} {s : State} {m : MethodId} {args : Array Value} {below : List Frame} {meth : Method} {c : Code} {z : Zt} {b : Nat}  (C : Cx p s m args c cX11_watch 4 RX11 z 339 b) (hr : meth.sig.returnType = (some .int)) (hk : meth.locks = false) {r : Int32} {M' : Mem} {rc : Nat → List Int32 → List Int64 → Mem → Option (Int32 × Mem)} {n : Nat} (q68 : ∀ (i1 : Int32) (i2 : Int32) (i3 : Int32) (M : Mem) (H : Heap) (locs : List Loc) (ls : Array Slot), rc 68 [i1, i2, i3] [] M = some (r, M') → va_P z.1 vwCl (pw (xd z b) 339 b M) H → va_S (pA 339 b) s.heap H locs → lv_has ls 4 [(0, .ref (b + 0)), (1, .int i1), (2, .int i2), (3, .int i3)] → W p l e rm11_watch s m args below meth c H locs 0 0 (MQ below (va_Qi (fun (r' : Int32) (M2 : Mem) => r' = r ∧ M2 = M') (fun M2 t => va_P z.1 vwCl (pw (xd z b) 339 b M2) t.heap) (pA 339 b)) args s 0 0 (pA 339 b)) (F0 m 68 ls [])) {s0 : Int32} {s1 : Int32} {s2 : Int32} {M : Mem} {H : Heap} {locs : List Loc} {ls : Array Slot} (hf : b11_watch_122  rc n s0 s1 s2 M = some (r, M')) (hP : va_P z.1 vwCl (pw (xd z b) 339 b M) H) (hS : va_S (pA 339 b) s.heap H locs) (hl : lv_has ls 4 []) : W p l e rm11_watch s m args below meth c H locs 0 0 (MQ below (va_Qi (fun (r' : Int32) (M2 : Mem) => r' = r ∧ M2 = M') (fun M2 t => va_P z.1 vwCl (pw (xd z b) 339 b M2) t.heap) (pA 339 b)) args s 0 0 (pA 339 b)) (F0 m 122 ls [.int s2, .int s1, .int s0]) := by
  have hx := C.1.1
  have hb := C.1.2.1
  unfold b11_watch_122 at hf
  obtain ⟨r20, M21, h22, hf⟩ := bnd_s hf
  refine pcSi (As := [.int s0, .int s1, .int s2]) C hP hS (c11_partOfFraction  h22) y11_partOfFraction_w g_840 rfl rfl rfl ⟨Nat.le_of_ble_eq_true rfl, Nat.le_of_ble_eq_true rfl⟩ hl.1 rfl (Nat.le_of_ble_eq_true rfl) dX11_watch_122 ⟨Nat.le_of_ble_eq_true rfl, Nat.le_of_ble_eq_true rfl⟩ (fun H locs hP hS => ?_)
  exact prI C hr hk hP hS hf dX11_watch_125
set_option maxHeartbeats 4000000 in
set_option maxRecDepth 100000 in
theorem w11_watch_68 {p : Program} {l : Launch} {e : Env} {s : State} {m : MethodId} {args : Array Value} {below : List Frame} {meth : Method} {c : Code} {z : Zt} {b : Nat}  (C : Cx p s m args c cX11_watch 4 RX11 z 339 b) (hr : meth.sig.returnType = (some .int)) (hk : meth.locks = false) {r : Int32} {M' : Mem} {rc : Nat → List Int32 → List Int64 → Mem → Option (Int32 × Mem)} {n : Nat} (q68 : ∀ (i1 : Int32) (i2 : Int32) (i3 : Int32) (M : Mem) (H : Heap) (locs : List Loc) (ls : Array Slot), rc 68 [i1, i2, i3] [] M = some (r, M') → va_P z.1 vwCl (pw (xd z b) 339 b M) H → va_S (pA 339 b) s.heap H locs → lv_has ls 4 [(0, .ref (b + 0)), (1, .int i1), (2, .int i2), (3, .int i3)] → W p l e rm11_watch s m args below meth c H locs 0 0 (MQ below (va_Qi (fun (r' : Int32) (M2 : Mem) => r' = r ∧ M2 = M') (fun M2 t => va_P z.1 vwCl (pw (xd z b) 339 b M2) t.heap) (pA 339 b)) args s 0 0 (pA 339 b)) (F0 m 68 ls [])) {i1 : Int32} {i2 : Int32} {i3 : Int32} {M : Mem} {H : Heap} {locs : List Loc} {ls : Array Slot} (hf : b11_watch_68  rc n i1 i2 i3 M = some (r, M')) (hP : va_P z.1 vwCl (pw (xd z b) 339 b M) H) (hS : va_S (pA 339 b) s.heap H locs) (hl : lv_has ls 4 [(0, .ref (b + 0)), (1, .int i1), (2, .int i2), (3, .int i3)]) : W p l e rm11_watch s m args below meth c H locs 0 0 (MQ below (va_Qi (fun (r' : Int32) (M2 : Mem) => r' = r ∧ M2 = M') (fun M2 t => va_P z.1 vwCl (pw (xd z b) 339 b M2) t.heap) (pA 339 b)) args s 0 0 (pA 339 b)) (F0 m 68 ls []) := by
  have hx := C.1.1
  have hb := C.1.2.1
  unfold b11_watch_68 at hf
  refine lv_iload_n hx hb dX11_watch_68 rfl (lv_at hl 3 rfl) ?_
  refine lv_iload_n hx hb dX11_watch_69 rfl (lv_at hl 1 rfl) ?_
  refine lv_icmp_ge (tgt := 86) hx hb dX11_watch_70 (by decide) (fun c13 => ?_) (fun c13 => ?_)
  · replace hf := ite_t c13 hf
    refine lv_iload_n hx hb dX11_watch_86 rfl (lv_at hl 2 rfl) ?_
    refine lv_if_ne (tgt := 98) hx hb dX11_watch_87 (by decide) (fun c14 => ?_) (fun c14 => ?_)
    · replace hf := ite_f c14 hf
      refine lv_aload_n hx hb dX11_watch_98 rfl (lv_at hl 0 rfl) ?_
      refine pg C hP (k := 0) (j := 5) (Nat.le_of_ble_eq_true rfl) (xd_0 _ _) rfl iw_11 (Nat.le_of_ble_eq_true rfl) g_425 rfl rfl dX11_watch_99 ?_
      refine pgN C hP (k := 25) (j := 7) (Nat.le_of_ble_eq_true rfl) (xd_25 _ _) rfl iw_9 (Nat.le_of_ble_eq_true rfl) g_226 rfl rfl dX11_watch_102 ?_
      refine lv_aload_n hx hb dX11_watch_105 rfl (lv_at hl 0 rfl) ?_
      refine pg C hP (k := 0) (j := 5) (Nat.le_of_ble_eq_true rfl) (xd_0 _ _) rfl iw_11 (Nat.le_of_ble_eq_true rfl) g_425 rfl rfl dX11_watch_106 ?_
      refine pgN C hP (k := 25) (j := 5) (Nat.le_of_ble_eq_true rfl) (xd_25 _ _) rfl iw_9 (Nat.le_of_ble_eq_true rfl) g_222 rfl rfl dX11_watch_109 ?_
      refine lv_iload_n hx hb dX11_watch_112 rfl (lv_at hl 2 rfl) ?_
      refine lv_iconst (v := (1 : Int32)) hx hb dX11_watch_113 (by decide) ?_
      refine lv_icmp_ne (tgt := 121) hx hb dX11_watch_114 (by decide) (fun c15 => ?_) (fun c15 => ?_)
      · replace hf := ite_f c15 hf
        refine lv_iconst (v := (0 : Int32)) hx hb dX11_watch_121 (by decide) ?_
        exact w11_watch_122 (n := n)  C hr hk q68 hf hP hS (lv_sub hl [] rfl)
      · replace hf := ite_t c15 hf
        refine lv_iconst (v := (1 : Int32)) hx hb dX11_watch_117 (by decide) ?_
        refine lv_goto (tgt := 122) hx hb dX11_watch_118 (by decide) ?_
        exact w11_watch_122 (n := n)  C hr hk q68 hf hP hS (lv_sub hl [] rfl)
    · replace hf := ite_t c14 hf
      refine lv_aload_n hx hb dX11_watch_90 rfl (lv_at hl 0 rfl) ?_
      refine pg C hP (k := 0) (j := 5) (Nat.le_of_ble_eq_true rfl) (xd_0 _ _) rfl iw_11 (Nat.le_of_ble_eq_true rfl) g_425 rfl rfl dX11_watch_91 ?_
      refine pgN C hP (k := 25) (j := 6) (Nat.le_of_ble_eq_true rfl) (xd_25 _ _) rfl iw_9 (Nat.le_of_ble_eq_true rfl) g_224 rfl rfl dX11_watch_94 ?_
      exact prI C hr hk hP hS hf dX11_watch_97
  · replace hf := ite_f c13 hf
    refine lv_aload_n hx hb dX11_watch_73 rfl (lv_at hl 0 rfl) ?_
    refine pg C hP (k := 0) (j := 5) (Nat.le_of_ble_eq_true rfl) (xd_0 _ _) rfl iw_11 (Nat.le_of_ble_eq_true rfl) g_425 rfl rfl dX11_watch_74 ?_
    obtain ⟨r16, M17, h18, hf⟩ := bnd_s hf
    refine pcVv (As := []) C hP hS (k := 25) (Nat.le_of_ble_eq_true rfl) (xd_25 _ _) rfl (c9_pickHeaviest  h18) y9_pickHeaviest_w g_847 rfl rfl rfl ⟨Nat.le_of_ble_eq_true rfl, Nat.le_of_ble_eq_true rfl⟩ hl.1 rfl (Nat.le_of_ble_eq_true rfl) dX11_watch_77 ⟨Nat.le_of_ble_eq_true rfl, Nat.le_of_ble_eq_true rfl⟩ (fun H locs hP hS => ?_)
    obtain ⟨v19, ev19⟩ : ∃ v : Int32, v = i3 + (1 : Int32) := ⟨_, rfl⟩
    replace hf := lt_c ev19 hf
    refine lv_iinc (v := v19) (lv' := [(3, .int v19), (0, .ref (b + 0)), (1, .int i1), (2, .int i2)]) hx hb dX11_watch_80 hl (k := 3) rfl (by rw [ev19]; rfl) (by decide) rfl (fun ls hl => ?_)
    refine lv_goto (tgt := 68) hx hb dX11_watch_83 (by decide) ?_
    exact q68 i1 i2 v19 M17 _ _ _ hf hP hS (lv_sub hl [1, 2, 3, 0] rfl)
set_option maxHeartbeats 4000000 in
set_option maxRecDepth 100000 in
theorem w11_watch_0 {p : Program} {l : Launch} {e : Env} {s : State} {m : MethodId} {args : Array Value} {below : List Frame} {meth : Method} {c : Code} {z : Zt} {b : Nat}  (C : Cx p s m args c cX11_watch 4 RX11 z 339 b) (hr : meth.sig.returnType = (some .int)) (hk : meth.locks = false) {r : Int32} {M' : Mem} {rc : Nat → List Int32 → List Int64 → Mem → Option (Int32 × Mem)} {n : Nat} (q68 : ∀ (i1 : Int32) (i2 : Int32) (i3 : Int32) (M : Mem) (H : Heap) (locs : List Loc) (ls : Array Slot), rc 68 [i1, i2, i3] [] M = some (r, M') → va_P z.1 vwCl (pw (xd z b) 339 b M) H → va_S (pA 339 b) s.heap H locs → lv_has ls 4 [(0, .ref (b + 0)), (1, .int i1), (2, .int i2), (3, .int i3)] → W p l e rm11_watch s m args below meth c H locs 0 0 (MQ below (va_Qi (fun (r' : Int32) (M2 : Mem) => r' = r ∧ M2 = M') (fun M2 t => va_P z.1 vwCl (pw (xd z b) 339 b M2) t.heap) (pA 339 b)) args s 0 0 (pA 339 b)) (F0 m 68 ls [])) {a1 : Int32} {a2 : Int32} {M : Mem} {H : Heap} {locs : List Loc} {ls : Array Slot} (hf : b11_watch_0  rc n a1 a2 M = some (r, M')) (hP : va_P z.1 vwCl (pw (xd z b) 339 b M) H) (hS : va_S (pA 339 b) s.heap H locs) (hl : lv_has ls 4 [(0, .ref (b + 0)), (1, .int a1), (2, .int a2)]) : W p l e rm11_watch s m args below meth c H locs 0 0 (MQ below (va_Qi (fun (r' : Int32) (M2 : Mem) => r' = r ∧ M2 = M') (fun M2 t => va_P z.1 vwCl (pw (xd z b) 339 b M2) t.heap) (pA 339 b)) args s 0 0 (pA 339 b)) (F0 m 0 ls []) := by
  have hx := C.1.1
  have hb := C.1.2.1
  unfold b11_watch_0 at hf
  refine lv_iload_n hx hb dX11_watch_0 rfl (lv_at hl 1 rfl) ?_
  refine lv_iconst (v := (1 : Int32)) hx hb dX11_watch_1 (by decide) ?_
  refine lv_icmp_lt (tgt := 20) hx hb dX11_watch_2 (by decide) (fun c1 => ?_) (fun c1 => ?_)
  · replace hf := ite_t c1 hf
    exact w11_watch_20 (n := n)  C hr hk q68 hf hP hS (lv_sub hl [] rfl)
  · replace hf := ite_f c1 hf
    refine lv_iload_n hx hb dX11_watch_5 rfl (lv_at hl 1 rfl) ?_
    refine lv_bipush (v := (6 : Int32)) hx hb dX11_watch_6 (by decide) ?_
    refine lv_icmp_gt (tgt := 20) hx hb dX11_watch_8 (by decide) (fun c2 => ?_) (fun c2 => ?_)
    · replace hf := ite_t c2 hf
      exact w11_watch_20 (n := n)  C hr hk q68 hf hP hS (lv_sub hl [] rfl)
    · replace hf := ite_f c2 hf
      refine lv_iload_n hx hb dX11_watch_11 rfl (lv_at hl 2 rfl) ?_
      refine lv_if_lt (tgt := 20) hx hb dX11_watch_12 (by decide) (fun c3 => ?_) (fun c3 => ?_)
      · replace hf := ite_t c3 hf
        exact w11_watch_20 (n := n)  C hr hk q68 hf hP hS (lv_sub hl [] rfl)
      · replace hf := ite_f c3 hf
        refine lv_iload_n hx hb dX11_watch_15 rfl (lv_at hl 2 rfl) ?_
        refine lv_iconst (v := (2 : Int32)) hx hb dX11_watch_16 (by decide) ?_
        refine lv_icmp_le (tgt := 22) hx hb dX11_watch_17 (by decide) (fun c4 => ?_) (fun c4 => ?_)
        · replace hf := ite_t c4 hf
          refine lv_aload_n hx hb dX11_watch_22 rfl (lv_at hl 0 rfl) ?_
          refine pg C hP (k := 0) (j := 5) (Nat.le_of_ble_eq_true rfl) (xd_0 _ _) rfl iw_11 (Nat.le_of_ble_eq_true rfl) g_425 rfl rfl dX11_watch_23 ?_
          refine lv_aload_n hx hb dX11_watch_26 rfl (lv_at hl 0 rfl) ?_
          refine pg C hP (k := 0) (j := 9) (Nat.le_of_ble_eq_true rfl) (xd_0 _ _) rfl iw_11 (Nat.le_of_ble_eq_true rfl) g_429 rfl rfl dX11_watch_27 ?_
          refine pgN C hP (k := 330) (j := 2) (co_lt co_330) ((co_d co_330) _ _) rfl iw_0 (Nat.le_of_ble_eq_true rfl) g_361 rfl rfl dX11_watch_30 ?_
          obtain ⟨r5, M6, h7, hf⟩ := bnd_s hf
          refine pcVv (As := [.int (M.1 330 2)]) C hP hS (k := 25) (Nat.le_of_ble_eq_true rfl) (xd_25 _ _) rfl (c9_weigh  h7) y9_weigh_w g_830 rfl rfl rfl ⟨Nat.le_of_ble_eq_true rfl, Nat.le_of_ble_eq_true rfl⟩ hl.1 rfl (Nat.le_of_ble_eq_true rfl) dX11_watch_33 ⟨Nat.le_of_ble_eq_true rfl, Nat.le_of_ble_eq_true rfl⟩ (fun H locs hP hS => ?_)
          refine lv_bipush (v := (24 : Int32)) hx hb dX11_watch_36 (by decide) ?_
          refine lv_aload_n hx hb dX11_watch_38 rfl (lv_at hl 0 rfl) ?_
          refine pg C hP (k := 0) (j := 5) (Nat.le_of_ble_eq_true rfl) (xd_0 _ _) rfl iw_11 (Nat.le_of_ble_eq_true rfl) g_425 rfl rfl dX11_watch_39 ?_
          refine pgN C hP (k := 25) (j := 2) (Nat.le_of_ble_eq_true rfl) (xd_25 _ _) rfl iw_9 (Nat.le_of_ble_eq_true rfl) g_218 rfl rfl dX11_watch_42 ?_
          obtain ⟨r8, M9, h10, hf⟩ := bnd_s hf
          refine pcSi (As := [.int (M6.1 25 2)]) C hP hS (cZJ6_bitCount_0f7a4  h10) yZJ6_bitCount_0f7a4_w g_816 rfl rfl rfl ⟨Nat.le_of_ble_eq_true rfl, Nat.le_of_ble_eq_true rfl⟩ hl.1 rfl (Nat.le_of_ble_eq_true rfl) dX11_watch_45 ⟨Nat.le_of_ble_eq_true rfl, Nat.le_of_ble_eq_true rfl⟩ (fun H locs hP hS => ?_)
          refine lv_isub hx hb dX11_watch_48 ?_
          refine lv_iload_n hx hb dX11_watch_49 rfl (lv_at hl 1 rfl) ?_
          refine lv_icmp_lt (tgt := 63) hx hb dX11_watch_50 (by decide) (fun c11 => ?_) (fun c11 => ?_)
          · replace hf := ite_t c11 hf
            exact w11_watch_63 (n := n)  C hr hk q68 hf hP hS (lv_sub hl [] rfl)
          · replace hf := ite_f c11 hf
            refine lv_aload_n hx hb dX11_watch_53 rfl (lv_at hl 0 rfl) ?_
            refine pg C hP (k := 0) (j := 5) (Nat.le_of_ble_eq_true rfl) (xd_0 _ _) rfl iw_11 (Nat.le_of_ble_eq_true rfl) g_425 rfl rfl dX11_watch_54 ?_
            refine pgN C hP (k := 25) (j := 5) (Nat.le_of_ble_eq_true rfl) (xd_25 _ _) rfl iw_9 (Nat.le_of_ble_eq_true rfl) g_222 rfl rfl dX11_watch_57 ?_
            refine lv_if_ne (tgt := 66) hx hb dX11_watch_60 (by decide) (fun c12 => ?_) (fun c12 => ?_)
            · replace hf := ite_f c12 hf
              refine lv_iconst (v := (0 : Int32)) hx hb dX11_watch_66 (by decide) ?_
              refine lv_istore_n (lv' := [(3, .int (0 : Int32)), (0, .ref (b + 0)), (1, .int a1), (2, .int a2)]) hx hb dX11_watch_67 rfl hl (by decide) rfl (fun ls hl => ?_)
              exact w11_watch_68 (n := n)  C hr hk q68 hf hP hS (lv_sub hl [1, 2, 3, 0] rfl)
            · replace hf := ite_t c12 hf
              exact w11_watch_63 (n := n)  C hr hk q68 hf hP hS (lv_sub hl [] rfl)
        · replace hf := ite_f c4 hf
          exact w11_watch_20 (n := n)  C hr hk q68 hf hP hS (lv_sub hl [] rfl)
set_option maxHeartbeats 4000000 in
set_option maxRecDepth 100000 in
theorem l11_watch {p : Program} {l : Launch} {e : Env} {s : State} {m : MethodId} {args : Array Value} {below : List Frame} {meth : Method} {c : Code} {z : Zt} {b : Nat}  (C : Cx p s m args c cX11_watch 4 RX11 z 339 b) (hr : meth.sig.returnType = (some .int)) (hk : meth.locks = false) {r : Int32} {M' : Mem} (n : Nat) : (∀ (i1 : Int32) (i2 : Int32) (i3 : Int32) (M : Mem) (H : Heap) (locs : List Loc) (ls : Array Slot), (r11_watch  n) 68 [i1, i2, i3] [] M = some (r, M') → va_P z.1 vwCl (pw (xd z b) 339 b M) H → va_S (pA 339 b) s.heap H locs → lv_has ls 4 [(0, .ref (b + 0)), (1, .int i1), (2, .int i2), (3, .int i3)] → W p l e rm11_watch s m args below meth c H locs 0 0 (MQ below (va_Qi (fun (r' : Int32) (M2 : Mem) => r' = r ∧ M2 = M') (fun M2 t => va_P z.1 vwCl (pw (xd z b) 339 b M2) t.heap) (pA 339 b)) args s 0 0 (pA 339 b)) (F0 m 68 ls [])) := by
  induction n with
  | zero => exact fun _ _ _ _ _ _ _ hf => (by cases hf)
  | succ n ih => exact fun _ _ _ _ _ _ _ hf hP hS hl => w11_watch_68 (n := n)  C hr hk ih ((e11_watch_68  n _ _ _ _).symm.trans hf) hP hS hl
theorem c11_watch {l : Launch} {z : Zt} {b n : Nat}  {a1 : Int32} {a2 : Int32} {M M' : Mem} {r : Int32} (hf : f11_watch n  a1 a2 M = some (r, M')) : CI l z (xd z b) 339 b yX11_watch cX11_watch 4 (some .int) rm11_watch [.ref (b + 0), .int a1, .int a2] M M' r :=
  CI.ofW (lv := [(0, .ref (b + 0)), (1, .int a1), (2, .int a2)]) (by decide) (Nat.le_of_ble_eq_true rfl) rfl (fun p e s m args below meth c ls C hr hk hP hS hl => w11_watch_0 (n := n)  C hr hk (l11_watch  C hr hk n) hf hP hS hl)
