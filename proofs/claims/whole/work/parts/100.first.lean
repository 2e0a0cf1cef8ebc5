-- BronzeKing.placeAt(II)I
theorem dX11_placeAt_0 : decode cX11_placeAt 0 = .ok (.iload_n 0, 1) := by decide +kernel
theorem dX11_placeAt_1 : decode cX11_placeAt 1 = .ok (.ifCond .lt 23, 3) := by decide +kernel
theorem dX11_placeAt_4 : decode cX11_placeAt 4 = .ok (.iload_n 0, 1) := by decide +kernel
theorem dX11_placeAt_5 : decode cX11_placeAt 5 = .ok (.bipush 12, 2) := by decide +kernel
theorem dX11_placeAt_7 : decode cX11_placeAt 7 = .ok (.if_icmp .ge 17, 3) := by decide +kernel
theorem dX11_placeAt_10 : decode cX11_placeAt 10 = .ok (.iload_n 1, 1) := by decide +kernel
theorem dX11_placeAt_11 : decode cX11_placeAt 11 = .ok (.ifCond .lt 13, 3) := by decide +kernel
theorem dX11_placeAt_14 : decode cX11_placeAt 14 = .ok (.iload_n 1, 1) := by decide +kernel
theorem dX11_placeAt_15 : decode cX11_placeAt 15 = .ok (.bipush 8, 2) := by decide +kernel
theorem dX11_placeAt_17 : decode cX11_placeAt 17 = .ok (.if_icmp .ge 7, 3) := by decide +kernel
theorem dX11_placeAt_20 : decode cX11_placeAt 20 = .ok (.iconst 1, 1) := by decide +kernel
theorem dX11_placeAt_21 : decode cX11_placeAt 21 = .ok (.goto 4, 3) := by decide +kernel
theorem dX11_placeAt_24 : decode cX11_placeAt 24 = .ok (.iconst 0, 1) := by decide +kernel
theorem dX11_placeAt_25 : decode cX11_placeAt 25 = .ok (.istore_n 2, 1) := by decide +kernel
theorem dX11_placeAt_26 : decode cX11_placeAt 26 = .ok (.iload_n 2, 1) := by decide +kernel
theorem dX11_placeAt_27 : decode cX11_placeAt 27 = .ok (.ifCond .eq 12, 3) := by decide +kernel
theorem dX11_placeAt_30 : decode cX11_placeAt 30 = .ok (.bipush 12, 2) := by decide +kernel
theorem dX11_placeAt_32 : decode cX11_placeAt 32 = .ok (.iload_n 1, 1) := by decide +kernel
theorem dX11_placeAt_33 : decode cX11_placeAt 33 = .ok (.imul, 1) := by decide +kernel
theorem dX11_placeAt_34 : decode cX11_placeAt 34 = .ok (.iload_n 0, 1) := by decide +kernel
theorem dX11_placeAt_35 : decode cX11_placeAt 35 = .ok (.iadd, 1) := by decide +kernel
theorem dX11_placeAt_36 : decode cX11_placeAt 36 = .ok (.goto 4, 3) := by decide +kernel
theorem dX11_placeAt_39 : decode cX11_placeAt 39 = .ok (.iconst (-1), 1) := by decide +kernel
theorem dX11_placeAt_40 : decode cX11_placeAt 40 = .ok (.ireturn, 1) := by decide +kernel
def b11_placeAt_25 (rc : Nat → List Int32 → List Int64 → Mem → Option (Int32 × Mem)) (n : Nat) (i0 : Int32) (i1 : Int32) (s0 : Int32) (M : Mem) : Option (Int32 × Mem) :=
  (if s0 = 0 then (
   some ((-1 : Int32), M))
  else (
   some ((((12 : Int32) * i1) + i0), M)))
def b11_placeAt_24 (rc : Nat → List Int32 → List Int64 → Mem → Option (Int32 × Mem)) (n : Nat) (i0 : Int32) (i1 : Int32) (M : Mem) : Option (Int32 × Mem) :=
  b11_placeAt_25  rc n i0 i1 (0 : Int32) M
def b11_placeAt_0 (rc : Nat → List Int32 → List Int64 → Mem → Option (Int32 × Mem)) (n : Nat) (a0 : Int32) (a1 : Int32) (M : Mem) : Option (Int32 × Mem) :=
  (if a0 < 0 then (
   b11_placeAt_24  rc n a0 a1 M)
  else (
   (if (12 : Int32) ≤ a0 then (
    b11_placeAt_24  rc n a0 a1 M)
   else (
    (if a1 < 0 then (
     b11_placeAt_24  rc n a0 a1 M)
    else (
     (if (8 : Int32) ≤ a1 then (
      b11_placeAt_24  rc n a0 a1 M)
     else (
      b11_placeAt_25  rc n a0 a1 (1 : Int32) M))))))))
def f11_placeAt (n : Nat) (a0 : Int32) (a1 : Int32) (M : Mem) : Option (Int32 × Mem) := b11_placeAt_0 (fun _ _ _ _ => none) n a0 a1 M
abbrev rm11_placeAt : Room := { frames := 0, cells := 0, slots := 0, locals := 0 }
theorem y11_placeAt_w : yS yX11_placeAt cX11_placeAt 3 (some .int) 2 := ⟨g_465, g_1, g_466, by decide, by decide, by decide +kernel⟩
set_option maxHeartbeats 4000000 in
set_option maxRecDepth 100000 in
theorem w11_placeAt_25 {p : Program} {l : Launch} {e : Env} {s : State} {m : MethodId} {args : Array Value} {below : List Frame} {meth : Method} {c : Code} {z : Zt} {b : Nat}  (C : Cx p s m args c cX11_placeAt 3 RX11 z 339 b) (hr : meth.sig.returnType = (some .int)) (hk : meth.locks = false) {r : Int32} {M' : Mem} {rc : Nat → List Int32 → List Int64 → Mem → Option (Int32 × Mem)} {n : Nat}  {i0 : Int32} {i1 : Int32} {s0 : Int32} {M : Mem} {H : Heap} {locs : List Loc} {ls : Array Slot} (hf : b11_placeAt_25  rc n i0 i1 s0 M = some (r, M')) (hP : va_P z.1 vwCl (pw (xd z b) 339 b M) H) (hS : va_S (pA 339 b) s.heap H locs) (hl : lv_has ls 3 [(0, .int i0), (1, .int i1)]) : W p l e rm11_placeAt s m args below meth c H locs 0 0 (MQ below (va_Qi (fun (r' : Int32) (M2 : Mem) => r' = r ∧ M2 = M') (fun M2 t => va_P z.1 vwCl (pw (xd z b) 339 b M2) t.heap) (pA 339 b)) args s 0 0 (pA 339 b)) (F0 m 25 ls [.int s0]) := by
  have hx := C.1.1
  have hb := C.1.2.1
  unfold b11_placeAt_25 at hf
  refine lv_istore_n (lv' := [(2, .int s0), (0, .int i0), (1, .int i1)]) hx hb dX11_placeAt_25 rfl hl (by decide) rfl (fun ls hl => ?_)
  refine lv_iload_n hx hb dX11_placeAt_26 rfl (lv_at hl 0 rfl) ?_
  refine lv_if_eq (tgt := 39) hx hb dX11_placeAt_27 (by decide) (fun c5 => ?_) (fun c5 => ?_)
  · replace hf := ite_t c5 hf
    refine lv_iconst (v := (-1 : Int32)) hx hb dX11_placeAt_39 (by decide) ?_
    exact prI C hr hk hP hS hf dX11_placeAt_40
  · replace hf := ite_f c5 hf
    refine lv_bipush (v := (12 : Int32)) hx hb dX11_placeAt_30 (by decide) ?_
    refine lv_iload_n hx hb dX11_placeAt_32 rfl (lv_at hl 2 rfl) ?_
    refine lv_imul hx hb dX11_placeAt_33 ?_
    refine lv_iload_n hx hb dX11_placeAt_34 rfl (lv_at hl 1 rfl) ?_
    refine lv_iadd hx hb dX11_placeAt_35 ?_
    refine lv_goto (tgt := 40) hx hb dX11_placeAt_36 (by decide) ?_
    exact prI C hr hk hP hS hf dX11_placeAt_40
set_option maxHeartbeats 4000000 in
set_option maxRecDepth 100000 in
theorem w11_placeAt_24 {p : Program} {l : Launch} {e : Env} {s : State} {m : MethodId} {args : Array Value} {below : List Frame} {meth : Method} {c : Code} {z : Zt} {b : Nat}  (C : Cx p s m args c cX11_placeAt 3 RX11 z 339 b) (hr : meth.sig.returnType = (some .int)) (hk : meth.locks = false) {r : Int32} {M' : Mem} {rc : Nat → List Int32 → List Int64 → Mem → Option (Int32 × Mem)} {n : Nat}  {i0 : Int32} {i1 : Int32} {M : Mem} {H : Heap} {locs : List Loc} {ls : Array Slot} (hf : b11_placeAt_24  rc n i0 i1 M = some (r, M')) (hP : va_P z.1 vwCl (pw (xd z b) 339 b M) H) (hS : va_S (pA 339 b) s.heap H locs) (hl : lv_has ls 3 [(0, .int i0), (1, .int i1)]) : W p l e rm11_placeAt s m args below meth c H locs 0 0 (MQ below (va_Qi (fun (r' : Int32) (M2 : Mem) => r' = r ∧ M2 = M') (fun M2 t => va_P z.1 vwCl (pw (xd z b) 339 b M2) t.heap) (pA 339 b)) args s 0 0 (pA 339 b)) (F0 m 24 ls []) := by
  have hx := C.1.1
  have hb := C.1.2.1
  unfold b11_placeAt_24 at hf
  refine lv_iconst (v := (0 : Int32)) hx hb dX11_placeAt_24 (by decide) ?_
  exact w11_placeAt_25  C hr hk  hf hP hS (lv_sub hl [0, 1] rfl)
set_option maxHeartbeats 4000000 in
set_option maxRecDepth 100000 in
theorem w11_placeAt_0 {p : Program} {l : Launch} {e : Env} {s : State} {m : MethodId} {args : Array Value} {below : List Frame} {meth : Method} {c : Code} {z : Zt} {b : Nat}  (C : Cx p s m args c cX11_placeAt 3 RX11 z 339 b) (hr : meth.sig.returnType = (some .int)) (hk : meth.locks = false) {r : Int32} {M' : Mem} {rc : Nat → List Int32 → List Int64 → Mem → Option (Int32 × Mem)} {n : Nat}  {a0 : Int32} {a1 : Int32} {M : Mem} {H : Heap} {locs : List Loc} {ls : Array Slot} (hf : b11_placeAt_0  rc n a0 a1 M = some (r, M')) (hP : va_P z.1 vwCl (pw (xd z b) 339 b M) H) (hS : va_S (pA 339 b) s.heap H locs) (hl : lv_has ls 3 [(0, .int a0), (1, .int a1)]) : W p l e rm11_placeAt s m args below meth c H locs 0 0 (MQ below (va_Qi (fun (r' : Int32) (M2 : Mem) => r' = r ∧ M2 = M') (fun M2 t => va_P z.1 vwCl (pw (xd z b) 339 b M2) t.heap) (pA 339 b)) args s 0 0 (pA 339 b)) (F0 m 0 ls []) := by
  have hx := C.1.1
  have hb := C.1.2.1
  unfold b11_placeAt_0 at hf
  refine lv_iload_n hx hb dX11_placeAt_0 rfl (lv_at hl 0 rfl) ?_
  refine lv_if_lt (tgt := 24) hx hb dX11_placeAt_1 (by decide) (fun c1 => ?_) (fun c1 => ?_)
  · replace hf := ite_t c1 hf
    exact w11_placeAt_24  C hr hk  hf hP hS (lv_sub hl [0, 1] rfl)
  · replace hf := ite_f c1 hf
    refine lv_iload_n hx hb dX11_placeAt_4 rfl (lv_at hl 0 rfl) ?_
    refine lv_bipush (v := (12 : Int32)) hx hb dX11_placeAt_5 (by decide) ?_
    refine lv_icmp_ge (tgt := 24) hx hb dX11_placeAt_7 (by decide) (fun c2 => ?_) (fun c2 => ?_)
    · replace hf := ite_t c2 hf
      exact w11_placeAt_24  C hr hk  hf hP hS (lv_sub hl [0, 1] rfl)
    · replace hf := ite_f c2 hf
      refine lv_iload_n hx hb dX11_placeAt_10 rfl (lv_at hl 1 rfl) ?_
      refine lv_if_lt (tgt := 24) hx hb dX11_placeAt_11 (by decide) (fun c3 => ?_) (fun c3 => ?_)
      · replace hf := ite_t c3 hf
        exact w11_placeAt_24  C hr hk  hf hP hS (lv_sub hl [0, 1] rfl)
      · replace hf := ite_f c3 hf
        refine lv_iload_n hx hb dX11_placeAt_14 rfl (lv_at hl 1 rfl) ?_
        refine lv_bipush (v := (8 : Int32)) hx hb dX11_placeAt_15 (by decide) ?_
        refine lv_icmp_ge (tgt := 24) hx hb dX11_placeAt_17 (by decide) (fun c4 => ?_) (fun c4 => ?_)
        · replace hf := ite_t c4 hf
          exact w11_placeAt_24  C hr hk  hf hP hS (lv_sub hl [0, 1] rfl)
        · replace hf := ite_f c4 hf
          refine lv_iconst (v := (1 : Int32)) hx hb dX11_placeAt_20 (by decide) ?_
          refine lv_goto (tgt := 25) hx hb dX11_placeAt_21 (by decide) ?_
          exact w11_placeAt_25  C hr hk  hf hP hS (lv_sub hl [0, 1] rfl)
theorem c11_placeAt {l : Launch} {z : Zt} {b n : Nat}  {a0 : Int32} {a1 : Int32} {M M' : Mem} {r : Int32} (hf : f11_placeAt n  a0 a1 M = some (r, M')) : CI l z (xd z b) 339 b yX11_placeAt cX11_placeAt 3 (some .int) rm11_placeAt [.int a0, .int a1] M M' r :=
  CI.ofW (lv := [(0, .int a0), (1, .int a1)]) (by decide) (Nat.le_of_ble_eq_true rfl) rfl (fun p e s m args below meth c ls C hr hk hP hS hl => w11_placeAt_0  C hr hk  hf hP hS hl)

-- BronzeKing.beside(II)I
theorem dX11_beside_0 : decode cX11_beside 0 = .ok (.iload_n 0, 1) := by decide +kernel
theorem dX11_beside_1 : decode cX11_beside 1 = .ok (.bipush 12, 2) := by decide +kernel
theorem dX11_beside_3 : decode cX11_beside 3 = .ok (.irem, 1) := by decide +kernel
theorem dX11_beside_4 : decode cX11_beside 4 = .ok (.istore_n 2, 1) := by decide +kernel
theorem dX11_beside_5 : decode cX11_beside 5 = .ok (.iload_n 1, 1) := by decide +kernel
theorem dX11_beside_6 : decode cX11_beside 6 = .ok (.tableswitch 70 0 2 #[26, 41, 55], 26) := by decide +kernel
theorem dX11_beside_32 : decode cX11_beside 32 = .ok (.iload_n 0, 1) := by decide +kernel
theorem dX11_beside_33 : decode cX11_beside 33 = .ok (.bipush 12, 2) := by decide +kernel
theorem dX11_beside_35 : decode cX11_beside 35 = .ok (.if_icmp .lt 10, 3) := by decide +kernel
theorem dX11_beside_38 : decode cX11_beside 38 = .ok (.iload_n 0, 1) := by decide +kernel
theorem dX11_beside_39 : decode cX11_beside 39 = .ok (.bipush 12, 2) := by decide +kernel
theorem dX11_beside_41 : decode cX11_beside 41 = .ok (.isub, 1) := by decide +kernel
theorem dX11_beside_42 : decode cX11_beside 42 = .ok (.goto 4, 3) := by decide +kernel
theorem dX11_beside_45 : decode cX11_beside 45 = .ok (.iconst (-1), 1) := by decide +kernel
theorem dX11_beside_46 : decode cX11_beside 46 = .ok (.ireturn, 1) := by decide +kernel
theorem dX11_beside_47 : decode cX11_beside 47 = .ok (.iload_n 2, 1) := by decide +kernel
theorem dX11_beside_48 : decode cX11_beside 48 = .ok (.bipush 11, 2) := by decide +kernel
theorem dX11_beside_50 : decode cX11_beside 50 = .ok (.if_icmp .ge 9, 3) := by decide +kernel
theorem dX11_beside_53 : decode cX11_beside 53 = .ok (.iload_n 0, 1) := by decide +kernel
theorem dX11_beside_54 : decode cX11_beside 54 = .ok (.iconst 1, 1) := by decide +kernel
theorem dX11_beside_55 : decode cX11_beside 55 = .ok (.iadd, 1) := by decide +kernel
theorem dX11_beside_56 : decode cX11_beside 56 = .ok (.goto 4, 3) := by decide +kernel
theorem dX11_beside_59 : decode cX11_beside 59 = .ok (.iconst (-1), 1) := by decide +kernel
theorem dX11_beside_60 : decode cX11_beside 60 = .ok (.ireturn, 1) := by decide +kernel
theorem dX11_beside_61 : decode cX11_beside 61 = .ok (.iload_n 0, 1) := by decide +kernel
theorem dX11_beside_62 : decode cX11_beside 62 = .ok (.bipush 84, 2) := by decide +kernel
theorem dX11_beside_64 : decode cX11_beside 64 = .ok (.if_icmp .ge 10, 3) := by decide +kernel
theorem dX11_beside_67 : decode cX11_beside 67 = .ok (.iload_n 0, 1) := by decide +kernel
theorem dX11_beside_68 : decode cX11_beside 68 = .ok (.bipush 12, 2) := by decide +kernel
theorem dX11_beside_70 : decode cX11_beside 70 = .ok (.iadd, 1) := by decide +kernel
theorem dX11_beside_71 : decode cX11_beside 71 = .ok (.goto 4, 3) := by decide +kernel
theorem dX11_beside_74 : decode cX11_beside 74 = .ok (.iconst (-1), 1) := by decide +kernel
theorem dX11_beside_75 : decode cX11_beside 75 = .ok (.ireturn, 1) := by decide +kernel
theorem dX11_beside_76 : decode cX11_beside 76 = .ok (.iload_n 2, 1) := by decide +kernel
theorem dX11_beside_77 : decode cX11_beside 77 = .ok (.ifCond .le 9, 3) := by decide +kernel
theorem dX11_beside_80 : decode cX11_beside 80 = .ok (.iload_n 0, 1) := by decide +kernel
theorem dX11_beside_81 : decode cX11_beside 81 = .ok (.iconst 1, 1) := by decide +kernel
theorem dX11_beside_82 : decode cX11_beside 82 = .ok (.isub, 1) := by decide +kernel
theorem dX11_beside_83 : decode cX11_beside 83 = .ok (.goto 4, 3) := by decide +kernel
theorem dX11_beside_86 : decode cX11_beside 86 = .ok (.iconst (-1), 1) := by decide +kernel
theorem dX11_beside_87 : decode cX11_beside 87 = .ok (.ireturn, 1) := by decide +kernel
def b11_beside_0 (rc : Nat → List Int32 → List Int64 → Mem → Option (Int32 × Mem)) (n : Nat) (a0 : Int32) (a1 : Int32) (M : Mem) : Option (Int32 × Mem) :=
  lt (a0 - a0 / (12 : Int32) * (12 : Int32)) fun v1 =>
  (if a1 = (0 : Int32) then (
   (if a0 < (12 : Int32) then (
    some ((-1 : Int32), M))
   else (
    some ((a0 - (12 : Int32)), M))))
  else (
   (if a1 = (1 : Int32) then (
    (if (11 : Int32) ≤ v1 then (
     some ((-1 : Int32), M))
    else (
     some ((a0 + (1 : Int32)), M))))
   else (
    (if a1 = (2 : Int32) then (
     (if (84 : Int32) ≤ a0 then (
      some ((-1 : Int32), M))
     else (
      some ((a0 + (12 : Int32)), M))))
    else (
     (if v1 ≤ 0 then (
      some ((-1 : Int32), M))
     else (
      some ((a0 - (1 : Int32)), M)))))))))
def f11_beside (n : Nat) (a0 : Int32) (a1 : Int32) (M : Mem) : Option (Int32 × Mem) := b11_beside_0 (fun _ _ _ _ => none) n a0 a1 M
abbrev rm11_beside : Room := { frames := 0, cells := 0, slots := 0, locals := 0 }
theorem y11_beside_w : yS yX11_beside cX11_beside 3 (some .int) 2 := ⟨g_418, g_1, g_419, by decide, by decide, by decide +kernel⟩
set_option maxHeartbeats 4000000 in
set_option maxRecDepth 100000 in
theorem w11_beside_0 {p : Program} {l : Launch} {e : Env} {s : State} {m : MethodId} {args : Array Value} {below : List Frame} {meth : Method} {c : Code} {z : Zt} {b : Nat}  (C : Cx p s m args c cX11_beside 3 RX11 z 339 b) (hr : meth.sig.returnType = (some .int)) (hk : meth.locks = false) {r : Int32} {M' : Mem} {rc : Nat → List Int32 → List Int64 → Mem → Option (Int32 × Mem)} {n : Nat}  {a0 : Int32} {a1 : Int32} {M : Mem} {H : Heap} {locs : List Loc} {ls : Array Slot} (hf : b11_beside_0  rc n a0 a1 M = some (r, M')) (hP : va_P z.1 vwCl (pw (xd z b) 339 b M) H) (hS : va_S (pA 339 b) s.heap H locs) (hl : lv_has ls 3 [(0, .int a0), (1, .int a1)]) : W p l e rm11_beside s m args below meth c H locs 0 0 (MQ below (va_Qi (fun (r' : Int32) (M2 : Mem) => r' = r ∧ M2 = M') (fun M2 t => va_P z.1 vwCl (pw (xd z b) 339 b M2) t.heap) (pA 339 b)) args s 0 0 (pA 339 b)) (F0 m 0 ls []) := by
  have hx := C.1.1
  have hb := C.1.2.1
  unfold b11_beside_0 at hf
  refine lv_iload_n hx hb dX11_beside_0 rfl (lv_at hl 0 rfl) ?_
  refine lv_bipush (v := (12 : Int32)) hx hb dX11_beside_1 (by decide) ?_
  refine lv_irem hx hb dX11_beside_3 (by decide) ?_
  refine lv_topi (fun v1 ev1 => ?_)
  replace hf := lt_c ev1 hf
  refine lv_istore_n (lv' := [(2, .int v1), (0, .int a0), (1, .int a1)]) hx hb dX11_beside_4 rfl hl (by decide) rfl (fun ls hl => ?_)
  refine lv_iload_n hx hb dX11_beside_5 rfl (lv_at hl 2 rfl) ?_
  by_cases c2 : a1 = (0 : Int32)
  · replace hf := ite_t c2 hf
    refine lv_tableIn (off := 26) (tgt := 32) hx hb dX11_beside_6 (by rw [c2]; decide) (by rw [c2]; decide) (by rw [c2]; rfl) (by decide) ?_
    refine lv_iload_n hx hb dX11_beside_32 rfl (lv_at hl 1 rfl) ?_
    refine lv_bipush (v := (12 : Int32)) hx hb dX11_beside_33 (by decide) ?_
    refine lv_icmp_lt (tgt := 45) hx hb dX11_beside_35 (by decide) (fun c3 => ?_) (fun c3 => ?_)
    · replace hf := ite_t c3 hf
      refine lv_iconst (v := (-1 : Int32)) hx hb dX11_beside_45 (by decide) ?_
      exact prI C hr hk hP hS hf dX11_beside_46
    · replace hf := ite_f c3 hf
      refine lv_iload_n hx hb dX11_beside_38 rfl (lv_at hl 1 rfl) ?_
      refine lv_bipush (v := (12 : Int32)) hx hb dX11_beside_39 (by decide) ?_
      refine lv_isub hx hb dX11_beside_41 ?_
      refine lv_goto (tgt := 46) hx hb dX11_beside_42 (by decide) ?_
      exact prI C hr hk hP hS hf dX11_beside_46
  · replace hf := ite_f c2 hf
    by_cases c4 : a1 = (1 : Int32)
    · replace hf := ite_t c4 hf
      refine lv_tableIn (off := 41) (tgt := 47) hx hb dX11_beside_6 (by rw [c4]; decide) (by rw [c4]; decide) (by rw [c4]; rfl) (by decide) ?_
      refine lv_iload_n hx hb dX11_beside_47 rfl (lv_at hl 0 rfl) ?_
      refine lv_bipush (v := (11 : Int32)) hx hb dX11_beside_48 (by decide) ?_
      refine lv_icmp_ge (tgt := 59) hx hb dX11_beside_50 (by decide) (fun c5 => ?_) (fun c5 => ?_)
      · replace hf := ite_t c5 hf
        refine lv_iconst (v := (-1 : Int32)) hx hb dX11_beside_59 (by decide) ?_
        exact prI C hr hk hP hS hf dX11_beside_60
      · replace hf := ite_f c5 hf
        refine lv_iload_n hx hb dX11_beside_53 rfl (lv_at hl 1 rfl) ?_
        refine lv_iconst (v := (1 : Int32)) hx hb dX11_beside_54 (by decide) ?_
        refine lv_iadd hx hb dX11_beside_55 ?_
        refine lv_goto (tgt := 60) hx hb dX11_beside_56 (by decide) ?_
        exact prI C hr hk hP hS hf dX11_beside_60
    · replace hf := ite_f c4 hf
      by_cases c6 : a1 = (2 : Int32)
      · replace hf := ite_t c6 hf
        refine lv_tableIn (off := 55) (tgt := 61) hx hb dX11_beside_6 (by rw [c6]; decide) (by rw [c6]; decide) (by rw [c6]; rfl) (by decide) ?_
        refine lv_iload_n hx hb dX11_beside_61 rfl (lv_at hl 1 rfl) ?_
        refine lv_bipush (v := (84 : Int32)) hx hb dX11_beside_62 (by decide) ?_
        refine lv_icmp_ge (tgt := 74) hx hb dX11_beside_64 (by decide) (fun c7 => ?_) (fun c7 => ?_)
        · replace hf := ite_t c7 hf
          refine lv_iconst (v := (-1 : Int32)) hx hb dX11_beside_74 (by decide) ?_
          exact prI C hr hk hP hS hf dX11_beside_75
        · replace hf := ite_f c7 hf
          refine lv_iload_n hx hb dX11_beside_67 rfl (lv_at hl 1 rfl) ?_
          refine lv_bipush (v := (12 : Int32)) hx hb dX11_beside_68 (by decide) ?_
          refine lv_iadd hx hb dX11_beside_70 ?_
          refine lv_goto (tgt := 75) hx hb dX11_beside_71 (by decide) ?_
          exact prI C hr hk hP hS hf dX11_beside_75
      · replace hf := ite_f c6 hf
        refine lv_tableOut (tgt := 76) hx hb dX11_beside_6 (by have z0 : ¬ a1.toInt = 0 := tsn c2; have z1 : ¬ a1.toInt = 1 := tsn c4; have z2 : ¬ a1.toInt = 2 := tsn c6; omega) (by decide) ?_
        refine lv_iload_n hx hb dX11_beside_76 rfl (lv_at hl 0 rfl) ?_
        refine lv_if_le (tgt := 86) hx hb dX11_beside_77 (by decide) (fun c8 => ?_) (fun c8 => ?_)
        · replace hf := ite_t c8 hf
          refine lv_iconst (v := (-1 : Int32)) hx hb dX11_beside_86 (by decide) ?_
          exact prI C hr hk hP hS hf dX11_beside_87
        · replace hf := ite_f c8 hf
          refine lv_iload_n hx hb dX11_beside_80 rfl (lv_at hl 1 rfl) ?_
          refine lv_iconst (v := (1 : Int32)) hx hb dX11_beside_81 (by decide) ?_
          refine lv_isub hx hb dX11_beside_82 ?_
          refine lv_goto (tgt := 87) hx hb dX11_beside_83 (by decide) ?_
          exact prI C hr hk hP hS hf dX11_beside_87
theorem c11_beside {l : Launch} {z : Zt} {b n : Nat}  {a0 : Int32} {a1 : Int32} {M M' : Mem} {r : Int32} (hf : f11_beside n  a0 a1 M = some (r, M')) : CI l z (xd z b) 339 b yX11_beside cX11_beside 3 (some .int) rm11_beside [.int a0, .int a1] M M' r :=
  CI.ofW (lv := [(0, .int a0), (1, .int a1)]) (by decide) (Nat.le_of_ble_eq_true rfl) rfl (fun p e s m args below meth c ls C hr hk hP hS hl => w11_beside_0  C hr hk  hf hP hS hl)

-- BronzeKing.faultAt(II)I
theorem dX11_faultAt_0 : decode cX11_faultAt 0 = .ok (.sipush (-1000), 3) := by decide +kernel
theorem dX11_faultAt_3 : decode cX11_faultAt 3 = .ok (.iload_n 0, 1) := by decide +kernel
theorem dX11_faultAt_4 : decode cX11_faultAt 4 = .ok (.imul, 1) := by decide +kernel
theorem dX11_faultAt_5 : decode cX11_faultAt 5 = .ok (.iload_n 1, 1) := by decide +kernel
theorem dX11_faultAt_6 : decode cX11_faultAt 6 = .ok (.isub, 1) := by decide +kernel
theorem dX11_faultAt_7 : decode cX11_faultAt 7 = .ok (.ireturn, 1) := by decide +kernel
def b11_faultAt_0 (rc : Nat → List Int32 → List Int64 → Mem → Option (Int32 × Mem)) (n : Nat) (a0 : Int32) (a1 : Int32) (M : Mem) : Option (Int32 × Mem) :=
  some ((((-1000 : Int32) * a0) - a1), M)
def f11_faultAt (n : Nat) (a0 : Int32) (a1 : Int32) (M : Mem) : Option (Int32 × Mem) := b11_faultAt_0 (fun _ _ _ _ => none) n a0 a1 M
abbrev rm11_faultAt : Room := { frames := 0, cells := 0, slots := 0, locals := 0 }
theorem y11_faultAt_w : yS yX11_faultAt cX11_faultAt 2 (some .int) 2 := ⟨g_665, g_1, g_666, by decide, by decide, by decide +kernel⟩
set_option maxHeartbeats 4000000 in
set_option maxRecDepth 100000 in
theorem w11_faultAt_0 {p : Program} {l : Launch} {e : Env} {s : State} {m : MethodId} {args : Array Value} {below : List Frame} {meth : Method} {c : Code} {z : Zt} {b : Nat}  (C : Cx p s m args c cX11_faultAt 2 RX11 z 339 b) (hr : meth.sig.returnType = (some .int)) (hk : meth.locks = false) {r : Int32} {M' : Mem} {rc : Nat → List Int32 → List Int64 → Mem → Option (Int32 × Mem)} {n : Nat}  {a0 : Int32} {a1 : Int32} {M : Mem} {H : Heap} {locs : List Loc} {ls : Array Slot} (hf : b11_faultAt_0  rc n a0 a1 M = some (r, M')) (hP : va_P z.1 vwCl (pw (xd z b) 339 b M) H) (hS : va_S (pA 339 b) s.heap H locs) (hl : lv_has ls 2 [(0, .int a0), (1, .int a1)]) : W p l e rm11_faultAt s m args below meth c H locs 0 0 (MQ below (va_Qi (fun (r' : Int32) (M2 : Mem) => r' = r ∧ M2 = M') (fun M2 t => va_P z.1 vwCl (pw (xd z b) 339 b M2) t.heap) (pA 339 b)) args s 0 0 (pA 339 b)) (F0 m 0 ls []) := by
  have hx := C.1.1
  have hb := C.1.2.1
  unfold b11_faultAt_0 at hf
  refine lv_sipush (v := (-1000 : Int32)) hx hb dX11_faultAt_0 (by decide) ?_
  refine lv_iload_n hx hb dX11_faultAt_3 rfl (lv_at hl 0 rfl) ?_
  refine lv_imul hx hb dX11_faultAt_4 ?_
  refine lv_iload_n hx hb dX11_faultAt_5 rfl (lv_at hl 1 rfl) ?_
  refine lv_isub hx hb dX11_faultAt_6 ?_
  exact prI C hr hk hP hS hf dX11_faultAt_7
theorem c11_faultAt {l : Launch} {z : Zt} {b n : Nat}  {a0 : Int32} {a1 : Int32} {M M' : Mem} {r : Int32} (hf : f11_faultAt n  a0 a1 M = some (r, M')) : CI l z (xd z b) 339 b yX11_faultAt cX11_faultAt 2 (some .int) rm11_faultAt [.int a0, .int a1] M M' r :=
  CI.ofW (lv := [(0, .int a0), (1, .int a1)]) (by decide) (Nat.le_of_ble_eq_true rfl) rfl (fun p e s m args below meth c ls C hr hk hP hS hl => w11_faultAt_0  C hr hk  hf hP hS hl)

-- BronzeKing.isDigit(I)Z
theorem dX11_isDigit_0 : decode cX11_isDigit 0 = .ok (.iload_n 0, 1) := by decide +kernel
theorem dX11_isDigit_1 : decode cX11_isDigit 1 = .ok (.bipush 48, 2) := by decide +kernel
theorem dX11_isDigit_3 : decode cX11_isDigit 3 = .ok (.if_icmp .lt 13, 3) := by decide +kernel
theorem dX11_isDigit_6 : decode cX11_isDigit 6 = .ok (.iload_n 0, 1) := by decide +kernel
theorem dX11_isDigit_7 : decode cX11_isDigit 7 = .ok (.bipush 57, 2) := by decide +kernel
theorem dX11_isDigit_9 : decode cX11_isDigit 9 = .ok (.if_icmp .gt 7, 3) := by decide +kernel
theorem dX11_isDigit_12 : decode cX11_isDigit 12 = .ok (.iconst 1, 1) := by decide +kernel
theorem dX11_isDigit_13 : decode cX11_isDigit 13 = .ok (.goto 4, 3) := by decide +kernel
theorem dX11_isDigit_16 : decode cX11_isDigit 16 = .ok (.iconst 0, 1) := by decide +kernel
theorem dX11_isDigit_17 : decode cX11_isDigit 17 = .ok (.ireturn, 1) := by decide +kernel
def b11_isDigit_16 (rc : Nat → List Int32 → List Int64 → Mem → Option (Int32 × Mem)) (n : Nat) (M : Mem) : Option (Int32 × Mem) :=
  some ((0 : Int32), M)
def b11_isDigit_0 (rc : Nat → List Int32 → List Int64 → Mem → Option (Int32 × Mem)) (n : Nat) (a0 : Int32) (M : Mem) : Option (Int32 × Mem) :=
  (if a0 < (48 : Int32) then (
   b11_isDigit_16  rc n  M)
  else (
   (if (57 : Int32) < a0 then (
    b11_isDigit_16  rc n  M)
   else (
    some ((1 : Int32), M)))))
def f11_isDigit (n : Nat) (a0 : Int32) (M : Mem) : Option (Int32 × Mem) := b11_isDigit_0 (fun _ _ _ _ => none) n a0 M
abbrev rm11_isDigit : Room := { frames := 0, cells := 0, slots := 0, locals := 0 }
theorem y11_isDigit_w : yS yX11_isDigit cX11_isDigit 1 (some .boolean) 1 := ⟨g_504, g_1, g_505, by decide, by decide, by decide +kernel⟩
set_option maxHeartbeats 4000000 in
set_option maxRecDepth 100000 in
theorem w11_isDigit_16 {p : Program} {l : Launch} {e : Env} {s : State} {m : MethodId} {args : Array Value} {below : List Frame} {meth : Method} {c : Code} {z : Zt} {b : Nat}  (C : Cx p s m args c cX11_isDigit 1 RX11 z 339 b) (hr : meth.sig.returnType = (some .boolean)) (hk : meth.locks = false) {r : Int32} {M' : Mem} {rc : Nat → List Int32 → List Int64 → Mem → Option (Int32 × Mem)} {n : Nat}   {M : Mem} {H : Heap} {locs : List Loc} {ls : Array Slot} (hf : b11_isDigit_16  rc n  M = some (r, M')) (hP : va_P z.1 vwCl (pw (xd z b) 339 b M) H) (hS : va_S (pA 339 b) s.heap H locs) (hl : lv_has ls 1 []) : W p l e rm11_isDigit s m args below meth c H locs 0 0 (MQ below (va_Qi (fun (r' : Int32) (M2 : Mem) => r' = r ∧ M2 = M') (fun M2 t => va_P z.1 vwCl (pw (xd z b) 339 b M2) t.heap) (pA 339 b)) args s 0 0 (pA 339 b)) (F0 m 16 ls []) := by
  have hx := C.1.1
  have hb := C.1.2.1
  unfold b11_isDigit_16 at hf
  refine lv_iconst (v := (0 : Int32)) hx hb dX11_isDigit_16 (by decide) ?_
  exact prZ C hr hk hP hS hf rfl dX11_isDigit_17
set_option maxHeartbeats 4000000 in
set_option maxRecDepth 100000 in
theorem w11_isDigit_0 {p : Program} {l : Launch} {e : Env} {s : State} {m : MethodId} {args : Array Value} {below : List Frame} {meth : Method} {c : Code} {z : Zt} {b : Nat}  (C : Cx p s m args c cX11_isDigit 1 RX11 z 339 b) (hr : meth.sig.returnType = (some .boolean)) (hk : meth.locks = false) {r : Int32} {M' : Mem} {rc : Nat → List Int32 → List Int64 → Mem → Option (Int32 × Mem)} {n : Nat}  {a0 : Int32} {M : Mem} {H : Heap} {locs : List Loc} {ls : Array Slot} (hf : b11_isDigit_0  rc n a0 M = some (r, M')) (hP : va_P z.1 vwCl (pw (xd z b) 339 b M) H) (hS : va_S (pA 339 b) s.heap H locs) (hl : lv_has ls 1 [(0, .int a0)]) : W p l e rm11_isDigit s m args below meth c H locs 0 0 (MQ below (va_Qi (fun (r' : Int32) (M2 : Mem) => r' = r ∧ M2 = M') (fun M2 t => va_P z.1 vwCl (pw (xd z b) 339 b M2) t.heap) (pA 339 b)) args s 0 0 (pA 339 b)) (F0 m 0 ls []) := by
  have hx := C.1.1
  have hb := C.1.2.1
  unfold b11_isDigit_0 at hf
  refine lv_iload_n hx hb dX11_isDigit_0 rfl (lv_at hl 0 rfl) ?_
  refine lv_bipush (v := (48 : Int32)) hx hb dX11_isDigit_1 (by decide) ?_
  refine lv_icmp_lt (tgt := 16) hx hb dX11_isDigit_3 (by decide) (fun c1 => ?_) (fun c1 => ?_)
  · replace hf := ite_t c1 hf
    exact w11_isDigit_16  C hr hk  hf hP hS (lv_sub hl [] rfl)
  · replace hf := ite_f c1 hf
    refine lv_iload_n hx hb dX11_isDigit_6 rfl (lv_at hl 0 rfl) ?_
    refine lv_bipush (v := (57 : Int32)) hx hb dX11_isDigit_7 (by decide) ?_
    refine lv_icmp_gt (tgt := 16) hx hb dX11_isDigit_9 (by decide) (fun c2 => ?_) (fun c2 => ?_)
    · replace hf := ite_t c2 hf
      exact w11_isDigit_16  C hr hk  hf hP hS (lv_sub hl [] rfl)
    · replace hf := ite_f c2 hf
      refine lv_iconst (v := (1 : Int32)) hx hb dX11_isDigit_12 (by decide) ?_
      refine lv_goto (tgt := 17) hx hb dX11_isDigit_13 (by decide) ?_
      exact prZ C hr hk hP hS hf rfl dX11_isDigit_17
theorem c11_isDigit {l : Launch} {z : Zt} {b n : Nat}  {a0 : Int32} {M M' : Mem} {r : Int32} (hf : f11_isDigit n  a0 M = some (r, M')) : CI l z (xd z b) 339 b yX11_isDigit cX11_isDigit 1 (some .boolean) rm11_isDigit [.int a0] M M' r :=
  CI.ofW (lv := [(0, .int a0)]) (by decide) (Nat.le_of_ble_eq_true rfl) rfl (fun p e s m args below meth c ls C hr hk hP hS hl => w11_isDigit_0  C hr hk  hf hP hS hl)

-- BronzeKing$Town.kindOf(I)I
theorem dX8_kindOf_0 : decode cX8_kindOf 0 = .ok (.iload_n 1, 1) := by decide +kernel
theorem dX8_kindOf_1 : decode cX8_kindOf 1 = .ok (.ifCond .lt 9, 3) := by decide +kernel
theorem dX8_kindOf_4 : decode cX8_kindOf 4 = .ok (.iload_n 1, 1) := by decide +kernel
theorem dX8_kindOf_5 : decode cX8_kindOf 5 = .ok (.bipush 96, 2) := by decide +kernel
theorem dX8_kindOf_7 : decode cX8_kindOf 7 = .ok (.if_icmp .lt 5, 3) := by decide +kernel
theorem dX8_kindOf_10 : decode cX8_kindOf 10 = .ok (.iconst 0, 1) := by decide +kernel
theorem dX8_kindOf_11 : decode cX8_kindOf 11 = .ok (.ireturn, 1) := by decide +kernel
theorem dX8_kindOf_12 : decode cX8_kindOf 12 = .ok (.iload_n 1, 1) := by decide +kernel
theorem dX8_kindOf_13 : decode cX8_kindOf 13 = .ok (.aload_n 0, 1) := by decide +kernel
theorem dX8_kindOf_14 : decode cX8_kindOf 14 = .ok (.getfield 37, 3) := by decide +kernel
theorem dX8_kindOf_17 : decode cX8_kindOf 17 = .ok (.if_icmp .ne 7, 3) := by decide +kernel
theorem dX8_kindOf_20 : decode cX8_kindOf 20 = .ok (.iconst 2, 1) := by decide +kernel
theorem dX8_kindOf_21 : decode cX8_kindOf 21 = .ok (.goto 9, 3) := by decide +kernel
theorem dX8_kindOf_24 : decode cX8_kindOf 24 = .ok (.aload_n 0, 1) := by decide +kernel
theorem dX8_kindOf_25 : decode cX8_kindOf 25 = .ok (.getfield 9, 3) := by decide +kernel
theorem dX8_kindOf_28 : decode cX8_kindOf 28 = .ok (.iload_n 1, 1) := by decide +kernel
theorem dX8_kindOf_29 : decode cX8_kindOf 29 = .ok (.iaload, 1) := by decide +kernel
theorem dX8_kindOf_30 : decode cX8_kindOf 30 = .ok (.ireturn, 1) := by decide +kernel
def b8_kindOf_10 (rc : Nat → List Int32 → List Int64 → Mem → Option (Int32 × Mem)) (n : Nat) (M : Mem) : Option (Int32 × Mem) :=
  some ((0 : Int32), M)
def b8_kindOf_0 (rc : Nat → List Int32 → List Int64 → Mem → Option (Int32 × Mem)) (n : Nat) (a1 : Int32) (M : Mem) : Option (Int32 × Mem) :=
  (if a1 < 0 then (
   b8_kindOf_10  rc n  M)
  else (
   (if a1 < (96 : Int32) then (
    (if a1 = (M.1 3 7) then (
     some ((2 : Int32), M))
    else (
     chk (inb a1 96) <|
     some ((M.1 4 a1.toNatClampNeg), M))))
   else (
    b8_kindOf_10  rc n  M))))
def f8_kindOf (n : Nat) (a1 : Int32) (M : Mem) : Option (Int32 × Mem) := b8_kindOf_0 (fun _ _ _ _ => none) n a1 M
abbrev rm8_kindOf : Room := { frames := 0, cells := 0, slots := 0, locals := 0 }
theorem y8_kindOf_w : yV RX8 yX8_kindOf cX8_kindOf 2 (some .int) 1 := ⟨g_406, g_407, g_3, g_408, rfl, by decide, by decide, by decide +kernel⟩
set_option maxHeartbeats 4000000 in
set_option maxRecDepth 100000 in
theorem w8_kindOf_10 {p : Program} {l : Launch} {e : Env} {s : State} {m : MethodId} {args : Array Value} {below : List Frame} {meth : Method} {c : Code} {z : Zt} {b : Nat}  (C : Cx p s m args c cX8_kindOf 2 RX8 z 339 b) (hr : meth.sig.returnType = (some .int)) (hk : meth.locks = false) {r : Int32} {M' : Mem} {rc : Nat → List Int32 → List Int64 → Mem → Option (Int32 × Mem)} {n : Nat}   {M : Mem} {H : Heap} {locs : List Loc} {ls : Array Slot} (hf : b8_kindOf_10  rc n  M = some (r, M')) (hP : va_P z.1 vwCl (pw (xd z b) 339 b M) H) (hS : va_S (pA 339 b) s.heap H locs) (hl : lv_has ls 2 []) : W p l e rm8_kindOf s m args below meth c H locs 0 0 (MQ below (va_Qi (fun (r' : Int32) (M2 : Mem) => r' = r ∧ M2 = M') (fun M2 t => va_P z.1 vwCl (pw (xd z b) 339 b M2) t.heap) (pA 339 b)) args s 0 0 (pA 339 b)) (F0 m 10 ls []) := by
  have hx := C.1.1
  have hb := C.1.2.1
  unfold b8_kindOf_10 at hf
  refine lv_iconst (v := (0 : Int32)) hx hb dX8_kindOf_10 (by decide) ?_
  exact prI C hr hk hP hS hf dX8_kindOf_11
set_option maxHeartbeats 4000000 in
set_option maxRecDepth 100000 in
theorem w8_kindOf_0 {p : Program} {l : Launch} {e : Env} {s : State} {m : MethodId} {args : Array Value} {below : List Frame} {meth : Method} {c : Code} {z : Zt} {b : Nat}  (C : Cx p s m args c cX8_kindOf 2 RX8 z 339 b) (hr : meth.sig.returnType = (some .int)) (hk : meth.locks = false) {r : Int32} {M' : Mem} {rc : Nat → List Int32 → List Int64 → Mem → Option (Int32 × Mem)} {n : Nat}  {a1 : Int32} {M : Mem} {H : Heap} {locs : List Loc} {ls : Array Slot} (hf : b8_kindOf_0  rc n a1 M = some (r, M')) (hP : va_P z.1 vwCl (pw (xd z b) 339 b M) H) (hS : va_S (pA 339 b) s.heap H locs) (hl : lv_has ls 2 [(0, .ref (b + 3)), (1, .int a1)]) : W p l e rm8_kindOf s m args below meth c H locs 0 0 (MQ below (va_Qi (fun (r' : Int32) (M2 : Mem) => r' = r ∧ M2 = M') (fun M2 t => va_P z.1 vwCl (pw (xd z b) 339 b M2) t.heap) (pA 339 b)) args s 0 0 (pA 339 b)) (F0 m 0 ls []) := by
  have hx := C.1.1
  have hb := C.1.2.1
  unfold b8_kindOf_0 at hf
  refine lv_iload_n hx hb dX8_kindOf_0 rfl (lv_at hl 1 rfl) ?_
  refine lv_if_lt (tgt := 10) hx hb dX8_kindOf_1 (by decide) (fun c1 => ?_) (fun c1 => ?_)
  · replace hf := ite_t c1 hf
    exact w8_kindOf_10  C hr hk  hf hP hS (lv_sub hl [] rfl)
  · replace hf := ite_f c1 hf
    refine lv_iload_n hx hb dX8_kindOf_4 rfl (lv_at hl 1 rfl) ?_
    refine lv_bipush (v := (96 : Int32)) hx hb dX8_kindOf_5 (by decide) ?_
    refine lv_icmp_lt (tgt := 12) hx hb dX8_kindOf_7 (by decide) (fun c2 => ?_) (fun c2 => ?_)
    · replace hf := ite_t c2 hf
      refine lv_iload_n hx hb dX8_kindOf_12 rfl (lv_at hl 1 rfl) ?_
      refine lv_aload_n hx hb dX8_kindOf_13 rfl (lv_at hl 0 rfl) ?_
      refine pg C hP (k := 3) (j := 7) (Nat.le_of_ble_eq_true rfl) (xd_3 _ _) rfl iw_8 (Nat.le_of_ble_eq_true rfl) g_88 rfl rfl dX8_kindOf_14 ?_
      refine lv_icmp_ne (tgt := 24) hx hb dX8_kindOf_17 (by decide) (fun c3 => ?_) (fun c3 => ?_)
      · replace hf := ite_f c3 hf
        refine lv_aload_n hx hb dX8_kindOf_24 rfl (lv_at hl 0 rfl) ?_
        refine pg C hP (k := 3) (j := 0) (Nat.le_of_ble_eq_true rfl) (xd_3 _ _) rfl iw_8 (Nat.le_of_ble_eq_true rfl) g_70 rfl rfl dX8_kindOf_25 ?_
        refine lv_iload_n hx hb dX8_kindOf_28 rfl (lv_at hl 1 rfl) ?_
        have h4 := chk_1 hf
        replace hf := chk_2 hf
        refine paI C hP (k := 4) (Nat.le_of_ble_eq_true rfl) (xd_4 _ _) h4 dX8_kindOf_29 ?_
        exact prI C hr hk hP hS hf dX8_kindOf_30
      · replace hf := ite_t c3 hf
        refine lv_iconst (v := (2 : Int32)) hx hb dX8_kindOf_20 (by decide) ?_
        refine lv_goto (tgt := 30) hx hb dX8_kindOf_21 (by decide) ?_
        exact prI C hr hk hP hS hf dX8_kindOf_30
    · replace hf := ite_f c2 hf
      exact w8_kindOf_10  C hr hk  hf hP hS (lv_sub hl [] rfl)
theorem c8_kindOf {l : Launch} {z : Zt} {b n : Nat}  {a1 : Int32} {M M' : Mem} {r : Int32} (hf : f8_kindOf n  a1 M = some (r, M')) : CI l z (xd z b) 339 b yX8_kindOf cX8_kindOf 2 (some .int) rm8_kindOf [.ref (b + 3), .int a1] M M' r :=
  CI.ofW (lv := [(0, .ref (b + 3)), (1, .int a1)]) (by decide) (Nat.le_of_ble_eq_true rfl) rfl (fun p e s m args below meth c ls C hr hk hP hS hl => w8_kindOf_0  C hr hk  hf hP hS hl)

-- BronzeKing$Town.isOpen(I)Z
theorem dX8_isOpen_0 : decode cX8_isOpen 0 = .ok (.aload_n 0, 1) := by decide +kernel
theorem dX8_isOpen_1 : decode cX8_isOpen 1 = .ok (.iload_n 1, 1) := by decide +kernel
theorem dX8_isOpen_2 : decode cX8_isOpen 2 = .ok (.invokevirtual 68, 3) := by decide +kernel
theorem dX8_isOpen_5 : decode cX8_isOpen 5 = .ok (.iconst 2, 1) := by decide +kernel
theorem dX8_isOpen_6 : decode cX8_isOpen 6 = .ok (.if_icmp .ne 7, 3) := by decide +kernel
theorem dX8_isOpen_9 : decode cX8_isOpen 9 = .ok (.iconst 1, 1) := by decide +kernel
theorem dX8_isOpen_10 : decode cX8_isOpen 10 = .ok (.goto 4, 3) := by decide +kernel
theorem dX8_isOpen_13 : decode cX8_isOpen 13 = .ok (.iconst 0, 1) := by decide +kernel
theorem dX8_isOpen_14 : decode cX8_isOpen 14 = .ok (.ireturn, 1) := by decide +kernel
def b8_isOpen_0 (rc : Nat → List Int32 → List Int64 → Mem → Option (Int32 × Mem)) (n : Nat) (a1 : Int32) (M : Mem) : Option (Int32 × Mem) :=
  bnd (f8_kindOf n a1 M) fun r1 M2 =>
  (if r1 = (2 : Int32) then (
   some ((1 : Int32), M2))
  else (
   some ((0 : Int32), M2)))
def f8_isOpen (n : Nat) (a1 : Int32) (M : Mem) : Option (Int32 × Mem) := b8_isOpen_0 (fun _ _ _ _ => none) n a1 M
abbrev rm8_isOpen : Room := { frames := 1, cells := 0, slots := 0, locals := 21 }
theorem y8_isOpen_w : yV RX8 yX8_isOpen cX8_isOpen 2 (some .boolean) 1 := ⟨g_402, g_403, g_3, g_404, rfl, by decide, by decide, by decide +kernel⟩
set_option maxHeartbeats 4000000 in
set_option maxRecDepth 100000 in
theorem w8_isOpen_0 {p : Program} {l : Launch} {e : Env} {s : State} {m : MethodId} {args : Array Value} {below : List Frame} {meth : Method} {c : Code} {z : Zt} {b : Nat}  (C : Cx p s m args c cX8_isOpen 2 RX8 z 339 b) (hr : meth.sig.returnType = (some .boolean)) (hk : meth.locks = false) {r : Int32} {M' : Mem} {rc : Nat → List Int32 → List Int64 → Mem → Option (Int32 × Mem)} {n : Nat}  {a1 : Int32} {M : Mem} {H : Heap} {locs : List Loc} {ls : Array Slot} (hf : b8_isOpen_0  rc n a1 M = some (r, M')) (hP : va_P z.1 vwCl (pw (xd z b) 339 b M) H) (hS : va_S (pA 339 b) s.heap H locs) (hl : lv_has ls 2 [(0, .ref (b + 3)), (1, .int a1)]) : W p l e rm8_isOpen s m args below meth c H locs 0 0 (MQ below (va_Qi (fun (r' : Int32) (M2 : Mem) => r' = r ∧ M2 = M') (fun M2 t => va_P z.1 vwCl (pw (xd z b) 339 b M2) t.heap) (pA 339 b)) args s 0 0 (pA 339 b)) (F0 m 0 ls []) := by
  have hx := C.1.1
  have hb := C.1.2.1
  unfold b8_isOpen_0 at hf
  refine lv_aload_n hx hb dX8_isOpen_0 rfl (lv_at hl 0 rfl) ?_
  refine lv_iload_n hx hb dX8_isOpen_1 rfl (lv_at hl 1 rfl) ?_
  obtain ⟨r1, M2, h3, hf⟩ := bnd_s hf
  refine pcVi (As := [.int a1]) C hP hS (k := 3) (Nat.le_of_ble_eq_true rfl) (xd_3 _ _) rfl (c8_kindOf  h3) y8_kindOf_w g_405 rfl rfl rfl ⟨Nat.le_of_ble_eq_true rfl, Nat.le_of_ble_eq_true rfl⟩ hl.1 rfl (Nat.le_of_ble_eq_true rfl) dX8_isOpen_2 ⟨Nat.le_of_ble_eq_true rfl, Nat.le_of_ble_eq_true rfl⟩ (fun H locs hP hS => ?_)
  refine lv_iconst (v := (2 : Int32)) hx hb dX8_isOpen_5 (by decide) ?_
  refine lv_icmp_ne (tgt := 13) hx hb dX8_isOpen_6 (by decide) (fun c4 => ?_) (fun c4 => ?_)
  · replace hf := ite_f c4 hf
    refine lv_iconst (v := (0 : Int32)) hx hb dX8_isOpen_13 (by decide) ?_
    exact prZ C hr hk hP hS hf rfl dX8_isOpen_14
  · replace hf := ite_t c4 hf
    refine lv_iconst (v := (1 : Int32)) hx hb dX8_isOpen_9 (by decide) ?_
    refine lv_goto (tgt := 14) hx hb dX8_isOpen_10 (by decide) ?_
    exact prZ C hr hk hP hS hf rfl dX8_isOpen_14
theorem c8_isOpen {l : Launch} {z : Zt} {b n : Nat}  {a1 : Int32} {M M' : Mem} {r : Int32} (hf : f8_isOpen n  a1 M = some (r, M')) : CI l z (xd z b) 339 b yX8_isOpen cX8_isOpen 2 (some .boolean) rm8_isOpen [.ref (b + 3), .int a1] M M' r :=
  CI.ofW (lv := [(0, .ref (b + 3)), (1, .int a1)]) (by decide) (Nat.le_of_ble_eq_true rfl) rfl (fun p e s m args below meth c ls C hr hk hP hS hl => w8_isOpen_0  C hr hk  hf hP hS hl)

-- BronzeKing$Town.openBeside(I)I
theorem dX8_openBeside_0 : decode cX8_openBeside 0 = .ok (.iconst 0, 1) := by decide +kernel
theorem dX8_openBeside_1 : decode cX8_openBeside 1 = .ok (.istore_n 2, 1) := by decide +kernel
theorem dX8_openBeside_2 : decode cX8_openBeside 2 = .ok (.iconst 0, 1) := by decide +kernel
theorem dX8_openBeside_3 : decode cX8_openBeside 3 = .ok (.istore_n 3, 1) := by decide +kernel
theorem dX8_openBeside_4 : decode cX8_openBeside 4 = .ok (.iload_n 3, 1) := by decide +kernel
theorem dX8_openBeside_5 : decode cX8_openBeside 5 = .ok (.iconst 4, 1) := by decide +kernel
theorem dX8_openBeside_6 : decode cX8_openBeside 6 = .ok (.if_icmp .ge 24, 3) := by decide +kernel
theorem dX8_openBeside_9 : decode cX8_openBeside 9 = .ok (.aload_n 0, 1) := by decide +kernel
theorem dX8_openBeside_10 : decode cX8_openBeside 10 = .ok (.iload_n 1, 1) := by decide +kernel
theorem dX8_openBeside_11 : decode cX8_openBeside 11 = .ok (.iload_n 3, 1) := by decide +kernel
theorem dX8_openBeside_12 : decode cX8_openBeside 12 = .ok (.invokestatic 72, 3) := by decide +kernel
theorem dX8_openBeside_15 : decode cX8_openBeside 15 = .ok (.invokevirtual 56, 3) := by decide +kernel
theorem dX8_openBeside_18 : decode cX8_openBeside 18 = .ok (.ifCond .eq 6, 3) := by decide +kernel
theorem dX8_openBeside_21 : decode cX8_openBeside 21 = .ok (.iinc 2 1, 3) := by decide +kernel
theorem dX8_openBeside_24 : decode cX8_openBeside 24 = .ok (.iinc 3 1, 3) := by decide +kernel
theorem dX8_openBeside_27 : decode cX8_openBeside 27 = .ok (.goto (-23), 3) := by decide +kernel
theorem dX8_openBeside_30 : decode cX8_openBeside 30 = .ok (.iload_n 2, 1) := by decide +kernel
theorem dX8_openBeside_31 : decode cX8_openBeside 31 = .ok (.ireturn, 1) := by decide +kernel
def b8_openBeside_24 (rc : Nat → List Int32 → List Int64 → Mem → Option (Int32 × Mem)) (n : Nat) (i1 : Int32) (i2 : Int32) (i3 : Int32) (M : Mem) : Option (Int32 × Mem) :=
  lt (i3 + (1 : Int32)) fun v10 =>
  rc 4 [i1, i2, v10] [] M
def b8_openBeside_4 (rc : Nat → List Int32 → List Int64 → Mem → Option (Int32 × Mem)) (n : Nat) (i1 : Int32) (i2 : Int32) (i3 : Int32) (M : Mem) : Option (Int32 × Mem) :=
  (if (4 : Int32) ≤ i3 then (
   some (i2, M))
  else (
   bnd (f11_beside n i1 i3 M) fun r2 M3 =>
   bnd (f8_isOpen n r2 M3) fun r5 M6 =>
   (if r5 = 0 then (
    b8_openBeside_24  rc n i1 i2 i3 M6)
   else (
    lt (i2 + (1 : Int32)) fun v9 =>
    b8_openBeside_24  rc n i1 v9 i3 M6))))
def b8_openBeside_0 (rc : Nat → List Int32 → List Int64 → Mem → Option (Int32 × Mem)) (n : Nat) (a1 : Int32) (M : Mem) : Option (Int32 × Mem) :=
  b8_openBeside_4  rc n a1 (0 : Int32) (0 : Int32) M
def r8_openBeside : Nat → Nat → List Int32 → List Int64 → Mem → Option (Int32 × Mem)
  | 0 => fun _ _ _ _ => none
  | n + 1 => fun pc li lj M =>
    if pc = 4 then (match li, lj with | [i1, i2, i3], [] => b8_openBeside_4  (r8_openBeside  n) n i1 i2 i3 M | _, _ => none) else
    none
def f8_openBeside (n : Nat) (a1 : Int32) (M : Mem) : Option (Int32 × Mem) := b8_openBeside_0 (r8_openBeside n) n a1 M
abbrev rm8_openBeside : Room := { frames := 2, cells := 0, slots := 0, locals := 42 }
theorem y8_openBeside_w : yV RX8 yX8_openBeside cX8_openBeside 4 (some .int) 1 := ⟨g_823, g_824, g_3, g_825, rfl, by decide, by decide, by decide +kernel⟩
set_option maxHeartbeats 4000000 in
set_option maxRecDepth 100000 in
theorem w8_openBeside_24 {p : Program} {l : Launch} {e : Env} {s : State} {m : MethodId} {args : Array Value} {below : List Frame} {meth : Method} {c : Code} {z : Zt} {b : Nat}  (C : Cx p s m args c cX8_openBeside 4 RX8 z 339 b) (hr : meth.sig.returnType = (some .int)) (hk : meth.locks = false) {r : Int32} {M' : Mem} {rc : Nat → List Int32 → List Int64 → Mem → Option (Int32 × Mem)} {n : Nat} (q4 : ∀ (i1 : Int32) (i2 : Int32) (i3 : Int32) (M : Mem) (H : Heap) (locs : List Loc) (ls : Array Slot), rc 4 [i1, i2, i3] [] M = some (r, M') → va_P z.1 vwCl (pw (xd z b) 339 b M) H → va_S (pA 339 b) s.heap H locs → lv_has ls 4 [(0, .ref (b + 3)), (1, .int i1), (2, .int i2), (3, .int i3)] → W p l e rm8_openBeside s m args below meth c H locs 0 0 (MQ below (va_Qi (fun (r' : Int32) (M2 : Mem) => r' = r ∧ M2 = M') (fun M2 t => va_P z.1 vwCl (pw (xd z b) 339 b M2) t.heap) (pA 339 b)) args s 0 0 (pA 339 b)) (F0 m 4 ls [])) {i1 : Int32} {i2 : Int32} {i3 : Int32} {M : Mem} {H : Heap} {locs : List Loc} {ls : Array Slot} (hf : b8_openBeside_24  rc n i1 i2 i3 M = some (r, M')) (hP : va_P z.1 vwCl (pw (xd z b) 339 b M) H) (hS : va_S (pA 339 b) s.heap H locs) (hl : lv_has ls 4 [(0, .ref (b + 3)), (1, .int i1), (2, .int i2), (3, .int i3)]) : W p l e rm8_openBeside s m args below meth c H locs 0 0 (MQ below (va_Qi (fun (r' : Int32) (M2 : Mem) => r' = r ∧ M2 = M') (fun M2 t => va_P z.1 vwCl (pw (xd z b) 339 b M2) t.heap) (pA 339 b)) args s 0 0 (pA 339 b)) (F0 m 24 ls []) := by
  have hx := C.1.1
  have hb := C.1.2.1
  unfold b8_openBeside_24 at hf
  obtain ⟨v10, ev10⟩ : ∃ v : Int32, v = i3 + (1 : Int32) := ⟨_, rfl⟩
  replace hf := lt_c ev10 hf
  refine lv_iinc (v := v10) (lv' := [(3, .int v10), (0, .ref (b + 3)), (1, .int i1), (2, .int i2)]) hx hb dX8_openBeside_24 hl (k := 3) rfl (by rw [ev10]; rfl) (by decide) rfl (fun ls hl => ?_)
  refine lv_goto (tgt := 4) hx hb dX8_openBeside_27 (by decide) ?_
  exact q4 i1 i2 v10 M _ _ _ hf hP hS (lv_sub hl [1, 2, 3, 0] rfl)
set_option maxHeartbeats 4000000 in
set_option maxRecDepth 100000 in
theorem w8_openBeside_4 {p : Program} {l : Launch} {e : Env} {s : State} {m : MethodId} {args : Array Value} {below : List Frame} {meth : Method} {c : Code} {z : Zt} {b : Nat}  (C : Cx p s m args c cX8_openBeside 4 RX8 z 339 b) (hr : meth.sig.returnType = (some .int)) (hk : meth.locks = false) {r : Int32} {M' : Mem} {rc : Nat → List Int32 → List Int64 → Mem → Option (Int32 × Mem)} {n : Nat} (q4 : ∀ (i1 : Int32) (i2 : Int32) (i3 : Int32) (M : Mem) (H : Heap) (locs : List Loc) (ls : Array Slot), rc 4 [i1, i2, i3] [] M = some (r, M') → va_P z.1 vwCl (pw (xd z b) 339 b M) H → va_S (pA 339 b) s.heap H locs → lv_has ls 4 [(0, .ref (b + 3)), (1, .int i1), (2, .int i2), (3, .int i3)] → W p l e rm8_openBeside s m args below meth c H locs 0 0 (MQ below (va_Qi (fun (r' : Int32) (M2 : Mem) => r' = r ∧ M2 = M') (fun M2 t => va_P z.1 vwCl (pw (xd z b) 339 b M2) t.heap) (pA 339 b)) args s 0 0 (pA 339 b)) (F0 m 4 ls [])) {i1 : Int32} {i2 : Int32} {i3 : Int32} {M : Mem} {H : Heap} {locs : List Loc} {ls : Array Slot} (hf : b8_openBeside_4  rc n i1 i2 i3 M = some (r, M')) (hP : va_P z.1 vwCl (pw (xd z b) 339 b M) H) (hS : va_S (pA 339 b) s.heap H locs) (hl : lv_has ls 4 [(0, .ref (b + 3)), (1, .int i1), (2, .int i2), (3, .int i3)]) : W p l e rm8_openBeside s m args below meth c H locs 0 0 (MQ below (va_Qi (fun (r' : Int32) (M2 : Mem) => r' = r ∧ M2 = M') (fun M2 t => va_P z.1 vwCl (pw (xd z b) 339 b M2) t.heap) (pA 339 b)) args s 0 0 (pA 339 b)) (F0 m 4 ls []) := by
  have hx := C.1.1
  have hb := C.1.2.1
  unfold b8_openBeside_4 at hf
  refine lv_iload_n hx hb dX8_openBeside_4 rfl (lv_at hl 3 rfl) ?_
  refine lv_iconst (v := (4 : Int32)) hx hb dX8_openBeside_5 (by decide) ?_
  refine lv_icmp_ge (tgt := 30) hx hb dX8_openBeside_6 (by decide) (fun c1 => ?_) (fun c1 => ?_)
  · replace hf := ite_t c1 hf
    refine lv_iload_n hx hb dX8_openBeside_30 rfl (lv_at hl 2 rfl) ?_
    exact prI C hr hk hP hS hf dX8_openBeside_31
  · replace hf := ite_f c1 hf
    refine lv_aload_n hx hb dX8_openBeside_9 rfl (lv_at hl 0 rfl) ?_
    refine lv_iload_n hx hb dX8_openBeside_10 rfl (lv_at hl 1 rfl) ?_
    refine lv_iload_n hx hb dX8_openBeside_11 rfl (lv_at hl 3 rfl) ?_
    obtain ⟨r2, M3, h4, hf⟩ := bnd_s hf
    refine pcTi (As := [.int i1, .int i3]) C hP hS (c11_beside  h4) y11_beside_w g_417 rfl rfl rfl ⟨Nat.le_of_ble_eq_true rfl, Nat.le_of_ble_eq_true rfl⟩ hl.1 rfl (Nat.le_of_ble_eq_true rfl) dX8_openBeside_12 ⟨Nat.le_of_ble_eq_true rfl, Nat.le_of_ble_eq_true rfl⟩ (fun H locs hP hS => ?_)
    obtain ⟨r5, M6, h7, hf⟩ := bnd_s hf
    refine pcVi (As := [.int r2]) C hP hS (k := 3) (Nat.le_of_ble_eq_true rfl) (xd_3 _ _) rfl (c8_isOpen  h7) y8_isOpen_w g_401 rfl rfl rfl ⟨Nat.le_of_ble_eq_true rfl, Nat.le_of_ble_eq_true rfl⟩ hl.1 rfl (Nat.le_of_ble_eq_true rfl) dX8_openBeside_15 ⟨Nat.le_of_ble_eq_true rfl, Nat.le_of_ble_eq_true rfl⟩ (fun H locs hP hS => ?_)
    refine lv_if_eq (tgt := 24) hx hb dX8_openBeside_18 (by decide) (fun c8 => ?_) (fun c8 => ?_)
    · replace hf := ite_t c8 hf
      exact w8_openBeside_24  C hr hk q4 hf hP hS (lv_sub hl [0, 1, 2, 3] rfl)
    · replace hf := ite_f c8 hf
      obtain ⟨v9, ev9⟩ : ∃ v : Int32, v = i2 + (1 : Int32) := ⟨_, rfl⟩
      replace hf := lt_c ev9 hf
      refine lv_iinc (v := v9) (lv' := [(2, .int v9), (0, .ref (b + 3)), (1, .int i1), (3, .int i3)]) hx hb dX8_openBeside_21 hl (k := 2) rfl (by rw [ev9]; rfl) (by decide) rfl (fun ls hl => ?_)
      exact w8_openBeside_24  C hr hk q4 hf hP hS (lv_sub hl [1, 2, 0, 3] rfl)
set_option maxHeartbeats 4000000 in
set_option maxRecDepth 100000 in
theorem w8_openBeside_0 {p : Program} {l : Launch} {e : Env} {s : State} {m : MethodId} {args : Array Value} {below : List Frame} {meth : Method} {c : Code} {z : Zt} {b : Nat}  (C : Cx p s m args c cX8_openBeside 4 RX8 z 339 b) (hr : meth.sig.returnType = (some .int)) (hk : meth.locks = false) {r : Int32} {M' : Mem} {rc : Nat → List Int32 → List Int64 → Mem → Option (Int32 × Mem)} {n : Nat} (q4 : ∀ (i1 : Int32) (i2 : Int32) (i3 : Int32) (M : Mem) (H : Heap) (locs : List Loc) (ls : Array Slot), rc 4 [i1, i2, i3] [] M = some (r, M') → va_P z.1 vwCl (pw (xd z b) 339 b M) H → va_S (pA 339 b) s.heap H locs → lv_has ls 4 [(0, .ref (b + 3)), (1, .int i1), (2, .int i2), (3, .int i3)] → W p l e rm8_openBeside s m args below meth c H locs 0 0 (MQ below (va_Qi (fun (r' : Int32) (M2 : Mem) => r' = r ∧ M2 = M') (fun M2 t => va_P z.1 vwCl (pw (xd z b) 339 b M2) t.heap) (pA 339 b)) args s 0 0 (pA 339 b)) (F0 m 4 ls [])) {a1 : Int32} {M : Mem} {H : Heap} {locs : List Loc} {ls : Array Slot} (hf : b8_openBeside_0  rc n a1 M = some (r, M')) (hP : va_P z.1 vwCl (pw (xd z b) 339 b M) H) (hS : va_S (pA 339 b) s.heap H locs) (hl : lv_has ls 4 [(0, .ref (b + 3)), (1, .int a1)]) : W p l e rm8_openBeside s m args below meth c H locs 0 0 (MQ below (va_Qi (fun (r' : Int32) (M2 : Mem) => r' = r ∧ M2 = M') (fun M2 t => va_P z.1 vwCl (pw (xd z b) 339 b M2) t.heap) (pA 339 b)) args s 0 0 (pA 339 b)) (F0 m 0 ls []) := by
  have hx := C.1.1
  have hb := C.1.2.1
  unfold b8_openBeside_0 at hf
  refine lv_iconst (v := (0 : Int32)) hx hb dX8_openBeside_0 (by decide) ?_
  refine lv_istore_n (lv' := [(2, .int (0 : Int32)), (0, .ref (b + 3)), (1, .int a1)]) hx hb dX8_openBeside_1 rfl hl (by decide) rfl (fun ls hl => ?_)
  refine lv_iconst (v := (0 : Int32)) hx hb dX8_openBeside_2 (by decide) ?_
  refine lv_istore_n (lv' := [(3, .int (0 : Int32)), (2, .int (0 : Int32)), (0, .ref (b + 3)), (1, .int a1)]) hx hb dX8_openBeside_3 rfl hl (by decide) rfl (fun ls hl => ?_)
  exact w8_openBeside_4  C hr hk q4 hf hP hS (lv_sub hl [2, 3, 1, 0] rfl)
set_option maxHeartbeats 4000000 in
set_option maxRecDepth 100000 in
theorem l8_openBeside {p : Program} {l : Launch} {e : Env} {s : State} {m : MethodId} {args : Array Value} {below : List Frame} {meth : Method} {c : Code} {z : Zt} {b : Nat}  (C : Cx p s m args c cX8_openBeside 4 RX8 z 339 b) (hr : meth.sig.returnType = (some .int)) (hk : meth.locks = false) {r : Int32} {M' : Mem} (n : Nat) : (∀ (i1 : Int32) (i2 : Int32) (i3 : Int32) (M : Mem) (H : Heap) (locs : List Loc) (ls : Array Slot), (r8_openBeside  n) 4 [i1, i2, i3] [] M = some (r, M') → va_P z.1 vwCl (pw (xd z b) 339 b M) H → va_S (pA 339 b) s.heap H locs → lv_has ls 4 [(0, .ref (b + 3)), (1, .int i1), (2, .int i2), (3, .int i3)] → W p l e rm8_openBeside s m args below meth c H locs 0 0 (MQ below (va_Qi (fun (r' : Int32) (M2 : Mem) => r' = r ∧ M2 = M') (fun M2 t => va_P z.1 vwCl (pw (xd z b) 339 b M2) t.heap) (pA 339 b)) args s 0 0 (pA 339 b)) (F0 m 4 ls [])) := by
  induction n with
  | zero => exact fun _ _ _ _ _ _ _ hf => by cases hf
  | succ n ih => exact fun _ _ _ _ _ _ _ hf hP hS hl => w8_openBeside_4  C hr hk ih hf hP hS hl
theorem c8_openBeside {l : Launch} {z : Zt} {b n : Nat}  {a1 : Int32} {M M' : Mem} {r : Int32} (hf : f8_openBeside n  a1 M = some (r, M')) : CI l z (xd z b) 339 b yX8_openBeside cX8_openBeside 4 (some .int) rm8_openBeside [.ref (b + 3), .int a1] M M' r :=
  CI.ofW (lv := [(0, .ref (b + 3)), (1, .int a1)]) (by decide) (Nat.le_of_ble_eq_true rfl) rfl (fun p e s m args below meth c ls C hr hk hP hS hl => w8_openBeside_0  C hr hk (l8_openBeside  C hr hk n) hf hP hS hl)

