-- BronzeKingModel.readsCompared()Z
theorem dX12_readsCompared_0 : decode cX12_readsCompared 0 = .ok (.aload_n 0, 1) := by decide +kernel
theorem dX12_readsCompared_1 : decode cX12_readsCompared 1 = .ok (.invokevirtual 206, 3) := by decide +kernel
theorem dX12_readsCompared_4 : decode cX12_readsCompared 4 = .ok (.ifCond .ne 5, 3) := by decide +kernel
theorem dX12_readsCompared_7 : decode cX12_readsCompared 7 = .ok (.iconst 0, 1) := by decide +kernel
theorem dX12_readsCompared_8 : decode cX12_readsCompared 8 = .ok (.ireturn, 1) := by decide +kernel
theorem dX12_readsCompared_9 : decode cX12_readsCompared 9 = .ok (.aload_n 0, 1) := by decide +kernel
theorem dX12_readsCompared_10 : decode cX12_readsCompared 10 = .ok (.invokevirtual 149, 3) := by decide +kernel
theorem dX12_readsCompared_13 : decode cX12_readsCompared 13 = .ok (.bipush 60, 2) := by decide +kernel
theorem dX12_readsCompared_15 : decode cX12_readsCompared 15 = .ok (.if_icmp .ne 8, 3) := by decide +kernel
theorem dX12_readsCompared_18 : decode cX12_readsCompared 18 = .ok (.bipush 7, 2) := by decide +kernel
theorem dX12_readsCompared_20 : decode cX12_readsCompared 20 = .ok (.goto 32, 3) := by decide +kernel
theorem dX12_readsCompared_23 : decode cX12_readsCompared 23 = .ok (.aload_n 0, 1) := by decide +kernel
theorem dX12_readsCompared_24 : decode cX12_readsCompared 24 = .ok (.invokevirtual 149, 3) := by decide +kernel
theorem dX12_readsCompared_27 : decode cX12_readsCompared 27 = .ok (.bipush 62, 2) := by decide +kernel
theorem dX12_readsCompared_29 : decode cX12_readsCompared 29 = .ok (.if_icmp .ne 8, 3) := by decide +kernel
theorem dX12_readsCompared_32 : decode cX12_readsCompared 32 = .ok (.bipush 8, 2) := by decide +kernel
theorem dX12_readsCompared_34 : decode cX12_readsCompared 34 = .ok (.goto 18, 3) := by decide +kernel
theorem dX12_readsCompared_37 : decode cX12_readsCompared 37 = .ok (.aload_n 0, 1) := by decide +kernel
theorem dX12_readsCompared_38 : decode cX12_readsCompared 38 = .ok (.invokevirtual 149, 3) := by decide +kernel
theorem dX12_readsCompared_41 : decode cX12_readsCompared 41 = .ok (.bipush 61, 2) := by decide +kernel
theorem dX12_readsCompared_43 : decode cX12_readsCompared 43 = .ok (.if_icmp .ne 8, 3) := by decide +kernel
theorem dX12_readsCompared_46 : decode cX12_readsCompared 46 = .ok (.bipush 9, 2) := by decide +kernel
theorem dX12_readsCompared_48 : decode cX12_readsCompared 48 = .ok (.goto 4, 3) := by decide +kernel
theorem dX12_readsCompared_51 : decode cX12_readsCompared 51 = .ok (.iconst (-1), 1) := by decide +kernel
theorem dX12_readsCompared_52 : decode cX12_readsCompared 52 = .ok (.istore_n 1, 1) := by decide +kernel
theorem dX12_readsCompared_53 : decode cX12_readsCompared 53 = .ok (.iload_n 1, 1) := by decide +kernel
theorem dX12_readsCompared_54 : decode cX12_readsCompared 54 = .ok (.iconst (-1), 1) := by decide +kernel
theorem dX12_readsCompared_55 : decode cX12_readsCompared 55 = .ok (.if_icmp .ne 13, 3) := by decide +kernel
theorem dX12_readsCompared_58 : decode cX12_readsCompared 58 = .ok (.aload_n 0, 1) := by decide +kernel
theorem dX12_readsCompared_59 : decode cX12_readsCompared 59 = .ok (.iconst 1, 1) := by decide +kernel
theorem dX12_readsCompared_60 : decode cX12_readsCompared 60 = .ok (.aload_n 0, 1) := by decide +kernel
theorem dX12_readsCompared_61 : decode cX12_readsCompared 61 = .ok (.getfield 143, 3) := by decide +kernel
theorem dX12_readsCompared_64 : decode cX12_readsCompared 64 = .ok (.invokevirtual 156, 3) := by decide +kernel
theorem dX12_readsCompared_67 : decode cX12_readsCompared 67 = .ok (.ireturn, 1) := by decide +kernel
theorem dX12_readsCompared_68 : decode cX12_readsCompared 68 = .ok (.aload_n 0, 1) := by decide +kernel
theorem dX12_readsCompared_69 : decode cX12_readsCompared 69 = .ok (.aload_n 0, 1) := by decide +kernel
theorem dX12_readsCompared_70 : decode cX12_readsCompared 70 = .ok (.getfield 143, 3) := by decide +kernel
theorem dX12_readsCompared_73 : decode cX12_readsCompared 73 = .ok (.iconst 1, 1) := by decide +kernel
theorem dX12_readsCompared_74 : decode cX12_readsCompared 74 = .ok (.iadd, 1) := by decide +kernel
theorem dX12_readsCompared_75 : decode cX12_readsCompared 75 = .ok (.putfield 143, 3) := by decide +kernel
theorem dX12_readsCompared_78 : decode cX12_readsCompared 78 = .ok (.aload_n 0, 1) := by decide +kernel
theorem dX12_readsCompared_79 : decode cX12_readsCompared 79 = .ok (.invokevirtual 206, 3) := by decide +kernel
theorem dX12_readsCompared_82 : decode cX12_readsCompared 82 = .ok (.ifCond .ne 5, 3) := by decide +kernel
theorem dX12_readsCompared_85 : decode cX12_readsCompared 85 = .ok (.iconst 0, 1) := by decide +kernel
theorem dX12_readsCompared_86 : decode cX12_readsCompared 86 = .ok (.ireturn, 1) := by decide +kernel
theorem dX12_readsCompared_87 : decode cX12_readsCompared 87 = .ok (.aload_n 0, 1) := by decide +kernel
theorem dX12_readsCompared_88 : decode cX12_readsCompared 88 = .ok (.iload_n 1, 1) := by decide +kernel
theorem dX12_readsCompared_89 : decode cX12_readsCompared 89 = .ok (.iconst 0, 1) := by decide +kernel
theorem dX12_readsCompared_90 : decode cX12_readsCompared 90 = .ok (.invokevirtual 179, 3) := by decide +kernel
theorem dX12_readsCompared_93 : decode cX12_readsCompared 93 = .ok (.aload_n 0, 1) := by decide +kernel
theorem dX12_readsCompared_94 : decode cX12_readsCompared 94 = .ok (.invokevirtual 209, 3) := by decide +kernel
theorem dX12_readsCompared_97 : decode cX12_readsCompared 97 = .ok (.iconst 1, 1) := by decide +kernel
theorem dX12_readsCompared_98 : decode cX12_readsCompared 98 = .ok (.ireturn, 1) := by decide +kernel
def b12_readsCompared_52 (rc : Nat → List Int32 → List Int64 → Mem → Option (Int32 × Mem)) (n : Nat) (s0 : Int32) (M : Mem) : Option (Int32 × Mem) :=
  (if s0 = (-1 : Int32) then (
   bnd (f12_wrongAt n (1 : Int32) (M.1 0 12) M) fun r29 M30 =>
   chk (isb r29) <|
   some (r29, M30))
  else (
   lt (wI M 0 12 ((M.1 0 12) + (1 : Int32))) fun M18 =>
   bnd (f12_readsSum n M18) fun r19 M20 =>
   (if r19 = 0 then (
    some ((0 : Int32), M20))
   else (
    bnd (f12_codesOf n s0 (0 : Int32) M20) fun r23 M24 =>
    bnd (f12_endsPiece n M24) fun r26 M27 =>
    some ((1 : Int32), M27)))))
def b12_readsCompared_0 (rc : Nat → List Int32 → List Int64 → Mem → Option (Int32 × Mem)) (n : Nat) (M : Mem) : Option (Int32 × Mem) :=
  bnd (f12_readsSum n M) fun r1 M2 =>
  (if r1 = 0 then (
   some ((0 : Int32), M2))
  else (
   bnd (f12_here n M2) fun r5 M6 =>
   (if r5 = (60 : Int32) then (
    b12_readsCompared_52  rc n (7 : Int32) M6)
   else (
    bnd (f12_here n M6) fun r9 M10 =>
    (if r9 = (62 : Int32) then (
     b12_readsCompared_52  rc n (8 : Int32) M10)
    else (
     bnd (f12_here n M10) fun r13 M14 =>
     (if r13 = (61 : Int32) then (
      b12_readsCompared_52  rc n (9 : Int32) M14)
     else (
      b12_readsCompared_52  rc n (-1 : Int32) M14))))))))
def f12_readsCompared (n : Nat)  (M : Mem) : Option (Int32 × Mem) := b12_readsCompared_0 (fun _ _ _ _ => none) n M
abbrev rm12_readsCompared : Room := { frames := 5, cells := 0, slots := 0, locals := 104 }
theorem y12_readsCompared_w : yV RX12 yX12_readsCompared cX12_readsCompared 2 (some .boolean) 0 := ⟨g_1390, gp 51 rfl rfl, g_14, g_1391, rfl, by decide, by decide, by decide +kernel⟩
set_option maxHeartbeats 4000000 in
set_option maxRecDepth 100000 in
theorem w12_readsCompared_52 {p : Program} {l : Launch} {e : Env} {s : State} {m : MethodId} {args : Array Value} {below : List Frame} {meth : Method} {c : Code} {z : Zt} {b : Nat}  (C : Cx p s m args c cX12_readsCompared 2 RX12 z 32 b) (hr : meth.sig.returnType = (some .boolean)) (hk : meth.locks = false) {r : Int32} {M' : Mem} {rc : Nat → List Int32 → List Int64 → Mem → Option (Int32 × Mem)} {n : Nat}  {s0 : Int32} {M : Mem} {H : Heap} {locs : List Loc} {ls : Array Slot} (hf : b12_readsCompared_52  rc n s0 M = some (r, M')) (hP : va_P z.1 vwCl (pw (yd z b) 32 b M) H) (hS : va_S (pA 32 b) s.heap H locs) (hl : lv_has ls 2 [(0, .ref (b + 0))]) : W p l e rm12_readsCompared s m args below meth c H locs 0 0 (MQ below (va_Qi (fun (r' : Int32) (M2 : Mem) => r' = r ∧ M2 = M') (fun M2 t => va_P z.1 vwCl (pw (yd z b) 32 b M2) t.heap) (pA 32 b)) args s 0 0 (pA 32 b)) (F0 m 52 ls [.int s0]) := by
  have hx := C.1.1
  have hb := C.1.2.1
  unfold b12_readsCompared_52 at hf
  refine lv_istore_n (lv' := [(1, .int s0), (0, .ref (b + 0))]) hx hb dX12_readsCompared_52 rfl hl (by decide) rfl (fun ls hl => ?_)
  refine lv_iload_n hx hb dX12_readsCompared_53 rfl (lv_at hl 0 rfl) ?_
  refine lv_iconst (v := (-1 : Int32)) hx hb dX12_readsCompared_54 (by decide) ?_
  refine lv_icmp_ne (tgt := 68) hx hb dX12_readsCompared_55 (by decide) (fun c17 => ?_) (fun c17 => ?_)
  · replace hf := ite_f c17 hf
    refine lv_aload_n hx hb dX12_readsCompared_68 rfl (lv_at hl 1 rfl) ?_
    refine lv_aload_n hx hb dX12_readsCompared_69 rfl (lv_at hl 1 rfl) ?_
    refine pg C hP (k := 0) (j := 12) (Nat.le_of_ble_eq_true rfl) (yd_0 _ _) rfl iw_12 (Nat.le_of_ble_eq_true rfl) g_1147 rfl rfl dX12_readsCompared_70 ?_
    refine lv_iconst (v := (1 : Int32)) hx hb dX12_readsCompared_73 (by decide) ?_
    refine lv_iadd hx hb dX12_readsCompared_74 ?_
    refine ppI C hP hS (k := 0) (j := 12) (ty := .int) (Nat.le_of_ble_eq_true rfl) (yd_0 _ _) rfl iw_12 tyX12 tyX12_ok nmX12 (Nat.le_of_ble_eq_true rfl) g_1147 rfl rfl (by decide +kernel) rfl rfl (Nat.le_of_ble_eq_true rfl) (yu_0_12 _ _ _) dX12_readsCompared_75 (fun M18 H locs eM18 hP hS => ?_)
    replace hf := lt_c eM18 hf
    refine lv_aload_n hx hb dX12_readsCompared_78 rfl (lv_at hl 1 rfl) ?_
    obtain ⟨r19, M20, h21, hf⟩ := bnd_s hf
    refine pcVi (As := []) C hP hS (k := 0) (Nat.le_of_ble_eq_true rfl) (yd_0 _ _) rfl (c12_readsSum  h21) y12_readsSum_w g_1341 rfl rfl rfl ⟨Nat.le_of_ble_eq_true rfl, Nat.le_of_ble_eq_true rfl⟩ hl.1 rfl (Nat.le_of_ble_eq_true rfl) dX12_readsCompared_79 ⟨Nat.le_of_ble_eq_true rfl, Nat.le_of_ble_eq_true rfl⟩ (fun H locs hP hS => ?_)
    refine lv_if_ne (tgt := 87) hx hb dX12_readsCompared_82 (by decide) (fun c22 => ?_) (fun c22 => ?_)
    · replace hf := ite_f c22 hf
      refine lv_aload_n hx hb dX12_readsCompared_87 rfl (lv_at hl 1 rfl) ?_
      refine lv_iload_n hx hb dX12_readsCompared_88 rfl (lv_at hl 0 rfl) ?_
      refine lv_iconst (v := (0 : Int32)) hx hb dX12_readsCompared_89 (by decide) ?_
      obtain ⟨r23, M24, h25, hf⟩ := bnd_s hf
      refine pcVv (As := [.int s0, .int (0 : Int32)]) C hP hS (k := 0) (Nat.le_of_ble_eq_true rfl) (yd_0 _ _) rfl (c12_codesOf  h25) y12_codesOf_w g_1362 rfl rfl rfl ⟨Nat.le_of_ble_eq_true rfl, Nat.le_of_ble_eq_true rfl⟩ hl.1 rfl (Nat.le_of_ble_eq_true rfl) dX12_readsCompared_90 ⟨Nat.le_of_ble_eq_true rfl, Nat.le_of_ble_eq_true rfl⟩ (fun H locs hP hS => ?_)
      refine lv_aload_n hx hb dX12_readsCompared_93 rfl (lv_at hl 1 rfl) ?_
      obtain ⟨r26, M27, h28, hf⟩ := bnd_s hf
      refine pcVv (As := []) C hP hS (k := 0) (Nat.le_of_ble_eq_true rfl) (yd_0 _ _) rfl (c12_endsPiece  h28) y12_endsPiece_w g_1392 rfl rfl rfl ⟨Nat.le_of_ble_eq_true rfl, Nat.le_of_ble_eq_true rfl⟩ hl.1 rfl (Nat.le_of_ble_eq_true rfl) dX12_readsCompared_94 ⟨Nat.le_of_ble_eq_true rfl, Nat.le_of_ble_eq_true rfl⟩ (fun H locs hP hS => ?_)
      refine lv_iconst (v := (1 : Int32)) hx hb dX12_readsCompared_97 (by decide) ?_
      exact prZ C hr hk hP hS hf rfl dX12_readsCompared_98
    · replace hf := ite_t c22 hf
      refine lv_iconst (v := (0 : Int32)) hx hb dX12_readsCompared_85 (by decide) ?_
      exact prZ C hr hk hP hS hf rfl dX12_readsCompared_86
  · replace hf := ite_t c17 hf
    refine lv_aload_n hx hb dX12_readsCompared_58 rfl (lv_at hl 1 rfl) ?_
    refine lv_iconst (v := (1 : Int32)) hx hb dX12_readsCompared_59 (by decide) ?_
    refine lv_aload_n hx hb dX12_readsCompared_60 rfl (lv_at hl 1 rfl) ?_
    refine pg C hP (k := 0) (j := 12) (Nat.le_of_ble_eq_true rfl) (yd_0 _ _) rfl iw_12 (Nat.le_of_ble_eq_true rfl) g_1147 rfl rfl dX12_readsCompared_61 ?_
    obtain ⟨r29, M30, h31, hf⟩ := bnd_s hf
    refine pcVi (As := [.int (1 : Int32), .int (M.1 0 12)]) C hP hS (k := 0) (Nat.le_of_ble_eq_true rfl) (yd_0 _ _) rfl (c12_wrongAt  h31) y12_wrongAt_w g_1337 rfl rfl rfl ⟨Nat.le_of_ble_eq_true rfl, Nat.le_of_ble_eq_true rfl⟩ hl.1 rfl (Nat.le_of_ble_eq_true rfl) dX12_readsCompared_64 ⟨Nat.le_of_ble_eq_true rfl, Nat.le_of_ble_eq_true rfl⟩ (fun H locs hP hS => ?_)
    have h32 := chk_1 hf
    replace hf := chk_2 hf
    exact prZ C hr hk hP hS hf (isb_n h32) dX12_readsCompared_67
set_option maxHeartbeats 4000000 in
set_option maxRecDepth 100000 in
theorem w12_readsCompared_0 {p : Program} {l : Launch} {e : Env} {s : State} {m : MethodId} {args : Array Value} {below : List Frame} {meth : Method} {c : Code} {z : Zt} {b : Nat}  (C : Cx p s m args c cX12_readsCompared 2 RX12 z 32 b) (hr : meth.sig.returnType = (some .boolean)) (hk : meth.locks = false) {r : Int32} {M' : Mem} {rc : Nat → List Int32 → List Int64 → Mem → Option (Int32 × Mem)} {n : Nat}   {M : Mem} {H : Heap} {locs : List Loc} {ls : Array Slot} (hf : b12_readsCompared_0  rc n  M = some (r, M')) (hP : va_P z.1 vwCl (pw (yd z b) 32 b M) H) (hS : va_S (pA 32 b) s.heap H locs) (hl : lv_has ls 2 [(0, .ref (b + 0))]) : W p l e rm12_readsCompared s m args below meth c H locs 0 0 (MQ below (va_Qi (fun (r' : Int32) (M2 : Mem) => r' = r ∧ M2 = M') (fun M2 t => va_P z.1 vwCl (pw (yd z b) 32 b M2) t.heap) (pA 32 b)) args s 0 0 (pA 32 b)) (F0 m 0 ls []) := by
  have hx := C.1.1
  have hb := C.1.2.1
  unfold b12_readsCompared_0 at hf
  refine lv_aload_n hx hb dX12_readsCompared_0 rfl (lv_at hl 0 rfl) ?_
  obtain ⟨r1, M2, h3, hf⟩ := bnd_s hf
  refine pcVi (As := []) C hP hS (k := 0) (Nat.le_of_ble_eq_true rfl) (yd_0 _ _) rfl (c12_readsSum  h3) y12_readsSum_w g_1341 rfl rfl rfl ⟨Nat.le_of_ble_eq_true rfl, Nat.le_of_ble_eq_true rfl⟩ hl.1 rfl (Nat.le_of_ble_eq_true rfl) dX12_readsCompared_1 ⟨Nat.le_of_ble_eq_true rfl, Nat.le_of_ble_eq_true rfl⟩ (fun H locs hP hS => ?_)
  refine lv_if_ne (tgt := 9) hx hb dX12_readsCompared_4 (by decide) (fun c4 => ?_) (fun c4 => ?_)
  · replace hf := ite_f c4 hf
    refine lv_aload_n hx hb dX12_readsCompared_9 rfl (lv_at hl 0 rfl) ?_
    obtain ⟨r5, M6, h7, hf⟩ := bnd_s hf
    refine pcVi (As := []) C hP hS (k := 0) (Nat.le_of_ble_eq_true rfl) (yd_0 _ _) rfl (c12_here  h7) y12_here_w g_1333 rfl rfl rfl ⟨Nat.le_of_ble_eq_true rfl, Nat.le_of_ble_eq_true rfl⟩ hl.1 rfl (Nat.le_of_ble_eq_true rfl) dX12_readsCompared_10 ⟨Nat.le_of_ble_eq_true rfl, Nat.le_of_ble_eq_true rfl⟩ (fun H locs hP hS => ?_)
    refine lv_bipush (v := (60 : Int32)) hx hb dX12_readsCompared_13 (by decide) ?_
    refine lv_icmp_ne (tgt := 23) hx hb dX12_readsCompared_15 (by decide) (fun c8 => ?_) (fun c8 => ?_)
    · replace hf := ite_f c8 hf
      refine lv_aload_n hx hb dX12_readsCompared_23 rfl (lv_at hl 0 rfl) ?_
      obtain ⟨r9, M10, h11, hf⟩ := bnd_s hf
      refine pcVi (As := []) C hP hS (k := 0) (Nat.le_of_ble_eq_true rfl) (yd_0 _ _) rfl (c12_here  h11) y12_here_w g_1333 rfl rfl rfl ⟨Nat.le_of_ble_eq_true rfl, Nat.le_of_ble_eq_true rfl⟩ hl.1 rfl (Nat.le_of_ble_eq_true rfl) dX12_readsCompared_24 ⟨Nat.le_of_ble_eq_true rfl, Nat.le_of_ble_eq_true rfl⟩ (fun H locs hP hS => ?_)
      refine lv_bipush (v := (62 : Int32)) hx hb dX12_readsCompared_27 (by decide) ?_
      refine lv_icmp_ne (tgt := 37) hx hb dX12_readsCompared_29 (by decide) (fun c12 => ?_) (fun c12 => ?_)
      · replace hf := ite_f c12 hf
        refine lv_aload_n hx hb dX12_readsCompared_37 rfl (lv_at hl 0 rfl) ?_
        obtain ⟨r13, M14, h15, hf⟩ := bnd_s hf
        refine pcVi (As := []) C hP hS (k := 0) (Nat.le_of_ble_eq_true rfl) (yd_0 _ _) rfl (c12_here  h15) y12_here_w g_1333 rfl rfl rfl ⟨Nat.le_of_ble_eq_true rfl, Nat.le_of_ble_eq_true rfl⟩ hl.1 rfl (Nat.le_of_ble_eq_true rfl) dX12_readsCompared_38 ⟨Nat.le_of_ble_eq_true rfl, Nat.le_of_ble_eq_true rfl⟩ (fun H locs hP hS => ?_)
        refine lv_bipush (v := (61 : Int32)) hx hb dX12_readsCompared_41 (by decide) ?_
        refine lv_icmp_ne (tgt := 51) hx hb dX12_readsCompared_43 (by decide) (fun c16 => ?_) (fun c16 => ?_)
        · replace hf := ite_f c16 hf
          refine lv_iconst (v := (-1 : Int32)) hx hb dX12_readsCompared_51 (by decide) ?_
          exact w12_readsCompared_52 (n := n)  C hr hk  hf hP hS (lv_sub hl [0] rfl)
        · replace hf := ite_t c16 hf
          refine lv_bipush (v := (9 : Int32)) hx hb dX12_readsCompared_46 (by decide) ?_
          refine lv_goto (tgt := 52) hx hb dX12_readsCompared_48 (by decide) ?_
          exact w12_readsCompared_52 (n := n)  C hr hk  hf hP hS (lv_sub hl [0] rfl)
      · replace hf := ite_t c12 hf
        refine lv_bipush (v := (8 : Int32)) hx hb dX12_readsCompared_32 (by decide) ?_
        refine lv_goto (tgt := 52) hx hb dX12_readsCompared_34 (by decide) ?_
        exact w12_readsCompared_52 (n := n)  C hr hk  hf hP hS (lv_sub hl [0] rfl)
    · replace hf := ite_t c8 hf
      refine lv_bipush (v := (7 : Int32)) hx hb dX12_readsCompared_18 (by decide) ?_
      refine lv_goto (tgt := 52) hx hb dX12_readsCompared_20 (by decide) ?_
      exact w12_readsCompared_52 (n := n)  C hr hk  hf hP hS (lv_sub hl [0] rfl)
  · replace hf := ite_t c4 hf
    refine lv_iconst (v := (0 : Int32)) hx hb dX12_readsCompared_7 (by decide) ?_
    exact prZ C hr hk hP hS hf rfl dX12_readsCompared_8
theorem c12_readsCompared {l : Launch} {z : Zt} {b n : Nat}   {M M' : Mem} {r : Int32} (hf : f12_readsCompared n   M = some (r, M')) : CI l z (yd z b) 32 b yX12_readsCompared cX12_readsCompared 2 (some .boolean) rm12_readsCompared [.ref (b + 0)] M M' r :=
  CI.ofW (lv := [(0, .ref (b + 0))]) (by decide) (Nat.le_of_ble_eq_true rfl) rfl (fun p e s m args below meth c ls C hr hk hP hS hl => w12_readsCompared_0 (n := n)  C hr hk  hf hP hS hl)

-- BronzeKingModel.readsCondition()Z
theorem dX12_readsCondition_0 : decode cX12_readsCondition 0 = .ok (.aload_n 0, 1) := by decide +kernel
theorem dX12_readsCondition_1 : decode cX12_readsCondition 1 = .ok (.invokevirtual 149, 3) := by decide +kernel
theorem dX12_readsCondition_4 : decode cX12_readsCondition 4 = .ok (.bipush 40, 2) := by decide +kernel
theorem dX12_readsCondition_6 : decode cX12_readsCondition 6 = .ok (.if_icmp .eq 13, 3) := by decide +kernel
theorem dX12_readsCondition_9 : decode cX12_readsCondition 9 = .ok (.aload_n 0, 1) := by decide +kernel
theorem dX12_readsCondition_10 : decode cX12_readsCondition 10 = .ok (.iconst 1, 1) := by decide +kernel
theorem dX12_readsCondition_11 : decode cX12_readsCondition 11 = .ok (.aload_n 0, 1) := by decide +kernel
theorem dX12_readsCondition_12 : decode cX12_readsCondition 12 = .ok (.getfield 143, 3) := by decide +kernel
theorem dX12_readsCondition_15 : decode cX12_readsCondition 15 = .ok (.invokevirtual 156, 3) := by decide +kernel
theorem dX12_readsCondition_18 : decode cX12_readsCondition 18 = .ok (.ireturn, 1) := by decide +kernel
theorem dX12_readsCondition_19 : decode cX12_readsCondition 19 = .ok (.aload_n 0, 1) := by decide +kernel
theorem dX12_readsCondition_20 : decode cX12_readsCondition 20 = .ok (.iconst 0, 1) := by decide +kernel
theorem dX12_readsCondition_21 : decode cX12_readsCondition 21 = .ok (.putfield 170, 3) := by decide +kernel
theorem dX12_readsCondition_24 : decode cX12_readsCondition 24 = .ok (.aload_n 0, 1) := by decide +kernel
theorem dX12_readsCondition_25 : decode cX12_readsCondition 25 = .ok (.iconst 0, 1) := by decide +kernel
theorem dX12_readsCondition_26 : decode cX12_readsCondition 26 = .ok (.putfield 173, 3) := by decide +kernel
theorem dX12_readsCondition_29 : decode cX12_readsCondition 29 = .ok (.aload_n 0, 1) := by decide +kernel
theorem dX12_readsCondition_30 : decode cX12_readsCondition 30 = .ok (.bipush 13, 2) := by decide +kernel
theorem dX12_readsCondition_32 : decode cX12_readsCondition 32 = .ok (.invokevirtual 183, 3) := by decide +kernel
theorem dX12_readsCondition_35 : decode cX12_readsCondition 35 = .ok (.ifCond .ne 5, 3) := by decide +kernel
theorem dX12_readsCondition_38 : decode cX12_readsCondition 38 = .ok (.iconst 0, 1) := by decide +kernel
theorem dX12_readsCondition_39 : decode cX12_readsCondition 39 = .ok (.ireturn, 1) := by decide +kernel
theorem dX12_readsCondition_40 : decode cX12_readsCondition 40 = .ok (.aload_n 0, 1) := by decide +kernel
theorem dX12_readsCondition_41 : decode cX12_readsCondition 41 = .ok (.invokevirtual 149, 3) := by decide +kernel
theorem dX12_readsCondition_44 : decode cX12_readsCondition 44 = .ok (.bipush 33, 2) := by decide +kernel
theorem dX12_readsCondition_46 : decode cX12_readsCondition 46 = .ok (.if_icmp .eq 12, 3) := by decide +kernel
theorem dX12_readsCondition_49 : decode cX12_readsCondition 49 = .ok (.aload_n 0, 1) := by decide +kernel
theorem dX12_readsCondition_50 : decode cX12_readsCondition 50 = .ok (.invokevirtual 149, 3) := by decide +kernel
theorem dX12_readsCondition_53 : decode cX12_readsCondition 53 = .ok (.bipush 40, 2) := by decide +kernel
theorem dX12_readsCondition_55 : decode cX12_readsCondition 55 = .ok (.if_icmp .ne 28, 3) := by decide +kernel
theorem dX12_readsCondition_58 : decode cX12_readsCondition 58 = .ok (.aload_n 0, 1) := by decide +kernel
theorem dX12_readsCondition_59 : decode cX12_readsCondition 59 = .ok (.aload_n 0, 1) := by decide +kernel
theorem dX12_readsCondition_60 : decode cX12_readsCondition 60 = .ok (.invokevirtual 149, 3) := by decide +kernel
theorem dX12_readsCondition_63 : decode cX12_readsCondition 63 = .ok (.bipush 33, 2) := by decide +kernel
theorem dX12_readsCondition_65 : decode cX12_readsCondition 65 = .ok (.if_icmp .ne 8, 3) := by decide +kernel
theorem dX12_readsCondition_68 : decode cX12_readsCondition 68 = .ok (.bipush 10, 2) := by decide +kernel
theorem dX12_readsCondition_70 : decode cX12_readsCondition 70 = .ok (.goto 5, 3) := by decide +kernel
theorem dX12_readsCondition_73 : decode cX12_readsCondition 73 = .ok (.bipush 13, 2) := by decide +kernel
theorem dX12_readsCondition_75 : decode cX12_readsCondition 75 = .ok (.invokevirtual 183, 3) := by decide +kernel
theorem dX12_readsCondition_78 : decode cX12_readsCondition 78 = .ok (.ifCond .ne (-38), 3) := by decide +kernel
theorem dX12_readsCondition_81 : decode cX12_readsCondition 81 = .ok (.iconst 0, 1) := by decide +kernel
theorem dX12_readsCondition_82 : decode cX12_readsCondition 82 = .ok (.ireturn, 1) := by decide +kernel
theorem dX12_readsCondition_83 : decode cX12_readsCondition 83 = .ok (.aload_n 0, 1) := by decide +kernel
theorem dX12_readsCondition_84 : decode cX12_readsCondition 84 = .ok (.invokevirtual 212, 3) := by decide +kernel
theorem dX12_readsCondition_87 : decode cX12_readsCondition 87 = .ok (.ifCond .ne 5, 3) := by decide +kernel
theorem dX12_readsCondition_90 : decode cX12_readsCondition 90 = .ok (.iconst 0, 1) := by decide +kernel
theorem dX12_readsCondition_91 : decode cX12_readsCondition 91 = .ok (.ireturn, 1) := by decide +kernel
theorem dX12_readsCondition_92 : decode cX12_readsCondition 92 = .ok (.aload_n 0, 1) := by decide +kernel
theorem dX12_readsCondition_93 : decode cX12_readsCondition 93 = .ok (.invokevirtual 149, 3) := by decide +kernel
theorem dX12_readsCondition_96 : decode cX12_readsCondition 96 = .ok (.bipush 41, 2) := by decide +kernel
theorem dX12_readsCondition_98 : decode cX12_readsCondition 98 = .ok (.if_icmp .ne 54, 3) := by decide +kernel
theorem dX12_readsCondition_101 : decode cX12_readsCondition 101 = .ok (.aload_n 0, 1) := by decide +kernel
theorem dX12_readsCondition_102 : decode cX12_readsCondition 102 = .ok (.iconst 1, 1) := by decide +kernel
theorem dX12_readsCondition_103 : decode cX12_readsCondition 103 = .ok (.invokevirtual 215, 3) := by decide +kernel
theorem dX12_readsCondition_106 : decode cX12_readsCondition 106 = .ok (.aload_n 0, 1) := by decide +kernel
theorem dX12_readsCondition_107 : decode cX12_readsCondition 107 = .ok (.aload_n 0, 1) := by decide +kernel
theorem dX12_readsCondition_108 : decode cX12_readsCondition 108 = .ok (.getfield 173, 3) := by decide +kernel
theorem dX12_readsCondition_111 : decode cX12_readsCondition 111 = .ok (.iconst 1, 1) := by decide +kernel
theorem dX12_readsCondition_112 : decode cX12_readsCondition 112 = .ok (.isub, 1) := by decide +kernel
theorem dX12_readsCondition_113 : decode cX12_readsCondition 113 = .ok (.putfield 173, 3) := by decide +kernel
theorem dX12_readsCondition_116 : decode cX12_readsCondition 116 = .ok (.aload_n 0, 1) := by decide +kernel
theorem dX12_readsCondition_117 : decode cX12_readsCondition 117 = .ok (.aload_n 0, 1) := by decide +kernel
theorem dX12_readsCondition_118 : decode cX12_readsCondition 118 = .ok (.getfield 170, 3) := by decide +kernel
theorem dX12_readsCondition_121 : decode cX12_readsCondition 121 = .ok (.iconst 1, 1) := by decide +kernel
theorem dX12_readsCondition_122 : decode cX12_readsCondition 122 = .ok (.isub, 1) := by decide +kernel
theorem dX12_readsCondition_123 : decode cX12_readsCondition 123 = .ok (.putfield 170, 3) := by decide +kernel
theorem dX12_readsCondition_126 : decode cX12_readsCondition 126 = .ok (.aload_n 0, 1) := by decide +kernel
theorem dX12_readsCondition_127 : decode cX12_readsCondition 127 = .ok (.aload_n 0, 1) := by decide +kernel
theorem dX12_readsCondition_128 : decode cX12_readsCondition 128 = .ok (.getfield 143, 3) := by decide +kernel
theorem dX12_readsCondition_131 : decode cX12_readsCondition 131 = .ok (.iconst 1, 1) := by decide +kernel
theorem dX12_readsCondition_132 : decode cX12_readsCondition 132 = .ok (.iadd, 1) := by decide +kernel
theorem dX12_readsCondition_133 : decode cX12_readsCondition 133 = .ok (.putfield 143, 3) := by decide +kernel
theorem dX12_readsCondition_136 : decode cX12_readsCondition 136 = .ok (.aload_n 0, 1) := by decide +kernel
theorem dX12_readsCondition_137 : decode cX12_readsCondition 137 = .ok (.getfield 173, 3) := by decide +kernel
theorem dX12_readsCondition_140 : decode cX12_readsCondition 140 = .ok (.ifCond .ne 5, 3) := by decide +kernel
theorem dX12_readsCondition_143 : decode cX12_readsCondition 143 = .ok (.iconst 1, 1) := by decide +kernel
theorem dX12_readsCondition_144 : decode cX12_readsCondition 144 = .ok (.ireturn, 1) := by decide +kernel
theorem dX12_readsCondition_145 : decode cX12_readsCondition 145 = .ok (.aload_n 0, 1) := by decide +kernel
theorem dX12_readsCondition_146 : decode cX12_readsCondition 146 = .ok (.invokevirtual 209, 3) := by decide +kernel
theorem dX12_readsCondition_149 : decode cX12_readsCondition 149 = .ok (.goto (-57), 3) := by decide +kernel
theorem dX12_readsCondition_152 : decode cX12_readsCondition 152 = .ok (.aload_n 0, 1) := by decide +kernel
theorem dX12_readsCondition_153 : decode cX12_readsCondition 153 = .ok (.invokevirtual 149, 3) := by decide +kernel
theorem dX12_readsCondition_156 : decode cX12_readsCondition 156 = .ok (.bipush 38, 2) := by decide +kernel
theorem dX12_readsCondition_158 : decode cX12_readsCondition 158 = .ok (.if_icmp .eq 22, 3) := by decide +kernel
theorem dX12_readsCondition_161 : decode cX12_readsCondition 161 = .ok (.aload_n 0, 1) := by decide +kernel
theorem dX12_readsCondition_162 : decode cX12_readsCondition 162 = .ok (.invokevirtual 149, 3) := by decide +kernel
theorem dX12_readsCondition_165 : decode cX12_readsCondition 165 = .ok (.bipush 124, 2) := by decide +kernel
theorem dX12_readsCondition_167 : decode cX12_readsCondition 167 = .ok (.if_icmp .eq 13, 3) := by decide +kernel
theorem dX12_readsCondition_170 : decode cX12_readsCondition 170 = .ok (.aload_n 0, 1) := by decide +kernel
theorem dX12_readsCondition_171 : decode cX12_readsCondition 171 = .ok (.iconst 1, 1) := by decide +kernel
theorem dX12_readsCondition_172 : decode cX12_readsCondition 172 = .ok (.aload_n 0, 1) := by decide +kernel
theorem dX12_readsCondition_173 : decode cX12_readsCondition 173 = .ok (.getfield 143, 3) := by decide +kernel
theorem dX12_readsCondition_176 : decode cX12_readsCondition 176 = .ok (.invokevirtual 156, 3) := by decide +kernel
theorem dX12_readsCondition_179 : decode cX12_readsCondition 179 = .ok (.ireturn, 1) := by decide +kernel
theorem dX12_readsCondition_180 : decode cX12_readsCondition 180 = .ok (.aload_n 0, 1) := by decide +kernel
theorem dX12_readsCondition_181 : decode cX12_readsCondition 181 = .ok (.aload_n 0, 1) := by decide +kernel
theorem dX12_readsCondition_182 : decode cX12_readsCondition 182 = .ok (.invokevirtual 149, 3) := by decide +kernel
theorem dX12_readsCondition_185 : decode cX12_readsCondition 185 = .ok (.bipush 124, 2) := by decide +kernel
theorem dX12_readsCondition_187 : decode cX12_readsCondition 187 = .ok (.if_icmp .ne 7, 3) := by decide +kernel
theorem dX12_readsCondition_190 : decode cX12_readsCondition 190 = .ok (.iconst 1, 1) := by decide +kernel
theorem dX12_readsCondition_191 : decode cX12_readsCondition 191 = .ok (.goto 4, 3) := by decide +kernel
theorem dX12_readsCondition_194 : decode cX12_readsCondition 194 = .ok (.iconst 0, 1) := by decide +kernel
theorem dX12_readsCondition_195 : decode cX12_readsCondition 195 = .ok (.invokevirtual 215, 3) := by decide +kernel
theorem dX12_readsCondition_198 : decode cX12_readsCondition 198 = .ok (.aload_n 0, 1) := by decide +kernel
theorem dX12_readsCondition_199 : decode cX12_readsCondition 199 = .ok (.aload_n 0, 1) := by decide +kernel
theorem dX12_readsCondition_200 : decode cX12_readsCondition 200 = .ok (.invokevirtual 149, 3) := by decide +kernel
theorem dX12_readsCondition_203 : decode cX12_readsCondition 203 = .ok (.bipush 38, 2) := by decide +kernel
theorem dX12_readsCondition_205 : decode cX12_readsCondition 205 = .ok (.if_icmp .ne 8, 3) := by decide +kernel
theorem dX12_readsCondition_208 : decode cX12_readsCondition 208 = .ok (.bipush 11, 2) := by decide +kernel
theorem dX12_readsCondition_210 : decode cX12_readsCondition 210 = .ok (.goto 5, 3) := by decide +kernel
theorem dX12_readsCondition_213 : decode cX12_readsCondition 213 = .ok (.bipush 12, 2) := by decide +kernel
theorem dX12_readsCondition_215 : decode cX12_readsCondition 215 = .ok (.invokevirtual 218, 3) := by decide +kernel
theorem dX12_readsCondition_218 : decode cX12_readsCondition 218 = .ok (.goto (-178), 3) := by decide +kernel
def b12_readsCondition_75 (rc : Nat → List Int32 → List Int64 → Mem → Option (Int32 × Mem)) (n : Nat) (s1 : Int32) (M : Mem) : Option (Int32 × Mem) :=
  bnd (f12_opens n s1 M) fun r71 M72 =>
  (if r71 = 0 then (
   some ((0 : Int32), M72))
  else (
   rc 40 [] [] M72))
def b12_readsCondition_58 (rc : Nat → List Int32 → List Int64 → Mem → Option (Int32 × Mem)) (n : Nat) (M : Mem) : Option (Int32 × Mem) :=
  bnd (f12_here n M) fun r67 M68 =>
  (if r67 = (33 : Int32) then (
   b12_readsCondition_75  rc n (10 : Int32) M68)
  else (
   b12_readsCondition_75  rc n (13 : Int32) M68))
def b12_readsCondition_215 (rc : Nat → List Int32 → List Int64 → Mem → Option (Int32 × Mem)) (n : Nat) (s1 : Int32) (M : Mem) : Option (Int32 × Mem) :=
  bnd (f12_jumps n s1 M) fun r64 M65 =>
  rc 40 [] [] M65
def b12_readsCondition_195 (rc : Nat → List Int32 → List Int64 → Mem → Option (Int32 × Mem)) (n : Nat) (s1 : Int32) (M : Mem) : Option (Int32 × Mem) :=
  bnd (f12_lands n s1 M) fun r57 M58 =>
  bnd (f12_here n M58) fun r60 M61 =>
  (if r60 = (38 : Int32) then (
   b12_readsCondition_215  rc n (11 : Int32) M61)
  else (
   b12_readsCondition_215  rc n (12 : Int32) M61))
def b12_readsCondition_180 (rc : Nat → List Int32 → List Int64 → Mem → Option (Int32 × Mem)) (n : Nat) (M : Mem) : Option (Int32 × Mem) :=
  bnd (f12_here n M) fun r53 M54 =>
  (if r53 = (124 : Int32) then (
   b12_readsCondition_195  rc n (1 : Int32) M54)
  else (
   b12_readsCondition_195  rc n (0 : Int32) M54))
def b12_readsCondition_92 (rc : Nat → List Int32 → List Int64 → Mem → Option (Int32 × Mem)) (n : Nat) (M : Mem) : Option (Int32 × Mem) :=
  bnd (f12_here n M) fun r27 M28 =>
  (if r27 = (41 : Int32) then (
   bnd (f12_lands n (1 : Int32) M28) fun r43 M44 =>
   lt (wI M44 0 18 ((M44.1 0 18) - (1 : Int32))) fun M46 =>
   lt (wI M46 0 16 ((M46.1 0 16) - (1 : Int32))) fun M47 =>
   lt (wI M47 0 12 ((M47.1 0 12) + (1 : Int32))) fun M48 =>
   (if (M48.1 0 18) = 0 then (
    some ((1 : Int32), M48))
   else (
    bnd (f12_endsPiece n M48) fun r50 M51 =>
    rc 92 [] [] M51)))
  else (
   bnd (f12_here n M28) fun r31 M32 =>
   (if r31 = (38 : Int32) then (
    b12_readsCondition_180  rc n  M32)
   else (
    bnd (f12_here n M32) fun r35 M36 =>
    (if r35 = (124 : Int32) then (
     b12_readsCondition_180  rc n  M36)
    else (
     bnd (f12_wrongAt n (1 : Int32) (M36.1 0 12) M36) fun r39 M40 =>
     chk (isb r39) <|
     some (r39, M40)))))))
def b12_readsCondition_40 (rc : Nat → List Int32 → List Int64 → Mem → Option (Int32 × Mem)) (n : Nat) (M : Mem) : Option (Int32 × Mem) :=
  bnd (f12_here n M) fun r15 M16 =>
  (if r15 = (33 : Int32) then (
   b12_readsCondition_58  rc n  M16)
  else (
   bnd (f12_here n M16) fun r19 M20 =>
   (if r19 = (40 : Int32) then (
    b12_readsCondition_58  rc n  M20)
   else (
    bnd (f12_readsCompared n M20) fun r23 M24 =>
    (if r23 = 0 then (
     some ((0 : Int32), M24))
    else (
     b12_readsCondition_92  rc n  M24))))))
def b12_readsCondition_0 (rc : Nat → List Int32 → List Int64 → Mem → Option (Int32 × Mem)) (n : Nat) (M : Mem) : Option (Int32 × Mem) :=
  bnd (f12_here n M) fun r1 M2 =>
  (if r1 = (40 : Int32) then (
   lt (wI M2 0 16 (0 : Int32)) fun M5 =>
   lt (wI M5 0 18 (0 : Int32)) fun M6 =>
   bnd (f12_opens n (13 : Int32) M6) fun r7 M8 =>
   (if r7 = 0 then (
    some ((0 : Int32), M8))
   else (
    b12_readsCondition_40  rc n  M8)))
  else (
   bnd (f12_wrongAt n (1 : Int32) (M2.1 0 12) M2) fun r11 M12 =>
   chk (isb r11) <|
   some (r11, M12)))
def r12_readsCondition : Nat → Nat → List Int32 → List Int64 → Mem → Option (Int32 × Mem)
  | 0 => fun _ _ _ _ => none
  | n + 1 => fun pc li lj M =>
    if pc = 40 then (match li, lj with | [], [] => b12_readsCondition_40  (r12_readsCondition  n) n  M | _, _ => none) else
    if pc = 92 then (match li, lj with | [], [] => b12_readsCondition_92  (r12_readsCondition  n) n  M | _, _ => none) else
    none
theorem e12_readsCondition_40  (n : Nat)  (M : Mem) : r12_readsCondition  (n + 1) 40 [] [] M = b12_readsCondition_40  (r12_readsCondition  n) n  M := by
  rw [r12_readsCondition]
  simp
theorem e12_readsCondition_92  (n : Nat)  (M : Mem) : r12_readsCondition  (n + 1) 92 [] [] M = b12_readsCondition_92  (r12_readsCondition  n) n  M := by
  rw [r12_readsCondition]
  simp
def f12_readsCondition (n : Nat)  (M : Mem) : Option (Int32 × Mem) := b12_readsCondition_0 (r12_readsCondition n) n M
abbrev rm12_readsCondition : Room := { frames := 6, cells := 0, slots := 0, locals := 125 }
theorem y12_readsCondition_w : yV RX12 yX12_readsCondition cX12_readsCondition 1 (some .boolean) 0 := ⟨g_1386, gp 50 rfl rfl, g_14, g_1387, rfl, by decide, by decide, by decide +kernel⟩
set_option maxHeartbeats 4000000 in
set_option maxRecDepth 100000 in
theorem w12_readsCondition_75 {p : Program} {l : Launch} {e : Env} {s : State} {m : MethodId} {args : Array Value} {below : List Frame} {meth : Method} {c : Code} {z : Zt} {b : Nat}  (C : Cx p s m args c cX12_readsCondition 1 RX12 z 32 b) (hr : meth.sig.returnType = (some .boolean)) (hk : meth.locks = false) {r : Int32} {M' : Mem} {rc : Nat → List Int32 → List Int64 → Mem → Option (Int32 × Mem)} {n : Nat} (q40 : ∀  (M : Mem) (H : Heap) (locs : List Loc) (ls : Array Slot), rc 40 [] [] M = some (r, M') → va_P z.1 vwCl (pw (yd z b) 32 b M) H → va_S (pA 32 b) s.heap H locs → lv_has ls 1 [(0, .ref (b + 0))] → W p l e rm12_readsCondition s m args below meth c H locs 0 0 (MQ below (va_Qi (fun (r' : Int32) (M2 : Mem) => r' = r ∧ M2 = M') (fun M2 t => va_P z.1 vwCl (pw (yd z b) 32 b M2) t.heap) (pA 32 b)) args s 0 0 (pA 32 b)) (F0 m 40 ls [])) (q92 : ∀  (M : Mem) (H : Heap) (locs : List Loc) (ls : Array Slot), rc 92 [] [] M = some (r, M') → va_P z.1 vwCl (pw (yd z b) 32 b M) H → va_S (pA 32 b) s.heap H locs → lv_has ls 1 [(0, .ref (b + 0))] → W p l e rm12_readsCondition s m args below meth c H locs 0 0 (MQ below (va_Qi (fun (r' : Int32) (M2 : Mem) => r' = r ∧ M2 = M') (fun M2 t => va_P z.1 vwCl (pw (yd z b) 32 b M2) t.heap) (pA 32 b)) args s 0 0 (pA 32 b)) (F0 m 92 ls [])) {s1 : Int32} {M : Mem} {H : Heap} {locs : List Loc} {ls : Array Slot} (hf : b12_readsCondition_75  rc n s1 M = some (r, M')) (hP : va_P z.1 vwCl (pw (yd z b) 32 b M) H) (hS : va_S (pA 32 b) s.heap H locs) (hl : lv_has ls 1 [(0, .ref (b + 0))]) : W p l e rm12_readsCondition s m args below meth c H locs 0 0 (MQ below (va_Qi (fun (r' : Int32) (M2 : Mem) => r' = r ∧ M2 = M') (fun M2 t => va_P z.1 vwCl (pw (yd z b) 32 b M2) t.heap) (pA 32 b)) args s 0 0 (pA 32 b)) (F0 m 75 ls [.int s1, .ref (b + 0)]) := by
  have hx := C.1.1
  have hb := C.1.2.1
  unfold b12_readsCondition_75 at hf
  obtain ⟨r71, M72, h73, hf⟩ := bnd_s hf
  refine pcVi (As := [.int s1]) C hP hS (k := 0) (Nat.le_of_ble_eq_true rfl) (yd_0 _ _) rfl (c12_opens  h73) y12_opens_w g_1349 rfl rfl rfl ⟨Nat.le_of_ble_eq_true rfl, Nat.le_of_ble_eq_true rfl⟩ hl.1 rfl (Nat.le_of_ble_eq_true rfl) dX12_readsCondition_75 ⟨Nat.le_of_ble_eq_true rfl, Nat.le_of_ble_eq_true rfl⟩ (fun H locs hP hS => ?_)
  refine lv_if_ne (tgt := 40) hx hb dX12_readsCondition_78 (by decide) (fun c74 => ?_) (fun c74 => ?_)
  · replace hf := ite_f c74 hf
    exact q40  M72 _ _ _ hf hP hS (lv_sub hl [0] rfl)
  · replace hf := ite_t c74 hf
    refine lv_iconst (v := (0 : Int32)) hx hb dX12_readsCondition_81 (by decide) ?_
    exact prZ C hr hk hP hS hf rfl dX12_readsCondition_82
set_option maxHeartbeats 4000000 in
set_option maxRecDepth 100000 in
theorem w12_readsCondition_58 {p : Program} {l : Launch} {e : Env} {s : State} {m : MethodId} {args : Array Value} {below : List Frame} {meth : Method} {c : Code} {z : Zt} {b : Nat}  (C : Cx p s m args c cX12_readsCondition 1 RX12 z 32 b) (hr : meth.sig.returnType = (some .boolean)) (hk : meth.locks = false) {r : Int32} {M' : Mem} {rc : Nat → List Int32 → List Int64 → Mem → Option (Int32 × Mem)} {n : Nat} (q40 : ∀  (M : Mem) (H : Heap) (locs : List Loc) (ls : Array Slot), rc 40 [] [] M = some (r, M') → va_P z.1 vwCl (pw (yd z b) 32 b M) H → va_S (pA 32 b) s.heap H locs → lv_has ls 1 [(0, .ref (b + 0))] → W p l e rm12_readsCondition s m args below meth c H locs 0 0 (MQ below (va_Qi (fun (r' : Int32) (M2 : Mem) => r' = r ∧ M2 = M') (fun M2 t => va_P z.1 vwCl (pw (yd z b) 32 b M2) t.heap) (pA 32 b)) args s 0 0 (pA 32 b)) (F0 m 40 ls [])) (q92 : ∀  (M : Mem) (H : Heap) (locs : List Loc) (ls : Array Slot), rc 92 [] [] M = some (r, M') → va_P z.1 vwCl (pw (yd z b) 32 b M) H → va_S (pA 32 b) s.heap H locs → lv_has ls 1 [(0, .ref (b + 0))] → W p l e rm12_readsCondition s m args below meth c H locs 0 0 (MQ below (va_Qi (fun (r' : Int32) (M2 : Mem) => r' = r ∧ M2 = M') (fun M2 t => va_P z.1 vwCl (pw (yd z b) 32 b M2) t.heap) (pA 32 b)) args s 0 0 (pA 32 b)) (F0 m 92 ls []))  {M : Mem} {H : Heap} {locs : List Loc} {ls : Array Slot} (hf : b12_readsCondition_58  rc n  M = some (r, M')) (hP : va_P z.1 vwCl (pw (yd z b) 32 b M) H) (hS : va_S (pA 32 b) s.heap H locs) (hl : lv_has ls 1 [(0, .ref (b + 0))]) : W p l e rm12_readsCondition s m args below meth c H locs 0 0 (MQ below (va_Qi (fun (r' : Int32) (M2 : Mem) => r' = r ∧ M2 = M') (fun M2 t => va_P z.1 vwCl (pw (yd z b) 32 b M2) t.heap) (pA 32 b)) args s 0 0 (pA 32 b)) (F0 m 58 ls []) := by
  have hx := C.1.1
  have hb := C.1.2.1
  unfold b12_readsCondition_58 at hf
  refine lv_aload_n hx hb dX12_readsCondition_58 rfl (lv_at hl 0 rfl) ?_
  refine lv_aload_n hx hb dX12_readsCondition_59 rfl (lv_at hl 0 rfl) ?_
  obtain ⟨r67, M68, h69, hf⟩ := bnd_s hf
  refine pcVi (As := []) C hP hS (k := 0) (Nat.le_of_ble_eq_true rfl) (yd_0 _ _) rfl (c12_here  h69) y12_here_w g_1333 rfl rfl rfl ⟨Nat.le_of_ble_eq_true rfl, Nat.le_of_ble_eq_true rfl⟩ hl.1 rfl (Nat.le_of_ble_eq_true rfl) dX12_readsCondition_60 ⟨Nat.le_of_ble_eq_true rfl, Nat.le_of_ble_eq_true rfl⟩ (fun H locs hP hS => ?_)
  refine lv_bipush (v := (33 : Int32)) hx hb dX12_readsCondition_63 (by decide) ?_
  refine lv_icmp_ne (tgt := 73) hx hb dX12_readsCondition_65 (by decide) (fun c70 => ?_) (fun c70 => ?_)
  · replace hf := ite_f c70 hf
    refine lv_bipush (v := (13 : Int32)) hx hb dX12_readsCondition_73 (by decide) ?_
    exact w12_readsCondition_75 (n := n)  C hr hk q40 q92 hf hP hS (lv_sub hl [0] rfl)
  · replace hf := ite_t c70 hf
    refine lv_bipush (v := (10 : Int32)) hx hb dX12_readsCondition_68 (by decide) ?_
    refine lv_goto (tgt := 75) hx hb dX12_readsCondition_70 (by decide) ?_
    exact w12_readsCondition_75 (n := n)  C hr hk q40 q92 hf hP hS (lv_sub hl [0] rfl)
set_option maxHeartbeats 4000000 in
set_option maxRecDepth 100000 in
theorem w12_readsCondition_215 {p : Program} {l : Launch} {e : Env} {s : State} {m : MethodId} {args : Array Value} {below : List Frame} {meth : Method} {c : Code} {z : Zt} {b : Nat}  (C : Cx p s m args c cX12_readsCondition 1 RX12 z 32 b) (hr : meth.sig.returnType = (some .boolean)) (hk : meth.locks = false) {r : Int32} {M' : Mem} {rc : Nat → List Int32 → List Int64 → Mem → Option (Int32 × Mem)} {n : Nat} (q40 : ∀  (M : Mem) (H : Heap) (locs : List Loc) (ls : Array Slot), rc 40 [] [] M = some (r, M') → va_P z.1 vwCl (pw (yd z b) 32 b M) H → va_S (pA 32 b) s.heap H locs → lv_has ls 1 [(0, .ref (b + 0))] → W p l e rm12_readsCondition s m args below meth c H locs 0 0 (MQ below (va_Qi (fun (r' : Int32) (M2 : Mem) => r' = r ∧ M2 = M') (fun M2 t => va_P z.1 vwCl (pw (yd z b) 32 b M2) t.heap) (pA 32 b)) args s 0 0 (pA 32 b)) (F0 m 40 ls [])) (q92 : ∀  (M : Mem) (H : Heap) (locs : List Loc) (ls : Array Slot), rc 92 [] [] M = some (r, M') → va_P z.1 vwCl (pw (yd z b) 32 b M) H → va_S (pA 32 b) s.heap H locs → lv_has ls 1 [(0, .ref (b + 0))] → W p l e rm12_readsCondition s m args below meth c H locs 0 0 (MQ below (va_Qi (fun (r' : Int32) (M2 : Mem) => r' = r ∧ M2 = M') (fun M2 t => va_P z.1 vwCl (pw (yd z b) 32 b M2) t.heap) (pA 32 b)) args s 0 0 (pA 32 b)) (F0 m 92 ls [])) {s1 : Int32} {M : Mem} {H : Heap} {locs : List Loc} {ls : Array Slot} (hf : b12_readsCondition_215  rc n s1 M = some (r, M')) (hP : va_P z.1 vwCl (pw (yd z b) 32 b M) H) (hS : va_S (pA 32 b) s.heap H locs) (hl : lv_has ls 1 [(0, .ref (b + 0))]) : W p l e rm12_readsCondition s m args below meth c H locs 0 0 (MQ below (va_Qi (fun (r' : Int32) (M2 : Mem) => r' = r ∧ M2 = M') (fun M2 t => va_P z.1 vwCl (pw (yd z b) 32 b M2) t.heap) (pA 32 b)) args s 0 0 (pA 32 b)) (F0 m 215 ls [.int s1, .ref (b + 0)]) := by
  have hx := C.1.1
  have hb := C.1.2.1
  unfold b12_readsCondition_215 at hf
  obtain ⟨r64, M65, h66, hf⟩ := bnd_s hf
  refine pcVv (As := [.int s1]) C hP hS (k := 0) (Nat.le_of_ble_eq_true rfl) (yd_0 _ _) rfl (c12_jumps  h66) y12_jumps_w g_1400 rfl rfl rfl ⟨Nat.le_of_ble_eq_true rfl, Nat.le_of_ble_eq_true rfl⟩ hl.1 rfl (Nat.le_of_ble_eq_true rfl) dX12_readsCondition_215 ⟨Nat.le_of_ble_eq_true rfl, Nat.le_of_ble_eq_true rfl⟩ (fun H locs hP hS => ?_)
  refine lv_goto (tgt := 40) hx hb dX12_readsCondition_218 (by decide) ?_
  exact q40  M65 _ _ _ hf hP hS (lv_sub hl [0] rfl)
set_option maxHeartbeats 4000000 in
set_option maxRecDepth 100000 in
theorem w12_readsCondition_195 {p : Program} {l : Launch} {e : Env} {s : State} {m : MethodId} {args : Array Value} {below : List Frame} {meth : Method} {c : Code} {z : Zt} {b : Nat}  (C : Cx p s m args c cX12_readsCondition 1 RX12 z 32 b) (hr : meth.sig.returnType = (some .boolean)) (hk : meth.locks = false) {r : Int32} {M' : Mem} {rc : Nat → List Int32 → List Int64 → Mem → Option (Int32 × Mem)} {n : Nat} (q40 : ∀  (M : Mem) (H : Heap) (locs : List Loc) (ls : Array Slot), rc 40 [] [] M = some (r, M') → va_P z.1 vwCl (pw (yd z b) 32 b M) H → va_S (pA 32 b) s.heap H locs → lv_has ls 1 [(0, .ref (b + 0))] → W p l e rm12_readsCondition s m args below meth c H locs 0 0 (MQ below (va_Qi (fun (r' : Int32) (M2 : Mem) => r' = r ∧ M2 = M') (fun M2 t => va_P z.1 vwCl (pw (yd z b) 32 b M2) t.heap) (pA 32 b)) args s 0 0 (pA 32 b)) (F0 m 40 ls [])) (q92 : ∀  (M : Mem) (H : Heap) (locs : List Loc) (ls : Array Slot), rc 92 [] [] M = some (r, M') → va_P z.1 vwCl (pw (yd z b) 32 b M) H → va_S (pA 32 b) s.heap H locs → lv_has ls 1 [(0, .ref (b + 0))] → W p l e rm12_readsCondition s m args below meth c H locs 0 0 (MQ below (va_Qi (fun (r' : Int32) (M2 : Mem) => r' = r ∧ M2 = M') (fun M2 t => va_P z.1 vwCl (pw (yd z b) 32 b M2) t.heap) (pA 32 b)) args s 0 0 (pA 32 b)) (F0 m 92 ls [])) {s1 : Int32} {M : Mem} {H : Heap} {locs : List Loc} {ls : Array Slot} (hf : b12_readsCondition_195  rc n s1 M = some (r, M')) (hP : va_P z.1 vwCl (pw (yd z b) 32 b M) H) (hS : va_S (pA 32 b) s.heap H locs) (hl : lv_has ls 1 [(0, .ref (b + 0))]) : W p l e rm12_readsCondition s m args below meth c H locs 0 0 (MQ below (va_Qi (fun (r' : Int32) (M2 : Mem) => r' = r ∧ M2 = M') (fun M2 t => va_P z.1 vwCl (pw (yd z b) 32 b M2) t.heap) (pA 32 b)) args s 0 0 (pA 32 b)) (F0 m 195 ls [.int s1, .ref (b + 0)]) := by
  have hx := C.1.1
  have hb := C.1.2.1
  unfold b12_readsCondition_195 at hf
  obtain ⟨r57, M58, h59, hf⟩ := bnd_s hf
  refine pcVv (As := [.int s1]) C hP hS (k := 0) (Nat.le_of_ble_eq_true rfl) (yd_0 _ _) rfl (c12_lands  h59) y12_lands_w g_1396 rfl rfl rfl ⟨Nat.le_of_ble_eq_true rfl, Nat.le_of_ble_eq_true rfl⟩ hl.1 rfl (Nat.le_of_ble_eq_true rfl) dX12_readsCondition_195 ⟨Nat.le_of_ble_eq_true rfl, Nat.le_of_ble_eq_true rfl⟩ (fun H locs hP hS => ?_)
  refine lv_aload_n hx hb dX12_readsCondition_198 rfl (lv_at hl 0 rfl) ?_
  refine lv_aload_n hx hb dX12_readsCondition_199 rfl (lv_at hl 0 rfl) ?_
  obtain ⟨r60, M61, h62, hf⟩ := bnd_s hf
  refine pcVi (As := []) C hP hS (k := 0) (Nat.le_of_ble_eq_true rfl) (yd_0 _ _) rfl (c12_here  h62) y12_here_w g_1333 rfl rfl rfl ⟨Nat.le_of_ble_eq_true rfl, Nat.le_of_ble_eq_true rfl⟩ hl.1 rfl (Nat.le_of_ble_eq_true rfl) dX12_readsCondition_200 ⟨Nat.le_of_ble_eq_true rfl, Nat.le_of_ble_eq_true rfl⟩ (fun H locs hP hS => ?_)
  refine lv_bipush (v := (38 : Int32)) hx hb dX12_readsCondition_203 (by decide) ?_
  refine lv_icmp_ne (tgt := 213) hx hb dX12_readsCondition_205 (by decide) (fun c63 => ?_) (fun c63 => ?_)
  · replace hf := ite_f c63 hf
    refine lv_bipush (v := (12 : Int32)) hx hb dX12_readsCondition_213 (by decide) ?_
    exact w12_readsCondition_215 (n := n)  C hr hk q40 q92 hf hP hS (lv_sub hl [0] rfl)
  · replace hf := ite_t c63 hf
    refine lv_bipush (v := (11 : Int32)) hx hb dX12_readsCondition_208 (by decide) ?_
    refine lv_goto (tgt := 215) hx hb dX12_readsCondition_210 (by decide) ?_
    exact w12_readsCondition_215 (n := n)  C hr hk q40 q92 hf hP hS (lv_sub hl [0] rfl)
set_option maxHeartbeats 4000000 in
set_option maxRecDepth 100000 in
theorem w12_readsCondition_180 {p : Program} {l : Launch} {e : Env} {s : State} {m : MethodId} {args : Array Value} {below : List Frame} {meth : Method} {c : Code} {z : Zt} {b : Nat}  (C : Cx p s m args c cX12_readsCondition 1 RX12 z 32 b) (hr : meth.sig.returnType = (some .boolean)) (hk : meth.locks = false) {r : Int32} {M' : Mem} {rc : Nat → List Int32 → List Int64 → Mem → Option (Int32 × Mem)} {n : Nat} (q40 : ∀  (M : Mem) (H : Heap) (locs : List Loc) (ls : Array Slot), rc 40 [] [] M = some (r, M') → va_P z.1 vwCl (pw (yd z b) 32 b M) H → va_S (pA 32 b) s.heap H locs → lv_has ls 1 [(0, .ref (b + 0))] → W p l e rm12_readsCondition s m args below meth c H locs 0 0 (MQ below (va_Qi (fun (r' : Int32) (M2 : Mem) => r' = r ∧ M2 = M') (fun M2 t => va_P z.1 vwCl (pw (yd z b) 32 b M2) t.heap) (pA 32 b)) args s 0 0 (pA 32 b)) (F0 m 40 ls [])) (q92 : ∀  (M : Mem) (H : Heap) (locs : List Loc) (ls : Array Slot), rc 92 [] [] M = some (r, M') → va_P z.1 vwCl (pw (yd z b) 32 b M) H → va_S (pA 32 b) s.heap H locs → lv_has ls 1 [(0, .ref (b + 0))] → W p l e rm12_readsCondition s m args below meth c H locs 0 0 (MQ below (va_Qi (fun (r' : Int32) (M2 : Mem) => r' = r ∧ M2 = M') (fun M2 t => va_P z.1 vwCl (pw (yd z b) 32 b M2) t.heap) (pA 32 b)) args s 0 0 (pA 32 b)) (F0 m 92 ls []))  {M : Mem} {H : Heap} {locs : List Loc} {ls : Array Slot} (hf : b12_readsCondition_180  rc n  M = some (r, M')) (hP : va_P z.1 vwCl (pw (yd z b) 32 b M) H) (hS : va_S (pA 32 b) s.heap H locs) (hl : lv_has ls 1 [(0, .ref (b + 0))]) : W p l e rm12_readsCondition s m args below meth c H locs 0 0 (MQ below (va_Qi (fun (r' : Int32) (M2 : Mem) => r' = r ∧ M2 = M') (fun M2 t => va_P z.1 vwCl (pw (yd z b) 32 b M2) t.heap) (pA 32 b)) args s 0 0 (pA 32 b)) (F0 m 180 ls []) := by
  have hx := C.1.1
  have hb := C.1.2.1
  unfold b12_readsCondition_180 at hf
  refine lv_aload_n hx hb dX12_readsCondition_180 rfl (lv_at hl 0 rfl) ?_
  refine lv_aload_n hx hb dX12_readsCondition_181 rfl (lv_at hl 0 rfl) ?_
  obtain ⟨r53, M54, h55, hf⟩ := bnd_s hf
  refine pcVi (As := []) C hP hS (k := 0) (Nat.le_of_ble_eq_true rfl) (yd_0 _ _) rfl (c12_here  h55) y12_here_w g_1333 rfl rfl rfl ⟨Nat.le_of_ble_eq_true rfl, Nat.le_of_ble_eq_true rfl⟩ hl.1 rfl (Nat.le_of_ble_eq_true rfl) dX12_readsCondition_182 ⟨Nat.le_of_ble_eq_true rfl, Nat.le_of_ble_eq_true rfl⟩ (fun H locs hP hS => ?_)
  refine lv_bipush (v := (124 : Int32)) hx hb dX12_readsCondition_185 (by decide) ?_
  refine lv_icmp_ne (tgt := 194) hx hb dX12_readsCondition_187 (by decide) (fun c56 => ?_) (fun c56 => ?_)
  · replace hf := ite_f c56 hf
    refine lv_iconst (v := (0 : Int32)) hx hb dX12_readsCondition_194 (by decide) ?_
    exact w12_readsCondition_195 (n := n)  C hr hk q40 q92 hf hP hS (lv_sub hl [0] rfl)
  · replace hf := ite_t c56 hf
    refine lv_iconst (v := (1 : Int32)) hx hb dX12_readsCondition_190 (by decide) ?_
    refine lv_goto (tgt := 195) hx hb dX12_readsCondition_191 (by decide) ?_
    exact w12_readsCondition_195 (n := n)  C hr hk q40 q92 hf hP hS (lv_sub hl [0] rfl)
set_option maxHeartbeats 4000000 in
set_option maxRecDepth 100000 in
theorem w12_readsCondition_92 {p : Program} {l : Launch} {e : Env} {s : State} {m : MethodId} {args : Array Value} {below : List Frame} {meth : Method} {c : Code} {z : Zt} {b : Nat}  (C : Cx p s m args c cX12_readsCondition 1 RX12 z 32 b) (hr : meth.sig.returnType = (some .boolean)) (hk : meth.locks = false) {r : Int32} {M' : Mem} {rc : Nat → List Int32 → List Int64 → Mem → Option (Int32 × Mem)} {n : Nat} (q40 : ∀  (M : Mem) (H : Heap) (locs : List Loc) (ls : Array Slot), rc 40 [] [] M = some (r, M') → va_P z.1 vwCl (pw (yd z b) 32 b M) H → va_S (pA 32 b) s.heap H locs → lv_has ls 1 [(0, .ref (b + 0))] → W p l e rm12_readsCondition s m args below meth c H locs 0 0 (MQ below (va_Qi (fun (r' : Int32) (M2 : Mem) => r' = r ∧ M2 = M') (fun M2 t => va_P z.1 vwCl (pw (yd z b) 32 b M2) t.heap) (pA 32 b)) args s 0 0 (pA 32 b)) (F0 m 40 ls [])) (q92 : ∀  (M : Mem) (H : Heap) (locs : List Loc) (ls : Array Slot), rc 92 [] [] M = some (r, M') → va_P z.1 vwCl (pw (yd z b) 32 b M) H → va_S (pA 32 b) s.heap H locs → lv_has ls 1 [(0, .ref (b + 0))] → W p l e rm12_readsCondition s m args below meth c H locs 0 0 (MQ below (va_Qi (fun (r' : Int32) (M2 : Mem) => r' = r ∧ M2 = M') (fun M2 t => va_P z.1 vwCl (pw (yd z b) 32 b M2) t.heap) (pA 32 b)) args s 0 0 (pA 32 b)) (F0 m 92 ls []))  {M : Mem} {H : Heap} {locs : List Loc} {ls : Array Slot} (hf : b12_readsCondition_92  rc n  M = some (r, M')) (hP : va_P z.1 vwCl (pw (yd z b) 32 b M) H) (hS : va_S (pA 32 b) s.heap H locs) (hl : lv_has ls 1 [(0, .ref (b + 0))]) : W p l e rm12_readsCondition s m args below meth c H locs 0 0 (MQ below (va_Qi (fun (r' : Int32) (M2 : Mem) => r' = r ∧ M2 = M') (fun M2 t => va_P z.1 vwCl (pw (yd z b) 32 b M2) t.heap) (pA 32 b)) args s 0 0 (pA 32 b)) (F0 m 92 ls []) := by
  have hx := C.1.1
  have hb := C.1.2.1
  unfold b12_readsCondition_92 at hf
  refine lv_aload_n hx hb dX12_readsCondition_92 rfl (lv_at hl 0 rfl) ?_
  obtain ⟨r27, M28, h29, hf⟩ := bnd_s hf
  refine pcVi (As := []) C hP hS (k := 0) (Nat.le_of_ble_eq_true rfl) (yd_0 _ _) rfl (c12_here  h29) y12_here_w g_1333 rfl rfl rfl ⟨Nat.le_of_ble_eq_true rfl, Nat.le_of_ble_eq_true rfl⟩ hl.1 rfl (Nat.le_of_ble_eq_true rfl) dX12_readsCondition_93 ⟨Nat.le_of_ble_eq_true rfl, Nat.le_of_ble_eq_true rfl⟩ (fun H locs hP hS => ?_)
  refine lv_bipush (v := (41 : Int32)) hx hb dX12_readsCondition_96 (by decide) ?_
  refine lv_icmp_ne (tgt := 152) hx hb dX12_readsCondition_98 (by decide) (fun c30 => ?_) (fun c30 => ?_)
  · replace hf := ite_f c30 hf
    refine lv_aload_n hx hb dX12_readsCondition_152 rfl (lv_at hl 0 rfl) ?_
    obtain ⟨r31, M32, h33, hf⟩ := bnd_s hf
    refine pcVi (As := []) C hP hS (k := 0) (Nat.le_of_ble_eq_true rfl) (yd_0 _ _) rfl (c12_here  h33) y12_here_w g_1333 rfl rfl rfl ⟨Nat.le_of_ble_eq_true rfl, Nat.le_of_ble_eq_true rfl⟩ hl.1 rfl (Nat.le_of_ble_eq_true rfl) dX12_readsCondition_153 ⟨Nat.le_of_ble_eq_true rfl, Nat.le_of_ble_eq_true rfl⟩ (fun H locs hP hS => ?_)
    refine lv_bipush (v := (38 : Int32)) hx hb dX12_readsCondition_156 (by decide) ?_
    refine lv_icmp_eq (tgt := 180) hx hb dX12_readsCondition_158 (by decide) (fun c34 => ?_) (fun c34 => ?_)
    · replace hf := ite_t c34 hf
      exact w12_readsCondition_180 (n := n)  C hr hk q40 q92 hf hP hS (lv_sub hl [0] rfl)
    · replace hf := ite_f c34 hf
      refine lv_aload_n hx hb dX12_readsCondition_161 rfl (lv_at hl 0 rfl) ?_
      obtain ⟨r35, M36, h37, hf⟩ := bnd_s hf
      refine pcVi (As := []) C hP hS (k := 0) (Nat.le_of_ble_eq_true rfl) (yd_0 _ _) rfl (c12_here  h37) y12_here_w g_1333 rfl rfl rfl ⟨Nat.le_of_ble_eq_true rfl, Nat.le_of_ble_eq_true rfl⟩ hl.1 rfl (Nat.le_of_ble_eq_true rfl) dX12_readsCondition_162 ⟨Nat.le_of_ble_eq_true rfl, Nat.le_of_ble_eq_true rfl⟩ (fun H locs hP hS => ?_)
      refine lv_bipush (v := (124 : Int32)) hx hb dX12_readsCondition_165 (by decide) ?_
      refine lv_icmp_eq (tgt := 180) hx hb dX12_readsCondition_167 (by decide) (fun c38 => ?_) (fun c38 => ?_)
      · replace hf := ite_t c38 hf
        exact w12_readsCondition_180 (n := n)  C hr hk q40 q92 hf hP hS (lv_sub hl [0] rfl)
      · replace hf := ite_f c38 hf
        refine lv_aload_n hx hb dX12_readsCondition_170 rfl (lv_at hl 0 rfl) ?_
        refine lv_iconst (v := (1 : Int32)) hx hb dX12_readsCondition_171 (by decide) ?_
        refine lv_aload_n hx hb dX12_readsCondition_172 rfl (lv_at hl 0 rfl) ?_
        refine pg C hP (k := 0) (j := 12) (Nat.le_of_ble_eq_true rfl) (yd_0 _ _) rfl iw_12 (Nat.le_of_ble_eq_true rfl) g_1147 rfl rfl dX12_readsCondition_173 ?_
        obtain ⟨r39, M40, h41, hf⟩ := bnd_s hf
        refine pcVi (As := [.int (1 : Int32), .int (M36.1 0 12)]) C hP hS (k := 0) (Nat.le_of_ble_eq_true rfl) (yd_0 _ _) rfl (c12_wrongAt  h41) y12_wrongAt_w g_1337 rfl rfl rfl ⟨Nat.le_of_ble_eq_true rfl, Nat.le_of_ble_eq_true rfl⟩ hl.1 rfl (Nat.le_of_ble_eq_true rfl) dX12_readsCondition_176 ⟨Nat.le_of_ble_eq_true rfl, Nat.le_of_ble_eq_true rfl⟩ (fun H locs hP hS => ?_)
        have h42 := chk_1 hf
        replace hf := chk_2 hf
        exact prZ C hr hk hP hS hf (isb_n h42) dX12_readsCondition_179
  · replace hf := ite_t c30 hf
    refine lv_aload_n hx hb dX12_readsCondition_101 rfl (lv_at hl 0 rfl) ?_
    refine lv_iconst (v := (1 : Int32)) hx hb dX12_readsCondition_102 (by decide) ?_
    obtain ⟨r43, M44, h45, hf⟩ := bnd_s hf
    refine pcVv (As := [.int (1 : Int32)]) C hP hS (k := 0) (Nat.le_of_ble_eq_true rfl) (yd_0 _ _) rfl (c12_lands  h45) y12_lands_w g_1396 rfl rfl rfl ⟨Nat.le_of_ble_eq_true rfl, Nat.le_of_ble_eq_true rfl⟩ hl.1 rfl (Nat.le_of_ble_eq_true rfl) dX12_readsCondition_103 ⟨Nat.le_of_ble_eq_true rfl, Nat.le_of_ble_eq_true rfl⟩ (fun H locs hP hS => ?_)
    refine lv_aload_n hx hb dX12_readsCondition_106 rfl (lv_at hl 0 rfl) ?_
    refine lv_aload_n hx hb dX12_readsCondition_107 rfl (lv_at hl 0 rfl) ?_
    refine pg C hP (k := 0) (j := 18) (Nat.le_of_ble_eq_true rfl) (yd_0 _ _) rfl iw_12 (Nat.le_of_ble_eq_true rfl) g_1153 rfl rfl dX12_readsCondition_108 ?_
    refine lv_iconst (v := (1 : Int32)) hx hb dX12_readsCondition_111 (by decide) ?_
    refine lv_isub hx hb dX12_readsCondition_112 ?_
    refine ppI C hP hS (k := 0) (j := 18) (ty := .int) (Nat.le_of_ble_eq_true rfl) (yd_0 _ _) rfl iw_12 tyX12 tyX12_ok nmX12 (Nat.le_of_ble_eq_true rfl) g_1153 rfl rfl (by decide +kernel) rfl rfl (Nat.le_of_ble_eq_true rfl) (yu_0_18 _ _ _) dX12_readsCondition_113 (fun M46 H locs eM46 hP hS => ?_)
    replace hf := lt_c eM46 hf
    refine lv_aload_n hx hb dX12_readsCondition_116 rfl (lv_at hl 0 rfl) ?_
    refine lv_aload_n hx hb dX12_readsCondition_117 rfl (lv_at hl 0 rfl) ?_
    refine pg C hP (k := 0) (j := 16) (Nat.le_of_ble_eq_true rfl) (yd_0 _ _) rfl iw_12 (Nat.le_of_ble_eq_true rfl) g_1151 rfl rfl dX12_readsCondition_118 ?_
    refine lv_iconst (v := (1 : Int32)) hx hb dX12_readsCondition_121 (by decide) ?_
    refine lv_isub hx hb dX12_readsCondition_122 ?_
    refine ppI C hP hS (k := 0) (j := 16) (ty := .int) (Nat.le_of_ble_eq_true rfl) (yd_0 _ _) rfl iw_12 tyX12 tyX12_ok nmX12 (Nat.le_of_ble_eq_true rfl) g_1151 rfl rfl (by decide +kernel) rfl rfl (Nat.le_of_ble_eq_true rfl) (yu_0_16 _ _ _) dX12_readsCondition_123 (fun M47 H locs eM47 hP hS => ?_)
    replace hf := lt_c eM47 hf
    refine lv_aload_n hx hb dX12_readsCondition_126 rfl (lv_at hl 0 rfl) ?_
    refine lv_aload_n hx hb dX12_readsCondition_127 rfl (lv_at hl 0 rfl) ?_
    refine pg C hP (k := 0) (j := 12) (Nat.le_of_ble_eq_true rfl) (yd_0 _ _) rfl iw_12 (Nat.le_of_ble_eq_true rfl) g_1147 rfl rfl dX12_readsCondition_128 ?_
    refine lv_iconst (v := (1 : Int32)) hx hb dX12_readsCondition_131 (by decide) ?_
    refine lv_iadd hx hb dX12_readsCondition_132 ?_
    refine ppI C hP hS (k := 0) (j := 12) (ty := .int) (Nat.le_of_ble_eq_true rfl) (yd_0 _ _) rfl iw_12 tyX12 tyX12_ok nmX12 (Nat.le_of_ble_eq_true rfl) g_1147 rfl rfl (by decide +kernel) rfl rfl (Nat.le_of_ble_eq_true rfl) (yu_0_12 _ _ _) dX12_readsCondition_133 (fun M48 H locs eM48 hP hS => ?_)
    replace hf := lt_c eM48 hf
    refine lv_aload_n hx hb dX12_readsCondition_136 rfl (lv_at hl 0 rfl) ?_
    refine pg C hP (k := 0) (j := 18) (Nat.le_of_ble_eq_true rfl) (yd_0 _ _) rfl iw_12 (Nat.le_of_ble_eq_true rfl) g_1153 rfl rfl dX12_readsCondition_137 ?_
    refine lv_if_ne (tgt := 145) hx hb dX12_readsCondition_140 (by decide) (fun c49 => ?_) (fun c49 => ?_)
    · replace hf := ite_f c49 hf
      refine lv_aload_n hx hb dX12_readsCondition_145 rfl (lv_at hl 0 rfl) ?_
      obtain ⟨r50, M51, h52, hf⟩ := bnd_s hf
      refine pcVv (As := []) C hP hS (k := 0) (Nat.le_of_ble_eq_true rfl) (yd_0 _ _) rfl (c12_endsPiece  h52) y12_endsPiece_w g_1392 rfl rfl rfl ⟨Nat.le_of_ble_eq_true rfl, Nat.le_of_ble_eq_true rfl⟩ hl.1 rfl (Nat.le_of_ble_eq_true rfl) dX12_readsCondition_146 ⟨Nat.le_of_ble_eq_true rfl, Nat.le_of_ble_eq_true rfl⟩ (fun H locs hP hS => ?_)
      refine lv_goto (tgt := 92) hx hb dX12_readsCondition_149 (by decide) ?_
      exact q92  M51 _ _ _ hf hP hS (lv_sub hl [0] rfl)
    · replace hf := ite_t c49 hf
      refine lv_iconst (v := (1 : Int32)) hx hb dX12_readsCondition_143 (by decide) ?_
      exact prZ C hr hk hP hS hf rfl dX12_readsCondition_144
set_option maxHeartbeats 4000000 in
set_option maxRecDepth 100000 in
theorem w12_readsCondition_40 {p : Program} {l : Launch} {e : Env} {s : State} {m : MethodId} {args : Array Value} {below : List Frame} {meth : Method} {c : Code} {z : Zt} {b : Nat}  (C : Cx p s m args c cX12_readsCondition 1 RX12 z 32 b) (hr : meth.sig.returnType = (some .boolean)) (hk : meth.locks = false) {r : Int32} {M' : Mem} {rc : Nat → List Int32 → List Int64 → Mem → Option (Int32 × Mem)} {n : Nat} (q40 : ∀  (M : Mem) (H : Heap) (locs : List Loc) (ls : Array Slot), rc 40 [] [] M = some (r, M') → va_P z.1 vwCl (pw (yd z b) 32 b M) H → va_S (pA 32 b) s.heap H locs → lv_has ls 1 [(0, .ref (b + 0))] → W p l e rm12_readsCondition s m args below meth c H locs 0 0 (MQ below (va_Qi (fun (r' : Int32) (M2 : Mem) => r' = r ∧ M2 = M') (fun M2 t => va_P z.1 vwCl (pw (yd z b) 32 b M2) t.heap) (pA 32 b)) args s 0 0 (pA 32 b)) (F0 m 40 ls [])) (q92 : ∀  (M : Mem) (H : Heap) (locs : List Loc) (ls : Array Slot), rc 92 [] [] M = some (r, M') → va_P z.1 vwCl (pw (yd z b) 32 b M) H → va_S (pA 32 b) s.heap H locs → lv_has ls 1 [(0, .ref (b + 0))] → W p l e rm12_readsCondition s m args below meth c H locs 0 0 (MQ below (va_Qi (fun (r' : Int32) (M2 : Mem) => r' = r ∧ M2 = M') (fun M2 t => va_P z.1 vwCl (pw (yd z b) 32 b M2) t.heap) (pA 32 b)) args s 0 0 (pA 32 b)) (F0 m 92 ls []))  {M : Mem} {H : Heap} {locs : List Loc} {ls : Array Slot} (hf : b12_readsCondition_40  rc n  M = some (r, M')) (hP : va_P z.1 vwCl (pw (yd z b) 32 b M) H) (hS : va_S (pA 32 b) s.heap H locs) (hl : lv_has ls 1 [(0, .ref (b + 0))]) : W p l e rm12_readsCondition s m args below meth c H locs 0 0 (MQ below (va_Qi (fun (r' : Int32) (M2 : Mem) => r' = r ∧ M2 = M') (fun M2 t => va_P z.1 vwCl (pw (yd z b) 32 b M2) t.heap) (pA 32 b)) args s 0 0 (pA 32 b)) (F0 m 40 ls []) := by
  have hx := C.1.1
  have hb := C.1.2.1
  unfold b12_readsCondition_40 at hf
  refine lv_aload_n hx hb dX12_readsCondition_40 rfl (lv_at hl 0 rfl) ?_
  obtain ⟨r15, M16, h17, hf⟩ := bnd_s hf
  refine pcVi (As := []) C hP hS (k := 0) (Nat.le_of_ble_eq_true rfl) (yd_0 _ _) rfl (c12_here  h17) y12_here_w g_1333 rfl rfl rfl ⟨Nat.le_of_ble_eq_true rfl, Nat.le_of_ble_eq_true rfl⟩ hl.1 rfl (Nat.le_of_ble_eq_true rfl) dX12_readsCondition_41 ⟨Nat.le_of_ble_eq_true rfl, Nat.le_of_ble_eq_true rfl⟩ (fun H locs hP hS => ?_)
  refine lv_bipush (v := (33 : Int32)) hx hb dX12_readsCondition_44 (by decide) ?_
  refine lv_icmp_eq (tgt := 58) hx hb dX12_readsCondition_46 (by decide) (fun c18 => ?_) (fun c18 => ?_)
  · replace hf := ite_t c18 hf
    exact w12_readsCondition_58 (n := n)  C hr hk q40 q92 hf hP hS (lv_sub hl [0] rfl)
  · replace hf := ite_f c18 hf
    refine lv_aload_n hx hb dX12_readsCondition_49 rfl (lv_at hl 0 rfl) ?_
    obtain ⟨r19, M20, h21, hf⟩ := bnd_s hf
    refine pcVi (As := []) C hP hS (k := 0) (Nat.le_of_ble_eq_true rfl) (yd_0 _ _) rfl (c12_here  h21) y12_here_w g_1333 rfl rfl rfl ⟨Nat.le_of_ble_eq_true rfl, Nat.le_of_ble_eq_true rfl⟩ hl.1 rfl (Nat.le_of_ble_eq_true rfl) dX12_readsCondition_50 ⟨Nat.le_of_ble_eq_true rfl, Nat.le_of_ble_eq_true rfl⟩ (fun H locs hP hS => ?_)
    refine lv_bipush (v := (40 : Int32)) hx hb dX12_readsCondition_53 (by decide) ?_
    refine lv_icmp_ne (tgt := 83) hx hb dX12_readsCondition_55 (by decide) (fun c22 => ?_) (fun c22 => ?_)
    · replace hf := ite_f c22 hf
      refine lv_aload_n hx hb dX12_readsCondition_83 rfl (lv_at hl 0 rfl) ?_
      obtain ⟨r23, M24, h25, hf⟩ := bnd_s hf
      refine pcVi (As := []) C hP hS (k := 0) (Nat.le_of_ble_eq_true rfl) (yd_0 _ _) rfl (c12_readsCompared  h25) y12_readsCompared_w g_1388 rfl rfl rfl ⟨Nat.le_of_ble_eq_true rfl, Nat.le_of_ble_eq_true rfl⟩ hl.1 rfl (Nat.le_of_ble_eq_true rfl) dX12_readsCondition_84 ⟨Nat.le_of_ble_eq_true rfl, Nat.le_of_ble_eq_true rfl⟩ (fun H locs hP hS => ?_)
      refine lv_if_ne (tgt := 92) hx hb dX12_readsCondition_87 (by decide) (fun c26 => ?_) (fun c26 => ?_)
      · replace hf := ite_f c26 hf
        exact w12_readsCondition_92 (n := n)  C hr hk q40 q92 hf hP hS (lv_sub hl [0] rfl)
      · replace hf := ite_t c26 hf
        refine lv_iconst (v := (0 : Int32)) hx hb dX12_readsCondition_90 (by decide) ?_
        exact prZ C hr hk hP hS hf rfl dX12_readsCondition_91
    · replace hf := ite_t c22 hf
      exact w12_readsCondition_58 (n := n)  C hr hk q40 q92 hf hP hS (lv_sub hl [0] rfl)
set_option maxHeartbeats 4000000 in
set_option maxRecDepth 100000 in
theorem w12_readsCondition_0 {p : Program} {l : Launch} {e : Env} {s : State} {m : MethodId} {args : Array Value} {below : List Frame} {meth : Method} {c : Code} {z : Zt} {b : Nat}  (C : Cx p s m args c cX12_readsCondition 1 RX12 z 32 b) (hr : meth.sig.returnType = (some .boolean)) (hk : meth.locks = false) {r : Int32} {M' : Mem} {rc : Nat → List Int32 → List Int64 → Mem → Option (Int32 × Mem)} {n : Nat} (q40 : ∀  (M : Mem) (H : Heap) (locs : List Loc) (ls : Array Slot), rc 40 [] [] M = some (r, M') → va_P z.1 vwCl (pw (yd z b) 32 b M) H → va_S (pA 32 b) s.heap H locs → lv_has ls 1 [(0, .ref (b + 0))] → W p l e rm12_readsCondition s m args below meth c H locs 0 0 (MQ below (va_Qi (fun (r' : Int32) (M2 : Mem) => r' = r ∧ M2 = M') (fun M2 t => va_P z.1 vwCl (pw (yd z b) 32 b M2) t.heap) (pA 32 b)) args s 0 0 (pA 32 b)) (F0 m 40 ls [])) (q92 : ∀  (M : Mem) (H : Heap) (locs : List Loc) (ls : Array Slot), rc 92 [] [] M = some (r, M') → va_P z.1 vwCl (pw (yd z b) 32 b M) H → va_S (pA 32 b) s.heap H locs → lv_has ls 1 [(0, .ref (b + 0))] → W p l e rm12_readsCondition s m args below meth c H locs 0 0 (MQ below (va_Qi (fun (r' : Int32) (M2 : Mem) => r' = r ∧ M2 = M') (fun M2 t => va_P z.1 vwCl (pw (yd z b) 32 b M2) t.heap) (pA 32 b)) args s 0 0 (pA 32 b)) (F0 m 92 ls []))  {M : Mem} {H : Heap} {locs : List Loc} {ls : Array Slot} (hf : b12_readsCondition_0  rc n  M = some (r, M')) (hP : va_P z.1 vwCl (pw (yd z b) 32 b M) H) (hS : va_S (pA 32 b) s.heap H locs) (hl : lv_has ls 1 [(0, .ref (b + 0))]) : W p l e rm12_readsCondition s m args below meth c H locs 0 0 (MQ below (va_Qi (fun (r' : Int32) (M2 : Mem) => r' = r ∧ M2 = M') (fun M2 t => va_P z.1 vwCl (pw (yd z b) 32 b M2) t.heap) (pA 32 b)) args s 0 0 (pA 32 b)) (F0 m 0 ls []) := by
  have hx := C.1.1
  have hb := C.1.2.1
  unfold b12_readsCondition_0 at hf
  refine lv_aload_n hx hb dX12_readsCondition_0 rfl (lv_at hl 0 rfl) ?_
  obtain ⟨r1, M2, h3, hf⟩ := bnd_s hf
  refine pcVi (As := []) C hP hS (k := 0) (Nat.le_of_ble_eq_true rfl) (yd_0 _ _) rfl (c12_here  h3) y12_here_w g_1333 rfl rfl rfl ⟨Nat.le_of_ble_eq_true rfl, Nat.le_of_ble_eq_true rfl⟩ hl.1 rfl (Nat.le_of_ble_eq_true rfl) dX12_readsCondition_1 ⟨Nat.le_of_ble_eq_true rfl, Nat.le_of_ble_eq_true rfl⟩ (fun H locs hP hS => ?_)
  refine lv_bipush (v := (40 : Int32)) hx hb dX12_readsCondition_4 (by decide) ?_
  refine lv_icmp_eq (tgt := 19) hx hb dX12_readsCondition_6 (by decide) (fun c4 => ?_) (fun c4 => ?_)
  · replace hf := ite_t c4 hf
    refine lv_aload_n hx hb dX12_readsCondition_19 rfl (lv_at hl 0 rfl) ?_
    refine lv_iconst (v := (0 : Int32)) hx hb dX12_readsCondition_20 (by decide) ?_
    refine ppI C hP hS (k := 0) (j := 16) (ty := .int) (Nat.le_of_ble_eq_true rfl) (yd_0 _ _) rfl iw_12 tyX12 tyX12_ok nmX12 (Nat.le_of_ble_eq_true rfl) g_1151 rfl rfl (by decide +kernel) rfl rfl (Nat.le_of_ble_eq_true rfl) (yu_0_16 _ _ _) dX12_readsCondition_21 (fun M5 H locs eM5 hP hS => ?_)
    replace hf := lt_c eM5 hf
    refine lv_aload_n hx hb dX12_readsCondition_24 rfl (lv_at hl 0 rfl) ?_
    refine lv_iconst (v := (0 : Int32)) hx hb dX12_readsCondition_25 (by decide) ?_
    refine ppI C hP hS (k := 0) (j := 18) (ty := .int) (Nat.le_of_ble_eq_true rfl) (yd_0 _ _) rfl iw_12 tyX12 tyX12_ok nmX12 (Nat.le_of_ble_eq_true rfl) g_1153 rfl rfl (by decide +kernel) rfl rfl (Nat.le_of_ble_eq_true rfl) (yu_0_18 _ _ _) dX12_readsCondition_26 (fun M6 H locs eM6 hP hS => ?_)
    replace hf := lt_c eM6 hf
    refine lv_aload_n hx hb dX12_readsCondition_29 rfl (lv_at hl 0 rfl) ?_
    refine lv_bipush (v := (13 : Int32)) hx hb dX12_readsCondition_30 (by decide) ?_
    obtain ⟨r7, M8, h9, hf⟩ := bnd_s hf
    refine pcVi (As := [.int (13 : Int32)]) C hP hS (k := 0) (Nat.le_of_ble_eq_true rfl) (yd_0 _ _) rfl (c12_opens  h9) y12_opens_w g_1349 rfl rfl rfl ⟨Nat.le_of_ble_eq_true rfl, Nat.le_of_ble_eq_true rfl⟩ hl.1 rfl (Nat.le_of_ble_eq_true rfl) dX12_readsCondition_32 ⟨Nat.le_of_ble_eq_true rfl, Nat.le_of_ble_eq_true rfl⟩ (fun H locs hP hS => ?_)
    refine lv_if_ne (tgt := 40) hx hb dX12_readsCondition_35 (by decide) (fun c10 => ?_) (fun c10 => ?_)
    · replace hf := ite_f c10 hf
      exact w12_readsCondition_40 (n := n)  C hr hk q40 q92 hf hP hS (lv_sub hl [0] rfl)
    · replace hf := ite_t c10 hf
      refine lv_iconst (v := (0 : Int32)) hx hb dX12_readsCondition_38 (by decide) ?_
      exact prZ C hr hk hP hS hf rfl dX12_readsCondition_39
  · replace hf := ite_f c4 hf
    refine lv_aload_n hx hb dX12_readsCondition_9 rfl (lv_at hl 0 rfl) ?_
    refine lv_iconst (v := (1 : Int32)) hx hb dX12_readsCondition_10 (by decide) ?_
    refine lv_aload_n hx hb dX12_readsCondition_11 rfl (lv_at hl 0 rfl) ?_
    refine pg C hP (k := 0) (j := 12) (Nat.le_of_ble_eq_true rfl) (yd_0 _ _) rfl iw_12 (Nat.le_of_ble_eq_true rfl) g_1147 rfl rfl dX12_readsCondition_12 ?_
    obtain ⟨r11, M12, h13, hf⟩ := bnd_s hf
    refine pcVi (As := [.int (1 : Int32), .int (M2.1 0 12)]) C hP hS (k := 0) (Nat.le_of_ble_eq_true rfl) (yd_0 _ _) rfl (c12_wrongAt  h13) y12_wrongAt_w g_1337 rfl rfl rfl ⟨Nat.le_of_ble_eq_true rfl, Nat.le_of_ble_eq_true rfl⟩ hl.1 rfl (Nat.le_of_ble_eq_true rfl) dX12_readsCondition_15 ⟨Nat.le_of_ble_eq_true rfl, Nat.le_of_ble_eq_true rfl⟩ (fun H locs hP hS => ?_)
    have h14 := chk_1 hf
    replace hf := chk_2 hf
    exact prZ C hr hk hP hS hf (isb_n h14) dX12_readsCondition_18
set_option maxHeartbeats 4000000 in
set_option maxRecDepth 100000 in
theorem l12_readsCondition {p : Program} {l : Launch} {e : Env} {s : State} {m : MethodId} {args : Array Value} {below : List Frame} {meth : Method} {c : Code} {z : Zt} {b : Nat}  (C : Cx p s m args c cX12_readsCondition 1 RX12 z 32 b) (hr : meth.sig.returnType = (some .boolean)) (hk : meth.locks = false) {r : Int32} {M' : Mem} (n : Nat) : (∀  (M : Mem) (H : Heap) (locs : List Loc) (ls : Array Slot), (r12_readsCondition  n) 40 [] [] M = some (r, M') → va_P z.1 vwCl (pw (yd z b) 32 b M) H → va_S (pA 32 b) s.heap H locs → lv_has ls 1 [(0, .ref (b + 0))] → W p l e rm12_readsCondition s m args below meth c H locs 0 0 (MQ below (va_Qi (fun (r' : Int32) (M2 : Mem) => r' = r ∧ M2 = M') (fun M2 t => va_P z.1 vwCl (pw (yd z b) 32 b M2) t.heap) (pA 32 b)) args s 0 0 (pA 32 b)) (F0 m 40 ls [])) ∧ (∀  (M : Mem) (H : Heap) (locs : List Loc) (ls : Array Slot), (r12_readsCondition  n) 92 [] [] M = some (r, M') → va_P z.1 vwCl (pw (yd z b) 32 b M) H → va_S (pA 32 b) s.heap H locs → lv_has ls 1 [(0, .ref (b + 0))] → W p l e rm12_readsCondition s m args below meth c H locs 0 0 (MQ below (va_Qi (fun (r' : Int32) (M2 : Mem) => r' = r ∧ M2 = M') (fun M2 t => va_P z.1 vwCl (pw (yd z b) 32 b M2) t.heap) (pA 32 b)) args s 0 0 (pA 32 b)) (F0 m 92 ls [])) := by
  induction n with
  | zero => exact ⟨fun  _ _ _ _ hf => (by cases hf), fun  _ _ _ _ hf => (by cases hf)⟩
  | succ n ih => exact ⟨fun  _ _ _ _ hf hP hS hl => w12_readsCondition_40 (n := n)  C hr hk ih.1 ih.2 ((e12_readsCondition_40  n  _).symm.trans hf) hP hS hl, fun  _ _ _ _ hf hP hS hl => w12_readsCondition_92 (n := n)  C hr hk ih.1 ih.2 ((e12_readsCondition_92  n  _).symm.trans hf) hP hS hl⟩
theorem c12_readsCondition {l : Launch} {z : Zt} {b n : Nat}   {M M' : Mem} {r : Int32} (hf : f12_readsCondition n   M = some (r, M')) : CI l z (yd z b) 32 b yX12_readsCondition cX12_readsCondition 1 (some .boolean) rm12_readsCondition [.ref (b + 0)] M M' r :=
  CI.ofW (lv := [(0, .ref (b + 0))]) (by decide) (Nat.le_of_ble_eq_true rfl) rfl (fun p e s m args below meth c ls C hr hk hP hS hl => w12_readsCondition_0 (n := n)  C hr hk (l12_readsCondition  C hr hk n).1 (l12_readsCondition  C hr hk n).2 hf hP hS hl)

-- BronzeKingModel.readsRule()Z
theorem dX12_readsRule_0 : decode cX12_readsRule 0 = .ok (.aload_n 0, 1) := by decide +kernel
theorem dX12_readsRule_1 : decode cX12_readsRule 1 = .ok (.invokevirtual 149, 3) := by decide +kernel
theorem dX12_readsRule_4 : decode cX12_readsRule 4 = .ok (.istore_n 1, 1) := by decide +kernel
theorem dX12_readsRule_5 : decode cX12_readsRule 5 = .ok (.iload_n 1, 1) := by decide +kernel
theorem dX12_readsRule_6 : decode cX12_readsRule 6 = .ok (.bipush 99, 2) := by decide +kernel
theorem dX12_readsRule_8 : decode cX12_readsRule 8 = .ok (.if_icmp .eq 25, 3) := by decide +kernel
theorem dX12_readsRule_11 : decode cX12_readsRule 11 = .ok (.iload_n 1, 1) := by decide +kernel
theorem dX12_readsRule_12 : decode cX12_readsRule 12 = .ok (.bipush 101, 2) := by decide +kernel
theorem dX12_readsRule_14 : decode cX12_readsRule 14 = .ok (.if_icmp .eq 19, 3) := by decide +kernel
theorem dX12_readsRule_17 : decode cX12_readsRule 17 = .ok (.iload_n 1, 1) := by decide +kernel
theorem dX12_readsRule_18 : decode cX12_readsRule 18 = .ok (.bipush 115, 2) := by decide +kernel
theorem dX12_readsRule_20 : decode cX12_readsRule 20 = .ok (.if_icmp .eq 13, 3) := by decide +kernel
theorem dX12_readsRule_23 : decode cX12_readsRule 23 = .ok (.aload_n 0, 1) := by decide +kernel
theorem dX12_readsRule_24 : decode cX12_readsRule 24 = .ok (.iconst 1, 1) := by decide +kernel
theorem dX12_readsRule_25 : decode cX12_readsRule 25 = .ok (.aload_n 0, 1) := by decide +kernel
theorem dX12_readsRule_26 : decode cX12_readsRule 26 = .ok (.getfield 143, 3) := by decide +kernel
theorem dX12_readsRule_29 : decode cX12_readsRule 29 = .ok (.invokevirtual 156, 3) := by decide +kernel
theorem dX12_readsRule_32 : decode cX12_readsRule 32 = .ok (.ireturn, 1) := by decide +kernel
theorem dX12_readsRule_33 : decode cX12_readsRule 33 = .ok (.aload_n 0, 1) := by decide +kernel
theorem dX12_readsRule_34 : decode cX12_readsRule 34 = .ok (.getfield 221, 3) := by decide +kernel
theorem dX12_readsRule_37 : decode cX12_readsRule 37 = .ok (.bipush 16, 2) := by decide +kernel
theorem dX12_readsRule_39 : decode cX12_readsRule 39 = .ok (.if_icmp .ne 13, 3) := by decide +kernel
theorem dX12_readsRule_42 : decode cX12_readsRule 42 = .ok (.aload_n 0, 1) := by decide +kernel
theorem dX12_readsRule_43 : decode cX12_readsRule 43 = .ok (.iconst 4, 1) := by decide +kernel
theorem dX12_readsRule_44 : decode cX12_readsRule 44 = .ok (.aload_n 0, 1) := by decide +kernel
theorem dX12_readsRule_45 : decode cX12_readsRule 45 = .ok (.getfield 143, 3) := by decide +kernel
theorem dX12_readsRule_48 : decode cX12_readsRule 48 = .ok (.invokevirtual 156, 3) := by decide +kernel
theorem dX12_readsRule_51 : decode cX12_readsRule 51 = .ok (.ireturn, 1) := by decide +kernel
theorem dX12_readsRule_52 : decode cX12_readsRule 52 = .ok (.aload_n 0, 1) := by decide +kernel
theorem dX12_readsRule_53 : decode cX12_readsRule 53 = .ok (.getfield 41, 3) := by decide +kernel
theorem dX12_readsRule_56 : decode cX12_readsRule 56 = .ok (.aload_n 0, 1) := by decide +kernel
theorem dX12_readsRule_57 : decode cX12_readsRule 57 = .ok (.getfield 221, 3) := by decide +kernel
theorem dX12_readsRule_60 : decode cX12_readsRule 60 = .ok (.iload_n 1, 1) := by decide +kernel
theorem dX12_readsRule_61 : decode cX12_readsRule 61 = .ok (.iastore, 1) := by decide +kernel
theorem dX12_readsRule_62 : decode cX12_readsRule 62 = .ok (.aload_n 0, 1) := by decide +kernel
theorem dX12_readsRule_63 : decode cX12_readsRule 63 = .ok (.aload_n 0, 1) := by decide +kernel
theorem dX12_readsRule_64 : decode cX12_readsRule 64 = .ok (.getfield 143, 3) := by decide +kernel
theorem dX12_readsRule_67 : decode cX12_readsRule 67 = .ok (.iconst 1, 1) := by decide +kernel
theorem dX12_readsRule_68 : decode cX12_readsRule 68 = .ok (.iadd, 1) := by decide +kernel
theorem dX12_readsRule_69 : decode cX12_readsRule 69 = .ok (.putfield 143, 3) := by decide +kernel
theorem dX12_readsRule_72 : decode cX12_readsRule 72 = .ok (.aload_n 0, 1) := by decide +kernel
theorem dX12_readsRule_73 : decode cX12_readsRule 73 = .ok (.getfield 44, 3) := by decide +kernel
theorem dX12_readsRule_76 : decode cX12_readsRule 76 = .ok (.aload_n 0, 1) := by decide +kernel
theorem dX12_readsRule_77 : decode cX12_readsRule 77 = .ok (.getfield 221, 3) := by decide +kernel
theorem dX12_readsRule_80 : decode cX12_readsRule 80 = .ok (.aload_n 0, 1) := by decide +kernel
theorem dX12_readsRule_81 : decode cX12_readsRule 81 = .ok (.getfield 166, 3) := by decide +kernel
theorem dX12_readsRule_84 : decode cX12_readsRule 84 = .ok (.iastore, 1) := by decide +kernel
theorem dX12_readsRule_85 : decode cX12_readsRule 85 = .ok (.aload_n 0, 1) := by decide +kernel
theorem dX12_readsRule_86 : decode cX12_readsRule 86 = .ok (.iconst 0, 1) := by decide +kernel
theorem dX12_readsRule_87 : decode cX12_readsRule 87 = .ok (.putfield 170, 3) := by decide +kernel
theorem dX12_readsRule_90 : decode cX12_readsRule 90 = .ok (.aload_n 0, 1) := by decide +kernel
theorem dX12_readsRule_91 : decode cX12_readsRule 91 = .ok (.iconst 0, 1) := by decide +kernel
theorem dX12_readsRule_92 : decode cX12_readsRule 92 = .ok (.putfield 173, 3) := by decide +kernel
theorem dX12_readsRule_95 : decode cX12_readsRule 95 = .ok (.iload_n 1, 1) := by decide +kernel
theorem dX12_readsRule_96 : decode cX12_readsRule 96 = .ok (.bipush 115, 2) := by decide +kernel
theorem dX12_readsRule_98 : decode cX12_readsRule 98 = .ok (.if_icmp .eq 12, 3) := by decide +kernel
theorem dX12_readsRule_101 : decode cX12_readsRule 101 = .ok (.aload_n 0, 1) := by decide +kernel
theorem dX12_readsRule_102 : decode cX12_readsRule 102 = .ok (.invokevirtual 206, 3) := by decide +kernel
theorem dX12_readsRule_105 : decode cX12_readsRule 105 = .ok (.ifCond .ne 5, 3) := by decide +kernel
theorem dX12_readsRule_108 : decode cX12_readsRule 108 = .ok (.iconst 0, 1) := by decide +kernel
theorem dX12_readsRule_109 : decode cX12_readsRule 109 = .ok (.ireturn, 1) := by decide +kernel
theorem dX12_readsRule_110 : decode cX12_readsRule 110 = .ok (.aload_n 0, 1) := by decide +kernel
theorem dX12_readsRule_111 : decode cX12_readsRule 111 = .ok (.getfield 47, 3) := by decide +kernel
theorem dX12_readsRule_114 : decode cX12_readsRule 114 = .ok (.aload_n 0, 1) := by decide +kernel
theorem dX12_readsRule_115 : decode cX12_readsRule 115 = .ok (.getfield 221, 3) := by decide +kernel
theorem dX12_readsRule_118 : decode cX12_readsRule 118 = .ok (.aload_n 0, 1) := by decide +kernel
theorem dX12_readsRule_119 : decode cX12_readsRule 119 = .ok (.getfield 166, 3) := by decide +kernel
theorem dX12_readsRule_122 : decode cX12_readsRule 122 = .ok (.iastore, 1) := by decide +kernel
theorem dX12_readsRule_123 : decode cX12_readsRule 123 = .ok (.aload_n 0, 1) := by decide +kernel
theorem dX12_readsRule_124 : decode cX12_readsRule 124 = .ok (.invokevirtual 224, 3) := by decide +kernel
theorem dX12_readsRule_127 : decode cX12_readsRule 127 = .ok (.ifCond .ne 5, 3) := by decide +kernel
theorem dX12_readsRule_130 : decode cX12_readsRule 130 = .ok (.iconst 0, 1) := by decide +kernel
theorem dX12_readsRule_131 : decode cX12_readsRule 131 = .ok (.ireturn, 1) := by decide +kernel
theorem dX12_readsRule_132 : decode cX12_readsRule 132 = .ok (.aload_n 0, 1) := by decide +kernel
theorem dX12_readsRule_133 : decode cX12_readsRule 133 = .ok (.getfield 50, 3) := by decide +kernel
theorem dX12_readsRule_136 : decode cX12_readsRule 136 = .ok (.aload_n 0, 1) := by decide +kernel
theorem dX12_readsRule_137 : decode cX12_readsRule 137 = .ok (.getfield 221, 3) := by decide +kernel
theorem dX12_readsRule_140 : decode cX12_readsRule 140 = .ok (.aload_n 0, 1) := by decide +kernel
theorem dX12_readsRule_141 : decode cX12_readsRule 141 = .ok (.getfield 166, 3) := by decide +kernel
theorem dX12_readsRule_144 : decode cX12_readsRule 144 = .ok (.iastore, 1) := by decide +kernel
theorem dX12_readsRule_145 : decode cX12_readsRule 145 = .ok (.aload_n 0, 1) := by decide +kernel
theorem dX12_readsRule_146 : decode cX12_readsRule 146 = .ok (.aload_n 0, 1) := by decide +kernel
theorem dX12_readsRule_147 : decode cX12_readsRule 147 = .ok (.getfield 221, 3) := by decide +kernel
theorem dX12_readsRule_150 : decode cX12_readsRule 150 = .ok (.iconst 1, 1) := by decide +kernel
theorem dX12_readsRule_151 : decode cX12_readsRule 151 = .ok (.iadd, 1) := by decide +kernel
theorem dX12_readsRule_152 : decode cX12_readsRule 152 = .ok (.putfield 221, 3) := by decide +kernel
theorem dX12_readsRule_155 : decode cX12_readsRule 155 = .ok (.iconst 1, 1) := by decide +kernel
theorem dX12_readsRule_156 : decode cX12_readsRule 156 = .ok (.ireturn, 1) := by decide +kernel
def b12_readsRule_110 (rc : Nat → List Int32 → List Int64 → Mem → Option (Int32 × Mem)) (n : Nat) (M : Mem) : Option (Int32 × Mem) :=
  chk (inb (M.1 0 19) 16) <|
  lt (wI M 13 (M.1 0 19).toNatClampNeg (M.1 0 17)) fun M29 =>
  bnd (f12_readsCondition n M29) fun r30 M31 =>
  (if r30 = 0 then (
   some ((0 : Int32), M31))
  else (
   chk (inb (M31.1 0 19) 16) <|
   lt (wI M31 14 (M31.1 0 19).toNatClampNeg (M31.1 0 17)) fun M35 =>
   lt (wI M35 0 19 ((M35.1 0 19) + (1 : Int32))) fun M36 =>
   some ((1 : Int32), M36)))
def b12_readsRule_33 (rc : Nat → List Int32 → List Int64 → Mem → Option (Int32 × Mem)) (n : Nat) (i1 : Int32) (M : Mem) : Option (Int32 × Mem) :=
  (if (M.1 0 19) = (16 : Int32) then (
   bnd (f12_wrongAt n (4 : Int32) (M.1 0 12) M) fun r24 M25 =>
   chk (isb r24) <|
   some (r24, M25))
  else (
   chk (inb (M.1 0 19) 16) <|
   lt (wI M 11 (M.1 0 19).toNatClampNeg i1) fun M13 =>
   lt (wI M13 0 12 ((M13.1 0 12) + (1 : Int32))) fun M14 =>
   chk (inb (M14.1 0 19) 16) <|
   lt (wI M14 12 (M14.1 0 19).toNatClampNeg (M14.1 0 17)) fun M16 =>
   lt (wI M16 0 16 (0 : Int32)) fun M17 =>
   lt (wI M17 0 18 (0 : Int32)) fun M18 =>
   (if i1 = (115 : Int32) then (
    b12_readsRule_110  rc n  M18)
   else (
    bnd (f12_readsSum n M18) fun r20 M21 =>
    (if r20 = 0 then (
     some ((0 : Int32), M21))
    else (
     b12_readsRule_110  rc n  M21))))))
def b12_readsRule_0 (rc : Nat → List Int32 → List Int64 → Mem → Option (Int32 × Mem)) (n : Nat) (M : Mem) : Option (Int32 × Mem) :=
  bnd (f12_here n M) fun r1 M2 =>
  (if r1 = (99 : Int32) then (
   b12_readsRule_33  rc n r1 M2)
  else (
   (if r1 = (101 : Int32) then (
    b12_readsRule_33  rc n r1 M2)
   else (
    (if r1 = (115 : Int32) then (
     b12_readsRule_33  rc n r1 M2)
    else (
     bnd (f12_wrongAt n (1 : Int32) (M2.1 0 12) M2) fun r7 M8 =>
     chk (isb r7) <|
     some (r7, M8)))))))
def f12_readsRule (n : Nat)  (M : Mem) : Option (Int32 × Mem) := b12_readsRule_0 (fun _ _ _ _ => none) n M
abbrev rm12_readsRule : Room := { frames := 7, cells := 0, slots := 0, locals := 145 }
theorem y12_readsRule_w : yV RX12 yX12_readsRule cX12_readsRule 2 (some .boolean) 0 := ⟨g_1331, gp 38 rfl rfl, g_14, g_1332, rfl, by decide, by decide, by decide +kernel⟩
set_option maxHeartbeats 4000000 in
set_option maxRecDepth 100000 in
theorem w12_readsRule_110 {p : Program} {l : Launch} {e : Env} {s : State} {m : MethodId} {args : Array Value} {below : List Frame} {meth : Method} {c : Code} {z : Zt} {b : Nat}  (C : Cx p s m args c cX12_readsRule 2 RX12 z 32 b) (hr : meth.sig.returnType = (some .boolean)) (hk : meth.locks = false) {r : Int32} {M' : Mem} {rc : Nat → List Int32 → List Int64 → Mem → Option (Int32 × Mem)} {n : Nat}   {M : Mem} {H : Heap} {locs : List Loc} {ls : Array Slot} (hf : b12_readsRule_110  rc n  M = some (r, M')) (hP : va_P z.1 vwCl (pw (yd z b) 32 b M) H) (hS : va_S (pA 32 b) s.heap H locs) (hl : lv_has ls 2 [(0, .ref (b + 0))]) : W p l e rm12_readsRule s m args below meth c H locs 0 0 (MQ below (va_Qi (fun (r' : Int32) (M2 : Mem) => r' = r ∧ M2 = M') (fun M2 t => va_P z.1 vwCl (pw (yd z b) 32 b M2) t.heap) (pA 32 b)) args s 0 0 (pA 32 b)) (F0 m 110 ls []) := by
  have hx := C.1.1
  have hb := C.1.2.1
  unfold b12_readsRule_110 at hf
  refine lv_aload_n hx hb dX12_readsRule_110 rfl (lv_at hl 0 rfl) ?_
  refine pg C hP (k := 0) (j := 25) (Nat.le_of_ble_eq_true rfl) (yd_0 _ _) rfl iw_12 (Nat.le_of_ble_eq_true rfl) g_1160 rfl rfl dX12_readsRule_111 ?_
  refine lv_aload_n hx hb dX12_readsRule_114 rfl (lv_at hl 0 rfl) ?_
  refine pg C hP (k := 0) (j := 19) (Nat.le_of_ble_eq_true rfl) (yd_0 _ _) rfl iw_12 (Nat.le_of_ble_eq_true rfl) g_1154 rfl rfl dX12_readsRule_115 ?_
  refine lv_aload_n hx hb dX12_readsRule_118 rfl (lv_at hl 0 rfl) ?_
  refine pg C hP (k := 0) (j := 17) (Nat.le_of_ble_eq_true rfl) (yd_0 _ _) rfl iw_12 (Nat.le_of_ble_eq_true rfl) g_1152 rfl rfl dX12_readsRule_119 ?_
  have h28 := chk_1 hf
  replace hf := chk_2 hf
  refine psI C hP hS (k := 13) (Nat.le_of_ble_eq_true rfl) (yd_13) h28 dX12_readsRule_122 (fun M29 H locs eM29 hP hS => ?_)
  replace hf := lt_c eM29 hf
  refine lv_aload_n hx hb dX12_readsRule_123 rfl (lv_at hl 0 rfl) ?_
  obtain ⟨r30, M31, h32, hf⟩ := bnd_s hf
  refine pcVi (As := []) C hP hS (k := 0) (Nat.le_of_ble_eq_true rfl) (yd_0 _ _) rfl (c12_readsCondition  h32) y12_readsCondition_w g_1384 rfl rfl rfl ⟨Nat.le_of_ble_eq_true rfl, Nat.le_of_ble_eq_true rfl⟩ hl.1 rfl (Nat.le_of_ble_eq_true rfl) dX12_readsRule_124 ⟨Nat.le_of_ble_eq_true rfl, Nat.le_of_ble_eq_true rfl⟩ (fun H locs hP hS => ?_)
  refine lv_if_ne (tgt := 132) hx hb dX12_readsRule_127 (by decide) (fun c33 => ?_) (fun c33 => ?_)
  · replace hf := ite_f c33 hf
    refine lv_aload_n hx hb dX12_readsRule_132 rfl (lv_at hl 0 rfl) ?_
    refine pg C hP (k := 0) (j := 26) (Nat.le_of_ble_eq_true rfl) (yd_0 _ _) rfl iw_12 (Nat.le_of_ble_eq_true rfl) g_1161 rfl rfl dX12_readsRule_133 ?_
    refine lv_aload_n hx hb dX12_readsRule_136 rfl (lv_at hl 0 rfl) ?_
    refine pg C hP (k := 0) (j := 19) (Nat.le_of_ble_eq_true rfl) (yd_0 _ _) rfl iw_12 (Nat.le_of_ble_eq_true rfl) g_1154 rfl rfl dX12_readsRule_137 ?_
    refine lv_aload_n hx hb dX12_readsRule_140 rfl (lv_at hl 0 rfl) ?_
    refine pg C hP (k := 0) (j := 17) (Nat.le_of_ble_eq_true rfl) (yd_0 _ _) rfl iw_12 (Nat.le_of_ble_eq_true rfl) g_1152 rfl rfl dX12_readsRule_141 ?_
    have h34 := chk_1 hf
    replace hf := chk_2 hf
    refine psI C hP hS (k := 14) (Nat.le_of_ble_eq_true rfl) (yd_14) h34 dX12_readsRule_144 (fun M35 H locs eM35 hP hS => ?_)
    replace hf := lt_c eM35 hf
    refine lv_aload_n hx hb dX12_readsRule_145 rfl (lv_at hl 0 rfl) ?_
    refine lv_aload_n hx hb dX12_readsRule_146 rfl (lv_at hl 0 rfl) ?_
    refine pg C hP (k := 0) (j := 19) (Nat.le_of_ble_eq_true rfl) (yd_0 _ _) rfl iw_12 (Nat.le_of_ble_eq_true rfl) g_1154 rfl rfl dX12_readsRule_147 ?_
    refine lv_iconst (v := (1 : Int32)) hx hb dX12_readsRule_150 (by decide) ?_
    refine lv_iadd hx hb dX12_readsRule_151 ?_
    refine ppI C hP hS (k := 0) (j := 19) (ty := .int) (Nat.le_of_ble_eq_true rfl) (yd_0 _ _) rfl iw_12 tyX12 tyX12_ok nmX12 (Nat.le_of_ble_eq_true rfl) g_1154 rfl rfl (by decide +kernel) rfl rfl (Nat.le_of_ble_eq_true rfl) (yu_0_19 _ _ _) dX12_readsRule_152 (fun M36 H locs eM36 hP hS => ?_)
    replace hf := lt_c eM36 hf
    refine lv_iconst (v := (1 : Int32)) hx hb dX12_readsRule_155 (by decide) ?_
    exact prZ C hr hk hP hS hf rfl dX12_readsRule_156
  · replace hf := ite_t c33 hf
    refine lv_iconst (v := (0 : Int32)) hx hb dX12_readsRule_130 (by decide) ?_
    exact prZ C hr hk hP hS hf rfl dX12_readsRule_131
set_option maxHeartbeats 4000000 in
set_option maxRecDepth 100000 in
theorem w12_readsRule_33 {p : Program} {l : Launch} {e : Env} {s : State} {m : MethodId} {args : Array Value} {below : List Frame} {meth : Method} {c : Code} {z : Zt} {b : Nat}  (C : Cx p s m args c cX12_readsRule 2 RX12 z 32 b) (hr : meth.sig.returnType = (some .boolean)) (hk : meth.locks = false) {r : Int32} {M' : Mem} {rc : Nat → List Int32 → List Int64 → Mem → Option (Int32 × Mem)} {n : Nat}  {i1 : Int32} {M : Mem} {H : Heap} {locs : List Loc} {ls : Array Slot} (hf : b12_readsRule_33  rc n i1 M = some (r, M')) (hP : va_P z.1 vwCl (pw (yd z b) 32 b M) H) (hS : va_S (pA 32 b) s.heap H locs) (hl : lv_has ls 2 [(0, .ref (b + 0)), (1, .int i1)]) : W p l e rm12_readsRule s m args below meth c H locs 0 0 (MQ below (va_Qi (fun (r' : Int32) (M2 : Mem) => r' = r ∧ M2 = M') (fun M2 t => va_P z.1 vwCl (pw (yd z b) 32 b M2) t.heap) (pA 32 b)) args s 0 0 (pA 32 b)) (F0 m 33 ls []) := by
  have hx := C.1.1
  have hb := C.1.2.1
  unfold b12_readsRule_33 at hf
  refine lv_aload_n hx hb dX12_readsRule_33 rfl (lv_at hl 0 rfl) ?_
  refine pg C hP (k := 0) (j := 19) (Nat.le_of_ble_eq_true rfl) (yd_0 _ _) rfl iw_12 (Nat.le_of_ble_eq_true rfl) g_1154 rfl rfl dX12_readsRule_34 ?_
  refine lv_bipush (v := (16 : Int32)) hx hb dX12_readsRule_37 (by decide) ?_
  refine lv_icmp_ne (tgt := 52) hx hb dX12_readsRule_39 (by decide) (fun c11 => ?_) (fun c11 => ?_)
  · replace hf := ite_f c11 hf
    refine lv_aload_n hx hb dX12_readsRule_52 rfl (lv_at hl 0 rfl) ?_
    refine pg C hP (k := 0) (j := 23) (Nat.le_of_ble_eq_true rfl) (yd_0 _ _) rfl iw_12 (Nat.le_of_ble_eq_true rfl) g_1158 rfl rfl dX12_readsRule_53 ?_
    refine lv_aload_n hx hb dX12_readsRule_56 rfl (lv_at hl 0 rfl) ?_
    refine pg C hP (k := 0) (j := 19) (Nat.le_of_ble_eq_true rfl) (yd_0 _ _) rfl iw_12 (Nat.le_of_ble_eq_true rfl) g_1154 rfl rfl dX12_readsRule_57 ?_
    refine lv_iload_n hx hb dX12_readsRule_60 rfl (lv_at hl 1 rfl) ?_
    have h12 := chk_1 hf
    replace hf := chk_2 hf
    refine psI C hP hS (k := 11) (Nat.le_of_ble_eq_true rfl) (yd_11) h12 dX12_readsRule_61 (fun M13 H locs eM13 hP hS => ?_)
    replace hf := lt_c eM13 hf
    refine lv_aload_n hx hb dX12_readsRule_62 rfl (lv_at hl 0 rfl) ?_
    refine lv_aload_n hx hb dX12_readsRule_63 rfl (lv_at hl 0 rfl) ?_
    refine pg C hP (k := 0) (j := 12) (Nat.le_of_ble_eq_true rfl) (yd_0 _ _) rfl iw_12 (Nat.le_of_ble_eq_true rfl) g_1147 rfl rfl dX12_readsRule_64 ?_
    refine lv_iconst (v := (1 : Int32)) hx hb dX12_readsRule_67 (by decide) ?_
    refine lv_iadd hx hb dX12_readsRule_68 ?_
    refine ppI C hP hS (k := 0) (j := 12) (ty := .int) (Nat.le_of_ble_eq_true rfl) (yd_0 _ _) rfl iw_12 tyX12 tyX12_ok nmX12 (Nat.le_of_ble_eq_true rfl) g_1147 rfl rfl (by decide +kernel) rfl rfl (Nat.le_of_ble_eq_true rfl) (yu_0_12 _ _ _) dX12_readsRule_69 (fun M14 H locs eM14 hP hS => ?_)
    replace hf := lt_c eM14 hf
    refine lv_aload_n hx hb dX12_readsRule_72 rfl (lv_at hl 0 rfl) ?_
    refine pg C hP (k := 0) (j := 24) (Nat.le_of_ble_eq_true rfl) (yd_0 _ _) rfl iw_12 (Nat.le_of_ble_eq_true rfl) g_1159 rfl rfl dX12_readsRule_73 ?_
    refine lv_aload_n hx hb dX12_readsRule_76 rfl (lv_at hl 0 rfl) ?_
    refine pg C hP (k := 0) (j := 19) (Nat.le_of_ble_eq_true rfl) (yd_0 _ _) rfl iw_12 (Nat.le_of_ble_eq_true rfl) g_1154 rfl rfl dX12_readsRule_77 ?_
    refine lv_aload_n hx hb dX12_readsRule_80 rfl (lv_at hl 0 rfl) ?_
    refine pg C hP (k := 0) (j := 17) (Nat.le_of_ble_eq_true rfl) (yd_0 _ _) rfl iw_12 (Nat.le_of_ble_eq_true rfl) g_1152 rfl rfl dX12_readsRule_81 ?_
    have h15 := chk_1 hf
    replace hf := chk_2 hf
    refine psI C hP hS (k := 12) (Nat.le_of_ble_eq_true rfl) (yd_12) h15 dX12_readsRule_84 (fun M16 H locs eM16 hP hS => ?_)
    replace hf := lt_c eM16 hf
    refine lv_aload_n hx hb dX12_readsRule_85 rfl (lv_at hl 0 rfl) ?_
    refine lv_iconst (v := (0 : Int32)) hx hb dX12_readsRule_86 (by decide) ?_
    refine ppI C hP hS (k := 0) (j := 16) (ty := .int) (Nat.le_of_ble_eq_true rfl) (yd_0 _ _) rfl iw_12 tyX12 tyX12_ok nmX12 (Nat.le_of_ble_eq_true rfl) g_1151 rfl rfl (by decide +kernel) rfl rfl (Nat.le_of_ble_eq_true rfl) (yu_0_16 _ _ _) dX12_readsRule_87 (fun M17 H locs eM17 hP hS => ?_)
    replace hf := lt_c eM17 hf
    refine lv_aload_n hx hb dX12_readsRule_90 rfl (lv_at hl 0 rfl) ?_
    refine lv_iconst (v := (0 : Int32)) hx hb dX12_readsRule_91 (by decide) ?_
    refine ppI C hP hS (k := 0) (j := 18) (ty := .int) (Nat.le_of_ble_eq_true rfl) (yd_0 _ _) rfl iw_12 tyX12 tyX12_ok nmX12 (Nat.le_of_ble_eq_true rfl) g_1153 rfl rfl (by decide +kernel) rfl rfl (Nat.le_of_ble_eq_true rfl) (yu_0_18 _ _ _) dX12_readsRule_92 (fun M18 H locs eM18 hP hS => ?_)
    replace hf := lt_c eM18 hf
    refine lv_iload_n hx hb dX12_readsRule_95 rfl (lv_at hl 1 rfl) ?_
    refine lv_bipush (v := (115 : Int32)) hx hb dX12_readsRule_96 (by decide) ?_
    refine lv_icmp_eq (tgt := 110) hx hb dX12_readsRule_98 (by decide) (fun c19 => ?_) (fun c19 => ?_)
    · replace hf := ite_t c19 hf
      exact w12_readsRule_110 (n := n)  C hr hk  hf hP hS (lv_sub hl [0] rfl)
    · replace hf := ite_f c19 hf
      refine lv_aload_n hx hb dX12_readsRule_101 rfl (lv_at hl 0 rfl) ?_
      obtain ⟨r20, M21, h22, hf⟩ := bnd_s hf
      refine pcVi (As := []) C hP hS (k := 0) (Nat.le_of_ble_eq_true rfl) (yd_0 _ _) rfl (c12_readsSum  h22) y12_readsSum_w g_1341 rfl rfl rfl ⟨Nat.le_of_ble_eq_true rfl, Nat.le_of_ble_eq_true rfl⟩ hl.1 rfl (Nat.le_of_ble_eq_true rfl) dX12_readsRule_102 ⟨Nat.le_of_ble_eq_true rfl, Nat.le_of_ble_eq_true rfl⟩ (fun H locs hP hS => ?_)
      refine lv_if_ne (tgt := 110) hx hb dX12_readsRule_105 (by decide) (fun c23 => ?_) (fun c23 => ?_)
      · replace hf := ite_f c23 hf
        exact w12_readsRule_110 (n := n)  C hr hk  hf hP hS (lv_sub hl [0] rfl)
      · replace hf := ite_t c23 hf
        refine lv_iconst (v := (0 : Int32)) hx hb dX12_readsRule_108 (by decide) ?_
        exact prZ C hr hk hP hS hf rfl dX12_readsRule_109
  · replace hf := ite_t c11 hf
    refine lv_aload_n hx hb dX12_readsRule_42 rfl (lv_at hl 0 rfl) ?_
    refine lv_iconst (v := (4 : Int32)) hx hb dX12_readsRule_43 (by decide) ?_
    refine lv_aload_n hx hb dX12_readsRule_44 rfl (lv_at hl 0 rfl) ?_
    refine pg C hP (k := 0) (j := 12) (Nat.le_of_ble_eq_true rfl) (yd_0 _ _) rfl iw_12 (Nat.le_of_ble_eq_true rfl) g_1147 rfl rfl dX12_readsRule_45 ?_
    obtain ⟨r24, M25, h26, hf⟩ := bnd_s hf
    refine pcVi (As := [.int (4 : Int32), .int (M.1 0 12)]) C hP hS (k := 0) (Nat.le_of_ble_eq_true rfl) (yd_0 _ _) rfl (c12_wrongAt  h26) y12_wrongAt_w g_1337 rfl rfl rfl ⟨Nat.le_of_ble_eq_true rfl, Nat.le_of_ble_eq_true rfl⟩ hl.1 rfl (Nat.le_of_ble_eq_true rfl) dX12_readsRule_48 ⟨Nat.le_of_ble_eq_true rfl, Nat.le_of_ble_eq_true rfl⟩ (fun H locs hP hS => ?_)
    have h27 := chk_1 hf
    replace hf := chk_2 hf
    exact prZ C hr hk hP hS hf (isb_n h27) dX12_readsRule_51
set_option maxHeartbeats 4000000 in
set_option maxRecDepth 100000 in
theorem w12_readsRule_0 {p : Program} {l : Launch} {e : Env} {s : State} {m : MethodId} {args : Array Value} {below : List Frame} {meth : Method} {c : Code} {z : Zt} {b : Nat}  (C : Cx p s m args c cX12_readsRule 2 RX12 z 32 b) (hr : meth.sig.returnType = (some .boolean)) (hk : meth.locks = false) {r : Int32} {M' : Mem} {rc : Nat → List Int32 → List Int64 → Mem → Option (Int32 × Mem)} {n : Nat}   {M : Mem} {H : Heap} {locs : List Loc} {ls : Array Slot} (hf : b12_readsRule_0  rc n  M = some (r, M')) (hP : va_P z.1 vwCl (pw (yd z b) 32 b M) H) (hS : va_S (pA 32 b) s.heap H locs) (hl : lv_has ls 2 [(0, .ref (b + 0))]) : W p l e rm12_readsRule s m args below meth c H locs 0 0 (MQ below (va_Qi (fun (r' : Int32) (M2 : Mem) => r' = r ∧ M2 = M') (fun M2 t => va_P z.1 vwCl (pw (yd z b) 32 b M2) t.heap) (pA 32 b)) args s 0 0 (pA 32 b)) (F0 m 0 ls []) := by
  have hx := C.1.1
  have hb := C.1.2.1
  unfold b12_readsRule_0 at hf
  refine lv_aload_n hx hb dX12_readsRule_0 rfl (lv_at hl 0 rfl) ?_
  obtain ⟨r1, M2, h3, hf⟩ := bnd_s hf
  refine pcVi (As := []) C hP hS (k := 0) (Nat.le_of_ble_eq_true rfl) (yd_0 _ _) rfl (c12_here  h3) y12_here_w g_1333 rfl rfl rfl ⟨Nat.le_of_ble_eq_true rfl, Nat.le_of_ble_eq_true rfl⟩ hl.1 rfl (Nat.le_of_ble_eq_true rfl) dX12_readsRule_1 ⟨Nat.le_of_ble_eq_true rfl, Nat.le_of_ble_eq_true rfl⟩ (fun H locs hP hS => ?_)
  refine lv_istore_n (lv' := [(1, .int r1), (0, .ref (b + 0))]) hx hb dX12_readsRule_4 rfl hl (by decide) rfl (fun ls hl => ?_)
  refine lv_iload_n hx hb dX12_readsRule_5 rfl (lv_at hl 0 rfl) ?_
  refine lv_bipush (v := (99 : Int32)) hx hb dX12_readsRule_6 (by decide) ?_
  refine lv_icmp_eq (tgt := 33) hx hb dX12_readsRule_8 (by decide) (fun c4 => ?_) (fun c4 => ?_)
  · replace hf := ite_t c4 hf
    exact w12_readsRule_33 (n := n)  C hr hk  hf hP hS (lv_sub hl [1, 0] rfl)
  · replace hf := ite_f c4 hf
    refine lv_iload_n hx hb dX12_readsRule_11 rfl (lv_at hl 0 rfl) ?_
    refine lv_bipush (v := (101 : Int32)) hx hb dX12_readsRule_12 (by decide) ?_
    refine lv_icmp_eq (tgt := 33) hx hb dX12_readsRule_14 (by decide) (fun c5 => ?_) (fun c5 => ?_)
    · replace hf := ite_t c5 hf
      exact w12_readsRule_33 (n := n)  C hr hk  hf hP hS (lv_sub hl [1, 0] rfl)
    · replace hf := ite_f c5 hf
      refine lv_iload_n hx hb dX12_readsRule_17 rfl (lv_at hl 0 rfl) ?_
      refine lv_bipush (v := (115 : Int32)) hx hb dX12_readsRule_18 (by decide) ?_
      refine lv_icmp_eq (tgt := 33) hx hb dX12_readsRule_20 (by decide) (fun c6 => ?_) (fun c6 => ?_)
      · replace hf := ite_t c6 hf
        exact w12_readsRule_33 (n := n)  C hr hk  hf hP hS (lv_sub hl [1, 0] rfl)
      · replace hf := ite_f c6 hf
        refine lv_aload_n hx hb dX12_readsRule_23 rfl (lv_at hl 1 rfl) ?_
        refine lv_iconst (v := (1 : Int32)) hx hb dX12_readsRule_24 (by decide) ?_
        refine lv_aload_n hx hb dX12_readsRule_25 rfl (lv_at hl 1 rfl) ?_
        refine pg C hP (k := 0) (j := 12) (Nat.le_of_ble_eq_true rfl) (yd_0 _ _) rfl iw_12 (Nat.le_of_ble_eq_true rfl) g_1147 rfl rfl dX12_readsRule_26 ?_
        obtain ⟨r7, M8, h9, hf⟩ := bnd_s hf
        refine pcVi (As := [.int (1 : Int32), .int (M2.1 0 12)]) C hP hS (k := 0) (Nat.le_of_ble_eq_true rfl) (yd_0 _ _) rfl (c12_wrongAt  h9) y12_wrongAt_w g_1337 rfl rfl rfl ⟨Nat.le_of_ble_eq_true rfl, Nat.le_of_ble_eq_true rfl⟩ hl.1 rfl (Nat.le_of_ble_eq_true rfl) dX12_readsRule_29 ⟨Nat.le_of_ble_eq_true rfl, Nat.le_of_ble_eq_true rfl⟩ (fun H locs hP hS => ?_)
        have h10 := chk_1 hf
        replace hf := chk_2 hf
        exact prZ C hr hk hP hS hf (isb_n h10) dX12_readsRule_32
theorem c12_readsRule {l : Launch} {z : Zt} {b n : Nat}   {M M' : Mem} {r : Int32} (hf : f12_readsRule n   M = some (r, M')) : CI l z (yd z b) 32 b yX12_readsRule cX12_readsRule 2 (some .boolean) rm12_readsRule [.ref (b + 0)] M M' r :=
  CI.ofW (lv := [(0, .ref (b + 0))]) (by decide) (Nat.le_of_ble_eq_true rfl) rfl (fun p e s m args below meth c ls C hr hk hP hS hl => w12_readsRule_0 (n := n)  C hr hk  hf hP hS hl)

-- BronzeKingModel.beginsText(I)V
theorem dX12_beginsText_0 : decode cX12_beginsText 0 = .ok (.aload_n 0, 1) := by decide +kernel
theorem dX12_beginsText_1 : decode cX12_beginsText 1 = .ok (.iconst 0, 1) := by decide +kernel
theorem dX12_beginsText_2 : decode cX12_beginsText 2 = .ok (.putfield 143, 3) := by decide +kernel
theorem dX12_beginsText_5 : decode cX12_beginsText 5 = .ok (.aload_n 0, 1) := by decide +kernel
theorem dX12_beginsText_6 : decode cX12_beginsText 6 = .ok (.iload_n 1, 1) := by decide +kernel
theorem dX12_beginsText_7 : decode cX12_beginsText 7 = .ok (.putfield 146, 3) := by decide +kernel
theorem dX12_beginsText_10 : decode cX12_beginsText 10 = .ok (.aload_n 0, 1) := by decide +kernel
theorem dX12_beginsText_11 : decode cX12_beginsText 11 = .ok (.iconst 0, 1) := by decide +kernel
theorem dX12_beginsText_12 : decode cX12_beginsText 12 = .ok (.putfield 166, 3) := by decide +kernel
theorem dX12_beginsText_15 : decode cX12_beginsText 15 = .ok (.aload_n 0, 1) := by decide +kernel
theorem dX12_beginsText_16 : decode cX12_beginsText 16 = .ok (.iconst 0, 1) := by decide +kernel
theorem dX12_beginsText_17 : decode cX12_beginsText 17 = .ok (.putfield 221, 3) := by decide +kernel
theorem dX12_beginsText_20 : decode cX12_beginsText 20 = .ok (.return_, 1) := by decide +kernel
def b12_beginsText_0 (rc : Nat → List Int32 → List Int64 → Mem → Option (Unit × Mem)) (n : Nat) (a1 : Int32) (M : Mem) : Option (Unit × Mem) :=
  lt (wI M 0 12 (0 : Int32)) fun M1 =>
  lt (wI M1 0 13 a1) fun M2 =>
  lt (wI M2 0 17 (0 : Int32)) fun M3 =>
  lt (wI M3 0 19 (0 : Int32)) fun M4 =>
  some ((), M4)
def f12_beginsText (n : Nat) (a1 : Int32) (M : Mem) : Option (Unit × Mem) := b12_beginsText_0 (fun _ _ _ _ => none) n a1 M
abbrev rm12_beginsText : Room := { frames := 0, cells := 0, slots := 0, locals := 0 }
theorem y12_beginsText_w : yV RX12 yX12_beginsText cX12_beginsText 2 none 1 := ⟨g_1327, gp 37 rfl rfl, g_14, g_1328, rfl, by decide, by decide, by decide +kernel⟩
set_option maxHeartbeats 4000000 in
set_option maxRecDepth 100000 in
theorem w12_beginsText_0 {p : Program} {l : Launch} {e : Env} {s : State} {m : MethodId} {args : Array Value} {below : List Frame} {meth : Method} {c : Code} {z : Zt} {b : Nat}  (C : Cx p s m args c cX12_beginsText 2 RX12 z 32 b) (hr : meth.sig.returnType = none) (hk : meth.locks = false) {r : Unit} {M' : Mem} {rc : Nat → List Int32 → List Int64 → Mem → Option (Unit × Mem)} {n : Nat}  {a1 : Int32} {M : Mem} {H : Heap} {locs : List Loc} {ls : Array Slot} (hf : b12_beginsText_0  rc n a1 M = some (r, M')) (hP : va_P z.1 vwCl (pw (yd z b) 32 b M) H) (hS : va_S (pA 32 b) s.heap H locs) (hl : lv_has ls 2 [(0, .ref (b + 0)), (1, .int a1)]) : W p l e rm12_beginsText s m args below meth c H locs 0 0 (MQ below (va_Qv (fun (M2 : Mem) => M2 = M') (fun M2 t => va_P z.1 vwCl (pw (yd z b) 32 b M2) t.heap) (pA 32 b)) args s 0 0 (pA 32 b)) (F0 m 0 ls []) := by
  have hx := C.1.1
  have hb := C.1.2.1
  unfold b12_beginsText_0 at hf
  refine lv_aload_n hx hb dX12_beginsText_0 rfl (lv_at hl 0 rfl) ?_
  refine lv_iconst (v := (0 : Int32)) hx hb dX12_beginsText_1 (by decide) ?_
  refine ppI C hP hS (k := 0) (j := 12) (ty := .int) (Nat.le_of_ble_eq_true rfl) (yd_0 _ _) rfl iw_12 tyX12 tyX12_ok nmX12 (Nat.le_of_ble_eq_true rfl) g_1147 rfl rfl (by decide +kernel) rfl rfl (Nat.le_of_ble_eq_true rfl) (yu_0_12 _ _ _) dX12_beginsText_2 (fun M1 H locs eM1 hP hS => ?_)
  replace hf := lt_c eM1 hf
  refine lv_aload_n hx hb dX12_beginsText_5 rfl (lv_at hl 0 rfl) ?_
  refine lv_iload_n hx hb dX12_beginsText_6 rfl (lv_at hl 1 rfl) ?_
  refine ppI C hP hS (k := 0) (j := 13) (ty := .int) (Nat.le_of_ble_eq_true rfl) (yd_0 _ _) rfl iw_12 tyX12 tyX12_ok nmX12 (Nat.le_of_ble_eq_true rfl) g_1148 rfl rfl (by decide +kernel) rfl rfl (Nat.le_of_ble_eq_true rfl) (yu_0_13 _ _ _) dX12_beginsText_7 (fun M2 H locs eM2 hP hS => ?_)
  replace hf := lt_c eM2 hf
  refine lv_aload_n hx hb dX12_beginsText_10 rfl (lv_at hl 0 rfl) ?_
  refine lv_iconst (v := (0 : Int32)) hx hb dX12_beginsText_11 (by decide) ?_
  refine ppI C hP hS (k := 0) (j := 17) (ty := .int) (Nat.le_of_ble_eq_true rfl) (yd_0 _ _) rfl iw_12 tyX12 tyX12_ok nmX12 (Nat.le_of_ble_eq_true rfl) g_1152 rfl rfl (by decide +kernel) rfl rfl (Nat.le_of_ble_eq_true rfl) (yu_0_17 _ _ _) dX12_beginsText_12 (fun M3 H locs eM3 hP hS => ?_)
  replace hf := lt_c eM3 hf
  refine lv_aload_n hx hb dX12_beginsText_15 rfl (lv_at hl 0 rfl) ?_
  refine lv_iconst (v := (0 : Int32)) hx hb dX12_beginsText_16 (by decide) ?_
  refine ppI C hP hS (k := 0) (j := 19) (ty := .int) (Nat.le_of_ble_eq_true rfl) (yd_0 _ _) rfl iw_12 tyX12 tyX12_ok nmX12 (Nat.le_of_ble_eq_true rfl) g_1154 rfl rfl (by decide +kernel) rfl rfl (Nat.le_of_ble_eq_true rfl) (yu_0_19 _ _ _) dX12_beginsText_17 (fun M4 H locs eM4 hP hS => ?_)
  replace hf := lt_c eM4 hf
  exact prV C hr hk hP hS hf dX12_beginsText_20
theorem c12_beginsText {l : Launch} {z : Zt} {b n : Nat}  {a1 : Int32} {M M' : Mem} {r : Unit} (hf : f12_beginsText n  a1 M = some (r, M')) : CV l z (yd z b) 32 b yX12_beginsText cX12_beginsText 2 none rm12_beginsText [.ref (b + 0), .int a1] M M' :=
  CV.ofW (lv := [(0, .ref (b + 0)), (1, .int a1)]) (by decide) (Nat.le_of_ble_eq_true rfl) rfl (fun p e s m args below meth c ls C hr hk hP hS hl => w12_beginsText_0 (n := n)  C hr hk  hf hP hS hl)

-- BronzeKingModel.law(I)I
theorem dX12_law_0 : decode cX12_law 0 = .ok (.iload_n 1, 1) := by decide +kernel
theorem dX12_law_1 : decode cX12_law 1 = .ok (.iconst 1, 1) := by decide +kernel
theorem dX12_law_2 : decode cX12_law 2 = .ok (.sipush 240, 3) := by decide +kernel
theorem dX12_law_5 : decode cX12_law 5 = .ok (.invokestatic 106, 3) := by decide +kernel
theorem dX12_law_8 : decode cX12_law 8 = .ok (.ifCond .eq 11, 3) := by decide +kernel
theorem dX12_law_11 : decode cX12_law 11 = .ok (.iload_n 1, 1) := by decide +kernel
theorem dX12_law_12 : decode cX12_law 12 = .ok (.aload_n 0, 1) := by decide +kernel
theorem dX12_law_13 : decode cX12_law 13 = .ok (.getfield 137, 3) := by decide +kernel
theorem dX12_law_16 : decode cX12_law 16 = .ok (.if_icmp .le 5, 3) := by decide +kernel
theorem dX12_law_19 : decode cX12_law 19 = .ok (.iconst (-1), 1) := by decide +kernel
theorem dX12_law_20 : decode cX12_law 20 = .ok (.ireturn, 1) := by decide +kernel
theorem dX12_law_21 : decode cX12_law 21 = .ok (.aload_n 0, 1) := by decide +kernel
theorem dX12_law_22 : decode cX12_law 22 = .ok (.iload_n 1, 1) := by decide +kernel
theorem dX12_law_23 : decode cX12_law 23 = .ok (.invokevirtual 227, 3) := by decide +kernel
theorem dX12_law_26 : decode cX12_law 26 = .ok (.aload_n 0, 1) := by decide +kernel
theorem dX12_law_27 : decode cX12_law 27 = .ok (.invokevirtual 230, 3) := by decide +kernel
theorem dX12_law_30 : decode cX12_law 30 = .ok (.istore_n 2, 1) := by decide +kernel
theorem dX12_law_31 : decode cX12_law 31 = .ok (.iload_n 2, 1) := by decide +kernel
theorem dX12_law_32 : decode cX12_law 32 = .ok (.ifCond .eq 39, 3) := by decide +kernel
theorem dX12_law_35 : decode cX12_law 35 = .ok (.aload_n 0, 1) := by decide +kernel
theorem dX12_law_36 : decode cX12_law 36 = .ok (.getfield 143, 3) := by decide +kernel
theorem dX12_law_39 : decode cX12_law 39 = .ok (.aload_n 0, 1) := by decide +kernel
theorem dX12_law_40 : decode cX12_law 40 = .ok (.getfield 146, 3) := by decide +kernel
theorem dX12_law_43 : decode cX12_law 43 = .ok (.if_icmp .ge 28, 3) := by decide +kernel
theorem dX12_law_46 : decode cX12_law 46 = .ok (.aload_n 0, 1) := by decide +kernel
theorem dX12_law_47 : decode cX12_law 47 = .ok (.bipush 59, 2) := by decide +kernel
theorem dX12_law_49 : decode cX12_law 49 = .ok (.invokevirtual 233, 3) := by decide +kernel
theorem dX12_law_52 : decode cX12_law 52 = .ok (.ifCond .eq 14, 3) := by decide +kernel
theorem dX12_law_55 : decode cX12_law 55 = .ok (.aload_n 0, 1) := by decide +kernel
theorem dX12_law_56 : decode cX12_law 56 = .ok (.invokevirtual 230, 3) := by decide +kernel
theorem dX12_law_59 : decode cX12_law 59 = .ok (.ifCond .eq 7, 3) := by decide +kernel
theorem dX12_law_62 : decode cX12_law 62 = .ok (.iconst 1, 1) := by decide +kernel
theorem dX12_law_63 : decode cX12_law 63 = .ok (.goto 4, 3) := by decide +kernel
theorem dX12_law_66 : decode cX12_law 66 = .ok (.iconst 0, 1) := by decide +kernel
theorem dX12_law_67 : decode cX12_law 67 = .ok (.istore_n 2, 1) := by decide +kernel
theorem dX12_law_68 : decode cX12_law 68 = .ok (.goto (-37), 3) := by decide +kernel
theorem dX12_law_71 : decode cX12_law 71 = .ok (.aload_n 0, 1) := by decide +kernel
theorem dX12_law_72 : decode cX12_law 72 = .ok (.iconst 0, 1) := by decide +kernel
theorem dX12_law_73 : decode cX12_law 73 = .ok (.putfield 137, 3) := by decide +kernel
theorem dX12_law_76 : decode cX12_law 76 = .ok (.iload_n 2, 1) := by decide +kernel
theorem dX12_law_77 : decode cX12_law 77 = .ok (.ifCond .ne 8, 3) := by decide +kernel
theorem dX12_law_80 : decode cX12_law 80 = .ok (.aload_n 0, 1) := by decide +kernel
theorem dX12_law_81 : decode cX12_law 81 = .ok (.getfield 153, 3) := by decide +kernel
theorem dX12_law_84 : decode cX12_law 84 = .ok (.ireturn, 1) := by decide +kernel
theorem dX12_law_85 : decode cX12_law 85 = .ok (.aload_n 0, 1) := by decide +kernel
theorem dX12_law_86 : decode cX12_law 86 = .ok (.aload_n 0, 1) := by decide +kernel
theorem dX12_law_87 : decode cX12_law 87 = .ok (.getfield 221, 3) := by decide +kernel
theorem dX12_law_90 : decode cX12_law 90 = .ok (.putfield 236, 3) := by decide +kernel
theorem dX12_law_93 : decode cX12_law 93 = .ok (.iconst 0, 1) := by decide +kernel
theorem dX12_law_94 : decode cX12_law 94 = .ok (.istore_n 3, 1) := by decide +kernel
theorem dX12_law_95 : decode cX12_law 95 = .ok (.iload_n 3, 1) := by decide +kernel
theorem dX12_law_96 : decode cX12_law 96 = .ok (.aload_n 0, 1) := by decide +kernel
theorem dX12_law_97 : decode cX12_law 97 = .ok (.getfield 166, 3) := by decide +kernel
theorem dX12_law_100 : decode cX12_law 100 = .ok (.if_icmp .ge 21, 3) := by decide +kernel
theorem dX12_law_103 : decode cX12_law 103 = .ok (.aload_n 0, 1) := by decide +kernel
theorem dX12_law_104 : decode cX12_law 104 = .ok (.getfield 53, 3) := by decide +kernel
theorem dX12_law_107 : decode cX12_law 107 = .ok (.iload_n 3, 1) := by decide +kernel
theorem dX12_law_108 : decode cX12_law 108 = .ok (.aload_n 0, 1) := by decide +kernel
theorem dX12_law_109 : decode cX12_law 109 = .ok (.getfield 35, 3) := by decide +kernel
theorem dX12_law_112 : decode cX12_law 112 = .ok (.iload_n 3, 1) := by decide +kernel
theorem dX12_law_113 : decode cX12_law 113 = .ok (.iaload, 1) := by decide +kernel
theorem dX12_law_114 : decode cX12_law 114 = .ok (.iastore, 1) := by decide +kernel
theorem dX12_law_115 : decode cX12_law 115 = .ok (.iinc 3 1, 3) := by decide +kernel
theorem dX12_law_118 : decode cX12_law 118 = .ok (.goto (-23), 3) := by decide +kernel
theorem dX12_law_121 : decode cX12_law 121 = .ok (.iconst 0, 1) := by decide +kernel
theorem dX12_law_122 : decode cX12_law 122 = .ok (.istore_n 3, 1) := by decide +kernel
theorem dX12_law_123 : decode cX12_law 123 = .ok (.iload_n 3, 1) := by decide +kernel
theorem dX12_law_124 : decode cX12_law 124 = .ok (.aload_n 0, 1) := by decide +kernel
theorem dX12_law_125 : decode cX12_law 125 = .ok (.getfield 221, 3) := by decide +kernel
theorem dX12_law_128 : decode cX12_law 128 = .ok (.if_icmp .ge 57, 3) := by decide +kernel
theorem dX12_law_131 : decode cX12_law 131 = .ok (.aload_n 0, 1) := by decide +kernel
theorem dX12_law_132 : decode cX12_law 132 = .ok (.getfield 56, 3) := by decide +kernel
theorem dX12_law_135 : decode cX12_law 135 = .ok (.iload_n 3, 1) := by decide +kernel
theorem dX12_law_136 : decode cX12_law 136 = .ok (.aload_n 0, 1) := by decide +kernel
theorem dX12_law_137 : decode cX12_law 137 = .ok (.getfield 41, 3) := by decide +kernel
theorem dX12_law_140 : decode cX12_law 140 = .ok (.iload_n 3, 1) := by decide +kernel
theorem dX12_law_141 : decode cX12_law 141 = .ok (.iaload, 1) := by decide +kernel
theorem dX12_law_142 : decode cX12_law 142 = .ok (.iastore, 1) := by decide +kernel
theorem dX12_law_143 : decode cX12_law 143 = .ok (.aload_n 0, 1) := by decide +kernel
theorem dX12_law_144 : decode cX12_law 144 = .ok (.getfield 59, 3) := by decide +kernel
theorem dX12_law_147 : decode cX12_law 147 = .ok (.iload_n 3, 1) := by decide +kernel
theorem dX12_law_148 : decode cX12_law 148 = .ok (.aload_n 0, 1) := by decide +kernel
theorem dX12_law_149 : decode cX12_law 149 = .ok (.getfield 44, 3) := by decide +kernel
theorem dX12_law_152 : decode cX12_law 152 = .ok (.iload_n 3, 1) := by decide +kernel
theorem dX12_law_153 : decode cX12_law 153 = .ok (.iaload, 1) := by decide +kernel
theorem dX12_law_154 : decode cX12_law 154 = .ok (.iastore, 1) := by decide +kernel
theorem dX12_law_155 : decode cX12_law 155 = .ok (.aload_n 0, 1) := by decide +kernel
theorem dX12_law_156 : decode cX12_law 156 = .ok (.getfield 62, 3) := by decide +kernel
theorem dX12_law_159 : decode cX12_law 159 = .ok (.iload_n 3, 1) := by decide +kernel
theorem dX12_law_160 : decode cX12_law 160 = .ok (.aload_n 0, 1) := by decide +kernel
theorem dX12_law_161 : decode cX12_law 161 = .ok (.getfield 47, 3) := by decide +kernel
theorem dX12_law_164 : decode cX12_law 164 = .ok (.iload_n 3, 1) := by decide +kernel
theorem dX12_law_165 : decode cX12_law 165 = .ok (.iaload, 1) := by decide +kernel
theorem dX12_law_166 : decode cX12_law 166 = .ok (.iastore, 1) := by decide +kernel
theorem dX12_law_167 : decode cX12_law 167 = .ok (.aload_n 0, 1) := by decide +kernel
theorem dX12_law_168 : decode cX12_law 168 = .ok (.getfield 65, 3) := by decide +kernel
theorem dX12_law_171 : decode cX12_law 171 = .ok (.iload_n 3, 1) := by decide +kernel
theorem dX12_law_172 : decode cX12_law 172 = .ok (.aload_n 0, 1) := by decide +kernel
theorem dX12_law_173 : decode cX12_law 173 = .ok (.getfield 50, 3) := by decide +kernel
theorem dX12_law_176 : decode cX12_law 176 = .ok (.iload_n 3, 1) := by decide +kernel
theorem dX12_law_177 : decode cX12_law 177 = .ok (.iaload, 1) := by decide +kernel
theorem dX12_law_178 : decode cX12_law 178 = .ok (.iastore, 1) := by decide +kernel
theorem dX12_law_179 : decode cX12_law 179 = .ok (.iinc 3 1, 3) := by decide +kernel
theorem dX12_law_182 : decode cX12_law 182 = .ok (.goto (-59), 3) := by decide +kernel
theorem dX12_law_185 : decode cX12_law 185 = .ok (.aload_n 0, 1) := by decide +kernel
theorem dX12_law_186 : decode cX12_law 186 = .ok (.getfield 221, 3) := by decide +kernel
theorem dX12_law_189 : decode cX12_law 189 = .ok (.ireturn, 1) := by decide +kernel
def b12_law_19 (rc : Nat → List Int32 → List Int64 → Mem → Option (Int32 × Mem)) (n : Nat) (M : Mem) : Option (Int32 × Mem) :=
  some ((-1 : Int32), M)
def b12_law_123 (rc : Nat → List Int32 → List Int64 → Mem → Option (Int32 × Mem)) (n : Nat) (i3 : Int32) (M : Mem) : Option (Int32 × Mem) :=
  (if (M.1 0 19) ≤ i3 then (
   some ((M.1 0 19), M))
  else (
   chk (inb i3 16) <|
   chk (inb i3 16) <|
   lt (wI M 16 i3.toNatClampNeg (M.1 11 i3.toNatClampNeg)) fun M33 =>
   chk (inb i3 16) <|
   chk (inb i3 16) <|
   lt (wI M33 17 i3.toNatClampNeg (M33.1 12 i3.toNatClampNeg)) fun M36 =>
   chk (inb i3 16) <|
   chk (inb i3 16) <|
   lt (wI M36 18 i3.toNatClampNeg (M36.1 13 i3.toNatClampNeg)) fun M39 =>
   chk (inb i3 16) <|
   chk (inb i3 16) <|
   lt (wI M39 19 i3.toNatClampNeg (M39.1 14 i3.toNatClampNeg)) fun M42 =>
   lt (i3 + (1 : Int32)) fun v43 =>
   rc 123 [v43] [] M42))
def b12_law_95 (rc : Nat → List Int32 → List Int64 → Mem → Option (Int32 × Mem)) (n : Nat) (i3 : Int32) (M : Mem) : Option (Int32 × Mem) :=
  (if (M.1 0 17) ≤ i3 then (
   b12_law_123  rc n (0 : Int32) M)
  else (
   chk (inb i3 260) <|
   chk (inb i3 260) <|
   lt (wI M 15 i3.toNatClampNeg (M.1 9 i3.toNatClampNeg)) fun M28 =>
   lt (i3 + (1 : Int32)) fun v29 =>
   rc 95 [v29] [] M28))
def b12_law_71 (rc : Nat → List Int32 → List Int64 → Mem → Option (Int32 × Mem)) (n : Nat) (i2 : Int32) (M : Mem) : Option (Int32 × Mem) :=
  lt (wI M 0 11 (0 : Int32)) fun M22 =>
  (if i2 = 0 then (
   some ((M22.1 0 14), M22))
  else (
   lt (wI M22 0 20 (M22.1 0 19)) fun M24 =>
   b12_law_95  rc n (0 : Int32) M24))
def b12_law_67 (rc : Nat → List Int32 → List Int64 → Mem → Option (Int32 × Mem)) (n : Nat) (s0 : Int32) (M : Mem) : Option (Int32 × Mem) :=
  rc 31 [s0] [] M
def b12_law_66 (rc : Nat → List Int32 → List Int64 → Mem → Option (Int32 × Mem)) (n : Nat) (M : Mem) : Option (Int32 × Mem) :=
  b12_law_67  rc n (0 : Int32) M
def b12_law_31 (rc : Nat → List Int32 → List Int64 → Mem → Option (Int32 × Mem)) (n : Nat) (i2 : Int32) (M : Mem) : Option (Int32 × Mem) :=
  (if i2 = 0 then (
   b12_law_71  rc n i2 M)
  else (
   (if (M.1 0 13) ≤ (M.1 0 12) then (
    b12_law_71  rc n i2 M)
   else (
    bnd (f12_takes n (59 : Int32) M) fun r14 M15 =>
    (if r14 = 0 then (
     b12_law_66  rc n  M15)
    else (
     bnd (f12_readsRule n M15) fun r18 M19 =>
     (if r18 = 0 then (
      b12_law_66  rc n  M19)
     else (
      b12_law_67  rc n (1 : Int32) M19))))))))
def b12_law_0 (rc : Nat → List Int32 → List Int64 → Mem → Option (Int32 × Mem)) (n : Nat) (a1 : Int32) (M : Mem) : Option (Int32 × Mem) :=
  bnd (f12_in n a1 (1 : Int32) (240 : Int32) M) fun r1 M2 =>
  (if r1 = 0 then (
   b12_law_19  rc n  M2)
  else (
   (if a1 ≤ (M2.1 0 11) then (
    bnd (f12_beginsText n a1 M2) fun r6 M7 =>
    bnd (f12_readsRule n M7) fun r9 M10 =>
    b12_law_31  rc n r9 M10)
   else (
    b12_law_19  rc n  M2))))
def r12_law : Nat → Nat → List Int32 → List Int64 → Mem → Option (Int32 × Mem)
  | 0 => fun _ _ _ _ => none
  | n + 1 => fun pc li lj M =>
    if pc = 31 then (match li, lj with | [i2], [] => b12_law_31  (r12_law  n) n i2 M | _, _ => none) else
    if pc = 95 then (match li, lj with | [i3], [] => b12_law_95  (r12_law  n) n i3 M | _, _ => none) else
    if pc = 123 then (match li, lj with | [i3], [] => b12_law_123  (r12_law  n) n i3 M | _, _ => none) else
    none
theorem e12_law_31  (n : Nat) (i2 : Int32) (M : Mem) : r12_law  (n + 1) 31 [i2] [] M = b12_law_31  (r12_law  n) n i2 M := by
  rw [r12_law]
  simp
theorem e12_law_95  (n : Nat) (i3 : Int32) (M : Mem) : r12_law  (n + 1) 95 [i3] [] M = b12_law_95  (r12_law  n) n i3 M := by
  rw [r12_law]
  simp
theorem e12_law_123  (n : Nat) (i3 : Int32) (M : Mem) : r12_law  (n + 1) 123 [i3] [] M = b12_law_123  (r12_law  n) n i3 M := by
  rw [r12_law]
  simp
def f12_law (n : Nat) (a1 : Int32) (M : Mem) : Option (Int32 × Mem) := b12_law_0 (r12_law n) n a1 M
abbrev rm12_law : Room := { frames := 8, cells := 0, slots := 0, locals := 166 }
theorem y12_law_w : yV RX12 yX12_law cX12_law 4 (some .int) 1 := ⟨g_1322, g_1323, g_14, g_1324, rfl, by decide, by decide, by decide +kernel⟩
set_option maxHeartbeats 4000000 in
set_option maxRecDepth 100000 in
theorem w12_law_19 {p : Program} {l : Launch} {e : Env} {s : State} {m : MethodId} {args : Array Value} {below : List Frame} {meth : Method} {c : Code} {z : Zt} {b : Nat}  (C : Cx p s m args c cX12_law 4 RX12 z 32 b) (hr : meth.sig.returnType = (some .int)) (hk : meth.locks = false) {r : Int32} {M' : Mem} {rc : Nat → List Int32 → List Int64 → Mem → Option (Int32 × Mem)} {n : Nat} (q31 : ∀ (i2 : Int32) (M : Mem) (H : Heap) (locs : List Loc) (ls : Array Slot), rc 31 [i2] [] M = some (r, M') → va_P z.1 vwCl (pw (yd z b) 32 b M) H → va_S (pA 32 b) s.heap H locs → lv_has ls 4 [(0, .ref (b + 0)), (2, .int i2)] → W p l e rm12_law s m args below meth c H locs 0 0 (MQ below (va_Qi (fun (r' : Int32) (M2 : Mem) => r' = r ∧ M2 = M') (fun M2 t => va_P z.1 vwCl (pw (yd z b) 32 b M2) t.heap) (pA 32 b)) args s 0 0 (pA 32 b)) (F0 m 31 ls [])) (q95 : ∀ (i3 : Int32) (M : Mem) (H : Heap) (locs : List Loc) (ls : Array Slot), rc 95 [i3] [] M = some (r, M') → va_P z.1 vwCl (pw (yd z b) 32 b M) H → va_S (pA 32 b) s.heap H locs → lv_has ls 4 [(0, .ref (b + 0)), (3, .int i3)] → W p l e rm12_law s m args below meth c H locs 0 0 (MQ below (va_Qi (fun (r' : Int32) (M2 : Mem) => r' = r ∧ M2 = M') (fun M2 t => va_P z.1 vwCl (pw (yd z b) 32 b M2) t.heap) (pA 32 b)) args s 0 0 (pA 32 b)) (F0 m 95 ls [])) (q123 : ∀ (i3 : Int32) (M : Mem) (H : Heap) (locs : List Loc) (ls : Array Slot), rc 123 [i3] [] M = some (r, M') → va_P z.1 vwCl (pw (yd z b) 32 b M) H → va_S (pA 32 b) s.heap H locs → lv_has ls 4 [(0, .ref (b + 0)), (3, .int i3)] → W p l e rm12_law s m args below meth c H locs 0 0 (MQ below (va_Qi (fun (r' : Int32) (M2 : Mem) => r' = r ∧ M2 = M') (fun M2 t => va_P z.1 vwCl (pw (yd z b) 32 b M2) t.heap) (pA 32 b)) args s 0 0 (pA 32 b)) (F0 m 123 ls []))  {M : Mem} {H : Heap} {locs : List Loc} {ls : Array Slot} (hf : b12_law_19  rc n  M = some (r, M')) (hP : va_P z.1 vwCl (pw (yd z b) 32 b M) H) (hS : va_S (pA 32 b) s.heap H locs) (hl : lv_has ls 4 []) : W p l e rm12_law s m args below meth c H locs 0 0 (MQ below (va_Qi (fun (r' : Int32) (M2 : Mem) => r' = r ∧ M2 = M') (fun M2 t => va_P z.1 vwCl (pw (yd z b) 32 b M2) t.heap) (pA 32 b)) args s 0 0 (pA 32 b)) (F0 m 19 ls []) := by
  have hx := C.1.1
  have hb := C.1.2.1
  unfold b12_law_19 at hf
  refine lv_iconst (v := (-1 : Int32)) hx hb dX12_law_19 (by decide) ?_
  exact prI C hr hk hP hS hf dX12_law_20
set_option maxHeartbeats 4000000 in
set_option maxRecDepth 100000 in
theorem w12_law_123 {p : Program} {l : Launch} {e : Env} {s : State} {m : MethodId} {args : Array Value} {below : List Frame} {meth : Method} {c : Code} {z : Zt} {b : Nat}  (C : Cx p s m args c cX12_law 4 RX12 z 32 b) (hr : meth.sig.returnType = (some .int)) (hk : meth.locks = false) {r : Int32} {M' : Mem} {rc : Nat → List Int32 → List Int64 → Mem → Option (Int32 × Mem)} {n : Nat} (q31 : ∀ (i2 : Int32) (M : Mem) (H : Heap) (locs : List Loc) (ls : Array Slot), rc 31 [i2] [] M = some (r, M') → va_P z.1 vwCl (pw (yd z b) 32 b M) H → va_S (pA 32 b) s.heap H locs → lv_has ls 4 [(0, .ref (b + 0)), (2, .int i2)] → W p l e rm12_law s m args below meth c H locs 0 0 (MQ below (va_Qi (fun (r' : Int32) (M2 : Mem) => r' = r ∧ M2 = M') (fun M2 t => va_P z.1 vwCl (pw (yd z b) 32 b M2) t.heap) (pA 32 b)) args s 0 0 (pA 32 b)) (F0 m 31 ls [])) (q95 : ∀ (i3 : Int32) (M : Mem) (H : Heap) (locs : List Loc) (ls : Array Slot), rc 95 [i3] [] M = some (r, M') → va_P z.1 vwCl (pw (yd z b) 32 b M) H → va_S (pA 32 b) s.heap H locs → lv_has ls 4 [(0, .ref (b + 0)), (3, .int i3)] → W p l e rm12_law s m args below meth c H locs 0 0 (MQ below (va_Qi (fun (r' : Int32) (M2 : Mem) => r' = r ∧ M2 = M') (fun M2 t => va_P z.1 vwCl (pw (yd z b) 32 b M2) t.heap) (pA 32 b)) args s 0 0 (pA 32 b)) (F0 m 95 ls [])) (q123 : ∀ (i3 : Int32) (M : Mem) (H : Heap) (locs : List Loc) (ls : Array Slot), rc 123 [i3] [] M = some (r, M') → va_P z.1 vwCl (pw (yd z b) 32 b M) H → va_S (pA 32 b) s.heap H locs → lv_has ls 4 [(0, .ref (b + 0)), (3, .int i3)] → W p l e rm12_law s m args below meth c H locs 0 0 (MQ below (va_Qi (fun (r' : Int32) (M2 : Mem) => r' = r ∧ M2 = M') (fun M2 t => va_P z.1 vwCl (pw (yd z b) 32 b M2) t.heap) (pA 32 b)) args s 0 0 (pA 32 b)) (F0 m 123 ls [])) {i3 : Int32} {M : Mem} {H : Heap} {locs : List Loc} {ls : Array Slot} (hf : b12_law_123  rc n i3 M = some (r, M')) (hP : va_P z.1 vwCl (pw (yd z b) 32 b M) H) (hS : va_S (pA 32 b) s.heap H locs) (hl : lv_has ls 4 [(0, .ref (b + 0)), (3, .int i3)]) : W p l e rm12_law s m args below meth c H locs 0 0 (MQ below (va_Qi (fun (r' : Int32) (M2 : Mem) => r' = r ∧ M2 = M') (fun M2 t => va_P z.1 vwCl (pw (yd z b) 32 b M2) t.heap) (pA 32 b)) args s 0 0 (pA 32 b)) (F0 m 123 ls []) := by
  have hx := C.1.1
  have hb := C.1.2.1
  unfold b12_law_123 at hf
  refine lv_iload_n hx hb dX12_law_123 rfl (lv_at hl 1 rfl) ?_
  refine lv_aload_n hx hb dX12_law_124 rfl (lv_at hl 0 rfl) ?_
  refine pg C hP (k := 0) (j := 19) (Nat.le_of_ble_eq_true rfl) (yd_0 _ _) rfl iw_12 (Nat.le_of_ble_eq_true rfl) g_1154 rfl rfl dX12_law_125 ?_
  refine lv_icmp_ge (tgt := 185) hx hb dX12_law_128 (by decide) (fun c30 => ?_) (fun c30 => ?_)
  · replace hf := ite_t c30 hf
    refine lv_aload_n hx hb dX12_law_185 rfl (lv_at hl 0 rfl) ?_
    refine pg C hP (k := 0) (j := 19) (Nat.le_of_ble_eq_true rfl) (yd_0 _ _) rfl iw_12 (Nat.le_of_ble_eq_true rfl) g_1154 rfl rfl dX12_law_186 ?_
    exact prI C hr hk hP hS hf dX12_law_189
  · replace hf := ite_f c30 hf
    refine lv_aload_n hx hb dX12_law_131 rfl (lv_at hl 0 rfl) ?_
    refine pg C hP (k := 0) (j := 28) (Nat.le_of_ble_eq_true rfl) (yd_0 _ _) rfl iw_12 (Nat.le_of_ble_eq_true rfl) g_1163 rfl rfl dX12_law_132 ?_
    refine lv_iload_n hx hb dX12_law_135 rfl (lv_at hl 1 rfl) ?_
    refine lv_aload_n hx hb dX12_law_136 rfl (lv_at hl 0 rfl) ?_
    refine pg C hP (k := 0) (j := 23) (Nat.le_of_ble_eq_true rfl) (yd_0 _ _) rfl iw_12 (Nat.le_of_ble_eq_true rfl) g_1158 rfl rfl dX12_law_137 ?_
    refine lv_iload_n hx hb dX12_law_140 rfl (lv_at hl 1 rfl) ?_
    have h31 := chk_1 hf
    replace hf := chk_2 hf
    refine paI C hP (k := 11) (Nat.le_of_ble_eq_true rfl) (yd_11 _ _) h31 dX12_law_141 ?_
    have h32 := chk_1 hf
    replace hf := chk_2 hf
    refine psI C hP hS (k := 16) (Nat.le_of_ble_eq_true rfl) (yd_16) h32 dX12_law_142 (fun M33 H locs eM33 hP hS => ?_)
    replace hf := lt_c eM33 hf
    refine lv_aload_n hx hb dX12_law_143 rfl (lv_at hl 0 rfl) ?_
    refine pg C hP (k := 0) (j := 29) (Nat.le_of_ble_eq_true rfl) (yd_0 _ _) rfl iw_12 (Nat.le_of_ble_eq_true rfl) g_1164 rfl rfl dX12_law_144 ?_
    refine lv_iload_n hx hb dX12_law_147 rfl (lv_at hl 1 rfl) ?_
    refine lv_aload_n hx hb dX12_law_148 rfl (lv_at hl 0 rfl) ?_
    refine pg C hP (k := 0) (j := 24) (Nat.le_of_ble_eq_true rfl) (yd_0 _ _) rfl iw_12 (Nat.le_of_ble_eq_true rfl) g_1159 rfl rfl dX12_law_149 ?_
    refine lv_iload_n hx hb dX12_law_152 rfl (lv_at hl 1 rfl) ?_
    have h34 := chk_1 hf
    replace hf := chk_2 hf
    refine paI C hP (k := 12) (Nat.le_of_ble_eq_true rfl) (yd_12 _ _) h34 dX12_law_153 ?_
    have h35 := chk_1 hf
    replace hf := chk_2 hf
    refine psI C hP hS (k := 17) (Nat.le_of_ble_eq_true rfl) (yd_17) h35 dX12_law_154 (fun M36 H locs eM36 hP hS => ?_)
    replace hf := lt_c eM36 hf
    refine lv_aload_n hx hb dX12_law_155 rfl (lv_at hl 0 rfl) ?_
    refine pg C hP (k := 0) (j := 30) (Nat.le_of_ble_eq_true rfl) (yd_0 _ _) rfl iw_12 (Nat.le_of_ble_eq_true rfl) g_1165 rfl rfl dX12_law_156 ?_
    refine lv_iload_n hx hb dX12_law_159 rfl (lv_at hl 1 rfl) ?_
    refine lv_aload_n hx hb dX12_law_160 rfl (lv_at hl 0 rfl) ?_
    refine pg C hP (k := 0) (j := 25) (Nat.le_of_ble_eq_true rfl) (yd_0 _ _) rfl iw_12 (Nat.le_of_ble_eq_true rfl) g_1160 rfl rfl dX12_law_161 ?_
    refine lv_iload_n hx hb dX12_law_164 rfl (lv_at hl 1 rfl) ?_
    have h37 := chk_1 hf
    replace hf := chk_2 hf
    refine paI C hP (k := 13) (Nat.le_of_ble_eq_true rfl) (yd_13 _ _) h37 dX12_law_165 ?_
    have h38 := chk_1 hf
    replace hf := chk_2 hf
    refine psI C hP hS (k := 18) (Nat.le_of_ble_eq_true rfl) (yd_18) h38 dX12_law_166 (fun M39 H locs eM39 hP hS => ?_)
    replace hf := lt_c eM39 hf
    refine lv_aload_n hx hb dX12_law_167 rfl (lv_at hl 0 rfl) ?_
    refine pg C hP (k := 0) (j := 31) (Nat.le_of_ble_eq_true rfl) (yd_0 _ _) rfl iw_12 (Nat.le_of_ble_eq_true rfl) g_1166 rfl rfl dX12_law_168 ?_
    refine lv_iload_n hx hb dX12_law_171 rfl (lv_at hl 1 rfl) ?_
    refine lv_aload_n hx hb dX12_law_172 rfl (lv_at hl 0 rfl) ?_
    refine pg C hP (k := 0) (j := 26) (Nat.le_of_ble_eq_true rfl) (yd_0 _ _) rfl iw_12 (Nat.le_of_ble_eq_true rfl) g_1161 rfl rfl dX12_law_173 ?_
    refine lv_iload_n hx hb dX12_law_176 rfl (lv_at hl 1 rfl) ?_
    have h40 := chk_1 hf
    replace hf := chk_2 hf
    refine paI C hP (k := 14) (Nat.le_of_ble_eq_true rfl) (yd_14 _ _) h40 dX12_law_177 ?_
    have h41 := chk_1 hf
    replace hf := chk_2 hf
    refine psI C hP hS (k := 19) (Nat.le_of_ble_eq_true rfl) (yd_19) h41 dX12_law_178 (fun M42 H locs eM42 hP hS => ?_)
    replace hf := lt_c eM42 hf
    obtain ⟨v43, ev43⟩ : ∃ v : Int32, v = i3 + (1 : Int32) := ⟨_, rfl⟩
    replace hf := lt_c ev43 hf
    refine lv_iinc (v := v43) (lv' := [(3, .int v43), (0, .ref (b + 0))]) hx hb dX12_law_179 hl (k := 1) rfl (by rw [ev43]; rfl) (by decide) rfl (fun ls hl => ?_)
    refine lv_goto (tgt := 123) hx hb dX12_law_182 (by decide) ?_
    exact q123 v43 M42 _ _ _ hf hP hS (lv_sub hl [1, 0] rfl)
set_option maxHeartbeats 4000000 in
set_option maxRecDepth 100000 in
theorem w12_law_95 {p : Program} {l : Launch} {e : Env} {s : State} {m : MethodId} {args : Array Value} {below : List Frame} {meth : Method} {c : Code} {z : Zt} {b : Nat}  (C : Cx p s m args c cX12_law 4 RX12 z 32 b) (hr : meth.sig.returnType = (some .int)) (hk : meth.locks = false) {r : Int32} {M' : Mem} {rc : Nat → List Int32 → List Int64 → Mem → Option (Int32 × Mem)} {n : Nat} (q31 : ∀ (i2 : Int32) (M : Mem) (H : Heap) (locs : List Loc) (ls : Array Slot), rc 31 [i2] [] M = some (r, M') → va_P z.1 vwCl (pw (yd z b) 32 b M) H → va_S (pA 32 b) s.heap H locs → lv_has ls 4 [(0, .ref (b + 0)), (2, .int i2)] → W p l e rm12_law s m args below meth c H locs 0 0 (MQ below (va_Qi (fun (r' : Int32) (M2 : Mem) => r' = r ∧ M2 = M') (fun M2 t => va_P z.1 vwCl (pw (yd z b) 32 b M2) t.heap) (pA 32 b)) args s 0 0 (pA 32 b)) (F0 m 31 ls [])) (q95 : ∀ (i3 : Int32) (M : Mem) (H : Heap) (locs : List Loc) (ls : Array Slot), rc 95 [i3] [] M = some (r, M') → va_P z.1 vwCl (pw (yd z b) 32 b M) H → va_S (pA 32 b) s.heap H locs → lv_has ls 4 [(0, .ref (b + 0)), (3, .int i3)] → W p l e rm12_law s m args below meth c H locs 0 0 (MQ below (va_Qi (fun (r' : Int32) (M2 : Mem) => r' = r ∧ M2 = M') (fun M2 t => va_P z.1 vwCl (pw (yd z b) 32 b M2) t.heap) (pA 32 b)) args s 0 0 (pA 32 b)) (F0 m 95 ls [])) (q123 : ∀ (i3 : Int32) (M : Mem) (H : Heap) (locs : List Loc) (ls : Array Slot), rc 123 [i3] [] M = some (r, M') → va_P z.1 vwCl (pw (yd z b) 32 b M) H → va_S (pA 32 b) s.heap H locs → lv_has ls 4 [(0, .ref (b + 0)), (3, .int i3)] → W p l e rm12_law s m args below meth c H locs 0 0 (MQ below (va_Qi (fun (r' : Int32) (M2 : Mem) => r' = r ∧ M2 = M') (fun M2 t => va_P z.1 vwCl (pw (yd z b) 32 b M2) t.heap) (pA 32 b)) args s 0 0 (pA 32 b)) (F0 m 123 ls [])) {i3 : Int32} {M : Mem} {H : Heap} {locs : List Loc} {ls : Array Slot} (hf : b12_law_95  rc n i3 M = some (r, M')) (hP : va_P z.1 vwCl (pw (yd z b) 32 b M) H) (hS : va_S (pA 32 b) s.heap H locs) (hl : lv_has ls 4 [(0, .ref (b + 0)), (3, .int i3)]) : W p l e rm12_law s m args below meth c H locs 0 0 (MQ below (va_Qi (fun (r' : Int32) (M2 : Mem) => r' = r ∧ M2 = M') (fun M2 t => va_P z.1 vwCl (pw (yd z b) 32 b M2) t.heap) (pA 32 b)) args s 0 0 (pA 32 b)) (F0 m 95 ls []) := by
  have hx := C.1.1
  have hb := C.1.2.1
  unfold b12_law_95 at hf
  refine lv_iload_n hx hb dX12_law_95 rfl (lv_at hl 1 rfl) ?_
  refine lv_aload_n hx hb dX12_law_96 rfl (lv_at hl 0 rfl) ?_
  refine pg C hP (k := 0) (j := 17) (Nat.le_of_ble_eq_true rfl) (yd_0 _ _) rfl iw_12 (Nat.le_of_ble_eq_true rfl) g_1152 rfl rfl dX12_law_97 ?_
  refine lv_icmp_ge (tgt := 121) hx hb dX12_law_100 (by decide) (fun c25 => ?_) (fun c25 => ?_)
  · replace hf := ite_t c25 hf
    refine lv_iconst (v := (0 : Int32)) hx hb dX12_law_121 (by decide) ?_
    refine lv_istore_n (lv' := [(3, .int (0 : Int32)), (0, .ref (b + 0))]) hx hb dX12_law_122 rfl hl (by decide) rfl (fun ls hl => ?_)
    exact w12_law_123 (n := n)  C hr hk q31 q95 q123 hf hP hS (lv_sub hl [1, 0] rfl)
  · replace hf := ite_f c25 hf
    refine lv_aload_n hx hb dX12_law_103 rfl (lv_at hl 0 rfl) ?_
    refine pg C hP (k := 0) (j := 27) (Nat.le_of_ble_eq_true rfl) (yd_0 _ _) rfl iw_12 (Nat.le_of_ble_eq_true rfl) g_1162 rfl rfl dX12_law_104 ?_
    refine lv_iload_n hx hb dX12_law_107 rfl (lv_at hl 1 rfl) ?_
    refine lv_aload_n hx hb dX12_law_108 rfl (lv_at hl 0 rfl) ?_
    refine pg C hP (k := 0) (j := 21) (Nat.le_of_ble_eq_true rfl) (yd_0 _ _) rfl iw_12 (Nat.le_of_ble_eq_true rfl) g_1156 rfl rfl dX12_law_109 ?_
    refine lv_iload_n hx hb dX12_law_112 rfl (lv_at hl 1 rfl) ?_
    have h26 := chk_1 hf
    replace hf := chk_2 hf
    refine paI C hP (k := 9) (Nat.le_of_ble_eq_true rfl) (yd_9 _ _) h26 dX12_law_113 ?_
    have h27 := chk_1 hf
    replace hf := chk_2 hf
    refine psI C hP hS (k := 15) (Nat.le_of_ble_eq_true rfl) (yd_15) h27 dX12_law_114 (fun M28 H locs eM28 hP hS => ?_)
    replace hf := lt_c eM28 hf
    obtain ⟨v29, ev29⟩ : ∃ v : Int32, v = i3 + (1 : Int32) := ⟨_, rfl⟩
    replace hf := lt_c ev29 hf
    refine lv_iinc (v := v29) (lv' := [(3, .int v29), (0, .ref (b + 0))]) hx hb dX12_law_115 hl (k := 1) rfl (by rw [ev29]; rfl) (by decide) rfl (fun ls hl => ?_)
    refine lv_goto (tgt := 95) hx hb dX12_law_118 (by decide) ?_
    exact q95 v29 M28 _ _ _ hf hP hS (lv_sub hl [1, 0] rfl)
set_option maxHeartbeats 4000000 in
set_option maxRecDepth 100000 in
theorem w12_law_71 {p : Program} {l : Launch} {e : Env} {s : State} {m : MethodId} {args : Array Value} {below : List Frame} {meth : Method} {c : Code} {z : Zt} {b : Nat}  (C : Cx p s m args c cX12_law 4 RX12 z 32 b) (hr : meth.sig.returnType = (some .int)) (hk : meth.locks = false) {r : Int32} {M' : Mem} {rc : Nat → List Int32 → List Int64 → Mem → Option (Int32 × Mem)} {n : Nat} (q31 : ∀ (i2 : Int32) (M : Mem) (H : Heap) (locs : List Loc) (ls : Array Slot), rc 31 [i2] [] M = some (r, M') → va_P z.1 vwCl (pw (yd z b) 32 b M) H → va_S (pA 32 b) s.heap H locs → lv_has ls 4 [(0, .ref (b + 0)), (2, .int i2)] → W p l e rm12_law s m args below meth c H locs 0 0 (MQ below (va_Qi (fun (r' : Int32) (M2 : Mem) => r' = r ∧ M2 = M') (fun M2 t => va_P z.1 vwCl (pw (yd z b) 32 b M2) t.heap) (pA 32 b)) args s 0 0 (pA 32 b)) (F0 m 31 ls [])) (q95 : ∀ (i3 : Int32) (M : Mem) (H : Heap) (locs : List Loc) (ls : Array Slot), rc 95 [i3] [] M = some (r, M') → va_P z.1 vwCl (pw (yd z b) 32 b M) H → va_S (pA 32 b) s.heap H locs → lv_has ls 4 [(0, .ref (b + 0)), (3, .int i3)] → W p l e rm12_law s m args below meth c H locs 0 0 (MQ below (va_Qi (fun (r' : Int32) (M2 : Mem) => r' = r ∧ M2 = M') (fun M2 t => va_P z.1 vwCl (pw (yd z b) 32 b M2) t.heap) (pA 32 b)) args s 0 0 (pA 32 b)) (F0 m 95 ls [])) (q123 : ∀ (i3 : Int32) (M : Mem) (H : Heap) (locs : List Loc) (ls : Array Slot), rc 123 [i3] [] M = some (r, M') → va_P z.1 vwCl (pw (yd z b) 32 b M) H → va_S (pA 32 b) s.heap H locs → lv_has ls 4 [(0, .ref (b + 0)), (3, .int i3)] → W p l e rm12_law s m args below meth c H locs 0 0 (MQ below (va_Qi (fun (r' : Int32) (M2 : Mem) => r' = r ∧ M2 = M') (fun M2 t => va_P z.1 vwCl (pw (yd z b) 32 b M2) t.heap) (pA 32 b)) args s 0 0 (pA 32 b)) (F0 m 123 ls [])) {i2 : Int32} {M : Mem} {H : Heap} {locs : List Loc} {ls : Array Slot} (hf : b12_law_71  rc n i2 M = some (r, M')) (hP : va_P z.1 vwCl (pw (yd z b) 32 b M) H) (hS : va_S (pA 32 b) s.heap H locs) (hl : lv_has ls 4 [(0, .ref (b + 0)), (2, .int i2)]) : W p l e rm12_law s m args below meth c H locs 0 0 (MQ below (va_Qi (fun (r' : Int32) (M2 : Mem) => r' = r ∧ M2 = M') (fun M2 t => va_P z.1 vwCl (pw (yd z b) 32 b M2) t.heap) (pA 32 b)) args s 0 0 (pA 32 b)) (F0 m 71 ls []) := by
  have hx := C.1.1
  have hb := C.1.2.1
  unfold b12_law_71 at hf
  refine lv_aload_n hx hb dX12_law_71 rfl (lv_at hl 0 rfl) ?_
  refine lv_iconst (v := (0 : Int32)) hx hb dX12_law_72 (by decide) ?_
  refine ppI C hP hS (k := 0) (j := 11) (ty := .int) (Nat.le_of_ble_eq_true rfl) (yd_0 _ _) rfl iw_12 tyX12 tyX12_ok nmX12 (Nat.le_of_ble_eq_true rfl) g_1146 rfl rfl (by decide +kernel) rfl rfl (Nat.le_of_ble_eq_true rfl) (yu_0_11 _ _ _) dX12_law_73 (fun M22 H locs eM22 hP hS => ?_)
  replace hf := lt_c eM22 hf
  refine lv_iload_n hx hb dX12_law_76 rfl (lv_at hl 1 rfl) ?_
  refine lv_if_ne (tgt := 85) hx hb dX12_law_77 (by decide) (fun c23 => ?_) (fun c23 => ?_)
  · replace hf := ite_f c23 hf
    refine lv_aload_n hx hb dX12_law_85 rfl (lv_at hl 0 rfl) ?_
    refine lv_aload_n hx hb dX12_law_86 rfl (lv_at hl 0 rfl) ?_
    refine pg C hP (k := 0) (j := 19) (Nat.le_of_ble_eq_true rfl) (yd_0 _ _) rfl iw_12 (Nat.le_of_ble_eq_true rfl) g_1154 rfl rfl dX12_law_87 ?_
    refine ppI C hP hS (k := 0) (j := 20) (ty := .int) (Nat.le_of_ble_eq_true rfl) (yd_0 _ _) rfl iw_12 tyX12 tyX12_ok nmX12 (Nat.le_of_ble_eq_true rfl) g_1155 rfl rfl (by decide +kernel) rfl rfl (Nat.le_of_ble_eq_true rfl) (yu_0_20 _ _ _) dX12_law_90 (fun M24 H locs eM24 hP hS => ?_)
    replace hf := lt_c eM24 hf
    refine lv_iconst (v := (0 : Int32)) hx hb dX12_law_93 (by decide) ?_
    refine lv_istore_n (lv' := [(3, .int (0 : Int32)), (0, .ref (b + 0)), (2, .int i2)]) hx hb dX12_law_94 rfl hl (by decide) rfl (fun ls hl => ?_)
    exact w12_law_95 (n := n)  C hr hk q31 q95 q123 hf hP hS (lv_sub hl [1, 0] rfl)
  · replace hf := ite_t c23 hf
    refine lv_aload_n hx hb dX12_law_80 rfl (lv_at hl 0 rfl) ?_
    refine pg C hP (k := 0) (j := 14) (Nat.le_of_ble_eq_true rfl) (yd_0 _ _) rfl iw_12 (Nat.le_of_ble_eq_true rfl) g_1149 rfl rfl dX12_law_81 ?_
    exact prI C hr hk hP hS hf dX12_law_84
set_option maxHeartbeats 4000000 in
set_option maxRecDepth 100000 in
theorem w12_law_67 {p : Program} {l : Launch} {e : Env} {s : State} {m : MethodId} {args : Array Value} {below : List Frame} {meth : Method} {c : Code} {z : Zt} {b : Nat}  (C : Cx p s m args c cX12_law 4 RX12 z 32 b) (hr : meth.sig.returnType = (some .int)) (hk : meth.locks = false) {r : Int32} {M' : Mem} {rc : Nat → List Int32 → List Int64 → Mem → Option (Int32 × Mem)} {n : Nat} (q31 : ∀ (i2 : Int32) (M : Mem) (H : Heap) (locs : List Loc) (ls : Array Slot), rc 31 [i2] [] M = some (r, M') → va_P z.1 vwCl (pw (yd z b) 32 b M) H → va_S (pA 32 b) s.heap H locs → lv_has ls 4 [(0, .ref (b + 0)), (2, .int i2)] → W p l e rm12_law s m args below meth c H locs 0 0 (MQ below (va_Qi (fun (r' : Int32) (M2 : Mem) => r' = r ∧ M2 = M') (fun M2 t => va_P z.1 vwCl (pw (yd z b) 32 b M2) t.heap) (pA 32 b)) args s 0 0 (pA 32 b)) (F0 m 31 ls [])) (q95 : ∀ (i3 : Int32) (M : Mem) (H : Heap) (locs : List Loc) (ls : Array Slot), rc 95 [i3] [] M = some (r, M') → va_P z.1 vwCl (pw (yd z b) 32 b M) H → va_S (pA 32 b) s.heap H locs → lv_has ls 4 [(0, .ref (b + 0)), (3, .int i3)] → W p l e rm12_law s m args below meth c H locs 0 0 (MQ below (va_Qi (fun (r' : Int32) (M2 : Mem) => r' = r ∧ M2 = M') (fun M2 t => va_P z.1 vwCl (pw (yd z b) 32 b M2) t.heap) (pA 32 b)) args s 0 0 (pA 32 b)) (F0 m 95 ls [])) (q123 : ∀ (i3 : Int32) (M : Mem) (H : Heap) (locs : List Loc) (ls : Array Slot), rc 123 [i3] [] M = some (r, M') → va_P z.1 vwCl (pw (yd z b) 32 b M) H → va_S (pA 32 b) s.heap H locs → lv_has ls 4 [(0, .ref (b + 0)), (3, .int i3)] → W p l e rm12_law s m args below meth c H locs 0 0 (MQ below (va_Qi (fun (r' : Int32) (M2 : Mem) => r' = r ∧ M2 = M') (fun M2 t => va_P z.1 vwCl (pw (yd z b) 32 b M2) t.heap) (pA 32 b)) args s 0 0 (pA 32 b)) (F0 m 123 ls [])) {s0 : Int32} {M : Mem} {H : Heap} {locs : List Loc} {ls : Array Slot} (hf : b12_law_67  rc n s0 M = some (r, M')) (hP : va_P z.1 vwCl (pw (yd z b) 32 b M) H) (hS : va_S (pA 32 b) s.heap H locs) (hl : lv_has ls 4 [(0, .ref (b + 0))]) : W p l e rm12_law s m args below meth c H locs 0 0 (MQ below (va_Qi (fun (r' : Int32) (M2 : Mem) => r' = r ∧ M2 = M') (fun M2 t => va_P z.1 vwCl (pw (yd z b) 32 b M2) t.heap) (pA 32 b)) args s 0 0 (pA 32 b)) (F0 m 67 ls [.int s0]) := by
  have hx := C.1.1
  have hb := C.1.2.1
  unfold b12_law_67 at hf
  refine lv_istore_n (lv' := [(2, .int s0), (0, .ref (b + 0))]) hx hb dX12_law_67 rfl hl (by decide) rfl (fun ls hl => ?_)
  refine lv_goto (tgt := 31) hx hb dX12_law_68 (by decide) ?_
  exact q31 s0 M _ _ _ hf hP hS (lv_sub hl [1, 0] rfl)
set_option maxHeartbeats 4000000 in
set_option maxRecDepth 100000 in
theorem w12_law_66 {p : Program} {l : Launch} {e : Env} {s : State} {m : MethodId} {args : Array Value} {below : List Frame} {meth : Method} {c : Code} {z : Zt} {b : Nat}  (C : Cx p s m args c cX12_law 4 RX12 z 32 b) (hr : meth.sig.returnType = (some .int)) (hk : meth.locks = false) {r : Int32} {M' : Mem} {rc : Nat → List Int32 → List Int64 → Mem → Option (Int32 × Mem)} {n : Nat} (q31 : ∀ (i2 : Int32) (M : Mem) (H : Heap) (locs : List Loc) (ls : Array Slot), rc 31 [i2] [] M = some (r, M') → va_P z.1 vwCl (pw (yd z b) 32 b M) H → va_S (pA 32 b) s.heap H locs → lv_has ls 4 [(0, .ref (b + 0)), (2, .int i2)] → W p l e rm12_law s m args below meth c H locs 0 0 (MQ below (va_Qi (fun (r' : Int32) (M2 : Mem) => r' = r ∧ M2 = M') (fun M2 t => va_P z.1 vwCl (pw (yd z b) 32 b M2) t.heap) (pA 32 b)) args s 0 0 (pA 32 b)) (F0 m 31 ls [])) (q95 : ∀ (i3 : Int32) (M : Mem) (H : Heap) (locs : List Loc) (ls : Array Slot), rc 95 [i3] [] M = some (r, M') → va_P z.1 vwCl (pw (yd z b) 32 b M) H → va_S (pA 32 b) s.heap H locs → lv_has ls 4 [(0, .ref (b + 0)), (3, .int i3)] → W p l e rm12_law s m args below meth c H locs 0 0 (MQ below (va_Qi (fun (r' : Int32) (M2 : Mem) => r' = r ∧ M2 = M') (fun M2 t => va_P z.1 vwCl (pw (yd z b) 32 b M2) t.heap) (pA 32 b)) args s 0 0 (pA 32 b)) (F0 m 95 ls [])) (q123 : ∀ (i3 : Int32) (M : Mem) (H : Heap) (locs : List Loc) (ls : Array Slot), rc 123 [i3] [] M = some (r, M') → va_P z.1 vwCl (pw (yd z b) 32 b M) H → va_S (pA 32 b) s.heap H locs → lv_has ls 4 [(0, .ref (b + 0)), (3, .int i3)] → W p l e rm12_law s m args below meth c H locs 0 0 (MQ below (va_Qi (fun (r' : Int32) (M2 : Mem) => r' = r ∧ M2 = M') (fun M2 t => va_P z.1 vwCl (pw (yd z b) 32 b M2) t.heap) (pA 32 b)) args s 0 0 (pA 32 b)) (F0 m 123 ls []))  {M : Mem} {H : Heap} {locs : List Loc} {ls : Array Slot} (hf : b12_law_66  rc n  M = some (r, M')) (hP : va_P z.1 vwCl (pw (yd z b) 32 b M) H) (hS : va_S (pA 32 b) s.heap H locs) (hl : lv_has ls 4 [(0, .ref (b + 0))]) : W p l e rm12_law s m args below meth c H locs 0 0 (MQ below (va_Qi (fun (r' : Int32) (M2 : Mem) => r' = r ∧ M2 = M') (fun M2 t => va_P z.1 vwCl (pw (yd z b) 32 b M2) t.heap) (pA 32 b)) args s 0 0 (pA 32 b)) (F0 m 66 ls []) := by
  have hx := C.1.1
  have hb := C.1.2.1
  unfold b12_law_66 at hf
  refine lv_iconst (v := (0 : Int32)) hx hb dX12_law_66 (by decide) ?_
  exact w12_law_67 (n := n)  C hr hk q31 q95 q123 hf hP hS (lv_sub hl [0] rfl)
set_option maxHeartbeats 4000000 in
set_option maxRecDepth 100000 in
theorem w12_law_31 {p : Program} {l : Launch} {e : Env} {s : State} {m : MethodId} {args : Array Value} {below : List Frame} {meth : Method} {c : Code} {z : Zt} {b : Nat}  (C : Cx p s m args c cX12_law 4 RX12 z 32 b) (hr : meth.sig.returnType = (some .int)) (hk : meth.locks = false) {r : Int32} {M' : Mem} {rc : Nat → List Int32 → List Int64 → Mem → Option (Int32 × Mem)} {n : Nat} (q31 : ∀ (i2 : Int32) (M : Mem) (H : Heap) (locs : List Loc) (ls : Array Slot), rc 31 [i2] [] M = some (r, M') → va_P z.1 vwCl (pw (yd z b) 32 b M) H → va_S (pA 32 b) s.heap H locs → lv_has ls 4 [(0, .ref (b + 0)), (2, .int i2)] → W p l e rm12_law s m args below meth c H locs 0 0 (MQ below (va_Qi (fun (r' : Int32) (M2 : Mem) => r' = r ∧ M2 = M') (fun M2 t => va_P z.1 vwCl (pw (yd z b) 32 b M2) t.heap) (pA 32 b)) args s 0 0 (pA 32 b)) (F0 m 31 ls [])) (q95 : ∀ (i3 : Int32) (M : Mem) (H : Heap) (locs : List Loc) (ls : Array Slot), rc 95 [i3] [] M = some (r, M') → va_P z.1 vwCl (pw (yd z b) 32 b M) H → va_S (pA 32 b) s.heap H locs → lv_has ls 4 [(0, .ref (b + 0)), (3, .int i3)] → W p l e rm12_law s m args below meth c H locs 0 0 (MQ below (va_Qi (fun (r' : Int32) (M2 : Mem) => r' = r ∧ M2 = M') (fun M2 t => va_P z.1 vwCl (pw (yd z b) 32 b M2) t.heap) (pA 32 b)) args s 0 0 (pA 32 b)) (F0 m 95 ls [])) (q123 : ∀ (i3 : Int32) (M : Mem) (H : Heap) (locs : List Loc) (ls : Array Slot), rc 123 [i3] [] M = some (r, M') → va_P z.1 vwCl (pw (yd z b) 32 b M) H → va_S (pA 32 b) s.heap H locs → lv_has ls 4 [(0, .ref (b + 0)), (3, .int i3)] → W p l e rm12_law s m args below meth c H locs 0 0 (MQ below (va_Qi (fun (r' : Int32) (M2 : Mem) => r' = r ∧ M2 = M') (fun M2 t => va_P z.1 vwCl (pw (yd z b) 32 b M2) t.heap) (pA 32 b)) args s 0 0 (pA 32 b)) (F0 m 123 ls [])) {i2 : Int32} {M : Mem} {H : Heap} {locs : List Loc} {ls : Array Slot} (hf : b12_law_31  rc n i2 M = some (r, M')) (hP : va_P z.1 vwCl (pw (yd z b) 32 b M) H) (hS : va_S (pA 32 b) s.heap H locs) (hl : lv_has ls 4 [(0, .ref (b + 0)), (2, .int i2)]) : W p l e rm12_law s m args below meth c H locs 0 0 (MQ below (va_Qi (fun (r' : Int32) (M2 : Mem) => r' = r ∧ M2 = M') (fun M2 t => va_P z.1 vwCl (pw (yd z b) 32 b M2) t.heap) (pA 32 b)) args s 0 0 (pA 32 b)) (F0 m 31 ls []) := by
  have hx := C.1.1
  have hb := C.1.2.1
  unfold b12_law_31 at hf
  refine lv_iload_n hx hb dX12_law_31 rfl (lv_at hl 1 rfl) ?_
  refine lv_if_eq (tgt := 71) hx hb dX12_law_32 (by decide) (fun c12 => ?_) (fun c12 => ?_)
  · replace hf := ite_t c12 hf
    exact w12_law_71 (n := n)  C hr hk q31 q95 q123 hf hP hS (lv_sub hl [0, 1] rfl)
  · replace hf := ite_f c12 hf
    refine lv_aload_n hx hb dX12_law_35 rfl (lv_at hl 0 rfl) ?_
    refine pg C hP (k := 0) (j := 12) (Nat.le_of_ble_eq_true rfl) (yd_0 _ _) rfl iw_12 (Nat.le_of_ble_eq_true rfl) g_1147 rfl rfl dX12_law_36 ?_
    refine lv_aload_n hx hb dX12_law_39 rfl (lv_at hl 0 rfl) ?_
    refine pg C hP (k := 0) (j := 13) (Nat.le_of_ble_eq_true rfl) (yd_0 _ _) rfl iw_12 (Nat.le_of_ble_eq_true rfl) g_1148 rfl rfl dX12_law_40 ?_
    refine lv_icmp_ge (tgt := 71) hx hb dX12_law_43 (by decide) (fun c13 => ?_) (fun c13 => ?_)
    · replace hf := ite_t c13 hf
      exact w12_law_71 (n := n)  C hr hk q31 q95 q123 hf hP hS (lv_sub hl [0, 1] rfl)
    · replace hf := ite_f c13 hf
      refine lv_aload_n hx hb dX12_law_46 rfl (lv_at hl 0 rfl) ?_
      refine lv_bipush (v := (59 : Int32)) hx hb dX12_law_47 (by decide) ?_
      obtain ⟨r14, M15, h16, hf⟩ := bnd_s hf
      refine pcVi (As := [.int (59 : Int32)]) C hP hS (k := 0) (Nat.le_of_ble_eq_true rfl) (yd_0 _ _) rfl (c12_takes  h16) y12_takes_w g_1404 rfl rfl rfl ⟨Nat.le_of_ble_eq_true rfl, Nat.le_of_ble_eq_true rfl⟩ hl.1 rfl (Nat.le_of_ble_eq_true rfl) dX12_law_49 ⟨Nat.le_of_ble_eq_true rfl, Nat.le_of_ble_eq_true rfl⟩ (fun H locs hP hS => ?_)
      refine lv_if_eq (tgt := 66) hx hb dX12_law_52 (by decide) (fun c17 => ?_) (fun c17 => ?_)
      · replace hf := ite_t c17 hf
        exact w12_law_66 (n := n)  C hr hk q31 q95 q123 hf hP hS (lv_sub hl [0] rfl)
      · replace hf := ite_f c17 hf
        refine lv_aload_n hx hb dX12_law_55 rfl (lv_at hl 0 rfl) ?_
        obtain ⟨r18, M19, h20, hf⟩ := bnd_s hf
        refine pcVi (As := []) C hP hS (k := 0) (Nat.le_of_ble_eq_true rfl) (yd_0 _ _) rfl (c12_readsRule  h20) y12_readsRule_w g_1329 rfl rfl rfl ⟨Nat.le_of_ble_eq_true rfl, Nat.le_of_ble_eq_true rfl⟩ hl.1 rfl (Nat.le_of_ble_eq_true rfl) dX12_law_56 ⟨Nat.le_of_ble_eq_true rfl, Nat.le_of_ble_eq_true rfl⟩ (fun H locs hP hS => ?_)
        refine lv_if_eq (tgt := 66) hx hb dX12_law_59 (by decide) (fun c21 => ?_) (fun c21 => ?_)
        · replace hf := ite_t c21 hf
          exact w12_law_66 (n := n)  C hr hk q31 q95 q123 hf hP hS (lv_sub hl [0] rfl)
        · replace hf := ite_f c21 hf
          refine lv_iconst (v := (1 : Int32)) hx hb dX12_law_62 (by decide) ?_
          refine lv_goto (tgt := 67) hx hb dX12_law_63 (by decide) ?_
          exact w12_law_67 (n := n)  C hr hk q31 q95 q123 hf hP hS (lv_sub hl [0] rfl)
set_option maxHeartbeats 4000000 in
set_option maxRecDepth 100000 in
theorem w12_law_0 {p : Program} {l : Launch} {e : Env} {s : State} {m : MethodId} {args : Array Value} {below : List Frame} {meth : Method} {c : Code} {z : Zt} {b : Nat}  (C : Cx p s m args c cX12_law 4 RX12 z 32 b) (hr : meth.sig.returnType = (some .int)) (hk : meth.locks = false) {r : Int32} {M' : Mem} {rc : Nat → List Int32 → List Int64 → Mem → Option (Int32 × Mem)} {n : Nat} (q31 : ∀ (i2 : Int32) (M : Mem) (H : Heap) (locs : List Loc) (ls : Array Slot), rc 31 [i2] [] M = some (r, M') → va_P z.1 vwCl (pw (yd z b) 32 b M) H → va_S (pA 32 b) s.heap H locs → lv_has ls 4 [(0, .ref (b + 0)), (2, .int i2)] → W p l e rm12_law s m args below meth c H locs 0 0 (MQ below (va_Qi (fun (r' : Int32) (M2 : Mem) => r' = r ∧ M2 = M') (fun M2 t => va_P z.1 vwCl (pw (yd z b) 32 b M2) t.heap) (pA 32 b)) args s 0 0 (pA 32 b)) (F0 m 31 ls [])) (q95 : ∀ (i3 : Int32) (M : Mem) (H : Heap) (locs : List Loc) (ls : Array Slot), rc 95 [i3] [] M = some (r, M') → va_P z.1 vwCl (pw (yd z b) 32 b M) H → va_S (pA 32 b) s.heap H locs → lv_has ls 4 [(0, .ref (b + 0)), (3, .int i3)] → W p l e rm12_law s m args below meth c H locs 0 0 (MQ below (va_Qi (fun (r' : Int32) (M2 : Mem) => r' = r ∧ M2 = M') (fun M2 t => va_P z.1 vwCl (pw (yd z b) 32 b M2) t.heap) (pA 32 b)) args s 0 0 (pA 32 b)) (F0 m 95 ls [])) (q123 : ∀ (i3 : Int32) (M : Mem) (H : Heap) (locs : List Loc) (ls : Array Slot), rc 123 [i3] [] M = some (r, M') → va_P z.1 vwCl (pw (yd z b) 32 b M) H → va_S (pA 32 b) s.heap H locs → lv_has ls 4 [(0, .ref (b + 0)), (3, .int i3)] → W p l e rm12_law s m args below meth c H locs 0 0 (MQ below (va_Qi (fun (r' : Int32) (M2 : Mem) => r' = r ∧ M2 = M') (fun M2 t => va_P z.1 vwCl (pw (yd z b) 32 b M2) t.heap) (pA 32 b)) args s 0 0 (pA 32 b)) (F0 m 123 ls [])) {a1 : Int32} {M : Mem} {H : Heap} {locs : List Loc} {ls : Array Slot} (hf : b12_law_0  rc n a1 M = some (r, M')) (hP : va_P z.1 vwCl (pw (yd z b) 32 b M) H) (hS : va_S (pA 32 b) s.heap H locs) (hl : lv_has ls 4 [(0, .ref (b + 0)), (1, .int a1)]) : W p l e rm12_law s m args below meth c H locs 0 0 (MQ below (va_Qi (fun (r' : Int32) (M2 : Mem) => r' = r ∧ M2 = M') (fun M2 t => va_P z.1 vwCl (pw (yd z b) 32 b M2) t.heap) (pA 32 b)) args s 0 0 (pA 32 b)) (F0 m 0 ls []) := by
  have hx := C.1.1
  have hb := C.1.2.1
  unfold b12_law_0 at hf
  refine lv_iload_n hx hb dX12_law_0 rfl (lv_at hl 1 rfl) ?_
  refine lv_iconst (v := (1 : Int32)) hx hb dX12_law_1 (by decide) ?_
  refine lv_sipush (v := (240 : Int32)) hx hb dX12_law_2 (by decide) ?_
  obtain ⟨r1, M2, h3, hf⟩ := bnd_s hf
  refine pcSi (As := [.int a1, .int (1 : Int32), .int (240 : Int32)]) C hP hS (c12_in  h3) y12_in_w g_1306 rfl rfl rfl ⟨Nat.le_of_ble_eq_true rfl, Nat.le_of_ble_eq_true rfl⟩ hl.1 rfl (Nat.le_of_ble_eq_true rfl) dX12_law_5 ⟨Nat.le_of_ble_eq_true rfl, Nat.le_of_ble_eq_true rfl⟩ (fun H locs hP hS => ?_)
  refine lv_if_eq (tgt := 19) hx hb dX12_law_8 (by decide) (fun c4 => ?_) (fun c4 => ?_)
  · replace hf := ite_t c4 hf
    exact w12_law_19 (n := n)  C hr hk q31 q95 q123 hf hP hS (lv_sub hl [] rfl)
  · replace hf := ite_f c4 hf
    refine lv_iload_n hx hb dX12_law_11 rfl (lv_at hl 1 rfl) ?_
    refine lv_aload_n hx hb dX12_law_12 rfl (lv_at hl 0 rfl) ?_
    refine pg C hP (k := 0) (j := 11) (Nat.le_of_ble_eq_true rfl) (yd_0 _ _) rfl iw_12 (Nat.le_of_ble_eq_true rfl) g_1146 rfl rfl dX12_law_13 ?_
    refine lv_icmp_le (tgt := 21) hx hb dX12_law_16 (by decide) (fun c5 => ?_) (fun c5 => ?_)
    · replace hf := ite_t c5 hf
      refine lv_aload_n hx hb dX12_law_21 rfl (lv_at hl 0 rfl) ?_
      refine lv_iload_n hx hb dX12_law_22 rfl (lv_at hl 1 rfl) ?_
      obtain ⟨r6, M7, h8, hf⟩ := bnd_s hf
      refine pcVv (As := [.int a1]) C hP hS (k := 0) (Nat.le_of_ble_eq_true rfl) (yd_0 _ _) rfl (c12_beginsText  h8) y12_beginsText_w g_1325 rfl rfl rfl ⟨Nat.le_of_ble_eq_true rfl, Nat.le_of_ble_eq_true rfl⟩ hl.1 rfl (Nat.le_of_ble_eq_true rfl) dX12_law_23 ⟨Nat.le_of_ble_eq_true rfl, Nat.le_of_ble_eq_true rfl⟩ (fun H locs hP hS => ?_)
      refine lv_aload_n hx hb dX12_law_26 rfl (lv_at hl 0 rfl) ?_
      obtain ⟨r9, M10, h11, hf⟩ := bnd_s hf
      refine pcVi (As := []) C hP hS (k := 0) (Nat.le_of_ble_eq_true rfl) (yd_0 _ _) rfl (c12_readsRule  h11) y12_readsRule_w g_1329 rfl rfl rfl ⟨Nat.le_of_ble_eq_true rfl, Nat.le_of_ble_eq_true rfl⟩ hl.1 rfl (Nat.le_of_ble_eq_true rfl) dX12_law_27 ⟨Nat.le_of_ble_eq_true rfl, Nat.le_of_ble_eq_true rfl⟩ (fun H locs hP hS => ?_)
      refine lv_istore_n (lv' := [(2, .int r9), (0, .ref (b + 0)), (1, .int a1)]) hx hb dX12_law_30 rfl hl (by decide) rfl (fun ls hl => ?_)
      exact w12_law_31 (n := n)  C hr hk q31 q95 q123 hf hP hS (lv_sub hl [1, 0] rfl)
    · replace hf := ite_f c5 hf
      exact w12_law_19 (n := n)  C hr hk q31 q95 q123 hf hP hS (lv_sub hl [] rfl)
set_option maxHeartbeats 4000000 in
set_option maxRecDepth 100000 in
theorem l12_law {p : Program} {l : Launch} {e : Env} {s : State} {m : MethodId} {args : Array Value} {below : List Frame} {meth : Method} {c : Code} {z : Zt} {b : Nat}  (C : Cx p s m args c cX12_law 4 RX12 z 32 b) (hr : meth.sig.returnType = (some .int)) (hk : meth.locks = false) {r : Int32} {M' : Mem} (n : Nat) : (∀ (i2 : Int32) (M : Mem) (H : Heap) (locs : List Loc) (ls : Array Slot), (r12_law  n) 31 [i2] [] M = some (r, M') → va_P z.1 vwCl (pw (yd z b) 32 b M) H → va_S (pA 32 b) s.heap H locs → lv_has ls 4 [(0, .ref (b + 0)), (2, .int i2)] → W p l e rm12_law s m args below meth c H locs 0 0 (MQ below (va_Qi (fun (r' : Int32) (M2 : Mem) => r' = r ∧ M2 = M') (fun M2 t => va_P z.1 vwCl (pw (yd z b) 32 b M2) t.heap) (pA 32 b)) args s 0 0 (pA 32 b)) (F0 m 31 ls [])) ∧ (∀ (i3 : Int32) (M : Mem) (H : Heap) (locs : List Loc) (ls : Array Slot), (r12_law  n) 95 [i3] [] M = some (r, M') → va_P z.1 vwCl (pw (yd z b) 32 b M) H → va_S (pA 32 b) s.heap H locs → lv_has ls 4 [(0, .ref (b + 0)), (3, .int i3)] → W p l e rm12_law s m args below meth c H locs 0 0 (MQ below (va_Qi (fun (r' : Int32) (M2 : Mem) => r' = r ∧ M2 = M') (fun M2 t => va_P z.1 vwCl (pw (yd z b) 32 b M2) t.heap) (pA 32 b)) args s 0 0 (pA 32 b)) (F0 m 95 ls [])) ∧ (∀ (i3 : Int32) (M : Mem) (H : Heap) (locs : List Loc) (ls : Array Slot), (r12_law  n) 123 [i3] [] M = some (r, M') → va_P z.1 vwCl (pw (yd z b) 32 b M) H → va_S (pA 32 b) s.heap H locs → lv_has ls 4 [(0, .ref (b + 0)), (3, .int i3)] → W p l e rm12_law s m args below meth c H locs 0 0 (MQ below (va_Qi (fun (r' : Int32) (M2 : Mem) => r' = r ∧ M2 = M') (fun M2 t => va_P z.1 vwCl (pw (yd z b) 32 b M2) t.heap) (pA 32 b)) args s 0 0 (pA 32 b)) (F0 m 123 ls [])) := by
  induction n with
  | zero => exact ⟨fun _ _ _ _ _ hf => (by cases hf), fun _ _ _ _ _ hf => (by cases hf), fun _ _ _ _ _ hf => (by cases hf)⟩
  | succ n ih => exact ⟨fun _ _ _ _ _ hf hP hS hl => w12_law_31 (n := n)  C hr hk ih.1 ih.2.1 ih.2.2 ((e12_law_31  n _ _).symm.trans hf) hP hS hl, fun _ _ _ _ _ hf hP hS hl => w12_law_95 (n := n)  C hr hk ih.1 ih.2.1 ih.2.2 ((e12_law_95  n _ _).symm.trans hf) hP hS hl, fun _ _ _ _ _ hf hP hS hl => w12_law_123 (n := n)  C hr hk ih.1 ih.2.1 ih.2.2 ((e12_law_123  n _ _).symm.trans hf) hP hS hl⟩
theorem c12_law {l : Launch} {z : Zt} {b n : Nat}  {a1 : Int32} {M M' : Mem} {r : Int32} (hf : f12_law n  a1 M = some (r, M')) : CI l z (yd z b) 32 b yX12_law cX12_law 4 (some .int) rm12_law [.ref (b + 0), .int a1] M M' r :=
  CI.ofW (lv := [(0, .ref (b + 0)), (1, .int a1)]) (by decide) (Nat.le_of_ble_eq_true rfl) rfl (fun p e s m args below meth c ls C hr hk hP hS hl => w12_law_0 (n := n)  C hr hk (l12_law  C hr hk n).1 (l12_law  C hr hk n).2.1 (l12_law  C hr hk n).2.2 hf hP hS hl)

-- BronzeKingModel.reckon(III)I
theorem dX12_reckon_0 : decode cX12_reckon 0 = .ok (.iload_n 0, 1) := by decide +kernel
theorem dX12_reckon_1 : decode cX12_reckon 1 = .ok (.tableswitch 85 2 8 #[43, 47, 51, 55, 59, 63, 74], 43) := by decide +kernel
theorem dX12_reckon_44 : decode cX12_reckon 44 = .ok (.iload_n 1, 1) := by decide +kernel
theorem dX12_reckon_45 : decode cX12_reckon 45 = .ok (.iload_n 2, 1) := by decide +kernel
theorem dX12_reckon_46 : decode cX12_reckon 46 = .ok (.iadd, 1) := by decide +kernel
theorem dX12_reckon_47 : decode cX12_reckon 47 = .ok (.ireturn, 1) := by decide +kernel
theorem dX12_reckon_48 : decode cX12_reckon 48 = .ok (.iload_n 1, 1) := by decide +kernel
theorem dX12_reckon_49 : decode cX12_reckon 49 = .ok (.iload_n 2, 1) := by decide +kernel
theorem dX12_reckon_50 : decode cX12_reckon 50 = .ok (.isub, 1) := by decide +kernel
theorem dX12_reckon_51 : decode cX12_reckon 51 = .ok (.ireturn, 1) := by decide +kernel
theorem dX12_reckon_52 : decode cX12_reckon 52 = .ok (.iload_n 1, 1) := by decide +kernel
theorem dX12_reckon_53 : decode cX12_reckon 53 = .ok (.iload_n 2, 1) := by decide +kernel
theorem dX12_reckon_54 : decode cX12_reckon 54 = .ok (.imul, 1) := by decide +kernel
theorem dX12_reckon_55 : decode cX12_reckon 55 = .ok (.ireturn, 1) := by decide +kernel
theorem dX12_reckon_56 : decode cX12_reckon 56 = .ok (.iload_n 1, 1) := by decide +kernel
theorem dX12_reckon_57 : decode cX12_reckon 57 = .ok (.iload_n 2, 1) := by decide +kernel
theorem dX12_reckon_58 : decode cX12_reckon 58 = .ok (.idiv, 1) := by decide +kernel
theorem dX12_reckon_59 : decode cX12_reckon 59 = .ok (.ireturn, 1) := by decide +kernel
theorem dX12_reckon_60 : decode cX12_reckon 60 = .ok (.iload_n 1, 1) := by decide +kernel
theorem dX12_reckon_61 : decode cX12_reckon 61 = .ok (.iload_n 2, 1) := by decide +kernel
theorem dX12_reckon_62 : decode cX12_reckon 62 = .ok (.irem, 1) := by decide +kernel
theorem dX12_reckon_63 : decode cX12_reckon 63 = .ok (.ireturn, 1) := by decide +kernel
theorem dX12_reckon_64 : decode cX12_reckon 64 = .ok (.iload_n 1, 1) := by decide +kernel
theorem dX12_reckon_65 : decode cX12_reckon 65 = .ok (.iload_n 2, 1) := by decide +kernel
theorem dX12_reckon_66 : decode cX12_reckon 66 = .ok (.if_icmp .ge 7, 3) := by decide +kernel
theorem dX12_reckon_69 : decode cX12_reckon 69 = .ok (.iconst 1, 1) := by decide +kernel
theorem dX12_reckon_70 : decode cX12_reckon 70 = .ok (.goto 4, 3) := by decide +kernel
theorem dX12_reckon_73 : decode cX12_reckon 73 = .ok (.iconst 0, 1) := by decide +kernel
theorem dX12_reckon_74 : decode cX12_reckon 74 = .ok (.ireturn, 1) := by decide +kernel
theorem dX12_reckon_75 : decode cX12_reckon 75 = .ok (.iload_n 1, 1) := by decide +kernel
theorem dX12_reckon_76 : decode cX12_reckon 76 = .ok (.iload_n 2, 1) := by decide +kernel
theorem dX12_reckon_77 : decode cX12_reckon 77 = .ok (.if_icmp .le 7, 3) := by decide +kernel
theorem dX12_reckon_80 : decode cX12_reckon 80 = .ok (.iconst 1, 1) := by decide +kernel
theorem dX12_reckon_81 : decode cX12_reckon 81 = .ok (.goto 4, 3) := by decide +kernel
theorem dX12_reckon_84 : decode cX12_reckon 84 = .ok (.iconst 0, 1) := by decide +kernel
theorem dX12_reckon_85 : decode cX12_reckon 85 = .ok (.ireturn, 1) := by decide +kernel
theorem dX12_reckon_86 : decode cX12_reckon 86 = .ok (.iload_n 1, 1) := by decide +kernel
theorem dX12_reckon_87 : decode cX12_reckon 87 = .ok (.iload_n 2, 1) := by decide +kernel
theorem dX12_reckon_88 : decode cX12_reckon 88 = .ok (.if_icmp .ne 7, 3) := by decide +kernel
theorem dX12_reckon_91 : decode cX12_reckon 91 = .ok (.iconst 1, 1) := by decide +kernel
theorem dX12_reckon_92 : decode cX12_reckon 92 = .ok (.goto 4, 3) := by decide +kernel
theorem dX12_reckon_95 : decode cX12_reckon 95 = .ok (.iconst 0, 1) := by decide +kernel
theorem dX12_reckon_96 : decode cX12_reckon 96 = .ok (.ireturn, 1) := by decide +kernel
def b12_reckon_0 (rc : Nat → List Int32 → List Int64 → Mem → Option (Int32 × Mem)) (n : Nat) (a0 : Int32) (a1 : Int32) (a2 : Int32) (M : Mem) : Option (Int32 × Mem) :=
  (if a0 = (2 : Int32) then (
   some ((a1 + a2), M))
  else (
   (if a0 = (3 : Int32) then (
    some ((a1 - a2), M))
   else (
    (if a0 = (4 : Int32) then (
     some ((a1 * a2), M))
    else (
     (if a0 = (5 : Int32) then (
      chk (decide (¬ a2 = 0)) <|
      some ((a1 / a2), M))
     else (
      (if a0 = (6 : Int32) then (
       chk (decide (¬ a2 = 0)) <|
       some ((a1 - a1 / a2 * a2), M))
      else (
       (if a0 = (7 : Int32) then (
        (if a2 ≤ a1 then (
         some ((0 : Int32), M))
        else (
         some ((1 : Int32), M))))
       else (
        (if a0 = (8 : Int32) then (
         (if a1 ≤ a2 then (
          some ((0 : Int32), M))
         else (
          some ((1 : Int32), M))))
        else (
         (if a1 = a2 then (
          some ((1 : Int32), M))
         else (
          some ((0 : Int32), M)))))))))))))))))
def f12_reckon (n : Nat) (a0 : Int32) (a1 : Int32) (a2 : Int32) (M : Mem) : Option (Int32 × Mem) := b12_reckon_0 (fun _ _ _ _ => none) n a0 a1 a2 M
abbrev rm12_reckon : Room := { frames := 0, cells := 0, slots := 0, locals := 0 }
theorem y12_reckon_w : yS yX12_reckon cX12_reckon 3 (some .int) 3 := ⟨g_1468, g_14, g_1469, by decide, by decide, by decide +kernel⟩
set_option maxHeartbeats 4000000 in
set_option maxRecDepth 100000 in
theorem w12_reckon_0 {p : Program} {l : Launch} {e : Env} {s : State} {m : MethodId} {args : Array Value} {below : List Frame} {meth : Method} {c : Code} {z : Zt} {b : Nat}  (C : Cx p s m args c cX12_reckon 3 RX12 z 32 b) (hr : meth.sig.returnType = (some .int)) (hk : meth.locks = false) {r : Int32} {M' : Mem} {rc : Nat → List Int32 → List Int64 → Mem → Option (Int32 × Mem)} {n : Nat}  {a0 : Int32} {a1 : Int32} {a2 : Int32} {M : Mem} {H : Heap} {locs : List Loc} {ls : Array Slot} (hf : b12_reckon_0  rc n a0 a1 a2 M = some (r, M')) (hP : va_P z.1 vwCl (pw (yd z b) 32 b M) H) (hS : va_S (pA 32 b) s.heap H locs) (hl : lv_has ls 3 [(0, .int a0), (1, .int a1), (2, .int a2)]) : W p l e rm12_reckon s m args below meth c H locs 0 0 (MQ below (va_Qi (fun (r' : Int32) (M2 : Mem) => r' = r ∧ M2 = M') (fun M2 t => va_P z.1 vwCl (pw (yd z b) 32 b M2) t.heap) (pA 32 b)) args s 0 0 (pA 32 b)) (F0 m 0 ls []) := by
  have hx := C.1.1
  have hb := C.1.2.1
  unfold b12_reckon_0 at hf
  refine lv_iload_n hx hb dX12_reckon_0 rfl (lv_at hl 0 rfl) ?_
  by_cases c1 : a0 = (2 : Int32)
  · replace hf := ite_t c1 hf
    refine lv_tableIn (off := 43) (tgt := 44) hx hb dX12_reckon_1 (by rw [c1]; decide) (by rw [c1]; decide) (by rw [c1]; rfl) (by decide) ?_
    refine lv_iload_n hx hb dX12_reckon_44 rfl (lv_at hl 1 rfl) ?_
    refine lv_iload_n hx hb dX12_reckon_45 rfl (lv_at hl 2 rfl) ?_
    refine lv_iadd hx hb dX12_reckon_46 ?_
    exact prI C hr hk hP hS hf dX12_reckon_47
  · replace hf := ite_f c1 hf
    by_cases c2 : a0 = (3 : Int32)
    · replace hf := ite_t c2 hf
      refine lv_tableIn (off := 47) (tgt := 48) hx hb dX12_reckon_1 (by rw [c2]; decide) (by rw [c2]; decide) (by rw [c2]; rfl) (by decide) ?_
      refine lv_iload_n hx hb dX12_reckon_48 rfl (lv_at hl 1 rfl) ?_
      refine lv_iload_n hx hb dX12_reckon_49 rfl (lv_at hl 2 rfl) ?_
      refine lv_isub hx hb dX12_reckon_50 ?_
      exact prI C hr hk hP hS hf dX12_reckon_51
    · replace hf := ite_f c2 hf
      by_cases c3 : a0 = (4 : Int32)
      · replace hf := ite_t c3 hf
        refine lv_tableIn (off := 51) (tgt := 52) hx hb dX12_reckon_1 (by rw [c3]; decide) (by rw [c3]; decide) (by rw [c3]; rfl) (by decide) ?_
        refine lv_iload_n hx hb dX12_reckon_52 rfl (lv_at hl 1 rfl) ?_
        refine lv_iload_n hx hb dX12_reckon_53 rfl (lv_at hl 2 rfl) ?_
        refine lv_imul hx hb dX12_reckon_54 ?_
        exact prI C hr hk hP hS hf dX12_reckon_55
      · replace hf := ite_f c3 hf
        by_cases c4 : a0 = (5 : Int32)
        · replace hf := ite_t c4 hf
          refine lv_tableIn (off := 55) (tgt := 56) hx hb dX12_reckon_1 (by rw [c4]; decide) (by rw [c4]; decide) (by rw [c4]; rfl) (by decide) ?_
          refine lv_iload_n hx hb dX12_reckon_56 rfl (lv_at hl 1 rfl) ?_
          refine lv_iload_n hx hb dX12_reckon_57 rfl (lv_at hl 2 rfl) ?_
          have h5 := of_decide_eq_true (chk_1 hf)
          replace hf := chk_2 hf
          refine lv_idiv hx hb dX12_reckon_58 h5 ?_
          exact prI C hr hk hP hS hf dX12_reckon_59
        · replace hf := ite_f c4 hf
          by_cases c6 : a0 = (6 : Int32)
          · replace hf := ite_t c6 hf
            refine lv_tableIn (off := 59) (tgt := 60) hx hb dX12_reckon_1 (by rw [c6]; decide) (by rw [c6]; decide) (by rw [c6]; rfl) (by decide) ?_
            refine lv_iload_n hx hb dX12_reckon_60 rfl (lv_at hl 1 rfl) ?_
            refine lv_iload_n hx hb dX12_reckon_61 rfl (lv_at hl 2 rfl) ?_
            have h7 := of_decide_eq_true (chk_1 hf)
            replace hf := chk_2 hf
            refine lv_irem hx hb dX12_reckon_62 h7 ?_
            exact prI C hr hk hP hS hf dX12_reckon_63
          · replace hf := ite_f c6 hf
            by_cases c8 : a0 = (7 : Int32)
            · replace hf := ite_t c8 hf
              refine lv_tableIn (off := 63) (tgt := 64) hx hb dX12_reckon_1 (by rw [c8]; decide) (by rw [c8]; decide) (by rw [c8]; rfl) (by decide) ?_
              refine lv_iload_n hx hb dX12_reckon_64 rfl (lv_at hl 1 rfl) ?_
              refine lv_iload_n hx hb dX12_reckon_65 rfl (lv_at hl 2 rfl) ?_
              refine lv_icmp_ge (tgt := 73) hx hb dX12_reckon_66 (by decide) (fun c9 => ?_) (fun c9 => ?_)
              · replace hf := ite_t c9 hf
                refine lv_iconst (v := (0 : Int32)) hx hb dX12_reckon_73 (by decide) ?_
                exact prI C hr hk hP hS hf dX12_reckon_74
              · replace hf := ite_f c9 hf
                refine lv_iconst (v := (1 : Int32)) hx hb dX12_reckon_69 (by decide) ?_
                refine lv_goto (tgt := 74) hx hb dX12_reckon_70 (by decide) ?_
                exact prI C hr hk hP hS hf dX12_reckon_74
            · replace hf := ite_f c8 hf
              by_cases c10 : a0 = (8 : Int32)
              · replace hf := ite_t c10 hf
                refine lv_tableIn (off := 74) (tgt := 75) hx hb dX12_reckon_1 (by rw [c10]; decide) (by rw [c10]; decide) (by rw [c10]; rfl) (by decide) ?_
                refine lv_iload_n hx hb dX12_reckon_75 rfl (lv_at hl 1 rfl) ?_
                refine lv_iload_n hx hb dX12_reckon_76 rfl (lv_at hl 2 rfl) ?_
                refine lv_icmp_le (tgt := 84) hx hb dX12_reckon_77 (by decide) (fun c11 => ?_) (fun c11 => ?_)
                · replace hf := ite_t c11 hf
                  refine lv_iconst (v := (0 : Int32)) hx hb dX12_reckon_84 (by decide) ?_
                  exact prI C hr hk hP hS hf dX12_reckon_85
                · replace hf := ite_f c11 hf
                  refine lv_iconst (v := (1 : Int32)) hx hb dX12_reckon_80 (by decide) ?_
                  refine lv_goto (tgt := 85) hx hb dX12_reckon_81 (by decide) ?_
                  exact prI C hr hk hP hS hf dX12_reckon_85
              · replace hf := ite_f c10 hf
                refine lv_tableOut (tgt := 86) hx hb dX12_reckon_1 (by have z0 : ¬ a0.toInt = 2 := tsn c1; have z1 : ¬ a0.toInt = 3 := tsn c2; have z2 : ¬ a0.toInt = 4 := tsn c3; have z3 : ¬ a0.toInt = 5 := tsn c4; have z4 : ¬ a0.toInt = 6 := tsn c6; have z5 : ¬ a0.toInt = 7 := tsn c8; have z6 : ¬ a0.toInt = 8 := tsn c10; omega) (by decide) ?_
                refine lv_iload_n hx hb dX12_reckon_86 rfl (lv_at hl 1 rfl) ?_
                refine lv_iload_n hx hb dX12_reckon_87 rfl (lv_at hl 2 rfl) ?_
                refine lv_icmp_ne (tgt := 95) hx hb dX12_reckon_88 (by decide) (fun c12 => ?_) (fun c12 => ?_)
                · replace hf := ite_f c12 hf
                  refine lv_iconst (v := (0 : Int32)) hx hb dX12_reckon_95 (by decide) ?_
                  exact prI C hr hk hP hS hf dX12_reckon_96
                · replace hf := ite_t c12 hf
                  refine lv_iconst (v := (1 : Int32)) hx hb dX12_reckon_91 (by decide) ?_
                  refine lv_goto (tgt := 96) hx hb dX12_reckon_92 (by decide) ?_
                  exact prI C hr hk hP hS hf dX12_reckon_96
theorem c12_reckon {l : Launch} {z : Zt} {b n : Nat}  {a0 : Int32} {a1 : Int32} {a2 : Int32} {M M' : Mem} {r : Int32} (hf : f12_reckon n  a0 a1 a2 M = some (r, M')) : CI l z (yd z b) 32 b yX12_reckon cX12_reckon 3 (some .int) rm12_reckon [.int a0, .int a1, .int a2] M M' r :=
  CI.ofW (lv := [(0, .int a0), (1, .int a1), (2, .int a2)]) (by decide) (Nat.le_of_ble_eq_true rfl) rfl (fun p e s m args below meth c ls C hr hk hP hS hl => w12_reckon_0 (n := n)  C hr hk  hf hP hS hl)

-- BronzeKingModel.comesTo(II)I
theorem dX12_comesTo_0 : decode cX12_comesTo 0 = .ok (.iconst 0, 1) := by decide +kernel
theorem dX12_comesTo_1 : decode cX12_comesTo 1 = .ok (.istore_n 3, 1) := by decide +kernel
theorem dX12_comesTo_2 : decode cX12_comesTo 2 = .ok (.sipush 260, 3) := by decide +kernel
theorem dX12_comesTo_5 : decode cX12_comesTo 5 = .ok (.iload_n 1, 1) := by decide +kernel
theorem dX12_comesTo_6 : decode cX12_comesTo 6 = .ok (.sipush 260, 3) := by decide +kernel
theorem dX12_comesTo_9 : decode cX12_comesTo 9 = .ok (.idiv, 1) := by decide +kernel
theorem dX12_comesTo_10 : decode cX12_comesTo 10 = .ok (.imul, 1) := by decide +kernel
theorem dX12_comesTo_11 : decode cX12_comesTo 11 = .ok (.istore 4, 2) := by decide +kernel
theorem dX12_comesTo_13 : decode cX12_comesTo 13 = .ok (.iload_n 1, 1) := by decide +kernel
theorem dX12_comesTo_14 : decode cX12_comesTo 14 = .ok (.istore 5, 2) := by decide +kernel
theorem dX12_comesTo_16 : decode cX12_comesTo 16 = .ok (.iload 5, 2) := by decide +kernel
theorem dX12_comesTo_18 : decode cX12_comesTo 18 = .ok (.iload_n 2, 1) := by decide +kernel
theorem dX12_comesTo_19 : decode cX12_comesTo 19 = .ok (.if_icmp .ge 214, 3) := by decide +kernel
theorem dX12_comesTo_22 : decode cX12_comesTo 22 = .ok (.aload_n 0, 1) := by decide +kernel
theorem dX12_comesTo_23 : decode cX12_comesTo 23 = .ok (.getfield 53, 3) := by decide +kernel
theorem dX12_comesTo_26 : decode cX12_comesTo 26 = .ok (.iload 5, 2) := by decide +kernel
theorem dX12_comesTo_28 : decode cX12_comesTo 28 = .ok (.iaload, 1) := by decide +kernel
theorem dX12_comesTo_29 : decode cX12_comesTo 29 = .ok (.ldc 169, 2) := by decide +kernel
theorem dX12_comesTo_31 : decode cX12_comesTo 31 = .ok (.idiv, 1) := by decide +kernel
theorem dX12_comesTo_32 : decode cX12_comesTo 32 = .ok (.istore 6, 2) := by decide +kernel
theorem dX12_comesTo_34 : decode cX12_comesTo 34 = .ok (.aload_n 0, 1) := by decide +kernel
theorem dX12_comesTo_35 : decode cX12_comesTo 35 = .ok (.getfield 53, 3) := by decide +kernel
theorem dX12_comesTo_38 : decode cX12_comesTo 38 = .ok (.iload 5, 2) := by decide +kernel
theorem dX12_comesTo_40 : decode cX12_comesTo 40 = .ok (.iaload, 1) := by decide +kernel
theorem dX12_comesTo_41 : decode cX12_comesTo 41 = .ok (.ldc 169, 2) := by decide +kernel
theorem dX12_comesTo_43 : decode cX12_comesTo 43 = .ok (.irem, 1) := by decide +kernel
theorem dX12_comesTo_44 : decode cX12_comesTo 44 = .ok (.istore 7, 2) := by decide +kernel
theorem dX12_comesTo_46 : decode cX12_comesTo 46 = .ok (.iload 5, 2) := by decide +kernel
theorem dX12_comesTo_48 : decode cX12_comesTo 48 = .ok (.iconst 1, 1) := by decide +kernel
theorem dX12_comesTo_49 : decode cX12_comesTo 49 = .ok (.iadd, 1) := by decide +kernel
theorem dX12_comesTo_50 : decode cX12_comesTo 50 = .ok (.istore 5, 2) := by decide +kernel
theorem dX12_comesTo_52 : decode cX12_comesTo 52 = .ok (.iload 6, 2) := by decide +kernel
theorem dX12_comesTo_54 : decode cX12_comesTo 54 = .ok (.ifCond .eq 9, 3) := by decide +kernel
theorem dX12_comesTo_57 : decode cX12_comesTo 57 = .ok (.iload 6, 2) := by decide +kernel
theorem dX12_comesTo_59 : decode cX12_comesTo 59 = .ok (.iconst 1, 1) := by decide +kernel
theorem dX12_comesTo_60 : decode cX12_comesTo 60 = .ok (.if_icmp .ne 33, 3) := by decide +kernel
theorem dX12_comesTo_63 : decode cX12_comesTo 63 = .ok (.aload_n 0, 1) := by decide +kernel
theorem dX12_comesTo_64 : decode cX12_comesTo 64 = .ok (.getfield 68, 3) := by decide +kernel
theorem dX12_comesTo_67 : decode cX12_comesTo 67 = .ok (.iload_n 3, 1) := by decide +kernel
theorem dX12_comesTo_68 : decode cX12_comesTo 68 = .ok (.iload 6, 2) := by decide +kernel
theorem dX12_comesTo_70 : decode cX12_comesTo 70 = .ok (.ifCond .ne 8, 3) := by decide +kernel
theorem dX12_comesTo_73 : decode cX12_comesTo 73 = .ok (.iload 7, 2) := by decide +kernel
theorem dX12_comesTo_75 : decode cX12_comesTo 75 = .ok (.goto 10, 3) := by decide +kernel
theorem dX12_comesTo_78 : decode cX12_comesTo 78 = .ok (.aload_n 0, 1) := by decide +kernel
theorem dX12_comesTo_79 : decode cX12_comesTo 79 = .ok (.getfield 71, 3) := by decide +kernel
theorem dX12_comesTo_82 : decode cX12_comesTo 82 = .ok (.iload 7, 2) := by decide +kernel
theorem dX12_comesTo_84 : decode cX12_comesTo 84 = .ok (.iaload, 1) := by decide +kernel
theorem dX12_comesTo_85 : decode cX12_comesTo 85 = .ok (.iastore, 1) := by decide +kernel
theorem dX12_comesTo_86 : decode cX12_comesTo 86 = .ok (.iload_n 3, 1) := by decide +kernel
theorem dX12_comesTo_87 : decode cX12_comesTo 87 = .ok (.iconst 1, 1) := by decide +kernel
theorem dX12_comesTo_88 : decode cX12_comesTo 88 = .ok (.iadd, 1) := by decide +kernel
theorem dX12_comesTo_89 : decode cX12_comesTo 89 = .ok (.istore_n 3, 1) := by decide +kernel
theorem dX12_comesTo_90 : decode cX12_comesTo 90 = .ok (.goto 140, 3) := by decide +kernel
theorem dX12_comesTo_93 : decode cX12_comesTo 93 = .ok (.iload 6, 2) := by decide +kernel
theorem dX12_comesTo_95 : decode cX12_comesTo 95 = .ok (.bipush 10, 2) := by decide +kernel
theorem dX12_comesTo_97 : decode cX12_comesTo 97 = .ok (.if_icmp .ne 24, 3) := by decide +kernel
theorem dX12_comesTo_100 : decode cX12_comesTo 100 = .ok (.aload_n 0, 1) := by decide +kernel
theorem dX12_comesTo_101 : decode cX12_comesTo 101 = .ok (.getfield 68, 3) := by decide +kernel
theorem dX12_comesTo_104 : decode cX12_comesTo 104 = .ok (.iload_n 3, 1) := by decide +kernel
theorem dX12_comesTo_105 : decode cX12_comesTo 105 = .ok (.iconst 1, 1) := by decide +kernel
theorem dX12_comesTo_106 : decode cX12_comesTo 106 = .ok (.isub, 1) := by decide +kernel
theorem dX12_comesTo_107 : decode cX12_comesTo 107 = .ok (.iconst 1, 1) := by decide +kernel
theorem dX12_comesTo_108 : decode cX12_comesTo 108 = .ok (.aload_n 0, 1) := by decide +kernel
theorem dX12_comesTo_109 : decode cX12_comesTo 109 = .ok (.getfield 68, 3) := by decide +kernel
theorem dX12_comesTo_112 : decode cX12_comesTo 112 = .ok (.iload_n 3, 1) := by decide +kernel
theorem dX12_comesTo_113 : decode cX12_comesTo 113 = .ok (.iconst 1, 1) := by decide +kernel
theorem dX12_comesTo_114 : decode cX12_comesTo 114 = .ok (.isub, 1) := by decide +kernel
theorem dX12_comesTo_115 : decode cX12_comesTo 115 = .ok (.iaload, 1) := by decide +kernel
theorem dX12_comesTo_116 : decode cX12_comesTo 116 = .ok (.isub, 1) := by decide +kernel
theorem dX12_comesTo_117 : decode cX12_comesTo 117 = .ok (.iastore, 1) := by decide +kernel
theorem dX12_comesTo_118 : decode cX12_comesTo 118 = .ok (.goto 112, 3) := by decide +kernel
theorem dX12_comesTo_121 : decode cX12_comesTo 121 = .ok (.iload 6, 2) := by decide +kernel
theorem dX12_comesTo_123 : decode cX12_comesTo 123 = .ok (.bipush 11, 2) := by decide +kernel
theorem dX12_comesTo_125 : decode cX12_comesTo 125 = .ok (.if_icmp .eq 10, 3) := by decide +kernel
theorem dX12_comesTo_128 : decode cX12_comesTo 128 = .ok (.iload 6, 2) := by decide +kernel
theorem dX12_comesTo_130 : decode cX12_comesTo 130 = .ok (.bipush 12, 2) := by decide +kernel
theorem dX12_comesTo_132 : decode cX12_comesTo 132 = .ok (.if_icmp .ne 43, 3) := by decide +kernel
theorem dX12_comesTo_135 : decode cX12_comesTo 135 = .ok (.aload_n 0, 1) := by decide +kernel
theorem dX12_comesTo_136 : decode cX12_comesTo 136 = .ok (.getfield 68, 3) := by decide +kernel
theorem dX12_comesTo_139 : decode cX12_comesTo 139 = .ok (.iload_n 3, 1) := by decide +kernel
theorem dX12_comesTo_140 : decode cX12_comesTo 140 = .ok (.iconst 1, 1) := by decide +kernel
theorem dX12_comesTo_141 : decode cX12_comesTo 141 = .ok (.isub, 1) := by decide +kernel
theorem dX12_comesTo_142 : decode cX12_comesTo 142 = .ok (.iaload, 1) := by decide +kernel
theorem dX12_comesTo_143 : decode cX12_comesTo 143 = .ok (.iload 6, 2) := by decide +kernel
theorem dX12_comesTo_145 : decode cX12_comesTo 145 = .ok (.bipush 12, 2) := by decide +kernel
theorem dX12_comesTo_147 : decode cX12_comesTo 147 = .ok (.if_icmp .ne 7, 3) := by decide +kernel
theorem dX12_comesTo_150 : decode cX12_comesTo 150 = .ok (.iconst 1, 1) := by decide +kernel
theorem dX12_comesTo_151 : decode cX12_comesTo 151 = .ok (.goto 4, 3) := by decide +kernel
theorem dX12_comesTo_154 : decode cX12_comesTo 154 = .ok (.iconst 0, 1) := by decide +kernel
theorem dX12_comesTo_155 : decode cX12_comesTo 155 = .ok (.if_icmp .ne 13, 3) := by decide +kernel
theorem dX12_comesTo_158 : decode cX12_comesTo 158 = .ok (.iload 4, 2) := by decide +kernel
theorem dX12_comesTo_160 : decode cX12_comesTo 160 = .ok (.iload 7, 2) := by decide +kernel
theorem dX12_comesTo_162 : decode cX12_comesTo 162 = .ok (.iadd, 1) := by decide +kernel
theorem dX12_comesTo_163 : decode cX12_comesTo 163 = .ok (.istore 5, 2) := by decide +kernel
theorem dX12_comesTo_165 : decode cX12_comesTo 165 = .ok (.goto 65, 3) := by decide +kernel
theorem dX12_comesTo_168 : decode cX12_comesTo 168 = .ok (.iload_n 3, 1) := by decide +kernel
theorem dX12_comesTo_169 : decode cX12_comesTo 169 = .ok (.iconst 1, 1) := by decide +kernel
theorem dX12_comesTo_170 : decode cX12_comesTo 170 = .ok (.isub, 1) := by decide +kernel
theorem dX12_comesTo_171 : decode cX12_comesTo 171 = .ok (.istore_n 3, 1) := by decide +kernel
theorem dX12_comesTo_172 : decode cX12_comesTo 172 = .ok (.goto 58, 3) := by decide +kernel
theorem dX12_comesTo_175 : decode cX12_comesTo 175 = .ok (.iload_n 3, 1) := by decide +kernel
theorem dX12_comesTo_176 : decode cX12_comesTo 176 = .ok (.iconst 1, 1) := by decide +kernel
theorem dX12_comesTo_177 : decode cX12_comesTo 177 = .ok (.isub, 1) := by decide +kernel
theorem dX12_comesTo_178 : decode cX12_comesTo 178 = .ok (.istore_n 3, 1) := by decide +kernel
theorem dX12_comesTo_179 : decode cX12_comesTo 179 = .ok (.iload 6, 2) := by decide +kernel
theorem dX12_comesTo_181 : decode cX12_comesTo 181 = .ok (.iconst 5, 1) := by decide +kernel
theorem dX12_comesTo_182 : decode cX12_comesTo 182 = .ok (.if_icmp .eq 10, 3) := by decide +kernel
theorem dX12_comesTo_185 : decode cX12_comesTo 185 = .ok (.iload 6, 2) := by decide +kernel
theorem dX12_comesTo_187 : decode cX12_comesTo 187 = .ok (.bipush 6, 2) := by decide +kernel
theorem dX12_comesTo_189 : decode cX12_comesTo 189 = .ok (.if_icmp .ne 14, 3) := by decide +kernel
theorem dX12_comesTo_192 : decode cX12_comesTo 192 = .ok (.aload_n 0, 1) := by decide +kernel
theorem dX12_comesTo_193 : decode cX12_comesTo 193 = .ok (.getfield 68, 3) := by decide +kernel
theorem dX12_comesTo_196 : decode cX12_comesTo 196 = .ok (.iload_n 3, 1) := by decide +kernel
theorem dX12_comesTo_197 : decode cX12_comesTo 197 = .ok (.iaload, 1) := by decide +kernel
theorem dX12_comesTo_198 : decode cX12_comesTo 198 = .ok (.ifCond .ne 5, 3) := by decide +kernel
theorem dX12_comesTo_201 : decode cX12_comesTo 201 = .ok (.iconst 0, 1) := by decide +kernel
theorem dX12_comesTo_202 : decode cX12_comesTo 202 = .ok (.ireturn, 1) := by decide +kernel
theorem dX12_comesTo_203 : decode cX12_comesTo 203 = .ok (.aload_n 0, 1) := by decide +kernel
theorem dX12_comesTo_204 : decode cX12_comesTo 204 = .ok (.getfield 68, 3) := by decide +kernel
theorem dX12_comesTo_207 : decode cX12_comesTo 207 = .ok (.iload_n 3, 1) := by decide +kernel
theorem dX12_comesTo_208 : decode cX12_comesTo 208 = .ok (.iconst 1, 1) := by decide +kernel
theorem dX12_comesTo_209 : decode cX12_comesTo 209 = .ok (.isub, 1) := by decide +kernel
theorem dX12_comesTo_210 : decode cX12_comesTo 210 = .ok (.iload 6, 2) := by decide +kernel
theorem dX12_comesTo_212 : decode cX12_comesTo 212 = .ok (.aload_n 0, 1) := by decide +kernel
theorem dX12_comesTo_213 : decode cX12_comesTo 213 = .ok (.getfield 68, 3) := by decide +kernel
theorem dX12_comesTo_216 : decode cX12_comesTo 216 = .ok (.iload_n 3, 1) := by decide +kernel
theorem dX12_comesTo_217 : decode cX12_comesTo 217 = .ok (.iconst 1, 1) := by decide +kernel
theorem dX12_comesTo_218 : decode cX12_comesTo 218 = .ok (.isub, 1) := by decide +kernel
theorem dX12_comesTo_219 : decode cX12_comesTo 219 = .ok (.iaload, 1) := by decide +kernel
theorem dX12_comesTo_220 : decode cX12_comesTo 220 = .ok (.aload_n 0, 1) := by decide +kernel
theorem dX12_comesTo_221 : decode cX12_comesTo 221 = .ok (.getfield 68, 3) := by decide +kernel
theorem dX12_comesTo_224 : decode cX12_comesTo 224 = .ok (.iload_n 3, 1) := by decide +kernel
theorem dX12_comesTo_225 : decode cX12_comesTo 225 = .ok (.iaload, 1) := by decide +kernel
theorem dX12_comesTo_226 : decode cX12_comesTo 226 = .ok (.invokestatic 239, 3) := by decide +kernel
theorem dX12_comesTo_229 : decode cX12_comesTo 229 = .ok (.iastore, 1) := by decide +kernel
theorem dX12_comesTo_230 : decode cX12_comesTo 230 = .ok (.goto (-214), 3) := by decide +kernel
theorem dX12_comesTo_233 : decode cX12_comesTo 233 = .ok (.aload_n 0, 1) := by decide +kernel
theorem dX12_comesTo_234 : decode cX12_comesTo 234 = .ok (.getfield 68, 3) := by decide +kernel
theorem dX12_comesTo_237 : decode cX12_comesTo 237 = .ok (.iconst 0, 1) := by decide +kernel
theorem dX12_comesTo_238 : decode cX12_comesTo 238 = .ok (.iaload, 1) := by decide +kernel
theorem dX12_comesTo_239 : decode cX12_comesTo 239 = .ok (.ireturn, 1) := by decide +kernel
def b12_comesTo_230 (rc : Nat → List Int32 → List Int64 → Mem → Option (Int32 × Mem)) (n : Nat) (i2 : Int32) (i3 : Int32) (i4 : Int32) (i5 : Int32) (M : Mem) : Option (Int32 × Mem) :=
  rc 16 [i2, i3, i4, i5] [] M
def b12_comesTo_85 (rc : Nat → List Int32 → List Int64 → Mem → Option (Int32 × Mem)) (n : Nat) (i2 : Int32) (i3 : Int32) (i4 : Int32) (i5 : Int32) (s1 : Int32) (s2 : Int32) (M : Mem) : Option (Int32 × Mem) :=
  chk (inb s1 260) <|
  lt (wI M 20 s1.toNatClampNeg s2) fun M37 =>
  lt (i3 + (1 : Int32)) fun v38 =>
  b12_comesTo_230  rc n i2 v38 i4 i5 M37
def b12_comesTo_63 (rc : Nat → List Int32 → List Int64 → Mem → Option (Int32 × Mem)) (n : Nat) (i2 : Int32) (i3 : Int32) (i4 : Int32) (i5 : Int32) (i6 : Int32) (i7 : Int32) (M : Mem) : Option (Int32 × Mem) :=
  (if i6 = 0 then (
   b12_comesTo_85  rc n i2 i3 i4 i5 i3 i7 M)
  else (
   chk (inb i7 9) <|
   b12_comesTo_85  rc n i2 i3 i4 i5 i3 (M.1 21 i7.toNatClampNeg) M))
def b12_comesTo_155 (rc : Nat → List Int32 → List Int64 → Mem → Option (Int32 × Mem)) (n : Nat) (i2 : Int32) (i3 : Int32) (i4 : Int32) (i5 : Int32) (i7 : Int32) (s0 : Int32) (s1 : Int32) (M : Mem) : Option (Int32 × Mem) :=
  (if s0 = s1 then (
   lt (i4 + i7) fun v33 =>
   b12_comesTo_230  rc n i2 i3 i4 v33 M)
  else (
   lt (i3 - (1 : Int32)) fun v32 =>
   b12_comesTo_230  rc n i2 v32 i4 i5 M))
def b12_comesTo_135 (rc : Nat → List Int32 → List Int64 → Mem → Option (Int32 × Mem)) (n : Nat) (i2 : Int32) (i3 : Int32) (i4 : Int32) (i5 : Int32) (i6 : Int32) (i7 : Int32) (M : Mem) : Option (Int32 × Mem) :=
  chk (inb (i3 - (1 : Int32)) 260) <|
  (if i6 = (12 : Int32) then (
   b12_comesTo_155  rc n i2 i3 i4 i5 i7 (M.1 20 (i3 - (1 : Int32)).toNatClampNeg) (1 : Int32) M)
  else (
   b12_comesTo_155  rc n i2 i3 i4 i5 i7 (M.1 20 (i3 - (1 : Int32)).toNatClampNeg) (0 : Int32) M))
def b12_comesTo_203 (rc : Nat → List Int32 → List Int64 → Mem → Option (Int32 × Mem)) (n : Nat) (i2 : Int32) (i3 : Int32) (i4 : Int32) (i5 : Int32) (i6 : Int32) (M : Mem) : Option (Int32 × Mem) :=
  chk (inb (i3 - (1 : Int32)) 260) <|
  chk (inb i3 260) <|
  bnd (f12_reckon n i6 (M.1 20 (i3 - (1 : Int32)).toNatClampNeg) (M.1 20 i3.toNatClampNeg) M) fun r22 M23 =>
  chk (inb (i3 - (1 : Int32)) 260) <|
  lt (wI M23 20 (i3 - (1 : Int32)).toNatClampNeg r22) fun M26 =>
  b12_comesTo_230  rc n i2 i3 i4 i5 M26
def b12_comesTo_192 (rc : Nat → List Int32 → List Int64 → Mem → Option (Int32 × Mem)) (n : Nat) (i2 : Int32) (i3 : Int32) (i4 : Int32) (i5 : Int32) (i6 : Int32) (M : Mem) : Option (Int32 × Mem) :=
  chk (inb i3 260) <|
  (if (M.1 20 i3.toNatClampNeg) = 0 then (
   some ((0 : Int32), M))
  else (
   b12_comesTo_203  rc n i2 i3 i4 i5 i6 M))
def b12_comesTo_16 (rc : Nat → List Int32 → List Int64 → Mem → Option (Int32 × Mem)) (n : Nat) (i2 : Int32) (i3 : Int32) (i4 : Int32) (i5 : Int32) (M : Mem) : Option (Int32 × Mem) :=
  (if i2 ≤ i5 then (
   chk (inb (0 : Int32) 260) <|
   some ((M.1 20 (0 : Int32).toNatClampNeg), M))
  else (
   chk (inb i5 260) <|
   lt ((M.1 15 i5.toNatClampNeg) / (1048576 : Int32)) fun v5 =>
   chk (inb i5 260) <|
   lt ((M.1 15 i5.toNatClampNeg) - (M.1 15 i5.toNatClampNeg) / (1048576 : Int32) * (1048576 : Int32)) fun v7 =>
   lt (i5 + (1 : Int32)) fun v8 =>
   (if v5 = 0 then (
    b12_comesTo_63  rc n i2 i3 i4 v8 v5 v7 M)
   else (
    (if v5 = (1 : Int32) then (
     b12_comesTo_63  rc n i2 i3 i4 v8 v5 v7 M)
    else (
     (if v5 = (10 : Int32) then (
      chk (inb (i3 - (1 : Int32)) 260) <|
      chk (inb (i3 - (1 : Int32)) 260) <|
      lt (wI M 20 (i3 - (1 : Int32)).toNatClampNeg ((1 : Int32) - (M.1 20 (i3 - (1 : Int32)).toNatClampNeg))) fun M19 =>
      b12_comesTo_230  rc n i2 i3 i4 v8 M19)
     else (
      (if v5 = (11 : Int32) then (
       b12_comesTo_135  rc n i2 i3 i4 v8 v5 v7 M)
      else (
       (if v5 = (12 : Int32) then (
        b12_comesTo_135  rc n i2 i3 i4 v8 v5 v7 M)
       else (
        lt (i3 - (1 : Int32)) fun v14 =>
        (if v5 = (5 : Int32) then (
         b12_comesTo_192  rc n i2 v14 i4 v8 v5 M)
        else (
         (if v5 = (6 : Int32) then (
          b12_comesTo_192  rc n i2 v14 i4 v8 v5 M)
         else (
          b12_comesTo_203  rc n i2 v14 i4 v8 v5 M))))))))))))))))
def b12_comesTo_0 (rc : Nat → List Int32 → List Int64 → Mem → Option (Int32 × Mem)) (n : Nat) (a1 : Int32) (a2 : Int32) (M : Mem) : Option (Int32 × Mem) :=
  lt ((260 : Int32) * (a1 / (260 : Int32))) fun v1 =>
  b12_comesTo_16  rc n a2 (0 : Int32) v1 a1 M
def r12_comesTo : Nat → Nat → List Int32 → List Int64 → Mem → Option (Int32 × Mem)
  | 0 => fun _ _ _ _ => none
  | n + 1 => fun pc li lj M =>
    if pc = 16 then (match li, lj with | [i2, i3, i4, i5], [] => b12_comesTo_16  (r12_comesTo  n) n i2 i3 i4 i5 M | _, _ => none) else
    none
theorem e12_comesTo_16  (n : Nat) (i2 : Int32) (i3 : Int32) (i4 : Int32) (i5 : Int32) (M : Mem) : r12_comesTo  (n + 1) 16 [i2, i3, i4, i5] [] M = b12_comesTo_16  (r12_comesTo  n) n i2 i3 i4 i5 M := by
  rw [r12_comesTo]
  simp
def f12_comesTo (n : Nat) (a1 : Int32) (a2 : Int32) (M : Mem) : Option (Int32 × Mem) := b12_comesTo_0 (r12_comesTo n) n a1 a2 M
abbrev rm12_comesTo : Room := { frames := 1, cells := 0, slots := 0, locals := 22 }
theorem y12_comesTo_w : yV RX12 yX12_comesTo cX12_comesTo 8 (some .int) 2 := ⟨g_1465, gp 66 rfl rfl, g_14, g_1466, rfl, by decide, by decide, by decide +kernel⟩
set_option maxHeartbeats 4000000 in
set_option maxRecDepth 100000 in
theorem w12_comesTo_230 {p : Program} {l : Launch} {e : Env} {s : State} {m : MethodId} {args : Array Value} {below : List Frame} {meth : Method} {c : Code} {z : Zt} {b : Nat}  (C : Cx p s m args c cX12_comesTo 8 RX12 z 32 b) (hr : meth.sig.returnType = (some .int)) (hk : meth.locks = false) {r : Int32} {M' : Mem} {rc : Nat → List Int32 → List Int64 → Mem → Option (Int32 × Mem)} {n : Nat} (q16 : ∀ (i2 : Int32) (i3 : Int32) (i4 : Int32) (i5 : Int32) (M : Mem) (H : Heap) (locs : List Loc) (ls : Array Slot), rc 16 [i2, i3, i4, i5] [] M = some (r, M') → va_P z.1 vwCl (pw (yd z b) 32 b M) H → va_S (pA 32 b) s.heap H locs → lv_has ls 8 [(0, .ref (b + 0)), (2, .int i2), (3, .int i3), (4, .int i4), (5, .int i5)] → W p l e rm12_comesTo s m args below meth c H locs 0 0 (MQ below (va_Qi (fun (r' : Int32) (M2 : Mem) => r' = r ∧ M2 = M') (fun M2 t => va_P z.1 vwCl (pw (yd z b) 32 b M2) t.heap) (pA 32 b)) args s 0 0 (pA 32 b)) (F0 m 16 ls [])) {i2 : Int32} {i3 : Int32} {i4 : Int32} {i5 : Int32} {M : Mem} {H : Heap} {locs : List Loc} {ls : Array Slot} (hf : b12_comesTo_230  rc n i2 i3 i4 i5 M = some (r, M')) (hP : va_P z.1 vwCl (pw (yd z b) 32 b M) H) (hS : va_S (pA 32 b) s.heap H locs) (hl : lv_has ls 8 [(0, .ref (b + 0)), (2, .int i2), (3, .int i3), (4, .int i4), (5, .int i5)]) : W p l e rm12_comesTo s m args below meth c H locs 0 0 (MQ below (va_Qi (fun (r' : Int32) (M2 : Mem) => r' = r ∧ M2 = M') (fun M2 t => va_P z.1 vwCl (pw (yd z b) 32 b M2) t.heap) (pA 32 b)) args s 0 0 (pA 32 b)) (F0 m 230 ls []) := by
  have hx := C.1.1
  have hb := C.1.2.1
  unfold b12_comesTo_230 at hf
  refine lv_goto (tgt := 16) hx hb dX12_comesTo_230 (by decide) ?_
  exact q16 i2 i3 i4 i5 M _ _ _ hf hP hS (lv_sub hl [0, 1, 2, 3, 4] rfl)
set_option maxHeartbeats 4000000 in
set_option maxRecDepth 100000 in
theorem w12_comesTo_85 {p : Program} {l : Launch} {e : Env} {s : State} {m : MethodId} {args : Array Value} {below : List Frame} {meth : Method} {c : Code} {z : Zt} {b : Nat}  (C : Cx p s m args c cX12_comesTo 8 RX12 z 32 b) (hr : meth.sig.returnType = (some .int)) (hk : meth.locks = false) {r : Int32} {M' : Mem} {rc : Nat → List Int32 → List Int64 → Mem → Option (Int32 × Mem)} {n : Nat} (q16 : ∀ (i2 : Int32) (i3 : Int32) (i4 : Int32) (i5 : Int32) (M : Mem) (H : Heap) (locs : List Loc) (ls : Array Slot), rc 16 [i2, i3, i4, i5] [] M = some (r, M') → va_P z.1 vwCl (pw (yd z b) 32 b M) H → va_S (pA 32 b) s.heap H locs → lv_has ls 8 [(0, .ref (b + 0)), (2, .int i2), (3, .int i3), (4, .int i4), (5, .int i5)] → W p l e rm12_comesTo s m args below meth c H locs 0 0 (MQ below (va_Qi (fun (r' : Int32) (M2 : Mem) => r' = r ∧ M2 = M') (fun M2 t => va_P z.1 vwCl (pw (yd z b) 32 b M2) t.heap) (pA 32 b)) args s 0 0 (pA 32 b)) (F0 m 16 ls [])) {i2 : Int32} {i3 : Int32} {i4 : Int32} {i5 : Int32} {s1 : Int32} {s2 : Int32} {M : Mem} {H : Heap} {locs : List Loc} {ls : Array Slot} (hf : b12_comesTo_85  rc n i2 i3 i4 i5 s1 s2 M = some (r, M')) (hP : va_P z.1 vwCl (pw (yd z b) 32 b M) H) (hS : va_S (pA 32 b) s.heap H locs) (hl : lv_has ls 8 [(0, .ref (b + 0)), (2, .int i2), (3, .int i3), (4, .int i4), (5, .int i5)]) : W p l e rm12_comesTo s m args below meth c H locs 0 0 (MQ below (va_Qi (fun (r' : Int32) (M2 : Mem) => r' = r ∧ M2 = M') (fun M2 t => va_P z.1 vwCl (pw (yd z b) 32 b M2) t.heap) (pA 32 b)) args s 0 0 (pA 32 b)) (F0 m 85 ls [.int s2, .int s1, .ref (b + 20)]) := by
  have hx := C.1.1
  have hb := C.1.2.1
  unfold b12_comesTo_85 at hf
  have h36 := chk_1 hf
  replace hf := chk_2 hf
  refine psI C hP hS (k := 20) (Nat.le_of_ble_eq_true rfl) (yd_20) h36 dX12_comesTo_85 (fun M37 H locs eM37 hP hS => ?_)
  replace hf := lt_c eM37 hf
  refine lv_iload_n hx hb dX12_comesTo_86 rfl (lv_at hl 2 rfl) ?_
  refine lv_iconst (v := (1 : Int32)) hx hb dX12_comesTo_87 (by decide) ?_
  refine lv_iadd hx hb dX12_comesTo_88 ?_
  refine lv_topi (fun v38 ev38 => ?_)
  replace hf := lt_c ev38 hf
  refine lv_istore_n (lv' := [(3, .int v38), (0, .ref (b + 0)), (2, .int i2), (4, .int i4), (5, .int i5)]) hx hb dX12_comesTo_89 rfl hl (by decide) rfl (fun ls hl => ?_)
  refine lv_goto (tgt := 230) hx hb dX12_comesTo_90 (by decide) ?_
  exact w12_comesTo_230 (n := n)  C hr hk q16 hf hP hS (lv_sub hl [1, 2, 0, 3, 4] rfl)
set_option maxHeartbeats 4000000 in
set_option maxRecDepth 100000 in
theorem w12_comesTo_63 {p : Program} {l : Launch} {e : Env} {s : State} {m : MethodId} {args : Array Value} {below : List Frame} {meth : Method} {c : Code} {z : Zt} {b : Nat}  (C : Cx p s m args c cX12_comesTo 8 RX12 z 32 b) (hr : meth.sig.returnType = (some .int)) (hk : meth.locks = false) {r : Int32} {M' : Mem} {rc : Nat → List Int32 → List Int64 → Mem → Option (Int32 × Mem)} {n : Nat} (q16 : ∀ (i2 : Int32) (i3 : Int32) (i4 : Int32) (i5 : Int32) (M : Mem) (H : Heap) (locs : List Loc) (ls : Array Slot), rc 16 [i2, i3, i4, i5] [] M = some (r, M') → va_P z.1 vwCl (pw (yd z b) 32 b M) H → va_S (pA 32 b) s.heap H locs → lv_has ls 8 [(0, .ref (b + 0)), (2, .int i2), (3, .int i3), (4, .int i4), (5, .int i5)] → W p l e rm12_comesTo s m args below meth c H locs 0 0 (MQ below (va_Qi (fun (r' : Int32) (M2 : Mem) => r' = r ∧ M2 = M') (fun M2 t => va_P z.1 vwCl (pw (yd z b) 32 b M2) t.heap) (pA 32 b)) args s 0 0 (pA 32 b)) (F0 m 16 ls [])) {i2 : Int32} {i3 : Int32} {i4 : Int32} {i5 : Int32} {i6 : Int32} {i7 : Int32} {M : Mem} {H : Heap} {locs : List Loc} {ls : Array Slot} (hf : b12_comesTo_63  rc n i2 i3 i4 i5 i6 i7 M = some (r, M')) (hP : va_P z.1 vwCl (pw (yd z b) 32 b M) H) (hS : va_S (pA 32 b) s.heap H locs) (hl : lv_has ls 8 [(0, .ref (b + 0)), (2, .int i2), (3, .int i3), (4, .int i4), (5, .int i5), (6, .int i6), (7, .int i7)]) : W p l e rm12_comesTo s m args below meth c H locs 0 0 (MQ below (va_Qi (fun (r' : Int32) (M2 : Mem) => r' = r ∧ M2 = M') (fun M2 t => va_P z.1 vwCl (pw (yd z b) 32 b M2) t.heap) (pA 32 b)) args s 0 0 (pA 32 b)) (F0 m 63 ls []) := by
  have hx := C.1.1
  have hb := C.1.2.1
  unfold b12_comesTo_63 at hf
  refine lv_aload_n hx hb dX12_comesTo_63 rfl (lv_at hl 0 rfl) ?_
  refine pg C hP (k := 0) (j := 32) (Nat.le_of_ble_eq_true rfl) (yd_0 _ _) rfl iw_12 (Nat.le_of_ble_eq_true rfl) g_1167 rfl rfl dX12_comesTo_64 ?_
  refine lv_iload_n hx hb dX12_comesTo_67 rfl (lv_at hl 2 rfl) ?_
  refine lv_iload hx hb dX12_comesTo_68 (lv_at hl 5 rfl) ?_
  refine lv_if_ne (tgt := 78) hx hb dX12_comesTo_70 (by decide) (fun c34 => ?_) (fun c34 => ?_)
  · replace hf := ite_f c34 hf
    refine lv_aload_n hx hb dX12_comesTo_78 rfl (lv_at hl 0 rfl) ?_
    refine pg C hP (k := 0) (j := 33) (Nat.le_of_ble_eq_true rfl) (yd_0 _ _) rfl iw_12 (Nat.le_of_ble_eq_true rfl) g_1168 rfl rfl dX12_comesTo_79 ?_
    refine lv_iload hx hb dX12_comesTo_82 (lv_at hl 6 rfl) ?_
    have h35 := chk_1 hf
    replace hf := chk_2 hf
    refine paI C hP (k := 21) (Nat.le_of_ble_eq_true rfl) (yd_21 _ _) h35 dX12_comesTo_84 ?_
    exact w12_comesTo_85 (n := n)  C hr hk q16 hf hP hS (lv_sub hl [0, 1, 2, 3, 4] rfl)
  · replace hf := ite_t c34 hf
    refine lv_iload hx hb dX12_comesTo_73 (lv_at hl 6 rfl) ?_
    refine lv_goto (tgt := 85) hx hb dX12_comesTo_75 (by decide) ?_
    exact w12_comesTo_85 (n := n)  C hr hk q16 hf hP hS (lv_sub hl [0, 1, 2, 3, 4] rfl)
set_option maxHeartbeats 4000000 in
set_option maxRecDepth 100000 in
theorem w12_comesTo_155 {p : Program} {l : Launch} {e : Env} {s : State} {m : MethodId} {args : Array Value} {below : List Frame} {meth : Method} {c : Code} {z : Zt} {b : Nat}  (C : Cx p s m args c cX12_comesTo 8 RX12 z 32 b) (hr : meth.sig.returnType = (some .int)) (hk : meth.locks = false) {r : Int32} {M' : Mem} {rc : Nat → List Int32 → List Int64 → Mem → Option (Int32 × Mem)} {n : Nat} (q16 : ∀ (i2 : Int32) (i3 : Int32) (i4 : Int32) (i5 : Int32) (M : Mem) (H : Heap) (locs : List Loc) (ls : Array Slot), rc 16 [i2, i3, i4, i5] [] M = some (r, M') → va_P z.1 vwCl (pw (yd z b) 32 b M) H → va_S (pA 32 b) s.heap H locs → lv_has ls 8 [(0, .ref (b + 0)), (2, .int i2), (3, .int i3), (4, .int i4), (5, .int i5)] → W p l e rm12_comesTo s m args below meth c H locs 0 0 (MQ below (va_Qi (fun (r' : Int32) (M2 : Mem) => r' = r ∧ M2 = M') (fun M2 t => va_P z.1 vwCl (pw (yd z b) 32 b M2) t.heap) (pA 32 b)) args s 0 0 (pA 32 b)) (F0 m 16 ls [])) {i2 : Int32} {i3 : Int32} {i4 : Int32} {i5 : Int32} {i7 : Int32} {s0 : Int32} {s1 : Int32} {M : Mem} {H : Heap} {locs : List Loc} {ls : Array Slot} (hf : b12_comesTo_155  rc n i2 i3 i4 i5 i7 s0 s1 M = some (r, M')) (hP : va_P z.1 vwCl (pw (yd z b) 32 b M) H) (hS : va_S (pA 32 b) s.heap H locs) (hl : lv_has ls 8 [(0, .ref (b + 0)), (2, .int i2), (3, .int i3), (4, .int i4), (5, .int i5), (7, .int i7)]) : W p l e rm12_comesTo s m args below meth c H locs 0 0 (MQ below (va_Qi (fun (r' : Int32) (M2 : Mem) => r' = r ∧ M2 = M') (fun M2 t => va_P z.1 vwCl (pw (yd z b) 32 b M2) t.heap) (pA 32 b)) args s 0 0 (pA 32 b)) (F0 m 155 ls [.int s1, .int s0]) := by
  have hx := C.1.1
  have hb := C.1.2.1
  unfold b12_comesTo_155 at hf
  refine lv_icmp_ne (tgt := 168) hx hb dX12_comesTo_155 (by decide) (fun c31 => ?_) (fun c31 => ?_)
  · replace hf := ite_f c31 hf
    refine lv_iload_n hx hb dX12_comesTo_168 rfl (lv_at hl 2 rfl) ?_
    refine lv_iconst (v := (1 : Int32)) hx hb dX12_comesTo_169 (by decide) ?_
    refine lv_isub hx hb dX12_comesTo_170 ?_
    refine lv_topi (fun v32 ev32 => ?_)
    replace hf := lt_c ev32 hf
    refine lv_istore_n (lv' := [(3, .int v32), (0, .ref (b + 0)), (2, .int i2), (4, .int i4), (5, .int i5), (7, .int i7)]) hx hb dX12_comesTo_171 rfl hl (by decide) rfl (fun ls hl => ?_)
    refine lv_goto (tgt := 230) hx hb dX12_comesTo_172 (by decide) ?_
    exact w12_comesTo_230 (n := n)  C hr hk q16 hf hP hS (lv_sub hl [1, 2, 0, 3, 4] rfl)
  · replace hf := ite_t c31 hf
    refine lv_iload hx hb dX12_comesTo_158 (lv_at hl 3 rfl) ?_
    refine lv_iload hx hb dX12_comesTo_160 (lv_at hl 5 rfl) ?_
    refine lv_iadd hx hb dX12_comesTo_162 ?_
    refine lv_topi (fun v33 ev33 => ?_)
    replace hf := lt_c ev33 hf
    refine lv_istore (lv' := [(5, .int v33), (0, .ref (b + 0)), (2, .int i2), (3, .int i3), (4, .int i4), (7, .int i7)]) hx hb dX12_comesTo_163 hl (by decide) rfl (fun ls hl => ?_)
    refine lv_goto (tgt := 230) hx hb dX12_comesTo_165 (by decide) ?_
    exact w12_comesTo_230 (n := n)  C hr hk q16 hf hP hS (lv_sub hl [1, 2, 3, 4, 0] rfl)
set_option maxHeartbeats 4000000 in
set_option maxRecDepth 100000 in
theorem w12_comesTo_135 {p : Program} {l : Launch} {e : Env} {s : State} {m : MethodId} {args : Array Value} {below : List Frame} {meth : Method} {c : Code} {z : Zt} {b : Nat}  (C : Cx p s m args c cX12_comesTo 8 RX12 z 32 b) (hr : meth.sig.returnType = (some .int)) (hk : meth.locks = false) {r : Int32} {M' : Mem} {rc : Nat → List Int32 → List Int64 → Mem → Option (Int32 × Mem)} {n : Nat} (q16 : ∀ (i2 : Int32) (i3 : Int32) (i4 : Int32) (i5 : Int32) (M : Mem) (H : Heap) (locs : List Loc) (ls : Array Slot), rc 16 [i2, i3, i4, i5] [] M = some (r, M') → va_P z.1 vwCl (pw (yd z b) 32 b M) H → va_S (pA 32 b) s.heap H locs → lv_has ls 8 [(0, .ref (b + 0)), (2, .int i2), (3, .int i3), (4, .int i4), (5, .int i5)] → W p l e rm12_comesTo s m args below meth c H locs 0 0 (MQ below (va_Qi (fun (r' : Int32) (M2 : Mem) => r' = r ∧ M2 = M') (fun M2 t => va_P z.1 vwCl (pw (yd z b) 32 b M2) t.heap) (pA 32 b)) args s 0 0 (pA 32 b)) (F0 m 16 ls [])) {i2 : Int32} {i3 : Int32} {i4 : Int32} {i5 : Int32} {i6 : Int32} {i7 : Int32} {M : Mem} {H : Heap} {locs : List Loc} {ls : Array Slot} (hf : b12_comesTo_135  rc n i2 i3 i4 i5 i6 i7 M = some (r, M')) (hP : va_P z.1 vwCl (pw (yd z b) 32 b M) H) (hS : va_S (pA 32 b) s.heap H locs) (hl : lv_has ls 8 [(0, .ref (b + 0)), (2, .int i2), (3, .int i3), (4, .int i4), (5, .int i5), (6, .int i6), (7, .int i7)]) : W p l e rm12_comesTo s m args below meth c H locs 0 0 (MQ below (va_Qi (fun (r' : Int32) (M2 : Mem) => r' = r ∧ M2 = M') (fun M2 t => va_P z.1 vwCl (pw (yd z b) 32 b M2) t.heap) (pA 32 b)) args s 0 0 (pA 32 b)) (F0 m 135 ls []) := by
  have hx := C.1.1
  have hb := C.1.2.1
  unfold b12_comesTo_135 at hf
  refine lv_aload_n hx hb dX12_comesTo_135 rfl (lv_at hl 0 rfl) ?_
  refine pg C hP (k := 0) (j := 32) (Nat.le_of_ble_eq_true rfl) (yd_0 _ _) rfl iw_12 (Nat.le_of_ble_eq_true rfl) g_1167 rfl rfl dX12_comesTo_136 ?_
  refine lv_iload_n hx hb dX12_comesTo_139 rfl (lv_at hl 2 rfl) ?_
  refine lv_iconst (v := (1 : Int32)) hx hb dX12_comesTo_140 (by decide) ?_
  refine lv_isub hx hb dX12_comesTo_141 ?_
  have h29 := chk_1 hf
  replace hf := chk_2 hf
  refine paI C hP (k := 20) (Nat.le_of_ble_eq_true rfl) (yd_20 _ _) h29 dX12_comesTo_142 ?_
  refine lv_iload hx hb dX12_comesTo_143 (lv_at hl 5 rfl) ?_
  refine lv_bipush (v := (12 : Int32)) hx hb dX12_comesTo_145 (by decide) ?_
  refine lv_icmp_ne (tgt := 154) hx hb dX12_comesTo_147 (by decide) (fun c30 => ?_) (fun c30 => ?_)
  · replace hf := ite_f c30 hf
    refine lv_iconst (v := (0 : Int32)) hx hb dX12_comesTo_154 (by decide) ?_
    exact w12_comesTo_155 (n := n)  C hr hk q16 hf hP hS (lv_sub hl [0, 1, 2, 3, 4, 6] rfl)
  · replace hf := ite_t c30 hf
    refine lv_iconst (v := (1 : Int32)) hx hb dX12_comesTo_150 (by decide) ?_
    refine lv_goto (tgt := 155) hx hb dX12_comesTo_151 (by decide) ?_
    exact w12_comesTo_155 (n := n)  C hr hk q16 hf hP hS (lv_sub hl [0, 1, 2, 3, 4, 6] rfl)
set_option maxHeartbeats 4000000 in
set_option maxRecDepth 100000 in
theorem w12_comesTo_203 {p : Program} {l : Launch} {e : Env} {s : State} {m : MethodId} {args : Array Value} {below : List Frame} {meth : Method} {c : Code} {z : Zt} {b : Nat}  (C : Cx p s m args c cX12_comesTo 8 RX12 z 32 b) (hr : meth.sig.returnType = (some .int)) (hk : meth.locks = false) {r : Int32} {M' : Mem} {rc : Nat → List Int32 → List Int64 → Mem → Option (Int32 × Mem)} {n : Nat} (q16 : ∀ (i2 : Int32) (i3 : Int32) (i4 : Int32) (i5 : Int32) (M : Mem) (H : Heap) (locs : List Loc) (ls : Array Slot), rc 16 [i2, i3, i4, i5] [] M = some (r, M') → va_P z.1 vwCl (pw (yd z b) 32 b M) H → va_S (pA 32 b) s.heap H locs → lv_has ls 8 [(0, .ref (b + 0)), (2, .int i2), (3, .int i3), (4, .int i4), (5, .int i5)] → W p l e rm12_comesTo s m args below meth c H locs 0 0 (MQ below (va_Qi (fun (r' : Int32) (M2 : Mem) => r' = r ∧ M2 = M') (fun M2 t => va_P z.1 vwCl (pw (yd z b) 32 b M2) t.heap) (pA 32 b)) args s 0 0 (pA 32 b)) (F0 m 16 ls [])) {i2 : Int32} {i3 : Int32} {i4 : Int32} {i5 : Int32} {i6 : Int32} {M : Mem} {H : Heap} {locs : List Loc} {ls : Array Slot} (hf : b12_comesTo_203  rc n i2 i3 i4 i5 i6 M = some (r, M')) (hP : va_P z.1 vwCl (pw (yd z b) 32 b M) H) (hS : va_S (pA 32 b) s.heap H locs) (hl : lv_has ls 8 [(0, .ref (b + 0)), (2, .int i2), (3, .int i3), (4, .int i4), (5, .int i5), (6, .int i6)]) : W p l e rm12_comesTo s m args below meth c H locs 0 0 (MQ below (va_Qi (fun (r' : Int32) (M2 : Mem) => r' = r ∧ M2 = M') (fun M2 t => va_P z.1 vwCl (pw (yd z b) 32 b M2) t.heap) (pA 32 b)) args s 0 0 (pA 32 b)) (F0 m 203 ls []) := by
  have hx := C.1.1
  have hb := C.1.2.1
  unfold b12_comesTo_203 at hf
  refine lv_aload_n hx hb dX12_comesTo_203 rfl (lv_at hl 0 rfl) ?_
  refine pg C hP (k := 0) (j := 32) (Nat.le_of_ble_eq_true rfl) (yd_0 _ _) rfl iw_12 (Nat.le_of_ble_eq_true rfl) g_1167 rfl rfl dX12_comesTo_204 ?_
  refine lv_iload_n hx hb dX12_comesTo_207 rfl (lv_at hl 2 rfl) ?_
  refine lv_iconst (v := (1 : Int32)) hx hb dX12_comesTo_208 (by decide) ?_
  refine lv_isub hx hb dX12_comesTo_209 ?_
  refine lv_iload hx hb dX12_comesTo_210 (lv_at hl 5 rfl) ?_
  refine lv_aload_n hx hb dX12_comesTo_212 rfl (lv_at hl 0 rfl) ?_
  refine pg C hP (k := 0) (j := 32) (Nat.le_of_ble_eq_true rfl) (yd_0 _ _) rfl iw_12 (Nat.le_of_ble_eq_true rfl) g_1167 rfl rfl dX12_comesTo_213 ?_
  refine lv_iload_n hx hb dX12_comesTo_216 rfl (lv_at hl 2 rfl) ?_
  refine lv_iconst (v := (1 : Int32)) hx hb dX12_comesTo_217 (by decide) ?_
  refine lv_isub hx hb dX12_comesTo_218 ?_
  have h20 := chk_1 hf
  replace hf := chk_2 hf
  refine paI C hP (k := 20) (Nat.le_of_ble_eq_true rfl) (yd_20 _ _) h20 dX12_comesTo_219 ?_
  refine lv_aload_n hx hb dX12_comesTo_220 rfl (lv_at hl 0 rfl) ?_
  refine pg C hP (k := 0) (j := 32) (Nat.le_of_ble_eq_true rfl) (yd_0 _ _) rfl iw_12 (Nat.le_of_ble_eq_true rfl) g_1167 rfl rfl dX12_comesTo_221 ?_
  refine lv_iload_n hx hb dX12_comesTo_224 rfl (lv_at hl 2 rfl) ?_
  have h21 := chk_1 hf
  replace hf := chk_2 hf
  refine paI C hP (k := 20) (Nat.le_of_ble_eq_true rfl) (yd_20 _ _) h21 dX12_comesTo_225 ?_
  obtain ⟨r22, M23, h24, hf⟩ := bnd_s hf
  refine pcSi (As := [.int i6, .int (M.1 20 (i3 - (1 : Int32)).toNatClampNeg), .int (M.1 20 i3.toNatClampNeg)]) C hP hS (c12_reckon  h24) y12_reckon_w g_1467 rfl rfl rfl ⟨Nat.le_of_ble_eq_true rfl, Nat.le_of_ble_eq_true rfl⟩ hl.1 rfl (Nat.le_of_ble_eq_true rfl) dX12_comesTo_226 ⟨Nat.le_of_ble_eq_true rfl, Nat.le_of_ble_eq_true rfl⟩ (fun H locs hP hS => ?_)
  have h25 := chk_1 hf
  replace hf := chk_2 hf
  refine psI C hP hS (k := 20) (Nat.le_of_ble_eq_true rfl) (yd_20) h25 dX12_comesTo_229 (fun M26 H locs eM26 hP hS => ?_)
  replace hf := lt_c eM26 hf
  exact w12_comesTo_230 (n := n)  C hr hk q16 hf hP hS (lv_sub hl [0, 1, 2, 3, 4] rfl)
set_option maxHeartbeats 4000000 in
set_option maxRecDepth 100000 in
theorem w12_comesTo_192 {p : Program} {l : Launch} {e : Env} {s : State} {m : MethodId} {args : Array Value} {below : List Frame} {meth : Method} {c : Code} {z : Zt} {b : Nat}  (C : Cx p s m args c cX12_comesTo 8 RX12 z 32 b) (hr : meth.sig.returnType = (some .int)) (hk : meth.locks = false) {r : Int32} {M' : Mem} {rc : Nat → List Int32 → List Int64 → Mem → Option (Int32 × Mem)} {n : Nat} (q16 : ∀ (i2 : Int32) (i3 : Int32) (i4 : Int32) (i5 : Int32) (M : Mem) (H : Heap) (locs : List Loc) (ls : Array Slot), rc 16 [i2, i3, i4, i5] [] M = some (r, M') → va_P z.1 vwCl (pw (yd z b) 32 b M) H → va_S (pA 32 b) s.heap H locs → lv_has ls 8 [(0, .ref (b + 0)), (2, .int i2), (3, .int i3), (4, .int i4), (5, .int i5)] → W p l e rm12_comesTo s m args below meth c H locs 0 0 (MQ below (va_Qi (fun (r' : Int32) (M2 : Mem) => r' = r ∧ M2 = M') (fun M2 t => va_P z.1 vwCl (pw (yd z b) 32 b M2) t.heap) (pA 32 b)) args s 0 0 (pA 32 b)) (F0 m 16 ls [])) {i2 : Int32} {i3 : Int32} {i4 : Int32} {i5 : Int32} {i6 : Int32} {M : Mem} {H : Heap} {locs : List Loc} {ls : Array Slot} (hf : b12_comesTo_192  rc n i2 i3 i4 i5 i6 M = some (r, M')) (hP : va_P z.1 vwCl (pw (yd z b) 32 b M) H) (hS : va_S (pA 32 b) s.heap H locs) (hl : lv_has ls 8 [(0, .ref (b + 0)), (2, .int i2), (3, .int i3), (4, .int i4), (5, .int i5), (6, .int i6)]) : W p l e rm12_comesTo s m args below meth c H locs 0 0 (MQ below (va_Qi (fun (r' : Int32) (M2 : Mem) => r' = r ∧ M2 = M') (fun M2 t => va_P z.1 vwCl (pw (yd z b) 32 b M2) t.heap) (pA 32 b)) args s 0 0 (pA 32 b)) (F0 m 192 ls []) := by
  have hx := C.1.1
  have hb := C.1.2.1
  unfold b12_comesTo_192 at hf
  refine lv_aload_n hx hb dX12_comesTo_192 rfl (lv_at hl 0 rfl) ?_
  refine pg C hP (k := 0) (j := 32) (Nat.le_of_ble_eq_true rfl) (yd_0 _ _) rfl iw_12 (Nat.le_of_ble_eq_true rfl) g_1167 rfl rfl dX12_comesTo_193 ?_
  refine lv_iload_n hx hb dX12_comesTo_196 rfl (lv_at hl 2 rfl) ?_
  have h27 := chk_1 hf
  replace hf := chk_2 hf
  refine paI C hP (k := 20) (Nat.le_of_ble_eq_true rfl) (yd_20 _ _) h27 dX12_comesTo_197 ?_
  refine lv_if_ne (tgt := 203) hx hb dX12_comesTo_198 (by decide) (fun c28 => ?_) (fun c28 => ?_)
  · replace hf := ite_f c28 hf
    exact w12_comesTo_203 (n := n)  C hr hk q16 hf hP hS (lv_sub hl [0, 1, 2, 3, 4, 5] rfl)
  · replace hf := ite_t c28 hf
    refine lv_iconst (v := (0 : Int32)) hx hb dX12_comesTo_201 (by decide) ?_
    exact prI C hr hk hP hS hf dX12_comesTo_202
set_option maxHeartbeats 4000000 in
set_option maxRecDepth 100000 in
theorem w12_comesTo_16 {p : Program} {l : Launch} {e : Env} {s : State} {m : MethodId} {args : Array Value} {below : List Frame} {meth : Method} {c : Code} {z : Zt} {b : Nat}  (C : Cx p s m args c cX12_comesTo 8 RX12 z 32 b) (hr : meth.sig.returnType = (some .int)) (hk : meth.locks = false) {r : Int32} {M' : Mem} {rc : Nat → List Int32 → List Int64 → Mem → Option (Int32 × Mem)} {n : Nat} (q16 : ∀ (i2 : Int32) (i3 : Int32) (i4 : Int32) (i5 : Int32) (M : Mem) (H : Heap) (locs : List Loc) (ls : Array Slot), rc 16 [i2, i3, i4, i5] [] M = some (r, M') → va_P z.1 vwCl (pw (yd z b) 32 b M) H → va_S (pA 32 b) s.heap H locs → lv_has ls 8 [(0, .ref (b + 0)), (2, .int i2), (3, .int i3), (4, .int i4), (5, .int i5)] → W p l e rm12_comesTo s m args below meth c H locs 0 0 (MQ below (va_Qi (fun (r' : Int32) (M2 : Mem) => r' = r ∧ M2 = M') (fun M2 t => va_P z.1 vwCl (pw (yd z b) 32 b M2) t.heap) (pA 32 b)) args s 0 0 (pA 32 b)) (F0 m 16 ls [])) {i2 : Int32} {i3 : Int32} {i4 : Int32} {i5 : Int32} {M : Mem} {H : Heap} {locs : List Loc} {ls : Array Slot} (hf : b12_comesTo_16  rc n i2 i3 i4 i5 M = some (r, M')) (hP : va_P z.1 vwCl (pw (yd z b) 32 b M) H) (hS : va_S (pA 32 b) s.heap H locs) (hl : lv_has ls 8 [(0, .ref (b + 0)), (2, .int i2), (3, .int i3), (4, .int i4), (5, .int i5)]) : W p l e rm12_comesTo s m args below meth c H locs 0 0 (MQ below (va_Qi (fun (r' : Int32) (M2 : Mem) => r' = r ∧ M2 = M') (fun M2 t => va_P z.1 vwCl (pw (yd z b) 32 b M2) t.heap) (pA 32 b)) args s 0 0 (pA 32 b)) (F0 m 16 ls []) := by
  have hx := C.1.1
  have hb := C.1.2.1
  unfold b12_comesTo_16 at hf
  refine lv_iload hx hb dX12_comesTo_16 (lv_at hl 4 rfl) ?_
  refine lv_iload_n hx hb dX12_comesTo_18 rfl (lv_at hl 1 rfl) ?_
  refine lv_icmp_ge (tgt := 233) hx hb dX12_comesTo_19 (by decide) (fun c2 => ?_) (fun c2 => ?_)
  · replace hf := ite_t c2 hf
    refine lv_aload_n hx hb dX12_comesTo_233 rfl (lv_at hl 0 rfl) ?_
    refine pg C hP (k := 0) (j := 32) (Nat.le_of_ble_eq_true rfl) (yd_0 _ _) rfl iw_12 (Nat.le_of_ble_eq_true rfl) g_1167 rfl rfl dX12_comesTo_234 ?_
    refine lv_iconst (v := (0 : Int32)) hx hb dX12_comesTo_237 (by decide) ?_
    have h3 := chk_1 hf
    replace hf := chk_2 hf
    refine paI C hP (k := 20) (Nat.le_of_ble_eq_true rfl) (yd_20 _ _) h3 dX12_comesTo_238 ?_
    exact prI C hr hk hP hS hf dX12_comesTo_239
  · replace hf := ite_f c2 hf
    refine lv_aload_n hx hb dX12_comesTo_22 rfl (lv_at hl 0 rfl) ?_
    refine pg C hP (k := 0) (j := 27) (Nat.le_of_ble_eq_true rfl) (yd_0 _ _) rfl iw_12 (Nat.le_of_ble_eq_true rfl) g_1162 rfl rfl dX12_comesTo_23 ?_
    refine lv_iload hx hb dX12_comesTo_26 (lv_at hl 4 rfl) ?_
    have h4 := chk_1 hf
    replace hf := chk_2 hf
    refine paI C hP (k := 15) (Nat.le_of_ble_eq_true rfl) (yd_15 _ _) h4 dX12_comesTo_28 ?_
    refine lv_ldc hx hb C.1.2.2.2.1 (C.1.2.2.2.2 _ g_1353) dX12_comesTo_29 ?_
    refine lv_idiv hx hb dX12_comesTo_31 (by decide) ?_
    refine lv_topi (fun v5 ev5 => ?_)
    replace hf := lt_c ev5 hf
    refine lv_istore (lv' := [(6, .int v5), (0, .ref (b + 0)), (2, .int i2), (3, .int i3), (4, .int i4), (5, .int i5)]) hx hb dX12_comesTo_32 hl (by decide) rfl (fun ls hl => ?_)
    refine lv_aload_n hx hb dX12_comesTo_34 rfl (lv_at hl 1 rfl) ?_
    refine pg C hP (k := 0) (j := 27) (Nat.le_of_ble_eq_true rfl) (yd_0 _ _) rfl iw_12 (Nat.le_of_ble_eq_true rfl) g_1162 rfl rfl dX12_comesTo_35 ?_
    refine lv_iload hx hb dX12_comesTo_38 (lv_at hl 5 rfl) ?_
    have h6 := chk_1 hf
    replace hf := chk_2 hf
    refine paI C hP (k := 15) (Nat.le_of_ble_eq_true rfl) (yd_15 _ _) h6 dX12_comesTo_40 ?_
    refine lv_ldc hx hb C.1.2.2.2.1 (C.1.2.2.2.2 _ g_1353) dX12_comesTo_41 ?_
    refine lv_irem hx hb dX12_comesTo_43 (by decide) ?_
    refine lv_topi (fun v7 ev7 => ?_)
    replace hf := lt_c ev7 hf
    refine lv_istore (lv' := [(7, .int v7), (6, .int v5), (0, .ref (b + 0)), (2, .int i2), (3, .int i3), (4, .int i4), (5, .int i5)]) hx hb dX12_comesTo_44 hl (by decide) rfl (fun ls hl => ?_)
    refine lv_iload hx hb dX12_comesTo_46 (lv_at hl 6 rfl) ?_
    refine lv_iconst (v := (1 : Int32)) hx hb dX12_comesTo_48 (by decide) ?_
    refine lv_iadd hx hb dX12_comesTo_49 ?_
    refine lv_topi (fun v8 ev8 => ?_)
    replace hf := lt_c ev8 hf
    refine lv_istore (lv' := [(5, .int v8), (7, .int v7), (6, .int v5), (0, .ref (b + 0)), (2, .int i2), (3, .int i3), (4, .int i4)]) hx hb dX12_comesTo_50 hl (by decide) rfl (fun ls hl => ?_)
    refine lv_iload hx hb dX12_comesTo_52 (lv_at hl 2 rfl) ?_
    refine lv_if_eq (tgt := 63) hx hb dX12_comesTo_54 (by decide) (fun c9 => ?_) (fun c9 => ?_)
    · replace hf := ite_t c9 hf
      exact w12_comesTo_63 (n := n)  C hr hk q16 hf hP hS (lv_sub hl [3, 4, 5, 6, 0, 2, 1] rfl)
    · replace hf := ite_f c9 hf
      refine lv_iload hx hb dX12_comesTo_57 (lv_at hl 2 rfl) ?_
      refine lv_iconst (v := (1 : Int32)) hx hb dX12_comesTo_59 (by decide) ?_
      refine lv_icmp_ne (tgt := 93) hx hb dX12_comesTo_60 (by decide) (fun c10 => ?_) (fun c10 => ?_)
      · replace hf := ite_f c10 hf
        refine lv_iload hx hb dX12_comesTo_93 (lv_at hl 2 rfl) ?_
        refine lv_bipush (v := (10 : Int32)) hx hb dX12_comesTo_95 (by decide) ?_
        refine lv_icmp_ne (tgt := 121) hx hb dX12_comesTo_97 (by decide) (fun c11 => ?_) (fun c11 => ?_)
        · replace hf := ite_f c11 hf
          refine lv_iload hx hb dX12_comesTo_121 (lv_at hl 2 rfl) ?_
          refine lv_bipush (v := (11 : Int32)) hx hb dX12_comesTo_123 (by decide) ?_
          refine lv_icmp_eq (tgt := 135) hx hb dX12_comesTo_125 (by decide) (fun c12 => ?_) (fun c12 => ?_)
          · replace hf := ite_t c12 hf
            exact w12_comesTo_135 (n := n)  C hr hk q16 hf hP hS (lv_sub hl [3, 4, 5, 6, 0, 2, 1] rfl)
          · replace hf := ite_f c12 hf
            refine lv_iload hx hb dX12_comesTo_128 (lv_at hl 2 rfl) ?_
            refine lv_bipush (v := (12 : Int32)) hx hb dX12_comesTo_130 (by decide) ?_
            refine lv_icmp_ne (tgt := 175) hx hb dX12_comesTo_132 (by decide) (fun c13 => ?_) (fun c13 => ?_)
            · replace hf := ite_f c13 hf
              refine lv_iload_n hx hb dX12_comesTo_175 rfl (lv_at hl 5 rfl) ?_
              refine lv_iconst (v := (1 : Int32)) hx hb dX12_comesTo_176 (by decide) ?_
              refine lv_isub hx hb dX12_comesTo_177 ?_
              refine lv_topi (fun v14 ev14 => ?_)
              replace hf := lt_c ev14 hf
              refine lv_istore_n (lv' := [(3, .int v14), (5, .int v8), (7, .int v7), (6, .int v5), (0, .ref (b + 0)), (2, .int i2), (4, .int i4)]) hx hb dX12_comesTo_178 rfl hl (by decide) rfl (fun ls hl => ?_)
              refine lv_iload hx hb dX12_comesTo_179 (lv_at hl 3 rfl) ?_
              refine lv_iconst (v := (5 : Int32)) hx hb dX12_comesTo_181 (by decide) ?_
              refine lv_icmp_eq (tgt := 192) hx hb dX12_comesTo_182 (by decide) (fun c15 => ?_) (fun c15 => ?_)
              · replace hf := ite_t c15 hf
                exact w12_comesTo_192 (n := n)  C hr hk q16 hf hP hS (lv_sub hl [4, 5, 0, 6, 1, 3] rfl)
              · replace hf := ite_f c15 hf
                refine lv_iload hx hb dX12_comesTo_185 (lv_at hl 3 rfl) ?_
                refine lv_bipush (v := (6 : Int32)) hx hb dX12_comesTo_187 (by decide) ?_
                refine lv_icmp_ne (tgt := 203) hx hb dX12_comesTo_189 (by decide) (fun c16 => ?_) (fun c16 => ?_)
                · replace hf := ite_f c16 hf
                  exact w12_comesTo_203 (n := n)  C hr hk q16 hf hP hS (lv_sub hl [4, 5, 0, 6, 1, 3] rfl)
                · replace hf := ite_t c16 hf
                  exact w12_comesTo_192 (n := n)  C hr hk q16 hf hP hS (lv_sub hl [4, 5, 0, 6, 1, 3] rfl)
            · replace hf := ite_t c13 hf
              exact w12_comesTo_135 (n := n)  C hr hk q16 hf hP hS (lv_sub hl [3, 4, 5, 6, 0, 2, 1] rfl)
        · replace hf := ite_t c11 hf
          refine lv_aload_n hx hb dX12_comesTo_100 rfl (lv_at hl 3 rfl) ?_
          refine pg C hP (k := 0) (j := 32) (Nat.le_of_ble_eq_true rfl) (yd_0 _ _) rfl iw_12 (Nat.le_of_ble_eq_true rfl) g_1167 rfl rfl dX12_comesTo_101 ?_
          refine lv_iload_n hx hb dX12_comesTo_104 rfl (lv_at hl 5 rfl) ?_
          refine lv_iconst (v := (1 : Int32)) hx hb dX12_comesTo_105 (by decide) ?_
          refine lv_isub hx hb dX12_comesTo_106 ?_
          refine lv_iconst (v := (1 : Int32)) hx hb dX12_comesTo_107 (by decide) ?_
          refine lv_aload_n hx hb dX12_comesTo_108 rfl (lv_at hl 3 rfl) ?_
          refine pg C hP (k := 0) (j := 32) (Nat.le_of_ble_eq_true rfl) (yd_0 _ _) rfl iw_12 (Nat.le_of_ble_eq_true rfl) g_1167 rfl rfl dX12_comesTo_109 ?_
          refine lv_iload_n hx hb dX12_comesTo_112 rfl (lv_at hl 5 rfl) ?_
          refine lv_iconst (v := (1 : Int32)) hx hb dX12_comesTo_113 (by decide) ?_
          refine lv_isub hx hb dX12_comesTo_114 ?_
          have h17 := chk_1 hf
          replace hf := chk_2 hf
          refine paI C hP (k := 20) (Nat.le_of_ble_eq_true rfl) (yd_20 _ _) h17 dX12_comesTo_115 ?_
          refine lv_isub hx hb dX12_comesTo_116 ?_
          have h18 := chk_1 hf
          replace hf := chk_2 hf
          refine psI C hP hS (k := 20) (Nat.le_of_ble_eq_true rfl) (yd_20) h18 dX12_comesTo_117 (fun M19 H locs eM19 hP hS => ?_)
          replace hf := lt_c eM19 hf
          refine lv_goto (tgt := 230) hx hb dX12_comesTo_118 (by decide) ?_
          exact w12_comesTo_230 (n := n)  C hr hk q16 hf hP hS (lv_sub hl [3, 4, 5, 6, 0] rfl)
      · replace hf := ite_t c10 hf
        exact w12_comesTo_63 (n := n)  C hr hk q16 hf hP hS (lv_sub hl [3, 4, 5, 6, 0, 2, 1] rfl)
set_option maxHeartbeats 4000000 in
set_option maxRecDepth 100000 in
theorem w12_comesTo_0 {p : Program} {l : Launch} {e : Env} {s : State} {m : MethodId} {args : Array Value} {below : List Frame} {meth : Method} {c : Code} {z : Zt} {b : Nat}  (C : Cx p s m args c cX12_comesTo 8 RX12 z 32 b) (hr : meth.sig.returnType = (some .int)) (hk : meth.locks = false) {r : Int32} {M' : Mem} {rc : Nat → List Int32 → List Int64 → Mem → Option (Int32 × Mem)} {n : Nat} (q16 : ∀ (i2 : Int32) (i3 : Int32) (i4 : Int32) (i5 : Int32) (M : Mem) (H : Heap) (locs : List Loc) (ls : Array Slot), rc 16 [i2, i3, i4, i5] [] M = some (r, M') → va_P z.1 vwCl (pw (yd z b) 32 b M) H → va_S (pA 32 b) s.heap H locs → lv_has ls 8 [(0, .ref (b + 0)), (2, .int i2), (3, .int i3), (4, .int i4), (5, .int i5)] → W p l e rm12_comesTo s m args below meth c H locs 0 0 (MQ below (va_Qi (fun (r' : Int32) (M2 : Mem) => r' = r ∧ M2 = M') (fun M2 t => va_P z.1 vwCl (pw (yd z b) 32 b M2) t.heap) (pA 32 b)) args s 0 0 (pA 32 b)) (F0 m 16 ls [])) {a1 : Int32} {a2 : Int32} {M : Mem} {H : Heap} {locs : List Loc} {ls : Array Slot} (hf : b12_comesTo_0  rc n a1 a2 M = some (r, M')) (hP : va_P z.1 vwCl (pw (yd z b) 32 b M) H) (hS : va_S (pA 32 b) s.heap H locs) (hl : lv_has ls 8 [(0, .ref (b + 0)), (1, .int a1), (2, .int a2)]) : W p l e rm12_comesTo s m args below meth c H locs 0 0 (MQ below (va_Qi (fun (r' : Int32) (M2 : Mem) => r' = r ∧ M2 = M') (fun M2 t => va_P z.1 vwCl (pw (yd z b) 32 b M2) t.heap) (pA 32 b)) args s 0 0 (pA 32 b)) (F0 m 0 ls []) := by
  have hx := C.1.1
  have hb := C.1.2.1
  unfold b12_comesTo_0 at hf
  refine lv_iconst (v := (0 : Int32)) hx hb dX12_comesTo_0 (by decide) ?_
  refine lv_istore_n (lv' := [(3, .int (0 : Int32)), (0, .ref (b + 0)), (1, .int a1), (2, .int a2)]) hx hb dX12_comesTo_1 rfl hl (by decide) rfl (fun ls hl => ?_)
  refine lv_sipush (v := (260 : Int32)) hx hb dX12_comesTo_2 (by decide) ?_
  refine lv_iload_n hx hb dX12_comesTo_5 rfl (lv_at hl 2 rfl) ?_
  refine lv_sipush (v := (260 : Int32)) hx hb dX12_comesTo_6 (by decide) ?_
  refine lv_idiv hx hb dX12_comesTo_9 (by decide) ?_
  refine lv_imul hx hb dX12_comesTo_10 ?_
  refine lv_topi (fun v1 ev1 => ?_)
  replace hf := lt_c ev1 hf
  refine lv_istore (lv' := [(4, .int v1), (3, .int (0 : Int32)), (0, .ref (b + 0)), (1, .int a1), (2, .int a2)]) hx hb dX12_comesTo_11 hl (by decide) rfl (fun ls hl => ?_)
  refine lv_iload_n hx hb dX12_comesTo_13 rfl (lv_at hl 3 rfl) ?_
  refine lv_istore (lv' := [(5, .int a1), (4, .int v1), (3, .int (0 : Int32)), (0, .ref (b + 0)), (1, .int a1), (2, .int a2)]) hx hb dX12_comesTo_14 hl (by decide) rfl (fun ls hl => ?_)
  exact w12_comesTo_16 (n := n)  C hr hk q16 hf hP hS (lv_sub hl [3, 5, 2, 1, 0] rfl)
set_option maxHeartbeats 4000000 in
set_option maxRecDepth 100000 in
theorem l12_comesTo {p : Program} {l : Launch} {e : Env} {s : State} {m : MethodId} {args : Array Value} {below : List Frame} {meth : Method} {c : Code} {z : Zt} {b : Nat}  (C : Cx p s m args c cX12_comesTo 8 RX12 z 32 b) (hr : meth.sig.returnType = (some .int)) (hk : meth.locks = false) {r : Int32} {M' : Mem} (n : Nat) : (∀ (i2 : Int32) (i3 : Int32) (i4 : Int32) (i5 : Int32) (M : Mem) (H : Heap) (locs : List Loc) (ls : Array Slot), (r12_comesTo  n) 16 [i2, i3, i4, i5] [] M = some (r, M') → va_P z.1 vwCl (pw (yd z b) 32 b M) H → va_S (pA 32 b) s.heap H locs → lv_has ls 8 [(0, .ref (b + 0)), (2, .int i2), (3, .int i3), (4, .int i4), (5, .int i5)] → W p l e rm12_comesTo s m args below meth c H locs 0 0 (MQ below (va_Qi (fun (r' : Int32) (M2 : Mem) => r' = r ∧ M2 = M') (fun M2 t => va_P z.1 vwCl (pw (yd z b) 32 b M2) t.heap) (pA 32 b)) args s 0 0 (pA 32 b)) (F0 m 16 ls [])) := by
  induction n with
  | zero => exact fun _ _ _ _ _ _ _ _ hf => (by cases hf)
  | succ n ih => exact fun _ _ _ _ _ _ _ _ hf hP hS hl => w12_comesTo_16 (n := n)  C hr hk ih ((e12_comesTo_16  n _ _ _ _ _).symm.trans hf) hP hS hl
theorem c12_comesTo {l : Launch} {z : Zt} {b n : Nat}  {a1 : Int32} {a2 : Int32} {M M' : Mem} {r : Int32} (hf : f12_comesTo n  a1 a2 M = some (r, M')) : CI l z (yd z b) 32 b yX12_comesTo cX12_comesTo 8 (some .int) rm12_comesTo [.ref (b + 0), .int a1, .int a2] M M' r :=
  CI.ofW (lv := [(0, .ref (b + 0)), (1, .int a1), (2, .int a2)]) (by decide) (Nat.le_of_ble_eq_true rfl) rfl (fun p e s m args below meth c ls C hr hk hP hS hl => w12_comesTo_0 (n := n)  C hr hk (l12_comesTo  C hr hk n) hf hP hS hl)
