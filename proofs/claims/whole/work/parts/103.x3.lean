-- BronzeKing$PlaceSet.sizeWith(LBronzeKing$PlaceSet;)I
theorem dX4_sizeWith_0 : decode cX4_sizeWith 0 = .ok (.aload_n 0, 1) := by decide +kernel
theorem dX4_sizeWith_1 : decode cX4_sizeWith 1 = .ok (.getfield 9, 3) := by decide +kernel
theorem dX4_sizeWith_4 : decode cX4_sizeWith 4 = .ok (.aload_n 1, 1) := by decide +kernel
theorem dX4_sizeWith_5 : decode cX4_sizeWith 5 = .ok (.getfield 9, 3) := by decide +kernel
theorem dX4_sizeWith_8 : decode cX4_sizeWith 8 = .ok (.lor, 1) := by decide +kernel
theorem dX4_sizeWith_9 : decode cX4_sizeWith 9 = .ok (.invokestatic 39, 3) := by decide +kernel
theorem dX4_sizeWith_12 : decode cX4_sizeWith 12 = .ok (.aload_n 0, 1) := by decide +kernel
theorem dX4_sizeWith_13 : decode cX4_sizeWith 13 = .ok (.getfield 15, 3) := by decide +kernel
theorem dX4_sizeWith_16 : decode cX4_sizeWith 16 = .ok (.aload_n 1, 1) := by decide +kernel
theorem dX4_sizeWith_17 : decode cX4_sizeWith 17 = .ok (.getfield 15, 3) := by decide +kernel
theorem dX4_sizeWith_20 : decode cX4_sizeWith 20 = .ok (.lor, 1) := by decide +kernel
theorem dX4_sizeWith_21 : decode cX4_sizeWith 21 = .ok (.invokestatic 39, 3) := by decide +kernel
theorem dX4_sizeWith_24 : decode cX4_sizeWith 24 = .ok (.iadd, 1) := by decide +kernel
theorem dX4_sizeWith_25 : decode cX4_sizeWith 25 = .ok (.ireturn, 1) := by decide +kernel
def b4_sizeWith_0 (k0 : Nat) (k1 : Nat) (rc : Nat → List Int32 → List Int64 → Mem → Option (Int32 × Mem)) (n : Nat) (M : Mem) : Option (Int32 × Mem) :=
  bnd (fZJ13_bitCount_95d88 n ((M.2 k0 0) ||| (M.2 k1 0)) M) fun r1 M2 =>
  bnd (fZJ13_bitCount_95d88 n ((M2.2 k0 1) ||| (M2.2 k1 1)) M2) fun r4 M5 =>
  some ((r1 + r4), M5)
def f4_sizeWith (n : Nat) (k0 : Nat) (k1 : Nat) (M : Mem) : Option (Int32 × Mem) := b4_sizeWith_0 k0 k1 (fun _ _ _ _ => none) n M
abbrev rm4_sizeWith : Room := { frames := 1, cells := 0, slots := 0, locals := 21 }
theorem y4_sizeWith_w : yV RX4 yX4_sizeWith cX4_sizeWith 2 (some .int) 1 := ⟨g_1040, g_1041, g_4, g_1042, rfl, by decide, by decide, by decide +kernel⟩
set_option maxHeartbeats 4000000 in
set_option maxRecDepth 100000 in
theorem w4_sizeWith_0 {p : Program} {l : Launch} {e : Env} {s : State} {m : MethodId} {args : Array Value} {below : List Frame} {meth : Method} {c : Code} {z : Zt} {b : Nat} {k0 : Nat} (hk0 : isPS k0 = true) {k1 : Nat} (hk1 : isPS k1 = true) (C : Cx p s m args c cX4_sizeWith 2 RX4 z 339 b) (hr : meth.sig.returnType = (some .int)) (hk : meth.locks = false) {r : Int32} {M' : Mem} {rc : Nat → List Int32 → List Int64 → Mem → Option (Int32 × Mem)} {n : Nat}   {M : Mem} {H : Heap} {locs : List Loc} {ls : Array Slot} (hf : b4_sizeWith_0 k0 k1 rc n  M = some (r, M')) (hP : va_P z.1 vwCl (pw (xd z b) 339 b M) H) (hS : va_S (pA 339 b) s.heap H locs) (hl : lv_has ls 2 [(0, .ref (b + k0)), (1, .ref (b + k1))]) : W p l e rm4_sizeWith s m args below meth c H locs 0 0 (MQ below (va_Qi (fun (r' : Int32) (M2 : Mem) => r' = r ∧ M2 = M') (fun M2 t => va_P z.1 vwCl (pw (xd z b) 339 b M2) t.heap) (pA 339 b)) args s 0 0 (pA 339 b)) (F0 m 0 ls []) := by
  have hx := C.1.1
  have hb := C.1.2.1
  unfold b4_sizeWith_0 at hf
  refine lv_aload_n hx hb dX4_sizeWith_0 rfl (lv_at hl 0 rfl) ?_
  refine pg C hP (k := k0) (j := 0) (ps_lt hk0) ((ps_d hk0) _ _) rfl iw_4 (Nat.le_of_ble_eq_true rfl) g_60 rfl rfl dX4_sizeWith_1 ?_
  refine lv_aload_n hx hb dX4_sizeWith_4 rfl (lv_at hl 1 rfl) ?_
  refine pg C hP (k := k1) (j := 0) (ps_lt hk1) ((ps_d hk1) _ _) rfl iw_4 (Nat.le_of_ble_eq_true rfl) g_60 rfl rfl dX4_sizeWith_5 ?_
  refine lv_lor hx hb dX4_sizeWith_8 ?_
  obtain ⟨r1, M2, h3, hf⟩ := bnd_s hf
  refine pcSi (As := [.long ((M.2 k0 0) ||| (M.2 k1 0))]) C hP hS (cZJ13_bitCount_95d88  h3) yZJ13_bitCount_95d88_w g_986 rfl rfl rfl ⟨Nat.le_of_ble_eq_true rfl, Nat.le_of_ble_eq_true rfl⟩ hl.1 rfl (Nat.le_of_ble_eq_true rfl) dX4_sizeWith_9 ⟨Nat.le_of_ble_eq_true rfl, Nat.le_of_ble_eq_true rfl⟩ (fun H locs hP hS => ?_)
  refine lv_aload_n hx hb dX4_sizeWith_12 rfl (lv_at hl 0 rfl) ?_
  refine pg C hP (k := k0) (j := 1) (ps_lt hk0) ((ps_d hk0) _ _) rfl iw_4 (Nat.le_of_ble_eq_true rfl) g_61 rfl rfl dX4_sizeWith_13 ?_
  refine lv_aload_n hx hb dX4_sizeWith_16 rfl (lv_at hl 1 rfl) ?_
  refine pg C hP (k := k1) (j := 1) (ps_lt hk1) ((ps_d hk1) _ _) rfl iw_4 (Nat.le_of_ble_eq_true rfl) g_61 rfl rfl dX4_sizeWith_17 ?_
  refine lv_lor hx hb dX4_sizeWith_20 ?_
  obtain ⟨r4, M5, h6, hf⟩ := bnd_s hf
  refine pcSi (As := [.long ((M2.2 k0 1) ||| (M2.2 k1 1))]) C hP hS (cZJ13_bitCount_95d88  h6) yZJ13_bitCount_95d88_w g_986 rfl rfl rfl ⟨Nat.le_of_ble_eq_true rfl, Nat.le_of_ble_eq_true rfl⟩ hl.1 rfl (Nat.le_of_ble_eq_true rfl) dX4_sizeWith_21 ⟨Nat.le_of_ble_eq_true rfl, Nat.le_of_ble_eq_true rfl⟩ (fun H locs hP hS => ?_)
  refine lv_iadd hx hb dX4_sizeWith_24 ?_
  exact prI C hr hk hP hS hf dX4_sizeWith_25
theorem c4_sizeWith {l : Launch} {z : Zt} {b n : Nat} {k0 : Nat} (hk0 : isPS k0 = true) {k1 : Nat} (hk1 : isPS k1 = true)  {M M' : Mem} {r : Int32} (hf : f4_sizeWith n k0 k1  M = some (r, M')) : CI l z (xd z b) 339 b yX4_sizeWith cX4_sizeWith 2 (some .int) rm4_sizeWith [.ref (b + k0), .ref (b + k1)] M M' r :=
  CI.ofW (lv := [(0, .ref (b + k0)), (1, .ref (b + k1))]) (by decide) (Nat.le_of_ble_eq_true rfl) rfl (fun p e s m args below meth c ls C hr hk hP hS hl => w4_sizeWith_0 (n := n) hk0 hk1 C hr hk  hf hP hS hl)

-- BronzeKing$Rounds.placeOf(I)I
theorem dX5_placeOf_0 : decode cX5_placeOf 0 = .ok (.iload_n 1, 1) := by decide +kernel
theorem dX5_placeOf_1 : decode cX5_placeOf 1 = .ok (.ifCond .ne 13, 3) := by decide +kernel
theorem dX5_placeOf_4 : decode cX5_placeOf 4 = .ok (.aload_n 0, 1) := by decide +kernel
theorem dX5_placeOf_5 : decode cX5_placeOf 5 = .ok (.getfield 33, 3) := by decide +kernel
theorem dX5_placeOf_8 : decode cX5_placeOf 8 = .ok (.getfield 67, 3) := by decide +kernel
theorem dX5_placeOf_11 : decode cX5_placeOf 11 = .ok (.goto 12, 3) := by decide +kernel
theorem dX5_placeOf_14 : decode cX5_placeOf 14 = .ok (.aload_n 0, 1) := by decide +kernel
theorem dX5_placeOf_15 : decode cX5_placeOf 15 = .ok (.getfield 33, 3) := by decide +kernel
theorem dX5_placeOf_18 : decode cX5_placeOf 18 = .ok (.getfield 70, 3) := by decide +kernel
theorem dX5_placeOf_21 : decode cX5_placeOf 21 = .ok (.iload_n 1, 1) := by decide +kernel
theorem dX5_placeOf_22 : decode cX5_placeOf 22 = .ok (.iaload, 1) := by decide +kernel
theorem dX5_placeOf_23 : decode cX5_placeOf 23 = .ok (.ireturn, 1) := by decide +kernel
def b5_placeOf_0 (rc : Nat → List Int32 → List Int64 → Mem → Option (Int32 × Mem)) (n : Nat) (a1 : Int32) (M : Mem) : Option (Int32 × Mem) :=
  (if a1 = 0 then (
   some ((M.1 3 7), M))
  else (
   chk (inb a1 10) <|
   some ((M.1 6 a1.toNatClampNeg), M)))
def f5_placeOf (n : Nat) (a1 : Int32) (M : Mem) : Option (Int32 × Mem) := b5_placeOf_0 (fun _ _ _ _ => none) n a1 M
abbrev rm5_placeOf : Room := { frames := 0, cells := 0, slots := 0, locals := 0 }
theorem y5_placeOf_w : yV RX5 yX5_placeOf cX5_placeOf 2 (some .int) 1 := ⟨g_882, gp 27 rfl rfl, g_12, g_883, rfl, by decide, by decide, by decide +kernel⟩
set_option maxHeartbeats 4000000 in
set_option maxRecDepth 100000 in
theorem w5_placeOf_0 {p : Program} {l : Launch} {e : Env} {s : State} {m : MethodId} {args : Array Value} {below : List Frame} {meth : Method} {c : Code} {z : Zt} {b : Nat}  (C : Cx p s m args c cX5_placeOf 2 RX5 z 339 b) (hr : meth.sig.returnType = (some .int)) (hk : meth.locks = false) {r : Int32} {M' : Mem} {rc : Nat → List Int32 → List Int64 → Mem → Option (Int32 × Mem)} {n : Nat}  {a1 : Int32} {M : Mem} {H : Heap} {locs : List Loc} {ls : Array Slot} (hf : b5_placeOf_0  rc n a1 M = some (r, M')) (hP : va_P z.1 vwCl (pw (xd z b) 339 b M) H) (hS : va_S (pA 339 b) s.heap H locs) (hl : lv_has ls 2 [(0, .ref (b + 326)), (1, .int a1)]) : W p l e rm5_placeOf s m args below meth c H locs 0 0 (MQ below (va_Qi (fun (r' : Int32) (M2 : Mem) => r' = r ∧ M2 = M') (fun M2 t => va_P z.1 vwCl (pw (xd z b) 339 b M2) t.heap) (pA 339 b)) args s 0 0 (pA 339 b)) (F0 m 0 ls []) := by
  have hx := C.1.1
  have hb := C.1.2.1
  unfold b5_placeOf_0 at hf
  refine lv_iload_n hx hb dX5_placeOf_0 rfl (lv_at hl 1 rfl) ?_
  refine lv_if_ne (tgt := 14) hx hb dX5_placeOf_1 (by decide) (fun c1 => ?_) (fun c1 => ?_)
  · replace hf := ite_f c1 hf
    refine lv_aload_n hx hb dX5_placeOf_14 rfl (lv_at hl 0 rfl) ?_
    refine pg C hP (k := 326) (j := 0) (Nat.le_of_ble_eq_true rfl) (xd_326 _ _) rfl iw_5 (Nat.le_of_ble_eq_true rfl) g_323 rfl rfl dX5_placeOf_15 ?_
    refine pgN C hP (k := 3) (j := 2) (Nat.le_of_ble_eq_true rfl) (xd_3 _ _) rfl iw_8 (Nat.le_of_ble_eq_true rfl) g_74 rfl rfl dX5_placeOf_18 ?_
    refine lv_iload_n hx hb dX5_placeOf_21 rfl (lv_at hl 1 rfl) ?_
    have h2 := chk_1 hf
    replace hf := chk_2 hf
    refine paI C hP (k := 6) (Nat.le_of_ble_eq_true rfl) (xd_6 _ _) h2 dX5_placeOf_22 ?_
    exact prI C hr hk hP hS hf dX5_placeOf_23
  · replace hf := ite_t c1 hf
    refine lv_aload_n hx hb dX5_placeOf_4 rfl (lv_at hl 0 rfl) ?_
    refine pg C hP (k := 326) (j := 0) (Nat.le_of_ble_eq_true rfl) (xd_326 _ _) rfl iw_5 (Nat.le_of_ble_eq_true rfl) g_323 rfl rfl dX5_placeOf_5 ?_
    refine pgN C hP (k := 3) (j := 7) (Nat.le_of_ble_eq_true rfl) (xd_3 _ _) rfl iw_8 (Nat.le_of_ble_eq_true rfl) g_92 rfl rfl dX5_placeOf_8 ?_
    refine lv_goto (tgt := 23) hx hb dX5_placeOf_11 (by decide) ?_
    exact prI C hr hk hP hS hf dX5_placeOf_23
theorem c5_placeOf {l : Launch} {z : Zt} {b n : Nat}  {a1 : Int32} {M M' : Mem} {r : Int32} (hf : f5_placeOf n  a1 M = some (r, M')) : CI l z (xd z b) 339 b yX5_placeOf cX5_placeOf 2 (some .int) rm5_placeOf [.ref (b + 326), .int a1] M M' r :=
  CI.ofW (lv := [(0, .ref (b + 326)), (1, .int a1)]) (by decide) (Nat.le_of_ble_eq_true rfl) rfl (fun p e s m args below meth c ls C hr hk hP hS hl => w5_placeOf_0 (n := n)  C hr hk  hf hP hS hl)

-- BronzeKing$Town.spread(II[I)V
theorem dX8_spread_0 : decode cX8_spread 0 = .ok (.aload_n 3, 1) := by decide +kernel
theorem dX8_spread_1 : decode cX8_spread 1 = .ok (.bipush 99, 2) := by decide +kernel
theorem dX8_spread_3 : decode cX8_spread 3 = .ok (.invokestatic 47, 3) := by decide +kernel
theorem dX8_spread_6 : decode cX8_spread 6 = .ok (.iload_n 1, 1) := by decide +kernel
theorem dX8_spread_7 : decode cX8_spread 7 = .ok (.ifCond .lt 18, 3) := by decide +kernel
theorem dX8_spread_10 : decode cX8_spread 10 = .ok (.iload_n 1, 1) := by decide +kernel
theorem dX8_spread_11 : decode cX8_spread 11 = .ok (.bipush 96, 2) := by decide +kernel
theorem dX8_spread_13 : decode cX8_spread 13 = .ok (.if_icmp .ge 12, 3) := by decide +kernel
theorem dX8_spread_16 : decode cX8_spread 16 = .ok (.aload_n 0, 1) := by decide +kernel
theorem dX8_spread_17 : decode cX8_spread 17 = .ok (.iload_n 1, 1) := by decide +kernel
theorem dX8_spread_18 : decode cX8_spread 18 = .ok (.invokevirtual 68, 3) := by decide +kernel
theorem dX8_spread_21 : decode cX8_spread 21 = .ok (.iload_n 2, 1) := by decide +kernel
theorem dX8_spread_22 : decode cX8_spread 22 = .ok (.if_icmp .ge 4, 3) := by decide +kernel
theorem dX8_spread_25 : decode cX8_spread 25 = .ok (.return_, 1) := by decide +kernel
theorem dX8_spread_26 : decode cX8_spread 26 = .ok (.aload_n 3, 1) := by decide +kernel
theorem dX8_spread_27 : decode cX8_spread 27 = .ok (.iload_n 1, 1) := by decide +kernel
theorem dX8_spread_28 : decode cX8_spread 28 = .ok (.iconst 0, 1) := by decide +kernel
theorem dX8_spread_29 : decode cX8_spread 29 = .ok (.iastore, 1) := by decide +kernel
theorem dX8_spread_30 : decode cX8_spread 30 = .ok (.aload_n 0, 1) := by decide +kernel
theorem dX8_spread_31 : decode cX8_spread 31 = .ok (.getfield 27, 3) := by decide +kernel
theorem dX8_spread_34 : decode cX8_spread 34 = .ok (.iconst 0, 1) := by decide +kernel
theorem dX8_spread_35 : decode cX8_spread 35 = .ok (.iload_n 1, 1) := by decide +kernel
theorem dX8_spread_36 : decode cX8_spread 36 = .ok (.iastore, 1) := by decide +kernel
theorem dX8_spread_37 : decode cX8_spread 37 = .ok (.iconst 1, 1) := by decide +kernel
theorem dX8_spread_38 : decode cX8_spread 38 = .ok (.istore 4, 2) := by decide +kernel
theorem dX8_spread_40 : decode cX8_spread 40 = .ok (.iconst 0, 1) := by decide +kernel
theorem dX8_spread_41 : decode cX8_spread 41 = .ok (.istore 5, 2) := by decide +kernel
theorem dX8_spread_43 : decode cX8_spread 43 = .ok (.iload 5, 2) := by decide +kernel
theorem dX8_spread_45 : decode cX8_spread 45 = .ok (.iload 4, 2) := by decide +kernel
theorem dX8_spread_47 : decode cX8_spread 47 = .ok (.if_icmp .ge 102, 3) := by decide +kernel
theorem dX8_spread_50 : decode cX8_spread 50 = .ok (.iload 5, 2) := by decide +kernel
theorem dX8_spread_52 : decode cX8_spread 52 = .ok (.bipush 96, 2) := by decide +kernel
theorem dX8_spread_54 : decode cX8_spread 54 = .ok (.if_icmp .ge 95, 3) := by decide +kernel
theorem dX8_spread_57 : decode cX8_spread 57 = .ok (.aload_n 0, 1) := by decide +kernel
theorem dX8_spread_58 : decode cX8_spread 58 = .ok (.getfield 27, 3) := by decide +kernel
theorem dX8_spread_61 : decode cX8_spread 61 = .ok (.iload 5, 2) := by decide +kernel
theorem dX8_spread_63 : decode cX8_spread 63 = .ok (.iaload, 1) := by decide +kernel
theorem dX8_spread_64 : decode cX8_spread 64 = .ok (.istore 6, 2) := by decide +kernel
theorem dX8_spread_66 : decode cX8_spread 66 = .ok (.iconst 0, 1) := by decide +kernel
theorem dX8_spread_67 : decode cX8_spread 67 = .ok (.istore 7, 2) := by decide +kernel
theorem dX8_spread_69 : decode cX8_spread 69 = .ok (.iload 7, 2) := by decide +kernel
theorem dX8_spread_71 : decode cX8_spread 71 = .ok (.iconst 4, 1) := by decide +kernel
theorem dX8_spread_72 : decode cX8_spread 72 = .ok (.if_icmp .ge 71, 3) := by decide +kernel
theorem dX8_spread_75 : decode cX8_spread 75 = .ok (.iload 6, 2) := by decide +kernel
theorem dX8_spread_77 : decode cX8_spread 77 = .ok (.iload 7, 2) := by decide +kernel
theorem dX8_spread_79 : decode cX8_spread 79 = .ok (.invokestatic 72, 3) := by decide +kernel
theorem dX8_spread_82 : decode cX8_spread 82 = .ok (.istore 8, 2) := by decide +kernel
theorem dX8_spread_84 : decode cX8_spread 84 = .ok (.iload 8, 2) := by decide +kernel
theorem dX8_spread_86 : decode cX8_spread 86 = .ok (.ifCond .lt 51, 3) := by decide +kernel
theorem dX8_spread_89 : decode cX8_spread 89 = .ok (.aload_n 0, 1) := by decide +kernel
theorem dX8_spread_90 : decode cX8_spread 90 = .ok (.iload 8, 2) := by decide +kernel
theorem dX8_spread_92 : decode cX8_spread 92 = .ok (.invokevirtual 68, 3) := by decide +kernel
theorem dX8_spread_95 : decode cX8_spread 95 = .ok (.iload_n 2, 1) := by decide +kernel
theorem dX8_spread_96 : decode cX8_spread 96 = .ok (.if_icmp .lt 41, 3) := by decide +kernel
theorem dX8_spread_99 : decode cX8_spread 99 = .ok (.aload_n 3, 1) := by decide +kernel
theorem dX8_spread_100 : decode cX8_spread 100 = .ok (.iload 8, 2) := by decide +kernel
theorem dX8_spread_102 : decode cX8_spread 102 = .ok (.iaload, 1) := by decide +kernel
theorem dX8_spread_103 : decode cX8_spread 103 = .ok (.bipush 99, 2) := by decide +kernel
theorem dX8_spread_105 : decode cX8_spread 105 = .ok (.if_icmp .ne 32, 3) := by decide +kernel
theorem dX8_spread_108 : decode cX8_spread 108 = .ok (.iload 4, 2) := by decide +kernel
theorem dX8_spread_110 : decode cX8_spread 110 = .ok (.bipush 96, 2) := by decide +kernel
theorem dX8_spread_112 : decode cX8_spread 112 = .ok (.if_icmp .ge 25, 3) := by decide +kernel
theorem dX8_spread_115 : decode cX8_spread 115 = .ok (.aload_n 3, 1) := by decide +kernel
theorem dX8_spread_116 : decode cX8_spread 116 = .ok (.iload 8, 2) := by decide +kernel
theorem dX8_spread_118 : decode cX8_spread 118 = .ok (.aload_n 3, 1) := by decide +kernel
theorem dX8_spread_119 : decode cX8_spread 119 = .ok (.iload 6, 2) := by decide +kernel
theorem dX8_spread_121 : decode cX8_spread 121 = .ok (.iaload, 1) := by decide +kernel
theorem dX8_spread_122 : decode cX8_spread 122 = .ok (.iconst 1, 1) := by decide +kernel
theorem dX8_spread_123 : decode cX8_spread 123 = .ok (.iadd, 1) := by decide +kernel
theorem dX8_spread_124 : decode cX8_spread 124 = .ok (.iastore, 1) := by decide +kernel
theorem dX8_spread_125 : decode cX8_spread 125 = .ok (.aload_n 0, 1) := by decide +kernel
theorem dX8_spread_126 : decode cX8_spread 126 = .ok (.getfield 27, 3) := by decide +kernel
theorem dX8_spread_129 : decode cX8_spread 129 = .ok (.iload 4, 2) := by decide +kernel
theorem dX8_spread_131 : decode cX8_spread 131 = .ok (.iload 8, 2) := by decide +kernel
theorem dX8_spread_133 : decode cX8_spread 133 = .ok (.iastore, 1) := by decide +kernel
theorem dX8_spread_134 : decode cX8_spread 134 = .ok (.iinc 4 1, 3) := by decide +kernel
theorem dX8_spread_137 : decode cX8_spread 137 = .ok (.iinc 7 1, 3) := by decide +kernel
theorem dX8_spread_140 : decode cX8_spread 140 = .ok (.goto (-71), 3) := by decide +kernel
theorem dX8_spread_143 : decode cX8_spread 143 = .ok (.iinc 5 1, 3) := by decide +kernel
theorem dX8_spread_146 : decode cX8_spread 146 = .ok (.goto (-103), 3) := by decide +kernel
theorem dX8_spread_149 : decode cX8_spread 149 = .ok (.return_, 1) := by decide +kernel
def b8_spread_137 (k0 : Nat) (rc : Nat → List Int32 → List Int64 → Mem → Option (Unit × Mem)) (n : Nat) (i2 : Int32) (i4 : Int32) (i5 : Int32) (i6 : Int32) (i7 : Int32) (M : Mem) : Option (Unit × Mem) :=
  lt (i7 + (1 : Int32)) fun v37 =>
  rc 69 [i2, i4, i5, i6, v37] [] M
def b8_spread_69 (k0 : Nat) (rc : Nat → List Int32 → List Int64 → Mem → Option (Unit × Mem)) (n : Nat) (i2 : Int32) (i4 : Int32) (i5 : Int32) (i6 : Int32) (i7 : Int32) (M : Mem) : Option (Unit × Mem) :=
  (if (4 : Int32) ≤ i7 then (
   lt (i5 + (1 : Int32)) fun v19 =>
   rc 43 [i2, i4, v19] [] M)
  else (
   bnd (f11_beside n i6 i7 M) fun r20 M21 =>
   (if r20 < 0 then (
    b8_spread_137 k0 rc n i2 i4 i5 i6 i7 M21)
   else (
    bnd (f8_kindOf n r20 M21) fun r24 M25 =>
    (if r24 < i2 then (
     b8_spread_137 k0 rc n i2 i4 i5 i6 i7 M25)
    else (
     chk (inb r20 96) <|
     (if (M25.1 k0 r20.toNatClampNeg) = (99 : Int32) then (
      (if (96 : Int32) ≤ i4 then (
       b8_spread_137 k0 rc n i2 i4 i5 i6 i7 M25)
      else (
       chk (inb i6 96) <|
       chk (inb r20 96) <|
       lt (wI M25 k0 r20.toNatClampNeg ((M25.1 k0 i6.toNatClampNeg) + (1 : Int32))) fun M33 =>
       chk (inb i4 96) <|
       lt (wI M33 9 i4.toNatClampNeg r20) fun M35 =>
       lt (i4 + (1 : Int32)) fun v36 =>
       b8_spread_137 k0 rc n i2 v36 i5 i6 i7 M35)))
     else (
      b8_spread_137 k0 rc n i2 i4 i5 i6 i7 M25))))))))
def b8_spread_43 (k0 : Nat) (rc : Nat → List Int32 → List Int64 → Mem → Option (Unit × Mem)) (n : Nat) (i2 : Int32) (i4 : Int32) (i5 : Int32) (M : Mem) : Option (Unit × Mem) :=
  (if i4 ≤ i5 then (
   some ((), M))
  else (
   (if (96 : Int32) ≤ i5 then (
    some ((), M))
   else (
    chk (inb i5 96) <|
    lt (M.1 9 i5.toNatClampNeg) fun v17 =>
    b8_spread_69 k0 rc n i2 i4 i5 v17 (0 : Int32) M))))
def b8_spread_0 (k0 : Nat) (rc : Nat → List Int32 → List Int64 → Mem → Option (Unit × Mem)) (n : Nat) (a1 : Int32) (a2 : Int32) (M : Mem) : Option (Unit × Mem) :=
  bnd (fZJ7_fill_53178 n k0 96 (99 : Int32) M) fun r1 M2 =>
  (if a1 < 0 then (
   some ((), M2))
  else (
   (if (96 : Int32) ≤ a1 then (
    some ((), M2))
   else (
    bnd (f8_kindOf n a1 M2) fun r6 M7 =>
    (if a2 ≤ r6 then (
     chk (inb a1 96) <|
     lt (wI M7 k0 a1.toNatClampNeg (0 : Int32)) fun M11 =>
     chk (inb (0 : Int32) 96) <|
     lt (wI M11 9 (0 : Int32).toNatClampNeg a1) fun M13 =>
     b8_spread_43 k0 rc n a2 (1 : Int32) (0 : Int32) M13)
    else (
     some ((), M7)))))))
def r8_spread (k0 : Nat) : Nat → Nat → List Int32 → List Int64 → Mem → Option (Unit × Mem)
  | 0 => fun _ _ _ _ => none
  | n + 1 => fun pc li lj M =>
    if pc = 43 then (match li, lj with | [i2, i4, i5], [] => b8_spread_43 k0 (r8_spread k0 n) n i2 i4 i5 M | _, _ => none) else
    if pc = 69 then (match li, lj with | [i2, i4, i5, i6, i7], [] => b8_spread_69 k0 (r8_spread k0 n) n i2 i4 i5 i6 i7 M | _, _ => none) else
    none
theorem e8_spread_43 (k0 : Nat) (n : Nat) (i2 : Int32) (i4 : Int32) (i5 : Int32) (M : Mem) : r8_spread k0 (n + 1) 43 [i2, i4, i5] [] M = b8_spread_43 k0 (r8_spread k0 n) n i2 i4 i5 M := by
  rw [r8_spread]
  simp
theorem e8_spread_69 (k0 : Nat) (n : Nat) (i2 : Int32) (i4 : Int32) (i5 : Int32) (i6 : Int32) (i7 : Int32) (M : Mem) : r8_spread k0 (n + 1) 69 [i2, i4, i5, i6, i7] [] M = b8_spread_69 k0 (r8_spread k0 n) n i2 i4 i5 i6 i7 M := by
  rw [r8_spread]
  simp
def f8_spread (n : Nat) (k0 : Nat) (a1 : Int32) (a2 : Int32) (M : Mem) : Option (Unit × Mem) := b8_spread_0 k0 (r8_spread k0 n) n a1 a2 M
abbrev rm8_spread : Room := { frames := 1, cells := 0, slots := 0, locals := 23 }
theorem y8_spread_w : yV RX8 yX8_spread cX8_spread 9 none 3 := ⟨g_414, g_415, g_3, g_416, rfl, by decide, by decide, by decide +kernel⟩
set_option maxHeartbeats 4000000 in
set_option maxRecDepth 100000 in
theorem w8_spread_137 {p : Program} {l : Launch} {e : Env} {s : State} {m : MethodId} {args : Array Value} {below : List Frame} {meth : Method} {c : Code} {z : Zt} {b : Nat} {k0 : Nat} (hk0 : isA96 k0) (C : Cx p s m args c cX8_spread 9 RX8 z 339 b) (hr : meth.sig.returnType = none) (hk : meth.locks = false) {r : Unit} {M' : Mem} {rc : Nat → List Int32 → List Int64 → Mem → Option (Unit × Mem)} {n : Nat} (q43 : ∀ (i2 : Int32) (i4 : Int32) (i5 : Int32) (M : Mem) (H : Heap) (locs : List Loc) (ls : Array Slot), rc 43 [i2, i4, i5] [] M = some (r, M') → va_P z.1 vwCl (pw (xd z b) 339 b M) H → va_S (pA 339 b) s.heap H locs → lv_has ls 9 [(0, .ref (b + 3)), (2, .int i2), (3, .ref (b + k0)), (4, .int i4), (5, .int i5)] → W p l e rm8_spread s m args below meth c H locs 0 0 (MQ below (va_Qv (fun (M2 : Mem) => M2 = M') (fun M2 t => va_P z.1 vwCl (pw (xd z b) 339 b M2) t.heap) (pA 339 b)) args s 0 0 (pA 339 b)) (F0 m 43 ls [])) (q69 : ∀ (i2 : Int32) (i4 : Int32) (i5 : Int32) (i6 : Int32) (i7 : Int32) (M : Mem) (H : Heap) (locs : List Loc) (ls : Array Slot), rc 69 [i2, i4, i5, i6, i7] [] M = some (r, M') → va_P z.1 vwCl (pw (xd z b) 339 b M) H → va_S (pA 339 b) s.heap H locs → lv_has ls 9 [(0, .ref (b + 3)), (2, .int i2), (3, .ref (b + k0)), (4, .int i4), (5, .int i5), (6, .int i6), (7, .int i7)] → W p l e rm8_spread s m args below meth c H locs 0 0 (MQ below (va_Qv (fun (M2 : Mem) => M2 = M') (fun M2 t => va_P z.1 vwCl (pw (xd z b) 339 b M2) t.heap) (pA 339 b)) args s 0 0 (pA 339 b)) (F0 m 69 ls [])) {i2 : Int32} {i4 : Int32} {i5 : Int32} {i6 : Int32} {i7 : Int32} {M : Mem} {H : Heap} {locs : List Loc} {ls : Array Slot} (hf : b8_spread_137 k0 rc n i2 i4 i5 i6 i7 M = some (r, M')) (hP : va_P z.1 vwCl (pw (xd z b) 339 b M) H) (hS : va_S (pA 339 b) s.heap H locs) (hl : lv_has ls 9 [(0, .ref (b + 3)), (2, .int i2), (3, .ref (b + k0)), (4, .int i4), (5, .int i5), (6, .int i6), (7, .int i7)]) : W p l e rm8_spread s m args below meth c H locs 0 0 (MQ below (va_Qv (fun (M2 : Mem) => M2 = M') (fun M2 t => va_P z.1 vwCl (pw (xd z b) 339 b M2) t.heap) (pA 339 b)) args s 0 0 (pA 339 b)) (F0 m 137 ls []) := by
  have hx := C.1.1
  have hb := C.1.2.1
  unfold b8_spread_137 at hf
  obtain ⟨v37, ev37⟩ : ∃ v : Int32, v = i7 + (1 : Int32) := ⟨_, rfl⟩
  replace hf := lt_c ev37 hf
  refine lv_iinc (v := v37) (lv' := [(7, .int v37), (0, .ref (b + 3)), (2, .int i2), (3, .ref (b + k0)), (4, .int i4), (5, .int i5), (6, .int i6)]) hx hb dX8_spread_137 hl (k := 6) rfl (by rw [ev37]; rfl) (by decide) rfl (fun ls hl => ?_)
  refine lv_goto (tgt := 69) hx hb dX8_spread_140 (by decide) ?_
  exact q69 i2 i4 i5 i6 v37 M _ _ _ hf hP hS (lv_sub hl [1, 2, 3, 4, 5, 6, 0] rfl)
set_option maxHeartbeats 4000000 in
set_option maxRecDepth 100000 in
theorem w8_spread_69 {p : Program} {l : Launch} {e : Env} {s : State} {m : MethodId} {args : Array Value} {below : List Frame} {meth : Method} {c : Code} {z : Zt} {b : Nat} {k0 : Nat} (hk0 : isA96 k0) (C : Cx p s m args c cX8_spread 9 RX8 z 339 b) (hr : meth.sig.returnType = none) (hk : meth.locks = false) {r : Unit} {M' : Mem} {rc : Nat → List Int32 → List Int64 → Mem → Option (Unit × Mem)} {n : Nat} (q43 : ∀ (i2 : Int32) (i4 : Int32) (i5 : Int32) (M : Mem) (H : Heap) (locs : List Loc) (ls : Array Slot), rc 43 [i2, i4, i5] [] M = some (r, M') → va_P z.1 vwCl (pw (xd z b) 339 b M) H → va_S (pA 339 b) s.heap H locs → lv_has ls 9 [(0, .ref (b + 3)), (2, .int i2), (3, .ref (b + k0)), (4, .int i4), (5, .int i5)] → W p l e rm8_spread s m args below meth c H locs 0 0 (MQ below (va_Qv (fun (M2 : Mem) => M2 = M') (fun M2 t => va_P z.1 vwCl (pw (xd z b) 339 b M2) t.heap) (pA 339 b)) args s 0 0 (pA 339 b)) (F0 m 43 ls [])) (q69 : ∀ (i2 : Int32) (i4 : Int32) (i5 : Int32) (i6 : Int32) (i7 : Int32) (M : Mem) (H : Heap) (locs : List Loc) (ls : Array Slot), rc 69 [i2, i4, i5, i6, i7] [] M = some (r, M') → va_P z.1 vwCl (pw (xd z b) 339 b M) H → va_S (pA 339 b) s.heap H locs → lv_has ls 9 [(0, .ref (b + 3)), (2, .int i2), (3, .ref (b + k0)), (4, .int i4), (5, .int i5), (6, .int i6), (7, .int i7)] → W p l e rm8_spread s m args below meth c H locs 0 0 (MQ below (va_Qv (fun (M2 : Mem) => M2 = M') (fun M2 t => va_P z.1 vwCl (pw (xd z b) 339 b M2) t.heap) (pA 339 b)) args s 0 0 (pA 339 b)) (F0 m 69 ls [])) {i2 : Int32} {i4 : Int32} {i5 : Int32} {i6 : Int32} {i7 : Int32} {M : Mem} {H : Heap} {locs : List Loc} {ls : Array Slot} (hf : b8_spread_69 k0 rc n i2 i4 i5 i6 i7 M = some (r, M')) (hP : va_P z.1 vwCl (pw (xd z b) 339 b M) H) (hS : va_S (pA 339 b) s.heap H locs) (hl : lv_has ls 9 [(0, .ref (b + 3)), (2, .int i2), (3, .ref (b + k0)), (4, .int i4), (5, .int i5), (6, .int i6), (7, .int i7)]) : W p l e rm8_spread s m args below meth c H locs 0 0 (MQ below (va_Qv (fun (M2 : Mem) => M2 = M') (fun M2 t => va_P z.1 vwCl (pw (xd z b) 339 b M2) t.heap) (pA 339 b)) args s 0 0 (pA 339 b)) (F0 m 69 ls []) := by
  have hx := C.1.1
  have hb := C.1.2.1
  unfold b8_spread_69 at hf
  refine lv_iload hx hb dX8_spread_69 (lv_at hl 6 rfl) ?_
  refine lv_iconst (v := (4 : Int32)) hx hb dX8_spread_71 (by decide) ?_
  refine lv_icmp_ge (tgt := 143) hx hb dX8_spread_72 (by decide) (fun c18 => ?_) (fun c18 => ?_)
  · replace hf := ite_t c18 hf
    obtain ⟨v19, ev19⟩ : ∃ v : Int32, v = i5 + (1 : Int32) := ⟨_, rfl⟩
    replace hf := lt_c ev19 hf
    refine lv_iinc (v := v19) (lv' := [(5, .int v19), (0, .ref (b + 3)), (2, .int i2), (3, .ref (b + k0)), (4, .int i4), (6, .int i6), (7, .int i7)]) hx hb dX8_spread_143 hl (k := 4) rfl (by rw [ev19]; rfl) (by decide) rfl (fun ls hl => ?_)
    refine lv_goto (tgt := 43) hx hb dX8_spread_146 (by decide) ?_
    exact q43 i2 i4 v19 M _ _ _ hf hP hS (lv_sub hl [1, 2, 3, 4, 0] rfl)
  · replace hf := ite_f c18 hf
    refine lv_iload hx hb dX8_spread_75 (lv_at hl 5 rfl) ?_
    refine lv_iload hx hb dX8_spread_77 (lv_at hl 6 rfl) ?_
    obtain ⟨r20, M21, h22, hf⟩ := bnd_s hf
    refine pcTi (As := [.int i6, .int i7]) C hP hS (c11_beside  h22) y11_beside_w g_417 rfl rfl rfl ⟨Nat.le_of_ble_eq_true rfl, Nat.le_of_ble_eq_true rfl⟩ hl.1 rfl (Nat.le_of_ble_eq_true rfl) dX8_spread_79 ⟨Nat.le_of_ble_eq_true rfl, Nat.le_of_ble_eq_true rfl⟩ (fun H locs hP hS => ?_)
    refine lv_istore (lv' := [(8, .int r20), (0, .ref (b + 3)), (2, .int i2), (3, .ref (b + k0)), (4, .int i4), (5, .int i5), (6, .int i6), (7, .int i7)]) hx hb dX8_spread_82 hl (by decide) rfl (fun ls hl => ?_)
    refine lv_iload hx hb dX8_spread_84 (lv_at hl 0 rfl) ?_
    refine lv_if_lt (tgt := 137) hx hb dX8_spread_86 (by decide) (fun c23 => ?_) (fun c23 => ?_)
    · replace hf := ite_t c23 hf
      exact w8_spread_137 (n := n) hk0 C hr hk q43 q69 hf hP hS (lv_sub hl [1, 2, 3, 4, 5, 6, 7] rfl)
    · replace hf := ite_f c23 hf
      refine lv_aload_n hx hb dX8_spread_89 rfl (lv_at hl 1 rfl) ?_
      refine lv_iload hx hb dX8_spread_90 (lv_at hl 0 rfl) ?_
      obtain ⟨r24, M25, h26, hf⟩ := bnd_s hf
      refine pcVi (As := [.int r20]) C hP hS (k := 3) (Nat.le_of_ble_eq_true rfl) (xd_3 _ _) rfl (c8_kindOf  h26) y8_kindOf_w g_405 rfl rfl rfl ⟨Nat.le_of_ble_eq_true rfl, Nat.le_of_ble_eq_true rfl⟩ hl.1 rfl (Nat.le_of_ble_eq_true rfl) dX8_spread_92 ⟨Nat.le_of_ble_eq_true rfl, Nat.le_of_ble_eq_true rfl⟩ (fun H locs hP hS => ?_)
      refine lv_iload_n hx hb dX8_spread_95 rfl (lv_at hl 2 rfl) ?_
      refine lv_icmp_lt (tgt := 137) hx hb dX8_spread_96 (by decide) (fun c27 => ?_) (fun c27 => ?_)
      · replace hf := ite_t c27 hf
        exact w8_spread_137 (n := n) hk0 C hr hk q43 q69 hf hP hS (lv_sub hl [1, 2, 3, 4, 5, 6, 7] rfl)
      · replace hf := ite_f c27 hf
        refine lv_aload_n hx hb dX8_spread_99 rfl (lv_at hl 3 rfl) ?_
        refine lv_iload hx hb dX8_spread_100 (lv_at hl 0 rfl) ?_
        have h28 := chk_1 hf
        replace hf := chk_2 hf
        refine paI C hP (k := k0) (a9_lt hk0) ((a9_d hk0) _ _) h28 dX8_spread_102 ?_
        refine lv_bipush (v := (99 : Int32)) hx hb dX8_spread_103 (by decide) ?_
        refine lv_icmp_ne (tgt := 137) hx hb dX8_spread_105 (by decide) (fun c29 => ?_) (fun c29 => ?_)
        · replace hf := ite_f c29 hf
          exact w8_spread_137 (n := n) hk0 C hr hk q43 q69 hf hP hS (lv_sub hl [1, 2, 3, 4, 5, 6, 7] rfl)
        · replace hf := ite_t c29 hf
          refine lv_iload hx hb dX8_spread_108 (lv_at hl 4 rfl) ?_
          refine lv_bipush (v := (96 : Int32)) hx hb dX8_spread_110 (by decide) ?_
          refine lv_icmp_ge (tgt := 137) hx hb dX8_spread_112 (by decide) (fun c30 => ?_) (fun c30 => ?_)
          · replace hf := ite_t c30 hf
            exact w8_spread_137 (n := n) hk0 C hr hk q43 q69 hf hP hS (lv_sub hl [1, 2, 3, 4, 5, 6, 7] rfl)
          · replace hf := ite_f c30 hf
            refine lv_aload_n hx hb dX8_spread_115 rfl (lv_at hl 3 rfl) ?_
            refine lv_iload hx hb dX8_spread_116 (lv_at hl 0 rfl) ?_
            refine lv_aload_n hx hb dX8_spread_118 rfl (lv_at hl 3 rfl) ?_
            refine lv_iload hx hb dX8_spread_119 (lv_at hl 6 rfl) ?_
            have h31 := chk_1 hf
            replace hf := chk_2 hf
            refine paI C hP (k := k0) (a9_lt hk0) ((a9_d hk0) _ _) h31 dX8_spread_121 ?_
            refine lv_iconst (v := (1 : Int32)) hx hb dX8_spread_122 (by decide) ?_
            refine lv_iadd hx hb dX8_spread_123 ?_
            have h32 := chk_1 hf
            replace hf := chk_2 hf
            refine psI C hP hS (k := k0) (a9_lt hk0) ((a9_d hk0)) h32 dX8_spread_124 (fun M33 H locs eM33 hP hS => ?_)
            replace hf := lt_c eM33 hf
            refine lv_aload_n hx hb dX8_spread_125 rfl (lv_at hl 1 rfl) ?_
            refine pg C hP (k := 3) (j := 5) (Nat.le_of_ble_eq_true rfl) (xd_3 _ _) rfl iw_8 (Nat.le_of_ble_eq_true rfl) g_83 rfl rfl dX8_spread_126 ?_
            refine lv_iload hx hb dX8_spread_129 (lv_at hl 4 rfl) ?_
            refine lv_iload hx hb dX8_spread_131 (lv_at hl 0 rfl) ?_
            have h34 := chk_1 hf
            replace hf := chk_2 hf
            refine psI C hP hS (k := 9) (Nat.le_of_ble_eq_true rfl) (xd_9) h34 dX8_spread_133 (fun M35 H locs eM35 hP hS => ?_)
            replace hf := lt_c eM35 hf
            obtain ⟨v36, ev36⟩ : ∃ v : Int32, v = i4 + (1 : Int32) := ⟨_, rfl⟩
            replace hf := lt_c ev36 hf
            refine lv_iinc (v := v36) (lv' := [(4, .int v36), (8, .int r20), (0, .ref (b + 3)), (2, .int i2), (3, .ref (b + k0)), (5, .int i5), (6, .int i6), (7, .int i7)]) hx hb dX8_spread_134 hl (k := 4) rfl (by rw [ev36]; rfl) (by decide) rfl (fun ls hl => ?_)
            exact w8_spread_137 (n := n) hk0 C hr hk q43 q69 hf hP hS (lv_sub hl [2, 3, 4, 0, 5, 6, 7] rfl)
set_option maxHeartbeats 4000000 in
set_option maxRecDepth 100000 in
theorem w8_spread_43 {p : Program} {l : Launch} {e : Env} {s : State} {m : MethodId} {args : Array Value} {below : List Frame} {meth : Method} {c : Code} {z : Zt} {b : Nat} {k0 : Nat} (hk0 : isA96 k0) (C : Cx p s m args c cX8_spread 9 RX8 z 339 b) (hr : meth.sig.returnType = none) (hk : meth.locks = false) {r : Unit} {M' : Mem} {rc : Nat → List Int32 → List Int64 → Mem → Option (Unit × Mem)} {n : Nat} (q43 : ∀ (i2 : Int32) (i4 : Int32) (i5 : Int32) (M : Mem) (H : Heap) (locs : List Loc) (ls : Array Slot), rc 43 [i2, i4, i5] [] M = some (r, M') → va_P z.1 vwCl (pw (xd z b) 339 b M) H → va_S (pA 339 b) s.heap H locs → lv_has ls 9 [(0, .ref (b + 3)), (2, .int i2), (3, .ref (b + k0)), (4, .int i4), (5, .int i5)] → W p l e rm8_spread s m args below meth c H locs 0 0 (MQ below (va_Qv (fun (M2 : Mem) => M2 = M') (fun M2 t => va_P z.1 vwCl (pw (xd z b) 339 b M2) t.heap) (pA 339 b)) args s 0 0 (pA 339 b)) (F0 m 43 ls [])) (q69 : ∀ (i2 : Int32) (i4 : Int32) (i5 : Int32) (i6 : Int32) (i7 : Int32) (M : Mem) (H : Heap) (locs : List Loc) (ls : Array Slot), rc 69 [i2, i4, i5, i6, i7] [] M = some (r, M') → va_P z.1 vwCl (pw (xd z b) 339 b M) H → va_S (pA 339 b) s.heap H locs → lv_has ls 9 [(0, .ref (b + 3)), (2, .int i2), (3, .ref (b + k0)), (4, .int i4), (5, .int i5), (6, .int i6), (7, .int i7)] → W p l e rm8_spread s m args below meth c H locs 0 0 (MQ below (va_Qv (fun (M2 : Mem) => M2 = M') (fun M2 t => va_P z.1 vwCl (pw (xd z b) 339 b M2) t.heap) (pA 339 b)) args s 0 0 (pA 339 b)) (F0 m 69 ls [])) {i2 : Int32} {i4 : Int32} {i5 : Int32} {M : Mem} {H : Heap} {locs : List Loc} {ls : Array Slot} (hf : b8_spread_43 k0 rc n i2 i4 i5 M = some (r, M')) (hP : va_P z.1 vwCl (pw (xd z b) 339 b M) H) (hS : va_S (pA 339 b) s.heap H locs) (hl : lv_has ls 9 [(0, .ref (b + 3)), (2, .int i2), (3, .ref (b + k0)), (4, .int i4), (5, .int i5)]) : W p l e rm8_spread s m args below meth c H locs 0 0 (MQ below (va_Qv (fun (M2 : Mem) => M2 = M') (fun M2 t => va_P z.1 vwCl (pw (xd z b) 339 b M2) t.heap) (pA 339 b)) args s 0 0 (pA 339 b)) (F0 m 43 ls []) := by
  have hx := C.1.1
  have hb := C.1.2.1
  unfold b8_spread_43 at hf
  refine lv_iload hx hb dX8_spread_43 (lv_at hl 4 rfl) ?_
  refine lv_iload hx hb dX8_spread_45 (lv_at hl 3 rfl) ?_
  refine lv_icmp_ge (tgt := 149) hx hb dX8_spread_47 (by decide) (fun c14 => ?_) (fun c14 => ?_)
  · replace hf := ite_t c14 hf
    exact prV C hr hk hP hS hf dX8_spread_149
  · replace hf := ite_f c14 hf
    refine lv_iload hx hb dX8_spread_50 (lv_at hl 4 rfl) ?_
    refine lv_bipush (v := (96 : Int32)) hx hb dX8_spread_52 (by decide) ?_
    refine lv_icmp_ge (tgt := 149) hx hb dX8_spread_54 (by decide) (fun c15 => ?_) (fun c15 => ?_)
    · replace hf := ite_t c15 hf
      exact prV C hr hk hP hS hf dX8_spread_149
    · replace hf := ite_f c15 hf
      refine lv_aload_n hx hb dX8_spread_57 rfl (lv_at hl 0 rfl) ?_
      refine pg C hP (k := 3) (j := 5) (Nat.le_of_ble_eq_true rfl) (xd_3 _ _) rfl iw_8 (Nat.le_of_ble_eq_true rfl) g_83 rfl rfl dX8_spread_58 ?_
      refine lv_iload hx hb dX8_spread_61 (lv_at hl 4 rfl) ?_
      have h16 := chk_1 hf
      replace hf := chk_2 hf
      refine paI C hP (k := 9) (Nat.le_of_ble_eq_true rfl) (xd_9 _ _) h16 dX8_spread_63 ?_
      refine lv_topi (fun v17 ev17 => ?_)
      replace hf := lt_c ev17 hf
      refine lv_istore (lv' := [(6, .int v17), (0, .ref (b + 3)), (2, .int i2), (3, .ref (b + k0)), (4, .int i4), (5, .int i5)]) hx hb dX8_spread_64 hl (by decide) rfl (fun ls hl => ?_)
      refine lv_iconst (v := (0 : Int32)) hx hb dX8_spread_66 (by decide) ?_
      refine lv_istore (lv' := [(7, .int (0 : Int32)), (6, .int v17), (0, .ref (b + 3)), (2, .int i2), (3, .ref (b + k0)), (4, .int i4), (5, .int i5)]) hx hb dX8_spread_67 hl (by decide) rfl (fun ls hl => ?_)
      exact w8_spread_69 (n := n) hk0 C hr hk q43 q69 hf hP hS (lv_sub hl [2, 3, 4, 5, 6, 1, 0] rfl)
set_option maxHeartbeats 4000000 in
set_option maxRecDepth 100000 in
theorem w8_spread_0 {p : Program} {l : Launch} {e : Env} {s : State} {m : MethodId} {args : Array Value} {below : List Frame} {meth : Method} {c : Code} {z : Zt} {b : Nat} {k0 : Nat} (hk0 : isA96 k0) (C : Cx p s m args c cX8_spread 9 RX8 z 339 b) (hr : meth.sig.returnType = none) (hk : meth.locks = false) {r : Unit} {M' : Mem} {rc : Nat → List Int32 → List Int64 → Mem → Option (Unit × Mem)} {n : Nat} (q43 : ∀ (i2 : Int32) (i4 : Int32) (i5 : Int32) (M : Mem) (H : Heap) (locs : List Loc) (ls : Array Slot), rc 43 [i2, i4, i5] [] M = some (r, M') → va_P z.1 vwCl (pw (xd z b) 339 b M) H → va_S (pA 339 b) s.heap H locs → lv_has ls 9 [(0, .ref (b + 3)), (2, .int i2), (3, .ref (b + k0)), (4, .int i4), (5, .int i5)] → W p l e rm8_spread s m args below meth c H locs 0 0 (MQ below (va_Qv (fun (M2 : Mem) => M2 = M') (fun M2 t => va_P z.1 vwCl (pw (xd z b) 339 b M2) t.heap) (pA 339 b)) args s 0 0 (pA 339 b)) (F0 m 43 ls [])) (q69 : ∀ (i2 : Int32) (i4 : Int32) (i5 : Int32) (i6 : Int32) (i7 : Int32) (M : Mem) (H : Heap) (locs : List Loc) (ls : Array Slot), rc 69 [i2, i4, i5, i6, i7] [] M = some (r, M') → va_P z.1 vwCl (pw (xd z b) 339 b M) H → va_S (pA 339 b) s.heap H locs → lv_has ls 9 [(0, .ref (b + 3)), (2, .int i2), (3, .ref (b + k0)), (4, .int i4), (5, .int i5), (6, .int i6), (7, .int i7)] → W p l e rm8_spread s m args below meth c H locs 0 0 (MQ below (va_Qv (fun (M2 : Mem) => M2 = M') (fun M2 t => va_P z.1 vwCl (pw (xd z b) 339 b M2) t.heap) (pA 339 b)) args s 0 0 (pA 339 b)) (F0 m 69 ls [])) {a1 : Int32} {a2 : Int32} {M : Mem} {H : Heap} {locs : List Loc} {ls : Array Slot} (hf : b8_spread_0 k0 rc n a1 a2 M = some (r, M')) (hP : va_P z.1 vwCl (pw (xd z b) 339 b M) H) (hS : va_S (pA 339 b) s.heap H locs) (hl : lv_has ls 9 [(0, .ref (b + 3)), (1, .int a1), (2, .int a2), (3, .ref (b + k0))]) : W p l e rm8_spread s m args below meth c H locs 0 0 (MQ below (va_Qv (fun (M2 : Mem) => M2 = M') (fun M2 t => va_P z.1 vwCl (pw (xd z b) 339 b M2) t.heap) (pA 339 b)) args s 0 0 (pA 339 b)) (F0 m 0 ls []) := by
  have hx := C.1.1
  have hb := C.1.2.1
  unfold b8_spread_0 at hf
  refine lv_aload_n hx hb dX8_spread_0 rfl (lv_at hl 3 rfl) ?_
  refine lv_bipush (v := (99 : Int32)) hx hb dX8_spread_1 (by decide) ?_
  obtain ⟨r1, M2, h3, hf⟩ := bnd_s hf
  refine pcSv (As := [.ref (b + k0), .int (99 : Int32)]) C hP hS (cZJ7_fill_53178 ⟨(a9_lt hk0), (a9_d hk0)⟩ h3) yZJ7_fill_53178_w g_67 rfl rfl rfl ⟨Nat.le_of_ble_eq_true rfl, Nat.le_of_ble_eq_true rfl⟩ hl.1 rfl (Nat.le_of_ble_eq_true rfl) dX8_spread_3 ⟨Nat.le_of_ble_eq_true rfl, Nat.le_of_ble_eq_true rfl⟩ (fun H locs hP hS => ?_)
  refine lv_iload_n hx hb dX8_spread_6 rfl (lv_at hl 1 rfl) ?_
  refine lv_if_lt (tgt := 25) hx hb dX8_spread_7 (by decide) (fun c4 => ?_) (fun c4 => ?_)
  · replace hf := ite_t c4 hf
    exact prV C hr hk hP hS hf dX8_spread_25
  · replace hf := ite_f c4 hf
    refine lv_iload_n hx hb dX8_spread_10 rfl (lv_at hl 1 rfl) ?_
    refine lv_bipush (v := (96 : Int32)) hx hb dX8_spread_11 (by decide) ?_
    refine lv_icmp_ge (tgt := 25) hx hb dX8_spread_13 (by decide) (fun c5 => ?_) (fun c5 => ?_)
    · replace hf := ite_t c5 hf
      exact prV C hr hk hP hS hf dX8_spread_25
    · replace hf := ite_f c5 hf
      refine lv_aload_n hx hb dX8_spread_16 rfl (lv_at hl 0 rfl) ?_
      refine lv_iload_n hx hb dX8_spread_17 rfl (lv_at hl 1 rfl) ?_
      obtain ⟨r6, M7, h8, hf⟩ := bnd_s hf
      refine pcVi (As := [.int a1]) C hP hS (k := 3) (Nat.le_of_ble_eq_true rfl) (xd_3 _ _) rfl (c8_kindOf  h8) y8_kindOf_w g_405 rfl rfl rfl ⟨Nat.le_of_ble_eq_true rfl, Nat.le_of_ble_eq_true rfl⟩ hl.1 rfl (Nat.le_of_ble_eq_true rfl) dX8_spread_18 ⟨Nat.le_of_ble_eq_true rfl, Nat.le_of_ble_eq_true rfl⟩ (fun H locs hP hS => ?_)
      refine lv_iload_n hx hb dX8_spread_21 rfl (lv_at hl 2 rfl) ?_
      refine lv_icmp_ge (tgt := 26) hx hb dX8_spread_22 (by decide) (fun c9 => ?_) (fun c9 => ?_)
      · replace hf := ite_t c9 hf
        refine lv_aload_n hx hb dX8_spread_26 rfl (lv_at hl 3 rfl) ?_
        refine lv_iload_n hx hb dX8_spread_27 rfl (lv_at hl 1 rfl) ?_
        refine lv_iconst (v := (0 : Int32)) hx hb dX8_spread_28 (by decide) ?_
        have h10 := chk_1 hf
        replace hf := chk_2 hf
        refine psI C hP hS (k := k0) (a9_lt hk0) ((a9_d hk0)) h10 dX8_spread_29 (fun M11 H locs eM11 hP hS => ?_)
        replace hf := lt_c eM11 hf
        refine lv_aload_n hx hb dX8_spread_30 rfl (lv_at hl 0 rfl) ?_
        refine pg C hP (k := 3) (j := 5) (Nat.le_of_ble_eq_true rfl) (xd_3 _ _) rfl iw_8 (Nat.le_of_ble_eq_true rfl) g_83 rfl rfl dX8_spread_31 ?_
        refine lv_iconst (v := (0 : Int32)) hx hb dX8_spread_34 (by decide) ?_
        refine lv_iload_n hx hb dX8_spread_35 rfl (lv_at hl 1 rfl) ?_
        have h12 := chk_1 hf
        replace hf := chk_2 hf
        refine psI C hP hS (k := 9) (Nat.le_of_ble_eq_true rfl) (xd_9) h12 dX8_spread_36 (fun M13 H locs eM13 hP hS => ?_)
        replace hf := lt_c eM13 hf
        refine lv_iconst (v := (1 : Int32)) hx hb dX8_spread_37 (by decide) ?_
        refine lv_istore (lv' := [(4, .int (1 : Int32)), (0, .ref (b + 3)), (1, .int a1), (2, .int a2), (3, .ref (b + k0))]) hx hb dX8_spread_38 hl (by decide) rfl (fun ls hl => ?_)
        refine lv_iconst (v := (0 : Int32)) hx hb dX8_spread_40 (by decide) ?_
        refine lv_istore (lv' := [(5, .int (0 : Int32)), (4, .int (1 : Int32)), (0, .ref (b + 3)), (1, .int a1), (2, .int a2), (3, .ref (b + k0))]) hx hb dX8_spread_41 hl (by decide) rfl (fun ls hl => ?_)
        exact w8_spread_43 (n := n) hk0 C hr hk q43 q69 hf hP hS (lv_sub hl [2, 4, 5, 1, 0] rfl)
      · replace hf := ite_f c9 hf
        exact prV C hr hk hP hS hf dX8_spread_25
set_option maxHeartbeats 4000000 in
set_option maxRecDepth 100000 in
theorem l8_spread {p : Program} {l : Launch} {e : Env} {s : State} {m : MethodId} {args : Array Value} {below : List Frame} {meth : Method} {c : Code} {z : Zt} {b : Nat} {k0 : Nat} (hk0 : isA96 k0) (C : Cx p s m args c cX8_spread 9 RX8 z 339 b) (hr : meth.sig.returnType = none) (hk : meth.locks = false) {r : Unit} {M' : Mem} (n : Nat) : (∀ (i2 : Int32) (i4 : Int32) (i5 : Int32) (M : Mem) (H : Heap) (locs : List Loc) (ls : Array Slot), (r8_spread k0 n) 43 [i2, i4, i5] [] M = some (r, M') → va_P z.1 vwCl (pw (xd z b) 339 b M) H → va_S (pA 339 b) s.heap H locs → lv_has ls 9 [(0, .ref (b + 3)), (2, .int i2), (3, .ref (b + k0)), (4, .int i4), (5, .int i5)] → W p l e rm8_spread s m args below meth c H locs 0 0 (MQ below (va_Qv (fun (M2 : Mem) => M2 = M') (fun M2 t => va_P z.1 vwCl (pw (xd z b) 339 b M2) t.heap) (pA 339 b)) args s 0 0 (pA 339 b)) (F0 m 43 ls [])) ∧ (∀ (i2 : Int32) (i4 : Int32) (i5 : Int32) (i6 : Int32) (i7 : Int32) (M : Mem) (H : Heap) (locs : List Loc) (ls : Array Slot), (r8_spread k0 n) 69 [i2, i4, i5, i6, i7] [] M = some (r, M') → va_P z.1 vwCl (pw (xd z b) 339 b M) H → va_S (pA 339 b) s.heap H locs → lv_has ls 9 [(0, .ref (b + 3)), (2, .int i2), (3, .ref (b + k0)), (4, .int i4), (5, .int i5), (6, .int i6), (7, .int i7)] → W p l e rm8_spread s m args below meth c H locs 0 0 (MQ below (va_Qv (fun (M2 : Mem) => M2 = M') (fun M2 t => va_P z.1 vwCl (pw (xd z b) 339 b M2) t.heap) (pA 339 b)) args s 0 0 (pA 339 b)) (F0 m 69 ls [])) := by
  induction n with
  | zero => exact ⟨fun _ _ _ _ _ _ _ hf => (by cases hf), fun _ _ _ _ _ _ _ _ _ hf => (by cases hf)⟩
  | succ n ih => exact ⟨fun _ _ _ _ _ _ _ hf hP hS hl => w8_spread_43 (n := n) hk0 C hr hk ih.1 ih.2 ((e8_spread_43 _ n _ _ _ _).symm.trans hf) hP hS hl, fun _ _ _ _ _ _ _ _ _ hf hP hS hl => w8_spread_69 (n := n) hk0 C hr hk ih.1 ih.2 ((e8_spread_69 _ n _ _ _ _ _ _).symm.trans hf) hP hS hl⟩
theorem c8_spread {l : Launch} {z : Zt} {b n : Nat} {k0 : Nat} (hk0 : isA96 k0) {a1 : Int32} {a2 : Int32} {M M' : Mem} {r : Unit} (hf : f8_spread n k0 a1 a2 M = some (r, M')) : CV l z (xd z b) 339 b yX8_spread cX8_spread 9 none rm8_spread [.ref (b + 3), .int a1, .int a2, .ref (b + k0)] M M' :=
  CV.ofW (lv := [(0, .ref (b + 3)), (1, .int a1), (2, .int a2), (3, .ref (b + k0))]) (by decide) (Nat.le_of_ble_eq_true rfl) rfl (fun p e s m args below meth c ls C hr hk hP hS hl => w8_spread_0 (n := n) hk0 C hr hk (l8_spread hk0 C hr hk n).1 (l8_spread hk0 C hr hk n).2 hf hP hS hl)

-- BronzeKing$Rounds.measure()V
theorem dX5_measure_0 : decode cX5_measure 0 = .ok (.iconst 0, 1) := by decide +kernel
theorem dX5_measure_1 : decode cX5_measure 1 = .ok (.istore_n 1, 1) := by decide +kernel
theorem dX5_measure_2 : decode cX5_measure 2 = .ok (.iload_n 1, 1) := by decide +kernel
theorem dX5_measure_3 : decode cX5_measure 3 = .ok (.bipush 10, 2) := by decide +kernel
theorem dX5_measure_5 : decode cX5_measure 5 = .ok (.if_icmp .ge 72, 3) := by decide +kernel
theorem dX5_measure_8 : decode cX5_measure 8 = .ok (.aload_n 0, 1) := by decide +kernel
theorem dX5_measure_9 : decode cX5_measure 9 = .ok (.getfield 33, 3) := by decide +kernel
theorem dX5_measure_12 : decode cX5_measure 12 = .ok (.aload_n 0, 1) := by decide +kernel
theorem dX5_measure_13 : decode cX5_measure 13 = .ok (.iload_n 1, 1) := by decide +kernel
theorem dX5_measure_14 : decode cX5_measure 14 = .ok (.invokevirtual 73, 3) := by decide +kernel
theorem dX5_measure_17 : decode cX5_measure 17 = .ok (.iconst 2, 1) := by decide +kernel
theorem dX5_measure_18 : decode cX5_measure 18 = .ok (.aload_n 0, 1) := by decide +kernel
theorem dX5_measure_19 : decode cX5_measure 19 = .ok (.getfield 19, 3) := by decide +kernel
theorem dX5_measure_22 : decode cX5_measure 22 = .ok (.invokevirtual 76, 3) := by decide +kernel
theorem dX5_measure_25 : decode cX5_measure 25 = .ok (.iconst 0, 1) := by decide +kernel
theorem dX5_measure_26 : decode cX5_measure 26 = .ok (.istore_n 2, 1) := by decide +kernel
theorem dX5_measure_27 : decode cX5_measure 27 = .ok (.iload_n 2, 1) := by decide +kernel
theorem dX5_measure_28 : decode cX5_measure 28 = .ok (.bipush 10, 2) := by decide +kernel
theorem dX5_measure_30 : decode cX5_measure 30 = .ok (.if_icmp .ge 41, 3) := by decide +kernel
theorem dX5_measure_33 : decode cX5_measure 33 = .ok (.aload_n 0, 1) := by decide +kernel
theorem dX5_measure_34 : decode cX5_measure 34 = .ok (.iload_n 2, 1) := by decide +kernel
theorem dX5_measure_35 : decode cX5_measure 35 = .ok (.invokevirtual 73, 3) := by decide +kernel
theorem dX5_measure_38 : decode cX5_measure 38 = .ok (.istore_n 3, 1) := by decide +kernel
theorem dX5_measure_39 : decode cX5_measure 39 = .ok (.aload_n 0, 1) := by decide +kernel
theorem dX5_measure_40 : decode cX5_measure 40 = .ok (.getfield 15, 3) := by decide +kernel
theorem dX5_measure_43 : decode cX5_measure 43 = .ok (.iload_n 1, 1) := by decide +kernel
theorem dX5_measure_44 : decode cX5_measure 44 = .ok (.bipush 10, 2) := by decide +kernel
theorem dX5_measure_46 : decode cX5_measure 46 = .ok (.imul, 1) := by decide +kernel
theorem dX5_measure_47 : decode cX5_measure 47 = .ok (.iload_n 2, 1) := by decide +kernel
theorem dX5_measure_48 : decode cX5_measure 48 = .ok (.iadd, 1) := by decide +kernel
theorem dX5_measure_49 : decode cX5_measure 49 = .ok (.iload_n 3, 1) := by decide +kernel
theorem dX5_measure_50 : decode cX5_measure 50 = .ok (.ifCond .ge 8, 3) := by decide +kernel
theorem dX5_measure_53 : decode cX5_measure 53 = .ok (.bipush 99, 2) := by decide +kernel
theorem dX5_measure_55 : decode cX5_measure 55 = .ok (.goto 9, 3) := by decide +kernel
theorem dX5_measure_58 : decode cX5_measure 58 = .ok (.aload_n 0, 1) := by decide +kernel
theorem dX5_measure_59 : decode cX5_measure 59 = .ok (.getfield 19, 3) := by decide +kernel
theorem dX5_measure_62 : decode cX5_measure 62 = .ok (.iload_n 3, 1) := by decide +kernel
theorem dX5_measure_63 : decode cX5_measure 63 = .ok (.iaload, 1) := by decide +kernel
theorem dX5_measure_64 : decode cX5_measure 64 = .ok (.iastore, 1) := by decide +kernel
theorem dX5_measure_65 : decode cX5_measure 65 = .ok (.iinc 2 1, 3) := by decide +kernel
theorem dX5_measure_68 : decode cX5_measure 68 = .ok (.goto (-41), 3) := by decide +kernel
theorem dX5_measure_71 : decode cX5_measure 71 = .ok (.iinc 1 1, 3) := by decide +kernel
theorem dX5_measure_74 : decode cX5_measure 74 = .ok (.goto (-72), 3) := by decide +kernel
theorem dX5_measure_77 : decode cX5_measure 77 = .ok (.return_, 1) := by decide +kernel
def b5_measure_64 (rc : Nat → List Int32 → List Int64 → Mem → Option (Unit × Mem)) (n : Nat) (i1 : Int32) (i2 : Int32) (s1 : Int32) (s2 : Int32) (M : Mem) : Option (Unit × Mem) :=
  chk (inb s1 100) <|
  lt (wI M 328 s1.toNatClampNeg s2) fun M16 =>
  lt (i2 + (1 : Int32)) fun v17 =>
  rc 27 [i1, v17] [] M16
def b5_measure_27 (rc : Nat → List Int32 → List Int64 → Mem → Option (Unit × Mem)) (n : Nat) (i1 : Int32) (i2 : Int32) (M : Mem) : Option (Unit × Mem) :=
  (if (10 : Int32) ≤ i2 then (
   lt (i1 + (1 : Int32)) fun v9 =>
   rc 2 [v9] [] M)
  else (
   bnd (f5_placeOf n i2 M) fun r10 M11 =>
   (if 0 ≤ r10 then (
    chk (inb r10 96) <|
    b5_measure_64  rc n i1 i2 ((i1 * (10 : Int32)) + i2) (M11.1 329 r10.toNatClampNeg) M11)
   else (
    b5_measure_64  rc n i1 i2 ((i1 * (10 : Int32)) + i2) (99 : Int32) M11))))
def b5_measure_2 (rc : Nat → List Int32 → List Int64 → Mem → Option (Unit × Mem)) (n : Nat) (i1 : Int32) (M : Mem) : Option (Unit × Mem) :=
  (if (10 : Int32) ≤ i1 then (
   some ((), M))
  else (
   bnd (f5_placeOf n i1 M) fun r2 M3 =>
   bnd (f8_spread n 329 r2 (2 : Int32) M3) fun r5 M6 =>
   b5_measure_27  rc n i1 (0 : Int32) M6))
def b5_measure_0 (rc : Nat → List Int32 → List Int64 → Mem → Option (Unit × Mem)) (n : Nat) (M : Mem) : Option (Unit × Mem) :=
  b5_measure_2  rc n (0 : Int32) M
def r5_measure : Nat → Nat → List Int32 → List Int64 → Mem → Option (Unit × Mem)
  | 0 => fun _ _ _ _ => none
  | n + 1 => fun pc li lj M =>
    if pc = 2 then (match li, lj with | [i1], [] => b5_measure_2  (r5_measure  n) n i1 M | _, _ => none) else
    if pc = 27 then (match li, lj with | [i1, i2], [] => b5_measure_27  (r5_measure  n) n i1 i2 M | _, _ => none) else
    none
theorem e5_measure_2  (n : Nat) (i1 : Int32) (M : Mem) : r5_measure  (n + 1) 2 [i1] [] M = b5_measure_2  (r5_measure  n) n i1 M := by
  rw [r5_measure]
  simp
theorem e5_measure_27  (n : Nat) (i1 : Int32) (i2 : Int32) (M : Mem) : r5_measure  (n + 1) 27 [i1, i2] [] M = b5_measure_27  (r5_measure  n) n i1 i2 M := by
  rw [r5_measure]
  simp
def f5_measure (n : Nat)  (M : Mem) : Option (Unit × Mem) := b5_measure_0 (r5_measure n) n M
abbrev rm5_measure : Room := { frames := 2, cells := 0, slots := 0, locals := 51 }
theorem y5_measure_w : yV RX5 yX5_measure cX5_measure 4 none 0 := ⟨g_878, gp 26 rfl rfl, g_12, g_879, rfl, by decide, by decide, by decide +kernel⟩
set_option maxHeartbeats 4000000 in
set_option maxRecDepth 100000 in
theorem w5_measure_64 {p : Program} {l : Launch} {e : Env} {s : State} {m : MethodId} {args : Array Value} {below : List Frame} {meth : Method} {c : Code} {z : Zt} {b : Nat}  (C : Cx p s m args c cX5_measure 4 RX5 z 339 b) (hr : meth.sig.returnType = none) (hk : meth.locks = false) {r : Unit} {M' : Mem} {rc : Nat → List Int32 → List Int64 → Mem → Option (Unit × Mem)} {n : Nat} (q2 : ∀ (i1 : Int32) (M : Mem) (H : Heap) (locs : List Loc) (ls : Array Slot), rc 2 [i1] [] M = some (r, M') → va_P z.1 vwCl (pw (xd z b) 339 b M) H → va_S (pA 339 b) s.heap H locs → lv_has ls 4 [(0, .ref (b + 326)), (1, .int i1)] → W p l e rm5_measure s m args below meth c H locs 0 0 (MQ below (va_Qv (fun (M2 : Mem) => M2 = M') (fun M2 t => va_P z.1 vwCl (pw (xd z b) 339 b M2) t.heap) (pA 339 b)) args s 0 0 (pA 339 b)) (F0 m 2 ls [])) (q27 : ∀ (i1 : Int32) (i2 : Int32) (M : Mem) (H : Heap) (locs : List Loc) (ls : Array Slot), rc 27 [i1, i2] [] M = some (r, M') → va_P z.1 vwCl (pw (xd z b) 339 b M) H → va_S (pA 339 b) s.heap H locs → lv_has ls 4 [(0, .ref (b + 326)), (1, .int i1), (2, .int i2)] → W p l e rm5_measure s m args below meth c H locs 0 0 (MQ below (va_Qv (fun (M2 : Mem) => M2 = M') (fun M2 t => va_P z.1 vwCl (pw (xd z b) 339 b M2) t.heap) (pA 339 b)) args s 0 0 (pA 339 b)) (F0 m 27 ls [])) {i1 : Int32} {i2 : Int32} {s1 : Int32} {s2 : Int32} {M : Mem} {H : Heap} {locs : List Loc} {ls : Array Slot} (hf : b5_measure_64  rc n i1 i2 s1 s2 M = some (r, M')) (hP : va_P z.1 vwCl (pw (xd z b) 339 b M) H) (hS : va_S (pA 339 b) s.heap H locs) (hl : lv_has ls 4 [(0, .ref (b + 326)), (1, .int i1), (2, .int i2)]) : W p l e rm5_measure s m args below meth c H locs 0 0 (MQ below (va_Qv (fun (M2 : Mem) => M2 = M') (fun M2 t => va_P z.1 vwCl (pw (xd z b) 339 b M2) t.heap) (pA 339 b)) args s 0 0 (pA 339 b)) (F0 m 64 ls [.int s2, .int s1, .ref (b + 328)]) := by
  have hx := C.1.1
  have hb := C.1.2.1
  unfold b5_measure_64 at hf
  have h15 := chk_1 hf
  replace hf := chk_2 hf
  refine psI C hP hS (k := 328) (Nat.le_of_ble_eq_true rfl) (xd_328) h15 dX5_measure_64 (fun M16 H locs eM16 hP hS => ?_)
  replace hf := lt_c eM16 hf
  obtain ⟨v17, ev17⟩ : ∃ v : Int32, v = i2 + (1 : Int32) := ⟨_, rfl⟩
  replace hf := lt_c ev17 hf
  refine lv_iinc (v := v17) (lv' := [(2, .int v17), (0, .ref (b + 326)), (1, .int i1)]) hx hb dX5_measure_65 hl (k := 2) rfl (by rw [ev17]; rfl) (by decide) rfl (fun ls hl => ?_)
  refine lv_goto (tgt := 27) hx hb dX5_measure_68 (by decide) ?_
  exact q27 i1 v17 M16 _ _ _ hf hP hS (lv_sub hl [1, 2, 0] rfl)
set_option maxHeartbeats 4000000 in
set_option maxRecDepth 100000 in
theorem w5_measure_27 {p : Program} {l : Launch} {e : Env} {s : State} {m : MethodId} {args : Array Value} {below : List Frame} {meth : Method} {c : Code} {z : Zt} {b : Nat}  (C : Cx p s m args c cX5_measure 4 RX5 z 339 b) (hr : meth.sig.returnType = none) (hk : meth.locks = false) {r : Unit} {M' : Mem} {rc : Nat → List Int32 → List Int64 → Mem → Option (Unit × Mem)} {n : Nat} (q2 : ∀ (i1 : Int32) (M : Mem) (H : Heap) (locs : List Loc) (ls : Array Slot), rc 2 [i1] [] M = some (r, M') → va_P z.1 vwCl (pw (xd z b) 339 b M) H → va_S (pA 339 b) s.heap H locs → lv_has ls 4 [(0, .ref (b + 326)), (1, .int i1)] → W p l e rm5_measure s m args below meth c H locs 0 0 (MQ below (va_Qv (fun (M2 : Mem) => M2 = M') (fun M2 t => va_P z.1 vwCl (pw (xd z b) 339 b M2) t.heap) (pA 339 b)) args s 0 0 (pA 339 b)) (F0 m 2 ls [])) (q27 : ∀ (i1 : Int32) (i2 : Int32) (M : Mem) (H : Heap) (locs : List Loc) (ls : Array Slot), rc 27 [i1, i2] [] M = some (r, M') → va_P z.1 vwCl (pw (xd z b) 339 b M) H → va_S (pA 339 b) s.heap H locs → lv_has ls 4 [(0, .ref (b + 326)), (1, .int i1), (2, .int i2)] → W p l e rm5_measure s m args below meth c H locs 0 0 (MQ below (va_Qv (fun (M2 : Mem) => M2 = M') (fun M2 t => va_P z.1 vwCl (pw (xd z b) 339 b M2) t.heap) (pA 339 b)) args s 0 0 (pA 339 b)) (F0 m 27 ls [])) {i1 : Int32} {i2 : Int32} {M : Mem} {H : Heap} {locs : List Loc} {ls : Array Slot} (hf : b5_measure_27  rc n i1 i2 M = some (r, M')) (hP : va_P z.1 vwCl (pw (xd z b) 339 b M) H) (hS : va_S (pA 339 b) s.heap H locs) (hl : lv_has ls 4 [(0, .ref (b + 326)), (1, .int i1), (2, .int i2)]) : W p l e rm5_measure s m args below meth c H locs 0 0 (MQ below (va_Qv (fun (M2 : Mem) => M2 = M') (fun M2 t => va_P z.1 vwCl (pw (xd z b) 339 b M2) t.heap) (pA 339 b)) args s 0 0 (pA 339 b)) (F0 m 27 ls []) := by
  have hx := C.1.1
  have hb := C.1.2.1
  unfold b5_measure_27 at hf
  refine lv_iload_n hx hb dX5_measure_27 rfl (lv_at hl 2 rfl) ?_
  refine lv_bipush (v := (10 : Int32)) hx hb dX5_measure_28 (by decide) ?_
  refine lv_icmp_ge (tgt := 71) hx hb dX5_measure_30 (by decide) (fun c8 => ?_) (fun c8 => ?_)
  · replace hf := ite_t c8 hf
    obtain ⟨v9, ev9⟩ : ∃ v : Int32, v = i1 + (1 : Int32) := ⟨_, rfl⟩
    replace hf := lt_c ev9 hf
    refine lv_iinc (v := v9) (lv' := [(1, .int v9), (0, .ref (b + 326)), (2, .int i2)]) hx hb dX5_measure_71 hl (k := 1) rfl (by rw [ev9]; rfl) (by decide) rfl (fun ls hl => ?_)
    refine lv_goto (tgt := 2) hx hb dX5_measure_74 (by decide) ?_
    exact q2 v9 M _ _ _ hf hP hS (lv_sub hl [1, 0] rfl)
  · replace hf := ite_f c8 hf
    refine lv_aload_n hx hb dX5_measure_33 rfl (lv_at hl 0 rfl) ?_
    refine lv_iload_n hx hb dX5_measure_34 rfl (lv_at hl 2 rfl) ?_
    obtain ⟨r10, M11, h12, hf⟩ := bnd_s hf
    refine pcVi (As := [.int i2]) C hP hS (k := 326) (Nat.le_of_ble_eq_true rfl) (xd_326 _ _) rfl (c5_placeOf  h12) y5_placeOf_w g_880 rfl rfl rfl ⟨Nat.le_of_ble_eq_true rfl, Nat.le_of_ble_eq_true rfl⟩ hl.1 rfl (Nat.le_of_ble_eq_true rfl) dX5_measure_35 ⟨Nat.le_of_ble_eq_true rfl, Nat.le_of_ble_eq_true rfl⟩ (fun H locs hP hS => ?_)
    refine lv_istore_n (lv' := [(3, .int r10), (0, .ref (b + 326)), (1, .int i1), (2, .int i2)]) hx hb dX5_measure_38 rfl hl (by decide) rfl (fun ls hl => ?_)
    refine lv_aload_n hx hb dX5_measure_39 rfl (lv_at hl 1 rfl) ?_
    refine pg C hP (k := 326) (j := 2) (Nat.le_of_ble_eq_true rfl) (xd_326 _ _) rfl iw_5 (Nat.le_of_ble_eq_true rfl) g_325 rfl rfl dX5_measure_40 ?_
    refine lv_iload_n hx hb dX5_measure_43 rfl (lv_at hl 2 rfl) ?_
    refine lv_bipush (v := (10 : Int32)) hx hb dX5_measure_44 (by decide) ?_
    refine lv_imul hx hb dX5_measure_46 ?_
    refine lv_iload_n hx hb dX5_measure_47 rfl (lv_at hl 3 rfl) ?_
    refine lv_iadd hx hb dX5_measure_48 ?_
    refine lv_iload_n hx hb dX5_measure_49 rfl (lv_at hl 0 rfl) ?_
    refine lv_if_ge (tgt := 58) hx hb dX5_measure_50 (by decide) (fun c13 => ?_) (fun c13 => ?_)
    · replace hf := ite_t c13 hf
      refine lv_aload_n hx hb dX5_measure_58 rfl (lv_at hl 1 rfl) ?_
      refine pg C hP (k := 326) (j := 3) (Nat.le_of_ble_eq_true rfl) (xd_326 _ _) rfl iw_5 (Nat.le_of_ble_eq_true rfl) g_326 rfl rfl dX5_measure_59 ?_
      refine lv_iload_n hx hb dX5_measure_62 rfl (lv_at hl 0 rfl) ?_
      have h14 := chk_1 hf
      replace hf := chk_2 hf
      refine paI C hP (k := 329) (Nat.le_of_ble_eq_true rfl) (xd_329 _ _) h14 dX5_measure_63 ?_
      exact w5_measure_64 (n := n)  C hr hk q2 q27 hf hP hS (lv_sub hl [1, 2, 3] rfl)
    · replace hf := ite_f c13 hf
      refine lv_bipush (v := (99 : Int32)) hx hb dX5_measure_53 (by decide) ?_
      refine lv_goto (tgt := 64) hx hb dX5_measure_55 (by decide) ?_
      exact w5_measure_64 (n := n)  C hr hk q2 q27 hf hP hS (lv_sub hl [1, 2, 3] rfl)
set_option maxHeartbeats 4000000 in
set_option maxRecDepth 100000 in
theorem w5_measure_2 {p : Program} {l : Launch} {e : Env} {s : State} {m : MethodId} {args : Array Value} {below : List Frame} {meth : Method} {c : Code} {z : Zt} {b : Nat}  (C : Cx p s m args c cX5_measure 4 RX5 z 339 b) (hr : meth.sig.returnType = none) (hk : meth.locks = false) {r : Unit} {M' : Mem} {rc : Nat → List Int32 → List Int64 → Mem → Option (Unit × Mem)} {n : Nat} (q2 : ∀ (i1 : Int32) (M : Mem) (H : Heap) (locs : List Loc) (ls : Array Slot), rc 2 [i1] [] M = some (r, M') → va_P z.1 vwCl (pw (xd z b) 339 b M) H → va_S (pA 339 b) s.heap H locs → lv_has ls 4 [(0, .ref (b + 326)), (1, .int i1)] → W p l e rm5_measure s m args below meth c H locs 0 0 (MQ below (va_Qv (fun (M2 : Mem) => M2 = M') (fun M2 t => va_P z.1 vwCl (pw (xd z b) 339 b M2) t.heap) (pA 339 b)) args s 0 0 (pA 339 b)) (F0 m 2 ls [])) (q27 : ∀ (i1 : Int32) (i2 : Int32) (M : Mem) (H : Heap) (locs : List Loc) (ls : Array Slot), rc 27 [i1, i2] [] M = some (r, M') → va_P z.1 vwCl (pw (xd z b) 339 b M) H → va_S (pA 339 b) s.heap H locs → lv_has ls 4 [(0, .ref (b + 326)), (1, .int i1), (2, .int i2)] → W p l e rm5_measure s m args below meth c H locs 0 0 (MQ below (va_Qv (fun (M2 : Mem) => M2 = M') (fun M2 t => va_P z.1 vwCl (pw (xd z b) 339 b M2) t.heap) (pA 339 b)) args s 0 0 (pA 339 b)) (F0 m 27 ls [])) {i1 : Int32} {M : Mem} {H : Heap} {locs : List Loc} {ls : Array Slot} (hf : b5_measure_2  rc n i1 M = some (r, M')) (hP : va_P z.1 vwCl (pw (xd z b) 339 b M) H) (hS : va_S (pA 339 b) s.heap H locs) (hl : lv_has ls 4 [(0, .ref (b + 326)), (1, .int i1)]) : W p l e rm5_measure s m args below meth c H locs 0 0 (MQ below (va_Qv (fun (M2 : Mem) => M2 = M') (fun M2 t => va_P z.1 vwCl (pw (xd z b) 339 b M2) t.heap) (pA 339 b)) args s 0 0 (pA 339 b)) (F0 m 2 ls []) := by
  have hx := C.1.1
  have hb := C.1.2.1
  unfold b5_measure_2 at hf
  refine lv_iload_n hx hb dX5_measure_2 rfl (lv_at hl 1 rfl) ?_
  refine lv_bipush (v := (10 : Int32)) hx hb dX5_measure_3 (by decide) ?_
  refine lv_icmp_ge (tgt := 77) hx hb dX5_measure_5 (by decide) (fun c1 => ?_) (fun c1 => ?_)
  · replace hf := ite_t c1 hf
    exact prV C hr hk hP hS hf dX5_measure_77
  · replace hf := ite_f c1 hf
    refine lv_aload_n hx hb dX5_measure_8 rfl (lv_at hl 0 rfl) ?_
    refine pg C hP (k := 326) (j := 0) (Nat.le_of_ble_eq_true rfl) (xd_326 _ _) rfl iw_5 (Nat.le_of_ble_eq_true rfl) g_323 rfl rfl dX5_measure_9 ?_
    refine lv_aload_n hx hb dX5_measure_12 rfl (lv_at hl 0 rfl) ?_
    refine lv_iload_n hx hb dX5_measure_13 rfl (lv_at hl 1 rfl) ?_
    obtain ⟨r2, M3, h4, hf⟩ := bnd_s hf
    refine pcVi (As := [.int i1]) C hP hS (k := 326) (Nat.le_of_ble_eq_true rfl) (xd_326 _ _) rfl (c5_placeOf  h4) y5_placeOf_w g_880 rfl rfl rfl ⟨Nat.le_of_ble_eq_true rfl, Nat.le_of_ble_eq_true rfl⟩ hl.1 rfl (Nat.le_of_ble_eq_true rfl) dX5_measure_14 ⟨Nat.le_of_ble_eq_true rfl, Nat.le_of_ble_eq_true rfl⟩ (fun H locs hP hS => ?_)
    refine lv_iconst (v := (2 : Int32)) hx hb dX5_measure_17 (by decide) ?_
    refine lv_aload_n hx hb dX5_measure_18 rfl (lv_at hl 0 rfl) ?_
    refine pg C hP (k := 326) (j := 3) (Nat.le_of_ble_eq_true rfl) (xd_326 _ _) rfl iw_5 (Nat.le_of_ble_eq_true rfl) g_326 rfl rfl dX5_measure_19 ?_
    obtain ⟨r5, M6, h7, hf⟩ := bnd_s hf
    refine pcVv (As := [.int r2, .int (2 : Int32), .ref (b + 329)]) C hP hS (k := 3) (Nat.le_of_ble_eq_true rfl) (xd_3 _ _) rfl (c8_spread a9_329 h7) y8_spread_w g_884 rfl rfl rfl ⟨Nat.le_of_ble_eq_true rfl, Nat.le_of_ble_eq_true rfl⟩ hl.1 rfl (Nat.le_of_ble_eq_true rfl) dX5_measure_22 ⟨Nat.le_of_ble_eq_true rfl, Nat.le_of_ble_eq_true rfl⟩ (fun H locs hP hS => ?_)
    refine lv_iconst (v := (0 : Int32)) hx hb dX5_measure_25 (by decide) ?_
    refine lv_istore_n (lv' := [(2, .int (0 : Int32)), (0, .ref (b + 326)), (1, .int i1)]) hx hb dX5_measure_26 rfl hl (by decide) rfl (fun ls hl => ?_)
    exact w5_measure_27 (n := n)  C hr hk q2 q27 hf hP hS (lv_sub hl [1, 2, 0] rfl)
set_option maxHeartbeats 4000000 in
set_option maxRecDepth 100000 in
theorem w5_measure_0 {p : Program} {l : Launch} {e : Env} {s : State} {m : MethodId} {args : Array Value} {below : List Frame} {meth : Method} {c : Code} {z : Zt} {b : Nat}  (C : Cx p s m args c cX5_measure 4 RX5 z 339 b) (hr : meth.sig.returnType = none) (hk : meth.locks = false) {r : Unit} {M' : Mem} {rc : Nat → List Int32 → List Int64 → Mem → Option (Unit × Mem)} {n : Nat} (q2 : ∀ (i1 : Int32) (M : Mem) (H : Heap) (locs : List Loc) (ls : Array Slot), rc 2 [i1] [] M = some (r, M') → va_P z.1 vwCl (pw (xd z b) 339 b M) H → va_S (pA 339 b) s.heap H locs → lv_has ls 4 [(0, .ref (b + 326)), (1, .int i1)] → W p l e rm5_measure s m args below meth c H locs 0 0 (MQ below (va_Qv (fun (M2 : Mem) => M2 = M') (fun M2 t => va_P z.1 vwCl (pw (xd z b) 339 b M2) t.heap) (pA 339 b)) args s 0 0 (pA 339 b)) (F0 m 2 ls [])) (q27 : ∀ (i1 : Int32) (i2 : Int32) (M : Mem) (H : Heap) (locs : List Loc) (ls : Array Slot), rc 27 [i1, i2] [] M = some (r, M') → va_P z.1 vwCl (pw (xd z b) 339 b M) H → va_S (pA 339 b) s.heap H locs → lv_has ls 4 [(0, .ref (b + 326)), (1, .int i1), (2, .int i2)] → W p l e rm5_measure s m args below meth c H locs 0 0 (MQ below (va_Qv (fun (M2 : Mem) => M2 = M') (fun M2 t => va_P z.1 vwCl (pw (xd z b) 339 b M2) t.heap) (pA 339 b)) args s 0 0 (pA 339 b)) (F0 m 27 ls []))  {M : Mem} {H : Heap} {locs : List Loc} {ls : Array Slot} (hf : b5_measure_0  rc n  M = some (r, M')) (hP : va_P z.1 vwCl (pw (xd z b) 339 b M) H) (hS : va_S (pA 339 b) s.heap H locs) (hl : lv_has ls 4 [(0, .ref (b + 326))]) : W p l e rm5_measure s m args below meth c H locs 0 0 (MQ below (va_Qv (fun (M2 : Mem) => M2 = M') (fun M2 t => va_P z.1 vwCl (pw (xd z b) 339 b M2) t.heap) (pA 339 b)) args s 0 0 (pA 339 b)) (F0 m 0 ls []) := by
  have hx := C.1.1
  have hb := C.1.2.1
  unfold b5_measure_0 at hf
  refine lv_iconst (v := (0 : Int32)) hx hb dX5_measure_0 (by decide) ?_
  refine lv_istore_n (lv' := [(1, .int (0 : Int32)), (0, .ref (b + 326))]) hx hb dX5_measure_1 rfl hl (by decide) rfl (fun ls hl => ?_)
  exact w5_measure_2 (n := n)  C hr hk q2 q27 hf hP hS (lv_sub hl [1, 0] rfl)
set_option maxHeartbeats 4000000 in
set_option maxRecDepth 100000 in
theorem l5_measure {p : Program} {l : Launch} {e : Env} {s : State} {m : MethodId} {args : Array Value} {below : List Frame} {meth : Method} {c : Code} {z : Zt} {b : Nat}  (C : Cx p s m args c cX5_measure 4 RX5 z 339 b) (hr : meth.sig.returnType = none) (hk : meth.locks = false) {r : Unit} {M' : Mem} (n : Nat) : (∀ (i1 : Int32) (M : Mem) (H : Heap) (locs : List Loc) (ls : Array Slot), (r5_measure  n) 2 [i1] [] M = some (r, M') → va_P z.1 vwCl (pw (xd z b) 339 b M) H → va_S (pA 339 b) s.heap H locs → lv_has ls 4 [(0, .ref (b + 326)), (1, .int i1)] → W p l e rm5_measure s m args below meth c H locs 0 0 (MQ below (va_Qv (fun (M2 : Mem) => M2 = M') (fun M2 t => va_P z.1 vwCl (pw (xd z b) 339 b M2) t.heap) (pA 339 b)) args s 0 0 (pA 339 b)) (F0 m 2 ls [])) ∧ (∀ (i1 : Int32) (i2 : Int32) (M : Mem) (H : Heap) (locs : List Loc) (ls : Array Slot), (r5_measure  n) 27 [i1, i2] [] M = some (r, M') → va_P z.1 vwCl (pw (xd z b) 339 b M) H → va_S (pA 339 b) s.heap H locs → lv_has ls 4 [(0, .ref (b + 326)), (1, .int i1), (2, .int i2)] → W p l e rm5_measure s m args below meth c H locs 0 0 (MQ below (va_Qv (fun (M2 : Mem) => M2 = M') (fun M2 t => va_P z.1 vwCl (pw (xd z b) 339 b M2) t.heap) (pA 339 b)) args s 0 0 (pA 339 b)) (F0 m 27 ls [])) := by
  induction n with
  | zero => exact ⟨fun _ _ _ _ _ hf => (by cases hf), fun _ _ _ _ _ _ hf => (by cases hf)⟩
  | succ n ih => exact ⟨fun _ _ _ _ _ hf hP hS hl => w5_measure_2 (n := n)  C hr hk ih.1 ih.2 ((e5_measure_2  n _ _).symm.trans hf) hP hS hl, fun _ _ _ _ _ _ hf hP hS hl => w5_measure_27 (n := n)  C hr hk ih.1 ih.2 ((e5_measure_27  n _ _ _).symm.trans hf) hP hS hl⟩
theorem c5_measure {l : Launch} {z : Zt} {b n : Nat}   {M M' : Mem} {r : Unit} (hf : f5_measure n   M = some (r, M')) : CV l z (xd z b) 339 b yX5_measure cX5_measure 4 none rm5_measure [.ref (b + 326)] M M' :=
  CV.ofW (lv := [(0, .ref (b + 326))]) (by decide) (Nat.le_of_ble_eq_true rfl) rfl (fun p e s m args below meth c ls C hr hk hP hS hl => w5_measure_0 (n := n)  C hr hk (l5_measure  C hr hk n).1 (l5_measure  C hr hk n).2 hf hP hS hl)

-- BronzeKing$Rounds.isTold(I)Z
theorem dX5_isTold_0 : decode cX5_isTold 0 = .ok (.iload_n 1, 1) := by decide +kernel
theorem dX5_isTold_1 : decode cX5_isTold 1 = .ok (.iconst 1, 1) := by decide +kernel
theorem dX5_isTold_2 : decode cX5_isTold 2 = .ok (.ishl, 1) := by decide +kernel
theorem dX5_isTold_3 : decode cX5_isTold 3 = .ok (.aload_n 0, 1) := by decide +kernel
theorem dX5_isTold_4 : decode cX5_isTold 4 = .ok (.getfield 33, 3) := by decide +kernel
theorem dX5_isTold_7 : decode cX5_isTold 7 = .ok (.getfield 64, 3) := by decide +kernel
theorem dX5_isTold_10 : decode cX5_isTold 10 = .ok (.iconst (-1), 1) := by decide +kernel
theorem dX5_isTold_11 : decode cX5_isTold 11 = .ok (.ixor, 1) := by decide +kernel
theorem dX5_isTold_12 : decode cX5_isTold 12 = .ok (.iand, 1) := by decide +kernel
theorem dX5_isTold_13 : decode cX5_isTold 13 = .ok (.ifCond .ne 7, 3) := by decide +kernel
theorem dX5_isTold_16 : decode cX5_isTold 16 = .ok (.iconst 1, 1) := by decide +kernel
theorem dX5_isTold_17 : decode cX5_isTold 17 = .ok (.goto 4, 3) := by decide +kernel
theorem dX5_isTold_20 : decode cX5_isTold 20 = .ok (.iconst 0, 1) := by decide +kernel
theorem dX5_isTold_21 : decode cX5_isTold 21 = .ok (.ireturn, 1) := by decide +kernel
def b5_isTold_0 (rc : Nat → List Int32 → List Int64 → Mem → Option (Int32 × Mem)) (n : Nat) (a1 : Int32) (M : Mem) : Option (Int32 × Mem) :=
  (if ((a1 <<< ((1 : Int32) &&& 31)) &&& ((M.1 3 8) ^^^ (-1 : Int32))) = 0 then (
   some ((1 : Int32), M))
  else (
   some ((0 : Int32), M)))
def f5_isTold (n : Nat) (a1 : Int32) (M : Mem) : Option (Int32 × Mem) := b5_isTold_0 (fun _ _ _ _ => none) n a1 M
abbrev rm5_isTold : Room := { frames := 0, cells := 0, slots := 0, locals := 0 }
theorem y5_isTold_w : yV RX5 yX5_isTold cX5_isTold 2 (some .boolean) 1 := ⟨g_891, gp 29 rfl rfl, g_12, g_892, rfl, by decide, by decide, by decide +kernel⟩
set_option maxHeartbeats 4000000 in
set_option maxRecDepth 100000 in
theorem w5_isTold_0 {p : Program} {l : Launch} {e : Env} {s : State} {m : MethodId} {args : Array Value} {below : List Frame} {meth : Method} {c : Code} {z : Zt} {b : Nat}  (C : Cx p s m args c cX5_isTold 2 RX5 z 339 b) (hr : meth.sig.returnType = (some .boolean)) (hk : meth.locks = false) {r : Int32} {M' : Mem} {rc : Nat → List Int32 → List Int64 → Mem → Option (Int32 × Mem)} {n : Nat}  {a1 : Int32} {M : Mem} {H : Heap} {locs : List Loc} {ls : Array Slot} (hf : b5_isTold_0  rc n a1 M = some (r, M')) (hP : va_P z.1 vwCl (pw (xd z b) 339 b M) H) (hS : va_S (pA 339 b) s.heap H locs) (hl : lv_has ls 2 [(0, .ref (b + 326)), (1, .int a1)]) : W p l e rm5_isTold s m args below meth c H locs 0 0 (MQ below (va_Qi (fun (r' : Int32) (M2 : Mem) => r' = r ∧ M2 = M') (fun M2 t => va_P z.1 vwCl (pw (xd z b) 339 b M2) t.heap) (pA 339 b)) args s 0 0 (pA 339 b)) (F0 m 0 ls []) := by
  have hx := C.1.1
  have hb := C.1.2.1
  unfold b5_isTold_0 at hf
  refine lv_iload_n hx hb dX5_isTold_0 rfl (lv_at hl 1 rfl) ?_
  refine lv_iconst (v := (1 : Int32)) hx hb dX5_isTold_1 (by decide) ?_
  refine lv_ishl hx hb dX5_isTold_2 ?_
  refine lv_aload_n hx hb dX5_isTold_3 rfl (lv_at hl 0 rfl) ?_
  refine pg C hP (k := 326) (j := 0) (Nat.le_of_ble_eq_true rfl) (xd_326 _ _) rfl iw_5 (Nat.le_of_ble_eq_true rfl) g_323 rfl rfl dX5_isTold_4 ?_
  refine pgN C hP (k := 3) (j := 8) (Nat.le_of_ble_eq_true rfl) (xd_3 _ _) rfl iw_8 (Nat.le_of_ble_eq_true rfl) g_95 rfl rfl dX5_isTold_7 ?_
  refine lv_iconst (v := (-1 : Int32)) hx hb dX5_isTold_10 (by decide) ?_
  refine lv_ixor hx hb dX5_isTold_11 ?_
  refine lv_iand hx hb dX5_isTold_12 ?_
  refine lv_if_ne (tgt := 20) hx hb dX5_isTold_13 (by decide) (fun c1 => ?_) (fun c1 => ?_)
  · replace hf := ite_f c1 hf
    refine lv_iconst (v := (0 : Int32)) hx hb dX5_isTold_20 (by decide) ?_
    exact prZ C hr hk hP hS hf rfl dX5_isTold_21
  · replace hf := ite_t c1 hf
    refine lv_iconst (v := (1 : Int32)) hx hb dX5_isTold_16 (by decide) ?_
    refine lv_goto (tgt := 21) hx hb dX5_isTold_17 (by decide) ?_
    exact prZ C hr hk hP hS hf rfl dX5_isTold_21
theorem c5_isTold {l : Launch} {z : Zt} {b n : Nat}  {a1 : Int32} {M M' : Mem} {r : Int32} (hf : f5_isTold n  a1 M = some (r, M')) : CI l z (xd z b) 339 b yX5_isTold cX5_isTold 2 (some .boolean) rm5_isTold [.ref (b + 326), .int a1] M M' r :=
  CI.ofW (lv := [(0, .ref (b + 326)), (1, .int a1)]) (by decide) (Nat.le_of_ble_eq_true rfl) rfl (fun p e s m args below meth c ls C hr hk hP hS hl => w5_isTold_0 (n := n)  C hr hk  hf hP hS hl)

-- java/lang/Integer.bitCount(I)I
theorem dJ6_bitCount_0f7a4_0 : decode cJ6_bitCount_0f7a4 0 = .ok (.iload_n 0, 1) := by decide +kernel
theorem dJ6_bitCount_0f7a4_1 : decode cJ6_bitCount_0f7a4 1 = .ok (.iload_n 0, 1) := by decide +kernel
theorem dJ6_bitCount_0f7a4_2 : decode cJ6_bitCount_0f7a4 2 = .ok (.iconst 1, 1) := by decide +kernel
theorem dJ6_bitCount_0f7a4_3 : decode cJ6_bitCount_0f7a4 3 = .ok (.iushr, 1) := by decide +kernel
theorem dJ6_bitCount_0f7a4_4 : decode cJ6_bitCount_0f7a4 4 = .ok (.ldc_w 265, 3) := by decide +kernel
theorem dJ6_bitCount_0f7a4_7 : decode cJ6_bitCount_0f7a4 7 = .ok (.iand, 1) := by decide +kernel
theorem dJ6_bitCount_0f7a4_8 : decode cJ6_bitCount_0f7a4 8 = .ok (.isub, 1) := by decide +kernel
theorem dJ6_bitCount_0f7a4_9 : decode cJ6_bitCount_0f7a4 9 = .ok (.istore_n 0, 1) := by decide +kernel
theorem dJ6_bitCount_0f7a4_10 : decode cJ6_bitCount_0f7a4 10 = .ok (.iload_n 0, 1) := by decide +kernel
theorem dJ6_bitCount_0f7a4_11 : decode cJ6_bitCount_0f7a4 11 = .ok (.ldc_w 266, 3) := by decide +kernel
theorem dJ6_bitCount_0f7a4_14 : decode cJ6_bitCount_0f7a4 14 = .ok (.iand, 1) := by decide +kernel
theorem dJ6_bitCount_0f7a4_15 : decode cJ6_bitCount_0f7a4 15 = .ok (.iload_n 0, 1) := by decide +kernel
theorem dJ6_bitCount_0f7a4_16 : decode cJ6_bitCount_0f7a4 16 = .ok (.iconst 2, 1) := by decide +kernel
theorem dJ6_bitCount_0f7a4_17 : decode cJ6_bitCount_0f7a4 17 = .ok (.iushr, 1) := by decide +kernel
theorem dJ6_bitCount_0f7a4_18 : decode cJ6_bitCount_0f7a4 18 = .ok (.ldc_w 266, 3) := by decide +kernel
theorem dJ6_bitCount_0f7a4_21 : decode cJ6_bitCount_0f7a4 21 = .ok (.iand, 1) := by decide +kernel
theorem dJ6_bitCount_0f7a4_22 : decode cJ6_bitCount_0f7a4 22 = .ok (.iadd, 1) := by decide +kernel
theorem dJ6_bitCount_0f7a4_23 : decode cJ6_bitCount_0f7a4 23 = .ok (.istore_n 0, 1) := by decide +kernel
theorem dJ6_bitCount_0f7a4_24 : decode cJ6_bitCount_0f7a4 24 = .ok (.iload_n 0, 1) := by decide +kernel
theorem dJ6_bitCount_0f7a4_25 : decode cJ6_bitCount_0f7a4 25 = .ok (.iload_n 0, 1) := by decide +kernel
theorem dJ6_bitCount_0f7a4_26 : decode cJ6_bitCount_0f7a4 26 = .ok (.iconst 4, 1) := by decide +kernel
theorem dJ6_bitCount_0f7a4_27 : decode cJ6_bitCount_0f7a4 27 = .ok (.iushr, 1) := by decide +kernel
theorem dJ6_bitCount_0f7a4_28 : decode cJ6_bitCount_0f7a4 28 = .ok (.iadd, 1) := by decide +kernel
theorem dJ6_bitCount_0f7a4_29 : decode cJ6_bitCount_0f7a4 29 = .ok (.ldc_w 267, 3) := by decide +kernel
theorem dJ6_bitCount_0f7a4_32 : decode cJ6_bitCount_0f7a4 32 = .ok (.iand, 1) := by decide +kernel
theorem dJ6_bitCount_0f7a4_33 : decode cJ6_bitCount_0f7a4 33 = .ok (.istore_n 0, 1) := by decide +kernel
theorem dJ6_bitCount_0f7a4_34 : decode cJ6_bitCount_0f7a4 34 = .ok (.iload_n 0, 1) := by decide +kernel
theorem dJ6_bitCount_0f7a4_35 : decode cJ6_bitCount_0f7a4 35 = .ok (.iload_n 0, 1) := by decide +kernel
theorem dJ6_bitCount_0f7a4_36 : decode cJ6_bitCount_0f7a4 36 = .ok (.bipush 8, 2) := by decide +kernel
theorem dJ6_bitCount_0f7a4_38 : decode cJ6_bitCount_0f7a4 38 = .ok (.iushr, 1) := by decide +kernel
theorem dJ6_bitCount_0f7a4_39 : decode cJ6_bitCount_0f7a4 39 = .ok (.iadd, 1) := by decide +kernel
theorem dJ6_bitCount_0f7a4_40 : decode cJ6_bitCount_0f7a4 40 = .ok (.istore_n 0, 1) := by decide +kernel
theorem dJ6_bitCount_0f7a4_41 : decode cJ6_bitCount_0f7a4 41 = .ok (.iload_n 0, 1) := by decide +kernel
theorem dJ6_bitCount_0f7a4_42 : decode cJ6_bitCount_0f7a4 42 = .ok (.iload_n 0, 1) := by decide +kernel
theorem dJ6_bitCount_0f7a4_43 : decode cJ6_bitCount_0f7a4 43 = .ok (.bipush 16, 2) := by decide +kernel
theorem dJ6_bitCount_0f7a4_45 : decode cJ6_bitCount_0f7a4 45 = .ok (.iushr, 1) := by decide +kernel
theorem dJ6_bitCount_0f7a4_46 : decode cJ6_bitCount_0f7a4 46 = .ok (.iadd, 1) := by decide +kernel
theorem dJ6_bitCount_0f7a4_47 : decode cJ6_bitCount_0f7a4 47 = .ok (.istore_n 0, 1) := by decide +kernel
theorem dJ6_bitCount_0f7a4_48 : decode cJ6_bitCount_0f7a4 48 = .ok (.iload_n 0, 1) := by decide +kernel
theorem dJ6_bitCount_0f7a4_49 : decode cJ6_bitCount_0f7a4 49 = .ok (.bipush 63, 2) := by decide +kernel
theorem dJ6_bitCount_0f7a4_51 : decode cJ6_bitCount_0f7a4 51 = .ok (.iand, 1) := by decide +kernel
theorem dJ6_bitCount_0f7a4_52 : decode cJ6_bitCount_0f7a4 52 = .ok (.ireturn, 1) := by decide +kernel
def bZJ6_bitCount_0f7a4_0 (rc : Nat → List Int32 → List Int64 → Mem → Option (Int32 × Mem)) (n : Nat) (a0 : Int32) (M : Mem) : Option (Int32 × Mem) :=
  lt (a0 - ((a0.toUInt32 >>> ((1 : Int32).toUInt32 &&& Int32.toUInt32 31)).toInt32 &&& (1431655765 : Int32))) fun v1 =>
  lt ((v1 &&& (858993459 : Int32)) + ((v1.toUInt32 >>> ((2 : Int32).toUInt32 &&& Int32.toUInt32 31)).toInt32 &&& (858993459 : Int32))) fun v2 =>
  lt ((v2 + (v2.toUInt32 >>> ((4 : Int32).toUInt32 &&& Int32.toUInt32 31)).toInt32) &&& (252645135 : Int32)) fun v3 =>
  lt (v3 + (v3.toUInt32 >>> ((8 : Int32).toUInt32 &&& Int32.toUInt32 31)).toInt32) fun v4 =>
  lt (v4 + (v4.toUInt32 >>> ((16 : Int32).toUInt32 &&& Int32.toUInt32 31)).toInt32) fun v5 =>
  some ((v5 &&& (63 : Int32)), M)
def fZJ6_bitCount_0f7a4 (n : Nat) (a0 : Int32) (M : Mem) : Option (Int32 × Mem) := bZJ6_bitCount_0f7a4_0 (fun _ _ _ _ => none) n a0 M
abbrev rmZJ6_bitCount_0f7a4 : Room := { frames := 0, cells := 0, slots := 0, locals := 0 }
theorem yZJ6_bitCount_0f7a4_w : yS yJ6_bitCount_0f7a4 cJ6_bitCount_0f7a4 1 (some .int) 1 := ⟨g_769, g_22, g_770, by decide, by decide, by decide +kernel⟩
set_option maxHeartbeats 4000000 in
set_option maxRecDepth 100000 in
theorem wZJ6_bitCount_0f7a4_0 {p : Program} {l : Launch} {e : Env} {s : State} {m : MethodId} {args : Array Value} {below : List Frame} {meth : Method} {c : Code} {z : Zt} {b : Nat}  (C : Cx p s m args c cJ6_bitCount_0f7a4 1 RJ6 z 339 b) (hr : meth.sig.returnType = (some .int)) (hk : meth.locks = false) {r : Int32} {M' : Mem} {rc : Nat → List Int32 → List Int64 → Mem → Option (Int32 × Mem)} {n : Nat}  {a0 : Int32} {M : Mem} {H : Heap} {locs : List Loc} {ls : Array Slot} (hf : bZJ6_bitCount_0f7a4_0  rc n a0 M = some (r, M')) (hP : va_P z.1 vwCl (pw (xd z b) 339 b M) H) (hS : va_S (pA 339 b) s.heap H locs) (hl : lv_has ls 1 [(0, .int a0)]) : W p l e rmZJ6_bitCount_0f7a4 s m args below meth c H locs 0 0 (MQ below (va_Qi (fun (r' : Int32) (M2 : Mem) => r' = r ∧ M2 = M') (fun M2 t => va_P z.1 vwCl (pw (xd z b) 339 b M2) t.heap) (pA 339 b)) args s 0 0 (pA 339 b)) (F0 m 0 ls []) := by
  have hx := C.1.1
  have hb := C.1.2.1
  unfold bZJ6_bitCount_0f7a4_0 at hf
  refine lv_iload_n hx hb dJ6_bitCount_0f7a4_0 rfl (lv_at hl 0 rfl) ?_
  refine lv_iload_n hx hb dJ6_bitCount_0f7a4_1 rfl (lv_at hl 0 rfl) ?_
  refine lv_iconst (v := (1 : Int32)) hx hb dJ6_bitCount_0f7a4_2 (by decide) ?_
  refine lv_iushr hx hb dJ6_bitCount_0f7a4_3 rfl ?_
  refine lv_ldcw hx hb C.1.2.2.2.1 (C.1.2.2.2.2 _ g_771) dJ6_bitCount_0f7a4_4 ?_
  refine lv_iand hx hb dJ6_bitCount_0f7a4_7 ?_
  refine lv_isub hx hb dJ6_bitCount_0f7a4_8 ?_
  refine lv_topi (fun v1 ev1 => ?_)
  replace hf := lt_c ev1 hf
  refine lv_istore_n (lv' := [(0, .int v1)]) hx hb dJ6_bitCount_0f7a4_9 rfl hl (by decide) rfl (fun ls hl => ?_)
  refine lv_iload_n hx hb dJ6_bitCount_0f7a4_10 rfl (lv_at hl 0 rfl) ?_
  refine lv_ldcw hx hb C.1.2.2.2.1 (C.1.2.2.2.2 _ g_772) dJ6_bitCount_0f7a4_11 ?_
  refine lv_iand hx hb dJ6_bitCount_0f7a4_14 ?_
  refine lv_iload_n hx hb dJ6_bitCount_0f7a4_15 rfl (lv_at hl 0 rfl) ?_
  refine lv_iconst (v := (2 : Int32)) hx hb dJ6_bitCount_0f7a4_16 (by decide) ?_
  refine lv_iushr hx hb dJ6_bitCount_0f7a4_17 rfl ?_
  refine lv_ldcw hx hb C.1.2.2.2.1 (C.1.2.2.2.2 _ g_772) dJ6_bitCount_0f7a4_18 ?_
  refine lv_iand hx hb dJ6_bitCount_0f7a4_21 ?_
  refine lv_iadd hx hb dJ6_bitCount_0f7a4_22 ?_
  refine lv_topi (fun v2 ev2 => ?_)
  replace hf := lt_c ev2 hf
  refine lv_istore_n (lv' := [(0, .int v2)]) hx hb dJ6_bitCount_0f7a4_23 rfl hl (by decide) rfl (fun ls hl => ?_)
  refine lv_iload_n hx hb dJ6_bitCount_0f7a4_24 rfl (lv_at hl 0 rfl) ?_
  refine lv_iload_n hx hb dJ6_bitCount_0f7a4_25 rfl (lv_at hl 0 rfl) ?_
  refine lv_iconst (v := (4 : Int32)) hx hb dJ6_bitCount_0f7a4_26 (by decide) ?_
  refine lv_iushr hx hb dJ6_bitCount_0f7a4_27 rfl ?_
  refine lv_iadd hx hb dJ6_bitCount_0f7a4_28 ?_
  refine lv_ldcw hx hb C.1.2.2.2.1 (C.1.2.2.2.2 _ g_773) dJ6_bitCount_0f7a4_29 ?_
  refine lv_iand hx hb dJ6_bitCount_0f7a4_32 ?_
  refine lv_topi (fun v3 ev3 => ?_)
  replace hf := lt_c ev3 hf
  refine lv_istore_n (lv' := [(0, .int v3)]) hx hb dJ6_bitCount_0f7a4_33 rfl hl (by decide) rfl (fun ls hl => ?_)
  refine lv_iload_n hx hb dJ6_bitCount_0f7a4_34 rfl (lv_at hl 0 rfl) ?_
  refine lv_iload_n hx hb dJ6_bitCount_0f7a4_35 rfl (lv_at hl 0 rfl) ?_
  refine lv_bipush (v := (8 : Int32)) hx hb dJ6_bitCount_0f7a4_36 (by decide) ?_
  refine lv_iushr hx hb dJ6_bitCount_0f7a4_38 rfl ?_
  refine lv_iadd hx hb dJ6_bitCount_0f7a4_39 ?_
  refine lv_topi (fun v4 ev4 => ?_)
  replace hf := lt_c ev4 hf
  refine lv_istore_n (lv' := [(0, .int v4)]) hx hb dJ6_bitCount_0f7a4_40 rfl hl (by decide) rfl (fun ls hl => ?_)
  refine lv_iload_n hx hb dJ6_bitCount_0f7a4_41 rfl (lv_at hl 0 rfl) ?_
  refine lv_iload_n hx hb dJ6_bitCount_0f7a4_42 rfl (lv_at hl 0 rfl) ?_
  refine lv_bipush (v := (16 : Int32)) hx hb dJ6_bitCount_0f7a4_43 (by decide) ?_
  refine lv_iushr hx hb dJ6_bitCount_0f7a4_45 rfl ?_
  refine lv_iadd hx hb dJ6_bitCount_0f7a4_46 ?_
  refine lv_topi (fun v5 ev5 => ?_)
  replace hf := lt_c ev5 hf
  refine lv_istore_n (lv' := [(0, .int v5)]) hx hb dJ6_bitCount_0f7a4_47 rfl hl (by decide) rfl (fun ls hl => ?_)
  refine lv_iload_n hx hb dJ6_bitCount_0f7a4_48 rfl (lv_at hl 0 rfl) ?_
  refine lv_bipush (v := (63 : Int32)) hx hb dJ6_bitCount_0f7a4_49 (by decide) ?_
  refine lv_iand hx hb dJ6_bitCount_0f7a4_51 ?_
  exact prI C hr hk hP hS hf dJ6_bitCount_0f7a4_52
theorem cZJ6_bitCount_0f7a4 {l : Launch} {z : Zt} {b n : Nat}  {a0 : Int32} {M M' : Mem} {r : Int32} (hf : fZJ6_bitCount_0f7a4 n  a0 M = some (r, M')) : CI l z (xd z b) 339 b yJ6_bitCount_0f7a4 cJ6_bitCount_0f7a4 1 (some .int) rmZJ6_bitCount_0f7a4 [.int a0] M M' r :=
  CI.ofW (lv := [(0, .int a0)]) (by decide) (Nat.le_of_ble_eq_true rfl) rfl (fun p e s m args below meth c ls C hr hk hP hS hl => wZJ6_bitCount_0f7a4_0 (n := n)  C hr hk  hf hP hS hl)

-- BronzeKing$Rounds.bestRow(II)J
theorem dX5_bestRow_0 : decode cX5_bestRow 0 = .ok (.iload_n 1, 1) := by decide +kernel
theorem dX5_bestRow_1 : decode cX5_bestRow 1 = .ok (.invokestatic 49, 3) := by decide +kernel
theorem dX5_bestRow_4 : decode cX5_bestRow 4 = .ok (.istore_n 3, 1) := by decide +kernel
theorem dX5_bestRow_5 : decode cX5_bestRow 5 = .ok (.iload_n 3, 1) := by decide +kernel
theorem dX5_bestRow_6 : decode cX5_bestRow 6 = .ok (.ifCond .eq 9, 3) := by decide +kernel
theorem dX5_bestRow_9 : decode cX5_bestRow 9 = .ok (.iload_n 3, 1) := by decide +kernel
theorem dX5_bestRow_10 : decode cX5_bestRow 10 = .ok (.bipush 9, 2) := by decide +kernel
theorem dX5_bestRow_12 : decode cX5_bestRow 12 = .ok (.if_icmp .le 18, 3) := by decide +kernel
theorem dX5_bestRow_15 : decode cX5_bestRow 15 = .ok (.aload_n 0, 1) := by decide +kernel
theorem dX5_bestRow_16 : decode cX5_bestRow 16 = .ok (.getfield 15, 3) := by decide +kernel
theorem dX5_bestRow_19 : decode cX5_bestRow 19 = .ok (.iload_n 2, 1) := by decide +kernel
theorem dX5_bestRow_20 : decode cX5_bestRow 20 = .ok (.bipush 10, 2) := by decide +kernel
theorem dX5_bestRow_22 : decode cX5_bestRow 22 = .ok (.imul, 1) := by decide +kernel
theorem dX5_bestRow_23 : decode cX5_bestRow 23 = .ok (.iaload, 1) := by decide +kernel
theorem dX5_bestRow_24 : decode cX5_bestRow 24 = .ok (.i2l, 1) := by decide +kernel
theorem dX5_bestRow_25 : decode cX5_bestRow 25 = .ok (.ldc2_w 59, 3) := by decide +kernel
theorem dX5_bestRow_28 : decode cX5_bestRow 28 = .ok (.lmul, 1) := by decide +kernel
theorem dX5_bestRow_29 : decode cX5_bestRow 29 = .ok (.lreturn, 1) := by decide +kernel
theorem dX5_bestRow_30 : decode cX5_bestRow 30 = .ok (.ldc2_w 84, 3) := by decide +kernel
theorem dX5_bestRow_33 : decode cX5_bestRow 33 = .ok (.lstore 4, 2) := by decide +kernel
theorem dX5_bestRow_35 : decode cX5_bestRow 35 = .ok (.iconst 1, 1) := by decide +kernel
theorem dX5_bestRow_36 : decode cX5_bestRow 36 = .ok (.istore 6, 2) := by decide +kernel
theorem dX5_bestRow_38 : decode cX5_bestRow 38 = .ok (.iload 6, 2) := by decide +kernel
theorem dX5_bestRow_40 : decode cX5_bestRow 40 = .ok (.bipush 10, 2) := by decide +kernel
theorem dX5_bestRow_42 : decode cX5_bestRow 42 = .ok (.if_icmp .ge 83, 3) := by decide +kernel
theorem dX5_bestRow_45 : decode cX5_bestRow 45 = .ok (.iconst 1, 1) := by decide +kernel
theorem dX5_bestRow_46 : decode cX5_bestRow 46 = .ok (.iload 6, 2) := by decide +kernel
theorem dX5_bestRow_48 : decode cX5_bestRow 48 = .ok (.iconst 1, 1) := by decide +kernel
theorem dX5_bestRow_49 : decode cX5_bestRow 49 = .ok (.isub, 1) := by decide +kernel
theorem dX5_bestRow_50 : decode cX5_bestRow 50 = .ok (.ishl, 1) := by decide +kernel
theorem dX5_bestRow_51 : decode cX5_bestRow 51 = .ok (.istore 7, 2) := by decide +kernel
theorem dX5_bestRow_53 : decode cX5_bestRow 53 = .ok (.iload_n 1, 1) := by decide +kernel
theorem dX5_bestRow_54 : decode cX5_bestRow 54 = .ok (.iload 7, 2) := by decide +kernel
theorem dX5_bestRow_56 : decode cX5_bestRow 56 = .ok (.iand, 1) := by decide +kernel
theorem dX5_bestRow_57 : decode cX5_bestRow 57 = .ok (.ifCond .eq 62, 3) := by decide +kernel
theorem dX5_bestRow_60 : decode cX5_bestRow 60 = .ok (.aload_n 0, 1) := by decide +kernel
theorem dX5_bestRow_61 : decode cX5_bestRow 61 = .ok (.getfield 15, 3) := by decide +kernel
theorem dX5_bestRow_64 : decode cX5_bestRow 64 = .ok (.iload_n 2, 1) := by decide +kernel
theorem dX5_bestRow_65 : decode cX5_bestRow 65 = .ok (.bipush 10, 2) := by decide +kernel
theorem dX5_bestRow_67 : decode cX5_bestRow 67 = .ok (.imul, 1) := by decide +kernel
theorem dX5_bestRow_68 : decode cX5_bestRow 68 = .ok (.iload 6, 2) := by decide +kernel
theorem dX5_bestRow_70 : decode cX5_bestRow 70 = .ok (.iadd, 1) := by decide +kernel
theorem dX5_bestRow_71 : decode cX5_bestRow 71 = .ok (.iaload, 1) := by decide +kernel
theorem dX5_bestRow_72 : decode cX5_bestRow 72 = .ok (.i2l, 1) := by decide +kernel
theorem dX5_bestRow_73 : decode cX5_bestRow 73 = .ok (.ldc2_w 59, 3) := by decide +kernel
theorem dX5_bestRow_76 : decode cX5_bestRow 76 = .ok (.lmul, 1) := by decide +kernel
theorem dX5_bestRow_77 : decode cX5_bestRow 77 = .ok (.iload 6, 2) := by decide +kernel
theorem dX5_bestRow_79 : decode cX5_bestRow 79 = .ok (.i2l, 1) := by decide +kernel
theorem dX5_bestRow_80 : decode cX5_bestRow 80 = .ok (.getstatic 61, 3) := by decide +kernel
theorem dX5_bestRow_83 : decode cX5_bestRow 83 = .ok (.iload_n 3, 1) := by decide +kernel
theorem dX5_bestRow_84 : decode cX5_bestRow 84 = .ok (.iconst 1, 1) := by decide +kernel
theorem dX5_bestRow_85 : decode cX5_bestRow 85 = .ok (.isub, 1) := by decide +kernel
theorem dX5_bestRow_86 : decode cX5_bestRow 86 = .ok (.iaload, 1) := by decide +kernel
theorem dX5_bestRow_87 : decode cX5_bestRow 87 = .ok (.i2l, 1) := by decide +kernel
theorem dX5_bestRow_88 : decode cX5_bestRow 88 = .ok (.lmul, 1) := by decide +kernel
theorem dX5_bestRow_89 : decode cX5_bestRow 89 = .ok (.ladd, 1) := by decide +kernel
theorem dX5_bestRow_90 : decode cX5_bestRow 90 = .ok (.lstore 8, 2) := by decide +kernel
theorem dX5_bestRow_92 : decode cX5_bestRow 92 = .ok (.lload 4, 2) := by decide +kernel
theorem dX5_bestRow_94 : decode cX5_bestRow 94 = .ok (.lload 8, 2) := by decide +kernel
theorem dX5_bestRow_96 : decode cX5_bestRow 96 = .ok (.aload_n 0, 1) := by decide +kernel
theorem dX5_bestRow_97 : decode cX5_bestRow 97 = .ok (.getfield 11, 3) := by decide +kernel
theorem dX5_bestRow_100 : decode cX5_bestRow 100 = .ok (.iload_n 1, 1) := by decide +kernel
theorem dX5_bestRow_101 : decode cX5_bestRow 101 = .ok (.iload 7, 2) := by decide +kernel
theorem dX5_bestRow_103 : decode cX5_bestRow 103 = .ok (.iconst (-1), 1) := by decide +kernel
theorem dX5_bestRow_104 : decode cX5_bestRow 104 = .ok (.ixor, 1) := by decide +kernel
theorem dX5_bestRow_105 : decode cX5_bestRow 105 = .ok (.iand, 1) := by decide +kernel
theorem dX5_bestRow_106 : decode cX5_bestRow 106 = .ok (.bipush 10, 2) := by decide +kernel
theorem dX5_bestRow_108 : decode cX5_bestRow 108 = .ok (.imul, 1) := by decide +kernel
theorem dX5_bestRow_109 : decode cX5_bestRow 109 = .ok (.iload 6, 2) := by decide +kernel
theorem dX5_bestRow_111 : decode cX5_bestRow 111 = .ok (.iadd, 1) := by decide +kernel
theorem dX5_bestRow_112 : decode cX5_bestRow 112 = .ok (.laload, 1) := by decide +kernel
theorem dX5_bestRow_113 : decode cX5_bestRow 113 = .ok (.ladd, 1) := by decide +kernel
theorem dX5_bestRow_114 : decode cX5_bestRow 114 = .ok (.invokestatic 86, 3) := by decide +kernel
theorem dX5_bestRow_117 : decode cX5_bestRow 117 = .ok (.lstore 4, 2) := by decide +kernel
theorem dX5_bestRow_119 : decode cX5_bestRow 119 = .ok (.iinc 6 1, 3) := by decide +kernel
theorem dX5_bestRow_122 : decode cX5_bestRow 122 = .ok (.goto (-84), 3) := by decide +kernel
theorem dX5_bestRow_125 : decode cX5_bestRow 125 = .ok (.lload 4, 2) := by decide +kernel
theorem dX5_bestRow_127 : decode cX5_bestRow 127 = .ok (.lreturn, 1) := by decide +kernel
def b5_bestRow_15 (rc : Nat → List Int32 → List Int64 → Mem → Option (Int64 × Mem)) (n : Nat) (i2 : Int32) (M : Mem) : Option (Int64 × Mem) :=
  chk (inb (i2 * (10 : Int32)) 100) <|
  some (((M.1 328 (i2 * (10 : Int32)).toNatClampNeg).toInt64 * (1000000000 : Int64)), M)
def b5_bestRow_119 (rc : Nat → List Int32 → List Int64 → Mem → Option (Int64 × Mem)) (n : Nat) (i1 : Int32) (i2 : Int32) (i3 : Int32) (i6 : Int32) (j4 : Int64) (M : Mem) : Option (Int64 × Mem) :=
  lt (i6 + (1 : Int32)) fun v14 =>
  rc 38 [i1, i2, i3, v14] [j4] M
def b5_bestRow_38 (rc : Nat → List Int32 → List Int64 → Mem → Option (Int64 × Mem)) (n : Nat) (i1 : Int32) (i2 : Int32) (i3 : Int32) (i6 : Int32) (j4 : Int64) (M : Mem) : Option (Int64 × Mem) :=
  (if (10 : Int32) ≤ i6 then (
   some (j4, M))
  else (
   lt ((1 : Int32) <<< ((i6 - (1 : Int32)) &&& 31)) fun v7 =>
   (if (i1 &&& v7) = 0 then (
    b5_bestRow_119  rc n i1 i2 i3 i6 j4 M)
   else (
    chk (inb ((i2 * (10 : Int32)) + i6) 100) <|
    chk (inb (i3 - (1 : Int32)) 9) <|
    lt (((M.1 328 ((i2 * (10 : Int32)) + i6).toNatClampNeg).toInt64 * (1000000000 : Int64)) + (i6.toInt64 * (tensL.getD (i3 - (1 : Int32)).toNatClampNeg 0).toInt64)) fun v11 =>
    chk (inb (((i1 &&& (v7 ^^^ (-1 : Int32))) * (10 : Int32)) + i6) 5120) <|
    lt (if (v11 + (M.2 327 (((i1 &&& (v7 ^^^ (-1 : Int32))) * (10 : Int32)) + i6).toNatClampNeg)) < j4 then (v11 + (M.2 327 (((i1 &&& (v7 ^^^ (-1 : Int32))) * (10 : Int32)) + i6).toNatClampNeg)) else j4) fun v13 =>
    b5_bestRow_119  rc n i1 i2 i3 i6 v13 M))))
def b5_bestRow_0 (rc : Nat → List Int32 → List Int64 → Mem → Option (Int64 × Mem)) (n : Nat) (a1 : Int32) (a2 : Int32) (M : Mem) : Option (Int64 × Mem) :=
  bnd (fZJ6_bitCount_0f7a4 n a1 M) fun r1 M2 =>
  (if r1 = 0 then (
   b5_bestRow_15  rc n a2 M2)
  else (
   (if r1 ≤ (9 : Int32) then (
    b5_bestRow_38  rc n a1 a2 r1 (1 : Int32) (1000000000000000 : Int64) M2)
   else (
    b5_bestRow_15  rc n a2 M2))))
def r5_bestRow : Nat → Nat → List Int32 → List Int64 → Mem → Option (Int64 × Mem)
  | 0 => fun _ _ _ _ => none
  | n + 1 => fun pc li lj M =>
    if pc = 38 then (match li, lj with | [i1, i2, i3, i6], [j4] => b5_bestRow_38  (r5_bestRow  n) n i1 i2 i3 i6 j4 M | _, _ => none) else
    none
theorem e5_bestRow_38  (n : Nat) (i1 : Int32) (i2 : Int32) (i3 : Int32) (i6 : Int32) (j4 : Int64) (M : Mem) : r5_bestRow  (n + 1) 38 [i1, i2, i3, i6] [j4] M = b5_bestRow_38  (r5_bestRow  n) n i1 i2 i3 i6 j4 M := by
  rw [r5_bestRow]
  simp
def f5_bestRow (n : Nat) (a1 : Int32) (a2 : Int32) (M : Mem) : Option (Int64 × Mem) := b5_bestRow_0 (r5_bestRow n) n a1 a2 M
abbrev rm5_bestRow : Room := { frames := 1, cells := 0, slots := 0, locals := 21 }
theorem y5_bestRow_w : yV RX5 yX5_bestRow cX5_bestRow 10 (some .long) 2 := ⟨g_895, gp 30 rfl rfl, g_12, g_896, rfl, by decide, by decide, by decide +kernel⟩
set_option maxHeartbeats 4000000 in
set_option maxRecDepth 100000 in
theorem w5_bestRow_15 {p : Program} {l : Launch} {e : Env} {s : State} {m : MethodId} {args : Array Value} {below : List Frame} {meth : Method} {c : Code} {z : Zt} {b : Nat}  (C : Cx p s m args c cX5_bestRow 10 RX5 z 339 b) (hr : meth.sig.returnType = (some .long)) (hk : meth.locks = false) {r : Int64} {M' : Mem} {rc : Nat → List Int32 → List Int64 → Mem → Option (Int64 × Mem)} {n : Nat} (q38 : ∀ (i1 : Int32) (i2 : Int32) (i3 : Int32) (i6 : Int32) (j4 : Int64) (M : Mem) (H : Heap) (locs : List Loc) (ls : Array Slot), rc 38 [i1, i2, i3, i6] [j4] M = some (r, M') → va_P z.1 vwCl (pw (xd z b) 339 b M) H → va_S (pA 339 b) s.heap H locs → lv_has ls 10 [(0, .ref (b + 326)), (1, .int i1), (2, .int i2), (3, .int i3), (4, .long j4), (6, .int i6)] → W p l e rm5_bestRow s m args below meth c H locs 0 0 (MQ below (va_Ql (fun (r' : Int64) (M2 : Mem) => r' = r ∧ M2 = M') (fun M2 t => va_P z.1 vwCl (pw (xd z b) 339 b M2) t.heap) (pA 339 b)) args s 0 0 (pA 339 b)) (F0 m 38 ls [])) {i2 : Int32} {M : Mem} {H : Heap} {locs : List Loc} {ls : Array Slot} (hf : b5_bestRow_15  rc n i2 M = some (r, M')) (hP : va_P z.1 vwCl (pw (xd z b) 339 b M) H) (hS : va_S (pA 339 b) s.heap H locs) (hl : lv_has ls 10 [(0, .ref (b + 326)), (2, .int i2)]) : W p l e rm5_bestRow s m args below meth c H locs 0 0 (MQ below (va_Ql (fun (r' : Int64) (M2 : Mem) => r' = r ∧ M2 = M') (fun M2 t => va_P z.1 vwCl (pw (xd z b) 339 b M2) t.heap) (pA 339 b)) args s 0 0 (pA 339 b)) (F0 m 15 ls []) := by
  have hx := C.1.1
  have hb := C.1.2.1
  unfold b5_bestRow_15 at hf
  refine lv_aload_n hx hb dX5_bestRow_15 rfl (lv_at hl 0 rfl) ?_
  refine pg C hP (k := 326) (j := 2) (Nat.le_of_ble_eq_true rfl) (xd_326 _ _) rfl iw_5 (Nat.le_of_ble_eq_true rfl) g_325 rfl rfl dX5_bestRow_16 ?_
  refine lv_iload_n hx hb dX5_bestRow_19 rfl (lv_at hl 1 rfl) ?_
  refine lv_bipush (v := (10 : Int32)) hx hb dX5_bestRow_20 (by decide) ?_
  refine lv_imul hx hb dX5_bestRow_22 ?_
  have h15 := chk_1 hf
  replace hf := chk_2 hf
  refine paI C hP (k := 328) (Nat.le_of_ble_eq_true rfl) (xd_328 _ _) h15 dX5_bestRow_23 ?_
  refine lv_i2l hx hb dX5_bestRow_24 rfl ?_
  refine lv_ldc2 hx hb C.1.2.2.2.1 (C.1.2.2.2.2 _ g_898) dX5_bestRow_25 ?_
  refine lv_lmul hx hb dX5_bestRow_28 ?_
  exact prL C hr hk hP hS hf dX5_bestRow_29
set_option maxHeartbeats 4000000 in
set_option maxRecDepth 100000 in
theorem w5_bestRow_119 {p : Program} {l : Launch} {e : Env} {s : State} {m : MethodId} {args : Array Value} {below : List Frame} {meth : Method} {c : Code} {z : Zt} {b : Nat}  (C : Cx p s m args c cX5_bestRow 10 RX5 z 339 b) (hr : meth.sig.returnType = (some .long)) (hk : meth.locks = false) {r : Int64} {M' : Mem} {rc : Nat → List Int32 → List Int64 → Mem → Option (Int64 × Mem)} {n : Nat} (q38 : ∀ (i1 : Int32) (i2 : Int32) (i3 : Int32) (i6 : Int32) (j4 : Int64) (M : Mem) (H : Heap) (locs : List Loc) (ls : Array Slot), rc 38 [i1, i2, i3, i6] [j4] M = some (r, M') → va_P z.1 vwCl (pw (xd z b) 339 b M) H → va_S (pA 339 b) s.heap H locs → lv_has ls 10 [(0, .ref (b + 326)), (1, .int i1), (2, .int i2), (3, .int i3), (4, .long j4), (6, .int i6)] → W p l e rm5_bestRow s m args below meth c H locs 0 0 (MQ below (va_Ql (fun (r' : Int64) (M2 : Mem) => r' = r ∧ M2 = M') (fun M2 t => va_P z.1 vwCl (pw (xd z b) 339 b M2) t.heap) (pA 339 b)) args s 0 0 (pA 339 b)) (F0 m 38 ls [])) {i1 : Int32} {i2 : Int32} {i3 : Int32} {i6 : Int32} {j4 : Int64} {M : Mem} {H : Heap} {locs : List Loc} {ls : Array Slot} (hf : b5_bestRow_119  rc n i1 i2 i3 i6 j4 M = some (r, M')) (hP : va_P z.1 vwCl (pw (xd z b) 339 b M) H) (hS : va_S (pA 339 b) s.heap H locs) (hl : lv_has ls 10 [(0, .ref (b + 326)), (1, .int i1), (2, .int i2), (3, .int i3), (4, .long j4), (6, .int i6)]) : W p l e rm5_bestRow s m args below meth c H locs 0 0 (MQ below (va_Ql (fun (r' : Int64) (M2 : Mem) => r' = r ∧ M2 = M') (fun M2 t => va_P z.1 vwCl (pw (xd z b) 339 b M2) t.heap) (pA 339 b)) args s 0 0 (pA 339 b)) (F0 m 119 ls []) := by
  have hx := C.1.1
  have hb := C.1.2.1
  unfold b5_bestRow_119 at hf
  obtain ⟨v14, ev14⟩ : ∃ v : Int32, v = i6 + (1 : Int32) := ⟨_, rfl⟩
  replace hf := lt_c ev14 hf
  refine lv_iinc (v := v14) (lv' := [(6, .int v14), (0, .ref (b + 326)), (1, .int i1), (2, .int i2), (3, .int i3), (4, .long j4)]) hx hb dX5_bestRow_119 hl (k := 5) rfl (by rw [ev14]; rfl) (by decide) rfl (fun ls hl => ?_)
  refine lv_goto (tgt := 38) hx hb dX5_bestRow_122 (by decide) ?_
  exact q38 i1 i2 i3 v14 j4 M _ _ _ hf hP hS (lv_sub hl [1, 2, 3, 4, 5, 0] rfl)
set_option maxHeartbeats 4000000 in
set_option maxRecDepth 100000 in
theorem w5_bestRow_38 {p : Program} {l : Launch} {e : Env} {s : State} {m : MethodId} {args : Array Value} {below : List Frame} {meth : Method} {c : Code} {z : Zt} {b : Nat}  (C : Cx p s m args c cX5_bestRow 10 RX5 z 339 b) (hr : meth.sig.returnType = (some .long)) (hk : meth.locks = false) {r : Int64} {M' : Mem} {rc : Nat → List Int32 → List Int64 → Mem → Option (Int64 × Mem)} {n : Nat} (q38 : ∀ (i1 : Int32) (i2 : Int32) (i3 : Int32) (i6 : Int32) (j4 : Int64) (M : Mem) (H : Heap) (locs : List Loc) (ls : Array Slot), rc 38 [i1, i2, i3, i6] [j4] M = some (r, M') → va_P z.1 vwCl (pw (xd z b) 339 b M) H → va_S (pA 339 b) s.heap H locs → lv_has ls 10 [(0, .ref (b + 326)), (1, .int i1), (2, .int i2), (3, .int i3), (4, .long j4), (6, .int i6)] → W p l e rm5_bestRow s m args below meth c H locs 0 0 (MQ below (va_Ql (fun (r' : Int64) (M2 : Mem) => r' = r ∧ M2 = M') (fun M2 t => va_P z.1 vwCl (pw (xd z b) 339 b M2) t.heap) (pA 339 b)) args s 0 0 (pA 339 b)) (F0 m 38 ls [])) {i1 : Int32} {i2 : Int32} {i3 : Int32} {i6 : Int32} {j4 : Int64} {M : Mem} {H : Heap} {locs : List Loc} {ls : Array Slot} (hf : b5_bestRow_38  rc n i1 i2 i3 i6 j4 M = some (r, M')) (hP : va_P z.1 vwCl (pw (xd z b) 339 b M) H) (hS : va_S (pA 339 b) s.heap H locs) (hl : lv_has ls 10 [(0, .ref (b + 326)), (1, .int i1), (2, .int i2), (3, .int i3), (4, .long j4), (6, .int i6)]) : W p l e rm5_bestRow s m args below meth c H locs 0 0 (MQ below (va_Ql (fun (r' : Int64) (M2 : Mem) => r' = r ∧ M2 = M') (fun M2 t => va_P z.1 vwCl (pw (xd z b) 339 b M2) t.heap) (pA 339 b)) args s 0 0 (pA 339 b)) (F0 m 38 ls []) := by
  have hx := C.1.1
  have hb := C.1.2.1
  unfold b5_bestRow_38 at hf
  refine lv_iload hx hb dX5_bestRow_38 (lv_at hl 5 rfl) ?_
  refine lv_bipush (v := (10 : Int32)) hx hb dX5_bestRow_40 (by decide) ?_
  refine lv_icmp_ge (tgt := 125) hx hb dX5_bestRow_42 (by decide) (fun c6 => ?_) (fun c6 => ?_)
  · replace hf := ite_t c6 hf
    refine lv_lload hx hb dX5_bestRow_125 (lv_at hl 4 rfl) ?_
    exact prL C hr hk hP hS hf dX5_bestRow_127
  · replace hf := ite_f c6 hf
    refine lv_iconst (v := (1 : Int32)) hx hb dX5_bestRow_45 (by decide) ?_
    refine lv_iload hx hb dX5_bestRow_46 (lv_at hl 5 rfl) ?_
    refine lv_iconst (v := (1 : Int32)) hx hb dX5_bestRow_48 (by decide) ?_
    refine lv_isub hx hb dX5_bestRow_49 ?_
    refine lv_ishl hx hb dX5_bestRow_50 ?_
    refine lv_topi (fun v7 ev7 => ?_)
    replace hf := lt_c ev7 hf
    refine lv_istore (lv' := [(7, .int v7), (0, .ref (b + 326)), (1, .int i1), (2, .int i2), (3, .int i3), (4, .long j4), (6, .int i6)]) hx hb dX5_bestRow_51 hl (by decide) rfl (fun ls hl => ?_)
    refine lv_iload_n hx hb dX5_bestRow_53 rfl (lv_at hl 2 rfl) ?_
    refine lv_iload hx hb dX5_bestRow_54 (lv_at hl 0 rfl) ?_
    refine lv_iand hx hb dX5_bestRow_56 ?_
    refine lv_if_eq (tgt := 119) hx hb dX5_bestRow_57 (by decide) (fun c8 => ?_) (fun c8 => ?_)
    · replace hf := ite_t c8 hf
      exact w5_bestRow_119 (n := n)  C hr hk q38 hf hP hS (lv_sub hl [1, 2, 3, 4, 5, 6] rfl)
    · replace hf := ite_f c8 hf
      refine lv_aload_n hx hb dX5_bestRow_60 rfl (lv_at hl 1 rfl) ?_
      refine pg C hP (k := 326) (j := 2) (Nat.le_of_ble_eq_true rfl) (xd_326 _ _) rfl iw_5 (Nat.le_of_ble_eq_true rfl) g_325 rfl rfl dX5_bestRow_61 ?_
      refine lv_iload_n hx hb dX5_bestRow_64 rfl (lv_at hl 3 rfl) ?_
      refine lv_bipush (v := (10 : Int32)) hx hb dX5_bestRow_65 (by decide) ?_
      refine lv_imul hx hb dX5_bestRow_67 ?_
      refine lv_iload hx hb dX5_bestRow_68 (lv_at hl 6 rfl) ?_
      refine lv_iadd hx hb dX5_bestRow_70 ?_
      have h9 := chk_1 hf
      replace hf := chk_2 hf
      refine paI C hP (k := 328) (Nat.le_of_ble_eq_true rfl) (xd_328 _ _) h9 dX5_bestRow_71 ?_
      refine lv_i2l hx hb dX5_bestRow_72 rfl ?_
      refine lv_ldc2 hx hb C.1.2.2.2.1 (C.1.2.2.2.2 _ g_898) dX5_bestRow_73 ?_
      refine lv_lmul hx hb dX5_bestRow_76 ?_
      refine lv_iload hx hb dX5_bestRow_77 (lv_at hl 6 rfl) ?_
      refine lv_i2l hx hb dX5_bestRow_79 rfl ?_
      refine va_gets hx hb C.2.2.2.2.1 hS C.1.2.2.2.1 (C.1.2.2.2.2 _ g_900) (fun _ h => h) dX5_bestRow_80 ?_
      refine lv_iload_n hx hb dX5_bestRow_83 rfl (lv_at hl 4 rfl) ?_
      refine lv_iconst (v := (1 : Int32)) hx hb dX5_bestRow_84 (by decide) ?_
      refine lv_isub hx hb dX5_bestRow_85 ?_
      have h10 := chk_1 hf
      replace hf := chk_2 hf
      refine va_ti hx hb C.2.2.2.2.2.1 hS (inb_in h10) rfl dX5_bestRow_86 ?_
      refine lv_i2l hx hb dX5_bestRow_87 rfl ?_
      refine lv_lmul hx hb dX5_bestRow_88 ?_
      refine lv_ladd hx hb dX5_bestRow_89 ?_
      refine lv_topl (fun v11 ev11 => ?_)
      replace hf := lt_c ev11 hf
      refine lv_lstore (lv' := [(8, .long v11), (7, .int v7), (0, .ref (b + 326)), (1, .int i1), (2, .int i2), (3, .int i3), (4, .long j4), (6, .int i6)]) hx hb dX5_bestRow_90 hl (by decide) rfl (fun ls hl => ?_)
      refine lv_lload hx hb dX5_bestRow_92 (lv_at hl 6 rfl) ?_
      refine lv_lload hx hb dX5_bestRow_94 (lv_at hl 0 rfl) ?_
      refine lv_aload_n hx hb dX5_bestRow_96 rfl (lv_at hl 2 rfl) ?_
      refine pg C hP (k := 326) (j := 1) (Nat.le_of_ble_eq_true rfl) (xd_326 _ _) rfl iw_5 (Nat.le_of_ble_eq_true rfl) g_324 rfl rfl dX5_bestRow_97 ?_
      refine lv_iload_n hx hb dX5_bestRow_100 rfl (lv_at hl 3 rfl) ?_
      refine lv_iload hx hb dX5_bestRow_101 (lv_at hl 1 rfl) ?_
      refine lv_iconst (v := (-1 : Int32)) hx hb dX5_bestRow_103 (by decide) ?_
      refine lv_ixor hx hb dX5_bestRow_104 ?_
      refine lv_iand hx hb dX5_bestRow_105 ?_
      refine lv_bipush (v := (10 : Int32)) hx hb dX5_bestRow_106 (by decide) ?_
      refine lv_imul hx hb dX5_bestRow_108 ?_
      refine lv_iload hx hb dX5_bestRow_109 (lv_at hl 7 rfl) ?_
      refine lv_iadd hx hb dX5_bestRow_111 ?_
      have h12 := chk_1 hf
      replace hf := chk_2 hf
      refine paJ C hP (k := 327) (Nat.le_of_ble_eq_true rfl) (xd_327 _ _) h12 dX5_bestRow_112 ?_
      refine lv_ladd hx hb dX5_bestRow_113 ?_
      refine va_mmin_long hx hb (by rw [C.1.2.2.1]; exact hl.1.symm) C.1.2.2.2.1 (C.1.2.2.2.2 _ g_902) (C.1.2.2.2.2 _ g_903) (C.1.2.2.2.2 _ g_17) (C.1.2.2.2.2 _ g_904) (Nat.le_of_ble_eq_true rfl) (Nat.le_of_ble_eq_true rfl) (Nat.le_of_ble_eq_true rfl) (Nat.le_of_ble_eq_true rfl) dX5_bestRow_114 ?_
      refine lv_topl (fun v13 ev13 => ?_)
      replace hf := lt_c ev13 hf
      refine lv_lstore (lv' := [(4, .long v13), (8, .long v11), (7, .int v7), (0, .ref (b + 326)), (1, .int i1), (2, .int i2), (3, .int i3), (6, .int i6)]) hx hb dX5_bestRow_117 hl (by decide) rfl (fun ls hl => ?_)
      exact w5_bestRow_119 (n := n)  C hr hk q38 hf hP hS (lv_sub hl [3, 4, 5, 6, 0, 7] rfl)
set_option maxHeartbeats 4000000 in
set_option maxRecDepth 100000 in
theorem w5_bestRow_0 {p : Program} {l : Launch} {e : Env} {s : State} {m : MethodId} {args : Array Value} {below : List Frame} {meth : Method} {c : Code} {z : Zt} {b : Nat}  (C : Cx p s m args c cX5_bestRow 10 RX5 z 339 b) (hr : meth.sig.returnType = (some .long)) (hk : meth.locks = false) {r : Int64} {M' : Mem} {rc : Nat → List Int32 → List Int64 → Mem → Option (Int64 × Mem)} {n : Nat} (q38 : ∀ (i1 : Int32) (i2 : Int32) (i3 : Int32) (i6 : Int32) (j4 : Int64) (M : Mem) (H : Heap) (locs : List Loc) (ls : Array Slot), rc 38 [i1, i2, i3, i6] [j4] M = some (r, M') → va_P z.1 vwCl (pw (xd z b) 339 b M) H → va_S (pA 339 b) s.heap H locs → lv_has ls 10 [(0, .ref (b + 326)), (1, .int i1), (2, .int i2), (3, .int i3), (4, .long j4), (6, .int i6)] → W p l e rm5_bestRow s m args below meth c H locs 0 0 (MQ below (va_Ql (fun (r' : Int64) (M2 : Mem) => r' = r ∧ M2 = M') (fun M2 t => va_P z.1 vwCl (pw (xd z b) 339 b M2) t.heap) (pA 339 b)) args s 0 0 (pA 339 b)) (F0 m 38 ls [])) {a1 : Int32} {a2 : Int32} {M : Mem} {H : Heap} {locs : List Loc} {ls : Array Slot} (hf : b5_bestRow_0  rc n a1 a2 M = some (r, M')) (hP : va_P z.1 vwCl (pw (xd z b) 339 b M) H) (hS : va_S (pA 339 b) s.heap H locs) (hl : lv_has ls 10 [(0, .ref (b + 326)), (1, .int a1), (2, .int a2)]) : W p l e rm5_bestRow s m args below meth c H locs 0 0 (MQ below (va_Ql (fun (r' : Int64) (M2 : Mem) => r' = r ∧ M2 = M') (fun M2 t => va_P z.1 vwCl (pw (xd z b) 339 b M2) t.heap) (pA 339 b)) args s 0 0 (pA 339 b)) (F0 m 0 ls []) := by
  have hx := C.1.1
  have hb := C.1.2.1
  unfold b5_bestRow_0 at hf
  refine lv_iload_n hx hb dX5_bestRow_0 rfl (lv_at hl 1 rfl) ?_
  obtain ⟨r1, M2, h3, hf⟩ := bnd_s hf
  refine pcSi (As := [.int a1]) C hP hS (cZJ6_bitCount_0f7a4  h3) yZJ6_bitCount_0f7a4_w g_897 rfl rfl rfl ⟨Nat.le_of_ble_eq_true rfl, Nat.le_of_ble_eq_true rfl⟩ hl.1 rfl (Nat.le_of_ble_eq_true rfl) dX5_bestRow_1 ⟨Nat.le_of_ble_eq_true rfl, Nat.le_of_ble_eq_true rfl⟩ (fun H locs hP hS => ?_)
  refine lv_istore_n (lv' := [(3, .int r1), (0, .ref (b + 326)), (1, .int a1), (2, .int a2)]) hx hb dX5_bestRow_4 rfl hl (by decide) rfl (fun ls hl => ?_)
  refine lv_iload_n hx hb dX5_bestRow_5 rfl (lv_at hl 0 rfl) ?_
  refine lv_if_eq (tgt := 15) hx hb dX5_bestRow_6 (by decide) (fun c4 => ?_) (fun c4 => ?_)
  · replace hf := ite_t c4 hf
    exact w5_bestRow_15 (n := n)  C hr hk q38 hf hP hS (lv_sub hl [1, 3] rfl)
  · replace hf := ite_f c4 hf
    refine lv_iload_n hx hb dX5_bestRow_9 rfl (lv_at hl 0 rfl) ?_
    refine lv_bipush (v := (9 : Int32)) hx hb dX5_bestRow_10 (by decide) ?_
    refine lv_icmp_le (tgt := 30) hx hb dX5_bestRow_12 (by decide) (fun c5 => ?_) (fun c5 => ?_)
    · replace hf := ite_t c5 hf
      refine lv_ldc2 hx hb C.1.2.2.2.1 (C.1.2.2.2.2 _ g_899) dX5_bestRow_30 ?_
      refine lv_lstore (lv' := [(4, .long (1000000000000000 : Int64)), (3, .int r1), (0, .ref (b + 326)), (1, .int a1), (2, .int a2)]) hx hb dX5_bestRow_33 hl (by decide) rfl (fun ls hl => ?_)
      refine lv_iconst (v := (1 : Int32)) hx hb dX5_bestRow_35 (by decide) ?_
      refine lv_istore (lv' := [(6, .int (1 : Int32)), (4, .long (1000000000000000 : Int64)), (3, .int r1), (0, .ref (b + 326)), (1, .int a1), (2, .int a2)]) hx hb dX5_bestRow_36 hl (by decide) rfl (fun ls hl => ?_)
      exact w5_bestRow_38 (n := n)  C hr hk q38 hf hP hS (lv_sub hl [3, 4, 5, 2, 1, 0] rfl)
    · replace hf := ite_f c5 hf
      exact w5_bestRow_15 (n := n)  C hr hk q38 hf hP hS (lv_sub hl [1, 3] rfl)
set_option maxHeartbeats 4000000 in
set_option maxRecDepth 100000 in
theorem l5_bestRow {p : Program} {l : Launch} {e : Env} {s : State} {m : MethodId} {args : Array Value} {below : List Frame} {meth : Method} {c : Code} {z : Zt} {b : Nat}  (C : Cx p s m args c cX5_bestRow 10 RX5 z 339 b) (hr : meth.sig.returnType = (some .long)) (hk : meth.locks = false) {r : Int64} {M' : Mem} (n : Nat) : (∀ (i1 : Int32) (i2 : Int32) (i3 : Int32) (i6 : Int32) (j4 : Int64) (M : Mem) (H : Heap) (locs : List Loc) (ls : Array Slot), (r5_bestRow  n) 38 [i1, i2, i3, i6] [j4] M = some (r, M') → va_P z.1 vwCl (pw (xd z b) 339 b M) H → va_S (pA 339 b) s.heap H locs → lv_has ls 10 [(0, .ref (b + 326)), (1, .int i1), (2, .int i2), (3, .int i3), (4, .long j4), (6, .int i6)] → W p l e rm5_bestRow s m args below meth c H locs 0 0 (MQ below (va_Ql (fun (r' : Int64) (M2 : Mem) => r' = r ∧ M2 = M') (fun M2 t => va_P z.1 vwCl (pw (xd z b) 339 b M2) t.heap) (pA 339 b)) args s 0 0 (pA 339 b)) (F0 m 38 ls [])) := by
  induction n with
  | zero => exact fun _ _ _ _ _ _ _ _ _ hf => (by cases hf)
  | succ n ih => exact fun _ _ _ _ _ _ _ _ _ hf hP hS hl => w5_bestRow_38 (n := n)  C hr hk ih ((e5_bestRow_38  n _ _ _ _ _ _).symm.trans hf) hP hS hl
theorem c5_bestRow {l : Launch} {z : Zt} {b n : Nat}  {a1 : Int32} {a2 : Int32} {M M' : Mem} {r : Int64} (hf : f5_bestRow n  a1 a2 M = some (r, M')) : CL l z (xd z b) 339 b yX5_bestRow cX5_bestRow 10 (some .long) rm5_bestRow [.ref (b + 326), .int a1, .int a2] M M' r :=
  CL.ofW (lv := [(0, .ref (b + 326)), (1, .int a1), (2, .int a2)]) (by decide) (Nat.le_of_ble_eq_true rfl) rfl (fun p e s m args below meth c ls C hr hk hP hS hl => w5_bestRow_0 (n := n)  C hr hk (l5_bestRow  C hr hk n) hf hP hS hl)

-- BronzeKing$Rounds.findRows(I)V
theorem dX5_findRows_0 : decode cX5_findRows 0 = .ok (.aload_n 0, 1) := by decide +kernel
theorem dX5_findRows_1 : decode cX5_findRows 1 = .ok (.iload_n 1, 1) := by decide +kernel
theorem dX5_findRows_2 : decode cX5_findRows 2 = .ok (.invokevirtual 55, 3) := by decide +kernel
theorem dX5_findRows_5 : decode cX5_findRows 5 = .ok (.ifCond .ne 4, 3) := by decide +kernel
theorem dX5_findRows_8 : decode cX5_findRows 8 = .ok (.return_, 1) := by decide +kernel
theorem dX5_findRows_9 : decode cX5_findRows 9 = .ok (.iconst 0, 1) := by decide +kernel
theorem dX5_findRows_10 : decode cX5_findRows 10 = .ok (.istore_n 2, 1) := by decide +kernel
theorem dX5_findRows_11 : decode cX5_findRows 11 = .ok (.iload_n 2, 1) := by decide +kernel
theorem dX5_findRows_12 : decode cX5_findRows 12 = .ok (.bipush 10, 2) := by decide +kernel
theorem dX5_findRows_14 : decode cX5_findRows 14 = .ok (.if_icmp .ge 26, 3) := by decide +kernel
theorem dX5_findRows_17 : decode cX5_findRows 17 = .ok (.aload_n 0, 1) := by decide +kernel
theorem dX5_findRows_18 : decode cX5_findRows 18 = .ok (.getfield 11, 3) := by decide +kernel
theorem dX5_findRows_21 : decode cX5_findRows 21 = .ok (.iload_n 1, 1) := by decide +kernel
theorem dX5_findRows_22 : decode cX5_findRows 22 = .ok (.bipush 10, 2) := by decide +kernel
theorem dX5_findRows_24 : decode cX5_findRows 24 = .ok (.imul, 1) := by decide +kernel
theorem dX5_findRows_25 : decode cX5_findRows 25 = .ok (.iload_n 2, 1) := by decide +kernel
theorem dX5_findRows_26 : decode cX5_findRows 26 = .ok (.iadd, 1) := by decide +kernel
theorem dX5_findRows_27 : decode cX5_findRows 27 = .ok (.aload_n 0, 1) := by decide +kernel
theorem dX5_findRows_28 : decode cX5_findRows 28 = .ok (.iload_n 1, 1) := by decide +kernel
theorem dX5_findRows_29 : decode cX5_findRows 29 = .ok (.iload_n 2, 1) := by decide +kernel
theorem dX5_findRows_30 : decode cX5_findRows 30 = .ok (.invokevirtual 80, 3) := by decide +kernel
theorem dX5_findRows_33 : decode cX5_findRows 33 = .ok (.lastore, 1) := by decide +kernel
theorem dX5_findRows_34 : decode cX5_findRows 34 = .ok (.iinc 2 1, 3) := by decide +kernel
theorem dX5_findRows_37 : decode cX5_findRows 37 = .ok (.goto (-26), 3) := by decide +kernel
theorem dX5_findRows_40 : decode cX5_findRows 40 = .ok (.return_, 1) := by decide +kernel
def b5_findRows_11 (rc : Nat → List Int32 → List Int64 → Mem → Option (Unit × Mem)) (n : Nat) (i1 : Int32) (i2 : Int32) (M : Mem) : Option (Unit × Mem) :=
  (if (10 : Int32) ≤ i2 then (
   some ((), M))
  else (
   bnd (f5_bestRow n i1 i2 M) fun r6 M7 =>
   chk (inb ((i1 * (10 : Int32)) + i2) 5120) <|
   lt (wJ M7 327 ((i1 * (10 : Int32)) + i2).toNatClampNeg r6) fun M10 =>
   lt (i2 + (1 : Int32)) fun v11 =>
   rc 11 [i1, v11] [] M10))
def b5_findRows_0 (rc : Nat → List Int32 → List Int64 → Mem → Option (Unit × Mem)) (n : Nat) (a1 : Int32) (M : Mem) : Option (Unit × Mem) :=
  bnd (f5_isTold n a1 M) fun r1 M2 =>
  (if r1 = 0 then (
   some ((), M2))
  else (
   b5_findRows_11  rc n a1 (0 : Int32) M2))
def r5_findRows : Nat → Nat → List Int32 → List Int64 → Mem → Option (Unit × Mem)
  | 0 => fun _ _ _ _ => none
  | n + 1 => fun pc li lj M =>
    if pc = 11 then (match li, lj with | [i1, i2], [] => b5_findRows_11  (r5_findRows  n) n i1 i2 M | _, _ => none) else
    none
theorem e5_findRows_11  (n : Nat) (i1 : Int32) (i2 : Int32) (M : Mem) : r5_findRows  (n + 1) 11 [i1, i2] [] M = b5_findRows_11  (r5_findRows  n) n i1 i2 M := by
  rw [r5_findRows]
  simp
def f5_findRows (n : Nat) (a1 : Int32) (M : Mem) : Option (Unit × Mem) := b5_findRows_0 (r5_findRows n) n a1 M
abbrev rm5_findRows : Room := { frames := 2, cells := 0, slots := 0, locals := 50 }
theorem y5_findRows_w : yV RX5 yX5_findRows cX5_findRows 3 none 1 := ⟨g_887, gp 28 rfl rfl, g_12, g_888, rfl, by decide, by decide, by decide +kernel⟩
set_option maxHeartbeats 4000000 in
set_option maxRecDepth 100000 in
theorem w5_findRows_11 {p : Program} {l : Launch} {e : Env} {s : State} {m : MethodId} {args : Array Value} {below : List Frame} {meth : Method} {c : Code} {z : Zt} {b : Nat}  (C : Cx p s m args c cX5_findRows 3 RX5 z 339 b) (hr : meth.sig.returnType = none) (hk : meth.locks = false) {r : Unit} {M' : Mem} {rc : Nat → List Int32 → List Int64 → Mem → Option (Unit × Mem)} {n : Nat} (q11 : ∀ (i1 : Int32) (i2 : Int32) (M : Mem) (H : Heap) (locs : List Loc) (ls : Array Slot), rc 11 [i1, i2] [] M = some (r, M') → va_P z.1 vwCl (pw (xd z b) 339 b M) H → va_S (pA 339 b) s.heap H locs → lv_has ls 3 [(0, .ref (b + 326)), (1, .int i1), (2, .int i2)] → W p l e rm5_findRows s m args below meth c H locs 0 0 (MQ below (va_Qv (fun (M2 : Mem) => M2 = M') (fun M2 t => va_P z.1 vwCl (pw (xd z b) 339 b M2) t.heap) (pA 339 b)) args s 0 0 (pA 339 b)) (F0 m 11 ls [])) {i1 : Int32} {i2 : Int32} {M : Mem} {H : Heap} {locs : List Loc} {ls : Array Slot} (hf : b5_findRows_11  rc n i1 i2 M = some (r, M')) (hP : va_P z.1 vwCl (pw (xd z b) 339 b M) H) (hS : va_S (pA 339 b) s.heap H locs) (hl : lv_has ls 3 [(0, .ref (b + 326)), (1, .int i1), (2, .int i2)]) : W p l e rm5_findRows s m args below meth c H locs 0 0 (MQ below (va_Qv (fun (M2 : Mem) => M2 = M') (fun M2 t => va_P z.1 vwCl (pw (xd z b) 339 b M2) t.heap) (pA 339 b)) args s 0 0 (pA 339 b)) (F0 m 11 ls []) := by
  have hx := C.1.1
  have hb := C.1.2.1
  unfold b5_findRows_11 at hf
  refine lv_iload_n hx hb dX5_findRows_11 rfl (lv_at hl 2 rfl) ?_
  refine lv_bipush (v := (10 : Int32)) hx hb dX5_findRows_12 (by decide) ?_
  refine lv_icmp_ge (tgt := 40) hx hb dX5_findRows_14 (by decide) (fun c5 => ?_) (fun c5 => ?_)
  · replace hf := ite_t c5 hf
    exact prV C hr hk hP hS hf dX5_findRows_40
  · replace hf := ite_f c5 hf
    refine lv_aload_n hx hb dX5_findRows_17 rfl (lv_at hl 0 rfl) ?_
    refine pg C hP (k := 326) (j := 1) (Nat.le_of_ble_eq_true rfl) (xd_326 _ _) rfl iw_5 (Nat.le_of_ble_eq_true rfl) g_324 rfl rfl dX5_findRows_18 ?_
    refine lv_iload_n hx hb dX5_findRows_21 rfl (lv_at hl 1 rfl) ?_
    refine lv_bipush (v := (10 : Int32)) hx hb dX5_findRows_22 (by decide) ?_
    refine lv_imul hx hb dX5_findRows_24 ?_
    refine lv_iload_n hx hb dX5_findRows_25 rfl (lv_at hl 2 rfl) ?_
    refine lv_iadd hx hb dX5_findRows_26 ?_
    refine lv_aload_n hx hb dX5_findRows_27 rfl (lv_at hl 0 rfl) ?_
    refine lv_iload_n hx hb dX5_findRows_28 rfl (lv_at hl 1 rfl) ?_
    refine lv_iload_n hx hb dX5_findRows_29 rfl (lv_at hl 2 rfl) ?_
    obtain ⟨r6, M7, h8, hf⟩ := bnd_s hf
    refine pcVl (As := [.int i1, .int i2]) C hP hS (k := 326) (Nat.le_of_ble_eq_true rfl) (xd_326 _ _) rfl (c5_bestRow  h8) y5_bestRow_w g_893 rfl rfl rfl ⟨Nat.le_of_ble_eq_true rfl, Nat.le_of_ble_eq_true rfl⟩ hl.1 rfl (Nat.le_of_ble_eq_true rfl) dX5_findRows_30 ⟨Nat.le_of_ble_eq_true rfl, Nat.le_of_ble_eq_true rfl⟩ (fun H locs hP hS => ?_)
    have h9 := chk_1 hf
    replace hf := chk_2 hf
    refine psJ C hP hS (k := 327) (Nat.le_of_ble_eq_true rfl) (xd_327) h9 dX5_findRows_33 (fun M10 H locs eM10 hP hS => ?_)
    replace hf := lt_c eM10 hf
    obtain ⟨v11, ev11⟩ : ∃ v : Int32, v = i2 + (1 : Int32) := ⟨_, rfl⟩
    replace hf := lt_c ev11 hf
    refine lv_iinc (v := v11) (lv' := [(2, .int v11), (0, .ref (b + 326)), (1, .int i1)]) hx hb dX5_findRows_34 hl (k := 2) rfl (by rw [ev11]; rfl) (by decide) rfl (fun ls hl => ?_)
    refine lv_goto (tgt := 11) hx hb dX5_findRows_37 (by decide) ?_
    exact q11 i1 v11 M10 _ _ _ hf hP hS (lv_sub hl [1, 2, 0] rfl)
set_option maxHeartbeats 4000000 in
set_option maxRecDepth 100000 in
theorem w5_findRows_0 {p : Program} {l : Launch} {e : Env} {s : State} {m : MethodId} {args : Array Value} {below : List Frame} {meth : Method} {c : Code} {z : Zt} {b : Nat}  (C : Cx p s m args c cX5_findRows 3 RX5 z 339 b) (hr : meth.sig.returnType = none) (hk : meth.locks = false) {r : Unit} {M' : Mem} {rc : Nat → List Int32 → List Int64 → Mem → Option (Unit × Mem)} {n : Nat} (q11 : ∀ (i1 : Int32) (i2 : Int32) (M : Mem) (H : Heap) (locs : List Loc) (ls : Array Slot), rc 11 [i1, i2] [] M = some (r, M') → va_P z.1 vwCl (pw (xd z b) 339 b M) H → va_S (pA 339 b) s.heap H locs → lv_has ls 3 [(0, .ref (b + 326)), (1, .int i1), (2, .int i2)] → W p l e rm5_findRows s m args below meth c H locs 0 0 (MQ below (va_Qv (fun (M2 : Mem) => M2 = M') (fun M2 t => va_P z.1 vwCl (pw (xd z b) 339 b M2) t.heap) (pA 339 b)) args s 0 0 (pA 339 b)) (F0 m 11 ls [])) {a1 : Int32} {M : Mem} {H : Heap} {locs : List Loc} {ls : Array Slot} (hf : b5_findRows_0  rc n a1 M = some (r, M')) (hP : va_P z.1 vwCl (pw (xd z b) 339 b M) H) (hS : va_S (pA 339 b) s.heap H locs) (hl : lv_has ls 3 [(0, .ref (b + 326)), (1, .int a1)]) : W p l e rm5_findRows s m args below meth c H locs 0 0 (MQ below (va_Qv (fun (M2 : Mem) => M2 = M') (fun M2 t => va_P z.1 vwCl (pw (xd z b) 339 b M2) t.heap) (pA 339 b)) args s 0 0 (pA 339 b)) (F0 m 0 ls []) := by
  have hx := C.1.1
  have hb := C.1.2.1
  unfold b5_findRows_0 at hf
  refine lv_aload_n hx hb dX5_findRows_0 rfl (lv_at hl 0 rfl) ?_
  refine lv_iload_n hx hb dX5_findRows_1 rfl (lv_at hl 1 rfl) ?_
  obtain ⟨r1, M2, h3, hf⟩ := bnd_s hf
  refine pcVi (As := [.int a1]) C hP hS (k := 326) (Nat.le_of_ble_eq_true rfl) (xd_326 _ _) rfl (c5_isTold  h3) y5_isTold_w g_889 rfl rfl rfl ⟨Nat.le_of_ble_eq_true rfl, Nat.le_of_ble_eq_true rfl⟩ hl.1 rfl (Nat.le_of_ble_eq_true rfl) dX5_findRows_2 ⟨Nat.le_of_ble_eq_true rfl, Nat.le_of_ble_eq_true rfl⟩ (fun H locs hP hS => ?_)
  refine lv_if_ne (tgt := 9) hx hb dX5_findRows_5 (by decide) (fun c4 => ?_) (fun c4 => ?_)
  · replace hf := ite_f c4 hf
    refine lv_iconst (v := (0 : Int32)) hx hb dX5_findRows_9 (by decide) ?_
    refine lv_istore_n (lv' := [(2, .int (0 : Int32)), (0, .ref (b + 326)), (1, .int a1)]) hx hb dX5_findRows_10 rfl hl (by decide) rfl (fun ls hl => ?_)
    exact w5_findRows_11 (n := n)  C hr hk q11 hf hP hS (lv_sub hl [1, 2, 0] rfl)
  · replace hf := ite_t c4 hf
    exact prV C hr hk hP hS hf dX5_findRows_8
set_option maxHeartbeats 4000000 in
set_option maxRecDepth 100000 in
theorem l5_findRows {p : Program} {l : Launch} {e : Env} {s : State} {m : MethodId} {args : Array Value} {below : List Frame} {meth : Method} {c : Code} {z : Zt} {b : Nat}  (C : Cx p s m args c cX5_findRows 3 RX5 z 339 b) (hr : meth.sig.returnType = none) (hk : meth.locks = false) {r : Unit} {M' : Mem} (n : Nat) : (∀ (i1 : Int32) (i2 : Int32) (M : Mem) (H : Heap) (locs : List Loc) (ls : Array Slot), (r5_findRows  n) 11 [i1, i2] [] M = some (r, M') → va_P z.1 vwCl (pw (xd z b) 339 b M) H → va_S (pA 339 b) s.heap H locs → lv_has ls 3 [(0, .ref (b + 326)), (1, .int i1), (2, .int i2)] → W p l e rm5_findRows s m args below meth c H locs 0 0 (MQ below (va_Qv (fun (M2 : Mem) => M2 = M') (fun M2 t => va_P z.1 vwCl (pw (xd z b) 339 b M2) t.heap) (pA 339 b)) args s 0 0 (pA 339 b)) (F0 m 11 ls [])) := by
  induction n with
  | zero => exact fun _ _ _ _ _ _ hf => (by cases hf)
  | succ n ih => exact fun _ _ _ _ _ _ hf hP hS hl => w5_findRows_11 (n := n)  C hr hk ih ((e5_findRows_11  n _ _ _).symm.trans hf) hP hS hl
theorem c5_findRows {l : Launch} {z : Zt} {b n : Nat}  {a1 : Int32} {M M' : Mem} {r : Unit} (hf : f5_findRows n  a1 M = some (r, M')) : CV l z (xd z b) 339 b yX5_findRows cX5_findRows 3 none rm5_findRows [.ref (b + 326), .int a1] M M' :=
  CV.ofW (lv := [(0, .ref (b + 326)), (1, .int a1)]) (by decide) (Nat.le_of_ble_eq_true rfl) rfl (fun p e s m args below meth c ls C hr hk hP hS hl => w5_findRows_0 (n := n)  C hr hk (l5_findRows  C hr hk n) hf hP hS hl)

-- BronzeKing$Rounds.choose(I)V
theorem dX5_choose_0 : decode cX5_choose 0 = .ok (.aload_n 0, 1) := by decide +kernel
theorem dX5_choose_1 : decode cX5_choose 1 = .ok (.getfield 22, 3) := by decide +kernel
theorem dX5_choose_4 : decode cX5_choose 4 = .ok (.aload_n 0, 1) := by decide +kernel
theorem dX5_choose_5 : decode cX5_choose 5 = .ok (.getfield 33, 3) := by decide +kernel
theorem dX5_choose_8 : decode cX5_choose 8 = .ok (.getfield 37, 3) := by decide +kernel
theorem dX5_choose_11 : decode cX5_choose 11 = .ok (.if_icmp .eq 38, 3) := by decide +kernel
theorem dX5_choose_14 : decode cX5_choose 14 = .ok (.aload_n 0, 1) := by decide +kernel
theorem dX5_choose_15 : decode cX5_choose 15 = .ok (.invokevirtual 42, 3) := by decide +kernel
theorem dX5_choose_18 : decode cX5_choose 18 = .ok (.iconst 0, 1) := by decide +kernel
theorem dX5_choose_19 : decode cX5_choose 19 = .ok (.istore_n 2, 1) := by decide +kernel
theorem dX5_choose_20 : decode cX5_choose 20 = .ok (.iload_n 2, 1) := by decide +kernel
theorem dX5_choose_21 : decode cX5_choose 21 = .ok (.sipush 512, 3) := by decide +kernel
theorem dX5_choose_24 : decode cX5_choose 24 = .ok (.if_icmp .ge 14, 3) := by decide +kernel
theorem dX5_choose_27 : decode cX5_choose 27 = .ok (.aload_n 0, 1) := by decide +kernel
theorem dX5_choose_28 : decode cX5_choose 28 = .ok (.iload_n 2, 1) := by decide +kernel
theorem dX5_choose_29 : decode cX5_choose 29 = .ok (.invokevirtual 45, 3) := by decide +kernel
theorem dX5_choose_32 : decode cX5_choose 32 = .ok (.iinc 2 1, 3) := by decide +kernel
theorem dX5_choose_35 : decode cX5_choose 35 = .ok (.goto (-15), 3) := by decide +kernel
theorem dX5_choose_38 : decode cX5_choose 38 = .ok (.aload_n 0, 1) := by decide +kernel
theorem dX5_choose_39 : decode cX5_choose 39 = .ok (.aload_n 0, 1) := by decide +kernel
theorem dX5_choose_40 : decode cX5_choose 40 = .ok (.getfield 33, 3) := by decide +kernel
theorem dX5_choose_43 : decode cX5_choose 43 = .ok (.getfield 37, 3) := by decide +kernel
theorem dX5_choose_46 : decode cX5_choose 46 = .ok (.putfield 22, 3) := by decide +kernel
theorem dX5_choose_49 : decode cX5_choose 49 = .ok (.aload_n 0, 1) := by decide +kernel
theorem dX5_choose_50 : decode cX5_choose 50 = .ok (.iconst 0, 1) := by decide +kernel
theorem dX5_choose_51 : decode cX5_choose 51 = .ok (.putfield 26, 3) := by decide +kernel
theorem dX5_choose_54 : decode cX5_choose 54 = .ok (.aload_n 0, 1) := by decide +kernel
theorem dX5_choose_55 : decode cX5_choose 55 = .ok (.lconst 0, 1) := by decide +kernel
theorem dX5_choose_56 : decode cX5_choose 56 = .ok (.putfield 29, 3) := by decide +kernel
theorem dX5_choose_59 : decode cX5_choose 59 = .ok (.iconst 1, 1) := by decide +kernel
theorem dX5_choose_60 : decode cX5_choose 60 = .ok (.istore_n 2, 1) := by decide +kernel
theorem dX5_choose_61 : decode cX5_choose 61 = .ok (.iload_n 2, 1) := by decide +kernel
theorem dX5_choose_62 : decode cX5_choose 62 = .ok (.sipush 512, 3) := by decide +kernel
theorem dX5_choose_65 : decode cX5_choose 65 = .ok (.if_icmp .ge 96, 3) := by decide +kernel
theorem dX5_choose_68 : decode cX5_choose 68 = .ok (.aload_n 0, 1) := by decide +kernel
theorem dX5_choose_69 : decode cX5_choose 69 = .ok (.getfield 11, 3) := by decide +kernel
theorem dX5_choose_72 : decode cX5_choose 72 = .ok (.iload_n 2, 1) := by decide +kernel
theorem dX5_choose_73 : decode cX5_choose 73 = .ok (.bipush 10, 2) := by decide +kernel
theorem dX5_choose_75 : decode cX5_choose 75 = .ok (.imul, 1) := by decide +kernel
theorem dX5_choose_76 : decode cX5_choose 76 = .ok (.laload, 1) := by decide +kernel
theorem dX5_choose_77 : decode cX5_choose 77 = .ok (.lstore_n 3, 1) := by decide +kernel
theorem dX5_choose_78 : decode cX5_choose 78 = .ok (.iload_n 2, 1) := by decide +kernel
theorem dX5_choose_79 : decode cX5_choose 79 = .ok (.invokestatic 49, 3) := by decide +kernel
theorem dX5_choose_82 : decode cX5_choose 82 = .ok (.istore 5, 2) := by decide +kernel
theorem dX5_choose_84 : decode cX5_choose 84 = .ok (.iload 5, 2) := by decide +kernel
theorem dX5_choose_86 : decode cX5_choose 86 = .ok (.aload_n 0, 1) := by decide +kernel
theorem dX5_choose_87 : decode cX5_choose 87 = .ok (.getfield 26, 3) := by decide +kernel
theorem dX5_choose_90 : decode cX5_choose 90 = .ok (.if_icmp .gt 21, 3) := by decide +kernel
theorem dX5_choose_93 : decode cX5_choose 93 = .ok (.iload 5, 2) := by decide +kernel
theorem dX5_choose_95 : decode cX5_choose 95 = .ok (.aload_n 0, 1) := by decide +kernel
theorem dX5_choose_96 : decode cX5_choose 96 = .ok (.getfield 26, 3) := by decide +kernel
theorem dX5_choose_99 : decode cX5_choose 99 = .ok (.if_icmp .ne 16, 3) := by decide +kernel
theorem dX5_choose_102 : decode cX5_choose 102 = .ok (.lload_n 3, 1) := by decide +kernel
theorem dX5_choose_103 : decode cX5_choose 103 = .ok (.aload_n 0, 1) := by decide +kernel
theorem dX5_choose_104 : decode cX5_choose 104 = .ok (.getfield 29, 3) := by decide +kernel
theorem dX5_choose_107 : decode cX5_choose 107 = .ok (.lcmp, 1) := by decide +kernel
theorem dX5_choose_108 : decode cX5_choose 108 = .ok (.ifCond .ge 7, 3) := by decide +kernel
theorem dX5_choose_111 : decode cX5_choose 111 = .ok (.iconst 1, 1) := by decide +kernel
theorem dX5_choose_112 : decode cX5_choose 112 = .ok (.goto 4, 3) := by decide +kernel
theorem dX5_choose_115 : decode cX5_choose 115 = .ok (.iconst 0, 1) := by decide +kernel
theorem dX5_choose_116 : decode cX5_choose 116 = .ok (.istore 6, 2) := by decide +kernel
theorem dX5_choose_118 : decode cX5_choose 118 = .ok (.aload_n 0, 1) := by decide +kernel
theorem dX5_choose_119 : decode cX5_choose 119 = .ok (.iload_n 2, 1) := by decide +kernel
theorem dX5_choose_120 : decode cX5_choose 120 = .ok (.invokevirtual 55, 3) := by decide +kernel
theorem dX5_choose_123 : decode cX5_choose 123 = .ok (.ifCond .eq 32, 3) := by decide +kernel
theorem dX5_choose_126 : decode cX5_choose 126 = .ok (.iload 6, 2) := by decide +kernel
theorem dX5_choose_128 : decode cX5_choose 128 = .ok (.ifCond .eq 27, 3) := by decide +kernel
theorem dX5_choose_131 : decode cX5_choose 131 = .ok (.lload_n 3, 1) := by decide +kernel
theorem dX5_choose_132 : decode cX5_choose 132 = .ok (.iload_n 1, 1) := by decide +kernel
theorem dX5_choose_133 : decode cX5_choose 133 = .ok (.iconst 1, 1) := by decide +kernel
theorem dX5_choose_134 : decode cX5_choose 134 = .ok (.iadd, 1) := by decide +kernel
theorem dX5_choose_135 : decode cX5_choose 135 = .ok (.i2l, 1) := by decide +kernel
theorem dX5_choose_136 : decode cX5_choose 136 = .ok (.ldc2_w 59, 3) := by decide +kernel
theorem dX5_choose_139 : decode cX5_choose 139 = .ok (.lmul, 1) := by decide +kernel
theorem dX5_choose_140 : decode cX5_choose 140 = .ok (.lcmp, 1) := by decide +kernel
theorem dX5_choose_141 : decode cX5_choose 141 = .ok (.ifCond .ge 14, 3) := by decide +kernel
theorem dX5_choose_144 : decode cX5_choose 144 = .ok (.aload_n 0, 1) := by decide +kernel
theorem dX5_choose_145 : decode cX5_choose 145 = .ok (.iload 5, 2) := by decide +kernel
theorem dX5_choose_147 : decode cX5_choose 147 = .ok (.putfield 26, 3) := by decide +kernel
theorem dX5_choose_150 : decode cX5_choose 150 = .ok (.aload_n 0, 1) := by decide +kernel
theorem dX5_choose_151 : decode cX5_choose 151 = .ok (.lload_n 3, 1) := by decide +kernel
theorem dX5_choose_152 : decode cX5_choose 152 = .ok (.putfield 29, 3) := by decide +kernel
theorem dX5_choose_155 : decode cX5_choose 155 = .ok (.iinc 2 1, 3) := by decide +kernel
theorem dX5_choose_158 : decode cX5_choose 158 = .ok (.goto (-97), 3) := by decide +kernel
theorem dX5_choose_161 : decode cX5_choose 161 = .ok (.return_, 1) := by decide +kernel
def b5_choose_155 (rc : Nat → List Int32 → List Int64 → Mem → Option (Unit × Mem)) (n : Nat) (i1 : Int32) (i2 : Int32) (M : Mem) : Option (Unit × Mem) :=
  lt (i2 + (1 : Int32)) fun v30 =>
  rc 61 [i1, v30] [] M
def b5_choose_116 (rc : Nat → List Int32 → List Int64 → Mem → Option (Unit × Mem)) (n : Nat) (i1 : Int32) (i2 : Int32) (i5 : Int32) (s0 : Int32) (j3 : Int64) (M : Mem) : Option (Unit × Mem) :=
  bnd (f5_isTold n i2 M) fun r22 M23 =>
  (if r22 = 0 then (
   b5_choose_155  rc n i1 i2 M23)
  else (
   (if s0 = 0 then (
    b5_choose_155  rc n i1 i2 M23)
   else (
    (if 0 ≤ (lg_cmp j3 ((i1 + (1 : Int32)).toInt64 * (1000000000 : Int64))) then (
     b5_choose_155  rc n i1 i2 M23)
    else (
     lt (wI M23 326 5 i5) fun M28 =>
     lt (wJ M28 326 6 j3) fun M29 =>
     b5_choose_155  rc n i1 i2 M29))))))
def b5_choose_111 (rc : Nat → List Int32 → List Int64 → Mem → Option (Unit × Mem)) (n : Nat) (i1 : Int32) (i2 : Int32) (i5 : Int32) (j3 : Int64) (M : Mem) : Option (Unit × Mem) :=
  b5_choose_116  rc n i1 i2 i5 (1 : Int32) j3 M
def b5_choose_115 (rc : Nat → List Int32 → List Int64 → Mem → Option (Unit × Mem)) (n : Nat) (i1 : Int32) (i2 : Int32) (i5 : Int32) (j3 : Int64) (M : Mem) : Option (Unit × Mem) :=
  b5_choose_116  rc n i1 i2 i5 (0 : Int32) j3 M
def b5_choose_61 (rc : Nat → List Int32 → List Int64 → Mem → Option (Unit × Mem)) (n : Nat) (i1 : Int32) (i2 : Int32) (M : Mem) : Option (Unit × Mem) :=
  (if (512 : Int32) ≤ i2 then (
   some ((), M))
  else (
   chk (inb (i2 * (10 : Int32)) 5120) <|
   lt (M.2 327 (i2 * (10 : Int32)).toNatClampNeg) fun v15 =>
   bnd (fZJ6_bitCount_0f7a4 n i2 M) fun r16 M17 =>
   (if (M17.1 326 5) < r16 then (
    b5_choose_111  rc n i1 i2 r16 v15 M17)
   else (
    (if r16 = (M17.1 326 5) then (
     (if 0 ≤ (lg_cmp v15 (M17.2 326 6)) then (
      b5_choose_115  rc n i1 i2 r16 v15 M17)
     else (
      b5_choose_111  rc n i1 i2 r16 v15 M17)))
    else (
     b5_choose_115  rc n i1 i2 r16 v15 M17))))))
def b5_choose_49 (rc : Nat → List Int32 → List Int64 → Mem → Option (Unit × Mem)) (n : Nat) (i1 : Int32) (M : Mem) : Option (Unit × Mem) :=
  lt (wI M 326 5 (0 : Int32)) fun M11 =>
  lt (wJ M11 326 6 (0 : Int64)) fun M12 =>
  b5_choose_61  rc n i1 (1 : Int32) M12
def b5_choose_20 (rc : Nat → List Int32 → List Int64 → Mem → Option (Unit × Mem)) (n : Nat) (i1 : Int32) (i2 : Int32) (M : Mem) : Option (Unit × Mem) :=
  (if (512 : Int32) ≤ i2 then (
   lt (wI M 326 4 (M.1 3 9)) fun M6 =>
   b5_choose_49  rc n i1 M6)
  else (
   bnd (f5_findRows n i2 M) fun r7 M8 =>
   lt (i2 + (1 : Int32)) fun v10 =>
   rc 20 [i1, v10] [] M8))
def b5_choose_0 (rc : Nat → List Int32 → List Int64 → Mem → Option (Unit × Mem)) (n : Nat) (a1 : Int32) (M : Mem) : Option (Unit × Mem) :=
  (if (M.1 326 4) = (M.1 3 9) then (
   b5_choose_49  rc n a1 M)
  else (
   bnd (f5_measure n M) fun r2 M3 =>
   b5_choose_20  rc n a1 (0 : Int32) M3))
def r5_choose : Nat → Nat → List Int32 → List Int64 → Mem → Option (Unit × Mem)
  | 0 => fun _ _ _ _ => none
  | n + 1 => fun pc li lj M =>
    if pc = 20 then (match li, lj with | [i1, i2], [] => b5_choose_20  (r5_choose  n) n i1 i2 M | _, _ => none) else
    if pc = 61 then (match li, lj with | [i1, i2], [] => b5_choose_61  (r5_choose  n) n i1 i2 M | _, _ => none) else
    none
theorem e5_choose_20  (n : Nat) (i1 : Int32) (i2 : Int32) (M : Mem) : r5_choose  (n + 1) 20 [i1, i2] [] M = b5_choose_20  (r5_choose  n) n i1 i2 M := by
  rw [r5_choose]
  simp
theorem e5_choose_61  (n : Nat) (i1 : Int32) (i2 : Int32) (M : Mem) : r5_choose  (n + 1) 61 [i1, i2] [] M = b5_choose_61  (r5_choose  n) n i1 i2 M := by
  rw [r5_choose]
  simp
def f5_choose (n : Nat) (a1 : Int32) (M : Mem) : Option (Unit × Mem) := b5_choose_0 (r5_choose n) n a1 M
abbrev rm5_choose : Room := { frames := 3, cells := 0, slots := 0, locals := 74 }
theorem y5_choose_w : yV RX5 yX5_choose cX5_choose 7 none 1 := ⟨g_873, g_874, g_12, g_875, rfl, by decide, by decide, by decide +kernel⟩
set_option maxHeartbeats 4000000 in
set_option maxRecDepth 100000 in
theorem w5_choose_155 {p : Program} {l : Launch} {e : Env} {s : State} {m : MethodId} {args : Array Value} {below : List Frame} {meth : Method} {c : Code} {z : Zt} {b : Nat}  (C : Cx p s m args c cX5_choose 7 RX5 z 339 b) (hr : meth.sig.returnType = none) (hk : meth.locks = false) {r : Unit} {M' : Mem} {rc : Nat → List Int32 → List Int64 → Mem → Option (Unit × Mem)} {n : Nat} (q20 : ∀ (i1 : Int32) (i2 : Int32) (M : Mem) (H : Heap) (locs : List Loc) (ls : Array Slot), rc 20 [i1, i2] [] M = some (r, M') → va_P z.1 vwCl (pw (xd z b) 339 b M) H → va_S (pA 339 b) s.heap H locs → lv_has ls 7 [(0, .ref (b + 326)), (1, .int i1), (2, .int i2)] → W p l e rm5_choose s m args below meth c H locs 0 0 (MQ below (va_Qv (fun (M2 : Mem) => M2 = M') (fun M2 t => va_P z.1 vwCl (pw (xd z b) 339 b M2) t.heap) (pA 339 b)) args s 0 0 (pA 339 b)) (F0 m 20 ls [])) (q61 : ∀ (i1 : Int32) (i2 : Int32) (M : Mem) (H : Heap) (locs : List Loc) (ls : Array Slot), rc 61 [i1, i2] [] M = some (r, M') → va_P z.1 vwCl (pw (xd z b) 339 b M) H → va_S (pA 339 b) s.heap H locs → lv_has ls 7 [(0, .ref (b + 326)), (1, .int i1), (2, .int i2)] → W p l e rm5_choose s m args below meth c H locs 0 0 (MQ below (va_Qv (fun (M2 : Mem) => M2 = M') (fun M2 t => va_P z.1 vwCl (pw (xd z b) 339 b M2) t.heap) (pA 339 b)) args s 0 0 (pA 339 b)) (F0 m 61 ls [])) {i1 : Int32} {i2 : Int32} {M : Mem} {H : Heap} {locs : List Loc} {ls : Array Slot} (hf : b5_choose_155  rc n i1 i2 M = some (r, M')) (hP : va_P z.1 vwCl (pw (xd z b) 339 b M) H) (hS : va_S (pA 339 b) s.heap H locs) (hl : lv_has ls 7 [(0, .ref (b + 326)), (1, .int i1), (2, .int i2)]) : W p l e rm5_choose s m args below meth c H locs 0 0 (MQ below (va_Qv (fun (M2 : Mem) => M2 = M') (fun M2 t => va_P z.1 vwCl (pw (xd z b) 339 b M2) t.heap) (pA 339 b)) args s 0 0 (pA 339 b)) (F0 m 155 ls []) := by
  have hx := C.1.1
  have hb := C.1.2.1
  unfold b5_choose_155 at hf
  obtain ⟨v30, ev30⟩ : ∃ v : Int32, v = i2 + (1 : Int32) := ⟨_, rfl⟩
  replace hf := lt_c ev30 hf
  refine lv_iinc (v := v30) (lv' := [(2, .int v30), (0, .ref (b + 326)), (1, .int i1)]) hx hb dX5_choose_155 hl (k := 2) rfl (by rw [ev30]; rfl) (by decide) rfl (fun ls hl => ?_)
  refine lv_goto (tgt := 61) hx hb dX5_choose_158 (by decide) ?_
  exact q61 i1 v30 M _ _ _ hf hP hS (lv_sub hl [1, 2, 0] rfl)
set_option maxHeartbeats 4000000 in
set_option maxRecDepth 100000 in
theorem w5_choose_116 {p : Program} {l : Launch} {e : Env} {s : State} {m : MethodId} {args : Array Value} {below : List Frame} {meth : Method} {c : Code} {z : Zt} {b : Nat}  (C : Cx p s m args c cX5_choose 7 RX5 z 339 b) (hr : meth.sig.returnType = none) (hk : meth.locks = false) {r : Unit} {M' : Mem} {rc : Nat → List Int32 → List Int64 → Mem → Option (Unit × Mem)} {n : Nat} (q20 : ∀ (i1 : Int32) (i2 : Int32) (M : Mem) (H : Heap) (locs : List Loc) (ls : Array Slot), rc 20 [i1, i2] [] M = some (r, M') → va_P z.1 vwCl (pw (xd z b) 339 b M) H → va_S (pA 339 b) s.heap H locs → lv_has ls 7 [(0, .ref (b + 326)), (1, .int i1), (2, .int i2)] → W p l e rm5_choose s m args below meth c H locs 0 0 (MQ below (va_Qv (fun (M2 : Mem) => M2 = M') (fun M2 t => va_P z.1 vwCl (pw (xd z b) 339 b M2) t.heap) (pA 339 b)) args s 0 0 (pA 339 b)) (F0 m 20 ls [])) (q61 : ∀ (i1 : Int32) (i2 : Int32) (M : Mem) (H : Heap) (locs : List Loc) (ls : Array Slot), rc 61 [i1, i2] [] M = some (r, M') → va_P z.1 vwCl (pw (xd z b) 339 b M) H → va_S (pA 339 b) s.heap H locs → lv_has ls 7 [(0, .ref (b + 326)), (1, .int i1), (2, .int i2)] → W p l e rm5_choose s m args below meth c H locs 0 0 (MQ below (va_Qv (fun (M2 : Mem) => M2 = M') (fun M2 t => va_P z.1 vwCl (pw (xd z b) 339 b M2) t.heap) (pA 339 b)) args s 0 0 (pA 339 b)) (F0 m 61 ls [])) {i1 : Int32} {i2 : Int32} {i5 : Int32} {s0 : Int32} {j3 : Int64} {M : Mem} {H : Heap} {locs : List Loc} {ls : Array Slot} (hf : b5_choose_116  rc n i1 i2 i5 s0 j3 M = some (r, M')) (hP : va_P z.1 vwCl (pw (xd z b) 339 b M) H) (hS : va_S (pA 339 b) s.heap H locs) (hl : lv_has ls 7 [(0, .ref (b + 326)), (1, .int i1), (2, .int i2), (3, .long j3), (5, .int i5)]) : W p l e rm5_choose s m args below meth c H locs 0 0 (MQ below (va_Qv (fun (M2 : Mem) => M2 = M') (fun M2 t => va_P z.1 vwCl (pw (xd z b) 339 b M2) t.heap) (pA 339 b)) args s 0 0 (pA 339 b)) (F0 m 116 ls [.int s0]) := by
  have hx := C.1.1
  have hb := C.1.2.1
  unfold b5_choose_116 at hf
  refine lv_istore (lv' := [(6, .int s0), (0, .ref (b + 326)), (1, .int i1), (2, .int i2), (3, .long j3), (5, .int i5)]) hx hb dX5_choose_116 hl (by decide) rfl (fun ls hl => ?_)
  refine lv_aload_n hx hb dX5_choose_118 rfl (lv_at hl 1 rfl) ?_
  refine lv_iload_n hx hb dX5_choose_119 rfl (lv_at hl 3 rfl) ?_
  obtain ⟨r22, M23, h24, hf⟩ := bnd_s hf
  refine pcVi (As := [.int i2]) C hP hS (k := 326) (Nat.le_of_ble_eq_true rfl) (xd_326 _ _) rfl (c5_isTold  h24) y5_isTold_w g_889 rfl rfl rfl ⟨Nat.le_of_ble_eq_true rfl, Nat.le_of_ble_eq_true rfl⟩ hl.1 rfl (Nat.le_of_ble_eq_true rfl) dX5_choose_120 ⟨Nat.le_of_ble_eq_true rfl, Nat.le_of_ble_eq_true rfl⟩ (fun H locs hP hS => ?_)
  refine lv_if_eq (tgt := 155) hx hb dX5_choose_123 (by decide) (fun c25 => ?_) (fun c25 => ?_)
  · replace hf := ite_t c25 hf
    exact w5_choose_155 (n := n)  C hr hk q20 q61 hf hP hS (lv_sub hl [1, 2, 3] rfl)
  · replace hf := ite_f c25 hf
    refine lv_iload hx hb dX5_choose_126 (lv_at hl 0 rfl) ?_
    refine lv_if_eq (tgt := 155) hx hb dX5_choose_128 (by decide) (fun c26 => ?_) (fun c26 => ?_)
    · replace hf := ite_t c26 hf
      exact w5_choose_155 (n := n)  C hr hk q20 q61 hf hP hS (lv_sub hl [1, 2, 3] rfl)
    · replace hf := ite_f c26 hf
      refine lv_lload_n hx hb dX5_choose_131 rfl (lv_at hl 4 rfl) ?_
      refine lv_iload_n hx hb dX5_choose_132 rfl (lv_at hl 2 rfl) ?_
      refine lv_iconst (v := (1 : Int32)) hx hb dX5_choose_133 (by decide) ?_
      refine lv_iadd hx hb dX5_choose_134 ?_
      refine lv_i2l hx hb dX5_choose_135 rfl ?_
      refine lv_ldc2 hx hb C.1.2.2.2.1 (C.1.2.2.2.2 _ g_898) dX5_choose_136 ?_
      refine lv_lmul hx hb dX5_choose_139 ?_
      refine W.lcmp hx hb dX5_choose_140 ?_
      refine lv_if_ge (tgt := 155) hx hb dX5_choose_141 (by decide) (fun c27 => ?_) (fun c27 => ?_)
      · replace hf := ite_t c27 hf
        exact w5_choose_155 (n := n)  C hr hk q20 q61 hf hP hS (lv_sub hl [1, 2, 3] rfl)
      · replace hf := ite_f c27 hf
        refine lv_aload_n hx hb dX5_choose_144 rfl (lv_at hl 1 rfl) ?_
        refine lv_iload hx hb dX5_choose_145 (lv_at hl 5 rfl) ?_
        refine ppI C hP hS (k := 326) (j := 5) (ty := .int) (Nat.le_of_ble_eq_true rfl) (xd_326 _ _) rfl iw_5 tyX5 tyX5_ok nmX5 (Nat.le_of_ble_eq_true rfl) g_328 rfl rfl (by decide +kernel) rfl rfl (Nat.le_of_ble_eq_true rfl) (xu_326_5 _ _ _) dX5_choose_147 (fun M28 H locs eM28 hP hS => ?_)
        replace hf := lt_c eM28 hf
        refine lv_aload_n hx hb dX5_choose_150 rfl (lv_at hl 1 rfl) ?_
        refine lv_lload_n hx hb dX5_choose_151 rfl (lv_at hl 4 rfl) ?_
        refine ppJ C hP hS (k := 326) (j := 6) (ty := .long) (Nat.le_of_ble_eq_true rfl) (xd_326 _ _) rfl iw_5 tyX5 tyX5_ok nmX5 (Nat.le_of_ble_eq_true rfl) g_330 rfl rfl (by decide +kernel) rfl rfl (Nat.le_of_ble_eq_true rfl) (xu_326_6 _ _ _) dX5_choose_152 (fun M29 H locs eM29 hP hS => ?_)
        replace hf := lt_c eM29 hf
        exact w5_choose_155 (n := n)  C hr hk q20 q61 hf hP hS (lv_sub hl [1, 2, 3] rfl)
set_option maxHeartbeats 4000000 in
set_option maxRecDepth 100000 in
theorem w5_choose_111 {p : Program} {l : Launch} {e : Env} {s : State} {m : MethodId} {args : Array Value} {below : List Frame} {meth : Method} {c : Code} {z : Zt} {b : Nat}  (C : Cx p s m args c cX5_choose 7 RX5 z 339 b) (hr : meth.sig.returnType = none) (hk : meth.locks = false) {r : Unit} {M' : Mem} {rc : Nat → List Int32 → List Int64 → Mem → Option (Unit × Mem)} {n : Nat} (q20 : ∀ (i1 : Int32) (i2 : Int32) (M : Mem) (H : Heap) (locs : List Loc) (ls : Array Slot), rc 20 [i1, i2] [] M = some (r, M') → va_P z.1 vwCl (pw (xd z b) 339 b M) H → va_S (pA 339 b) s.heap H locs → lv_has ls 7 [(0, .ref (b + 326)), (1, .int i1), (2, .int i2)] → W p l e rm5_choose s m args below meth c H locs 0 0 (MQ below (va_Qv (fun (M2 : Mem) => M2 = M') (fun M2 t => va_P z.1 vwCl (pw (xd z b) 339 b M2) t.heap) (pA 339 b)) args s 0 0 (pA 339 b)) (F0 m 20 ls [])) (q61 : ∀ (i1 : Int32) (i2 : Int32) (M : Mem) (H : Heap) (locs : List Loc) (ls : Array Slot), rc 61 [i1, i2] [] M = some (r, M') → va_P z.1 vwCl (pw (xd z b) 339 b M) H → va_S (pA 339 b) s.heap H locs → lv_has ls 7 [(0, .ref (b + 326)), (1, .int i1), (2, .int i2)] → W p l e rm5_choose s m args below meth c H locs 0 0 (MQ below (va_Qv (fun (M2 : Mem) => M2 = M') (fun M2 t => va_P z.1 vwCl (pw (xd z b) 339 b M2) t.heap) (pA 339 b)) args s 0 0 (pA 339 b)) (F0 m 61 ls [])) {i1 : Int32} {i2 : Int32} {i5 : Int32} {j3 : Int64} {M : Mem} {H : Heap} {locs : List Loc} {ls : Array Slot} (hf : b5_choose_111  rc n i1 i2 i5 j3 M = some (r, M')) (hP : va_P z.1 vwCl (pw (xd z b) 339 b M) H) (hS : va_S (pA 339 b) s.heap H locs) (hl : lv_has ls 7 [(0, .ref (b + 326)), (1, .int i1), (2, .int i2), (3, .long j3), (5, .int i5)]) : W p l e rm5_choose s m args below meth c H locs 0 0 (MQ below (va_Qv (fun (M2 : Mem) => M2 = M') (fun M2 t => va_P z.1 vwCl (pw (xd z b) 339 b M2) t.heap) (pA 339 b)) args s 0 0 (pA 339 b)) (F0 m 111 ls []) := by
  have hx := C.1.1
  have hb := C.1.2.1
  unfold b5_choose_111 at hf
  refine lv_iconst (v := (1 : Int32)) hx hb dX5_choose_111 (by decide) ?_
  refine lv_goto (tgt := 116) hx hb dX5_choose_112 (by decide) ?_
  exact w5_choose_116 (n := n)  C hr hk q20 q61 hf hP hS (lv_sub hl [0, 1, 2, 3, 4] rfl)
set_option maxHeartbeats 4000000 in
set_option maxRecDepth 100000 in
theorem w5_choose_115 {p : Program} {l : Launch} {e : Env} {s : State} {m : MethodId} {args : Array Value} {below : List Frame} {meth : Method} {c : Code} {z : Zt} {b : Nat}  (C : Cx p s m args c cX5_choose 7 RX5 z 339 b) (hr : meth.sig.returnType = none) (hk : meth.locks = false) {r : Unit} {M' : Mem} {rc : Nat → List Int32 → List Int64 → Mem → Option (Unit × Mem)} {n : Nat} (q20 : ∀ (i1 : Int32) (i2 : Int32) (M : Mem) (H : Heap) (locs : List Loc) (ls : Array Slot), rc 20 [i1, i2] [] M = some (r, M') → va_P z.1 vwCl (pw (xd z b) 339 b M) H → va_S (pA 339 b) s.heap H locs → lv_has ls 7 [(0, .ref (b + 326)), (1, .int i1), (2, .int i2)] → W p l e rm5_choose s m args below meth c H locs 0 0 (MQ below (va_Qv (fun (M2 : Mem) => M2 = M') (fun M2 t => va_P z.1 vwCl (pw (xd z b) 339 b M2) t.heap) (pA 339 b)) args s 0 0 (pA 339 b)) (F0 m 20 ls [])) (q61 : ∀ (i1 : Int32) (i2 : Int32) (M : Mem) (H : Heap) (locs : List Loc) (ls : Array Slot), rc 61 [i1, i2] [] M = some (r, M') → va_P z.1 vwCl (pw (xd z b) 339 b M) H → va_S (pA 339 b) s.heap H locs → lv_has ls 7 [(0, .ref (b + 326)), (1, .int i1), (2, .int i2)] → W p l e rm5_choose s m args below meth c H locs 0 0 (MQ below (va_Qv (fun (M2 : Mem) => M2 = M') (fun M2 t => va_P z.1 vwCl (pw (xd z b) 339 b M2) t.heap) (pA 339 b)) args s 0 0 (pA 339 b)) (F0 m 61 ls [])) {i1 : Int32} {i2 : Int32} {i5 : Int32} {j3 : Int64} {M : Mem} {H : Heap} {locs : List Loc} {ls : Array Slot} (hf : b5_choose_115  rc n i1 i2 i5 j3 M = some (r, M')) (hP : va_P z.1 vwCl (pw (xd z b) 339 b M) H) (hS : va_S (pA 339 b) s.heap H locs) (hl : lv_has ls 7 [(0, .ref (b + 326)), (1, .int i1), (2, .int i2), (3, .long j3), (5, .int i5)]) : W p l e rm5_choose s m args below meth c H locs 0 0 (MQ below (va_Qv (fun (M2 : Mem) => M2 = M') (fun M2 t => va_P z.1 vwCl (pw (xd z b) 339 b M2) t.heap) (pA 339 b)) args s 0 0 (pA 339 b)) (F0 m 115 ls []) := by
  have hx := C.1.1
  have hb := C.1.2.1
  unfold b5_choose_115 at hf
  refine lv_iconst (v := (0 : Int32)) hx hb dX5_choose_115 (by decide) ?_
  exact w5_choose_116 (n := n)  C hr hk q20 q61 hf hP hS (lv_sub hl [0, 1, 2, 3, 4] rfl)
set_option maxHeartbeats 4000000 in
set_option maxRecDepth 100000 in
theorem w5_choose_61 {p : Program} {l : Launch} {e : Env} {s : State} {m : MethodId} {args : Array Value} {below : List Frame} {meth : Method} {c : Code} {z : Zt} {b : Nat}  (C : Cx p s m args c cX5_choose 7 RX5 z 339 b) (hr : meth.sig.returnType = none) (hk : meth.locks = false) {r : Unit} {M' : Mem} {rc : Nat → List Int32 → List Int64 → Mem → Option (Unit × Mem)} {n : Nat} (q20 : ∀ (i1 : Int32) (i2 : Int32) (M : Mem) (H : Heap) (locs : List Loc) (ls : Array Slot), rc 20 [i1, i2] [] M = some (r, M') → va_P z.1 vwCl (pw (xd z b) 339 b M) H → va_S (pA 339 b) s.heap H locs → lv_has ls 7 [(0, .ref (b + 326)), (1, .int i1), (2, .int i2)] → W p l e rm5_choose s m args below meth c H locs 0 0 (MQ below (va_Qv (fun (M2 : Mem) => M2 = M') (fun M2 t => va_P z.1 vwCl (pw (xd z b) 339 b M2) t.heap) (pA 339 b)) args s 0 0 (pA 339 b)) (F0 m 20 ls [])) (q61 : ∀ (i1 : Int32) (i2 : Int32) (M : Mem) (H : Heap) (locs : List Loc) (ls : Array Slot), rc 61 [i1, i2] [] M = some (r, M') → va_P z.1 vwCl (pw (xd z b) 339 b M) H → va_S (pA 339 b) s.heap H locs → lv_has ls 7 [(0, .ref (b + 326)), (1, .int i1), (2, .int i2)] → W p l e rm5_choose s m args below meth c H locs 0 0 (MQ below (va_Qv (fun (M2 : Mem) => M2 = M') (fun M2 t => va_P z.1 vwCl (pw (xd z b) 339 b M2) t.heap) (pA 339 b)) args s 0 0 (pA 339 b)) (F0 m 61 ls [])) {i1 : Int32} {i2 : Int32} {M : Mem} {H : Heap} {locs : List Loc} {ls : Array Slot} (hf : b5_choose_61  rc n i1 i2 M = some (r, M')) (hP : va_P z.1 vwCl (pw (xd z b) 339 b M) H) (hS : va_S (pA 339 b) s.heap H locs) (hl : lv_has ls 7 [(0, .ref (b + 326)), (1, .int i1), (2, .int i2)]) : W p l e rm5_choose s m args below meth c H locs 0 0 (MQ below (va_Qv (fun (M2 : Mem) => M2 = M') (fun M2 t => va_P z.1 vwCl (pw (xd z b) 339 b M2) t.heap) (pA 339 b)) args s 0 0 (pA 339 b)) (F0 m 61 ls []) := by
  have hx := C.1.1
  have hb := C.1.2.1
  unfold b5_choose_61 at hf
  refine lv_iload_n hx hb dX5_choose_61 rfl (lv_at hl 2 rfl) ?_
  refine lv_sipush (v := (512 : Int32)) hx hb dX5_choose_62 (by decide) ?_
  refine lv_icmp_ge (tgt := 161) hx hb dX5_choose_65 (by decide) (fun c13 => ?_) (fun c13 => ?_)
  · replace hf := ite_t c13 hf
    exact prV C hr hk hP hS hf dX5_choose_161
  · replace hf := ite_f c13 hf
    refine lv_aload_n hx hb dX5_choose_68 rfl (lv_at hl 0 rfl) ?_
    refine pg C hP (k := 326) (j := 1) (Nat.le_of_ble_eq_true rfl) (xd_326 _ _) rfl iw_5 (Nat.le_of_ble_eq_true rfl) g_324 rfl rfl dX5_choose_69 ?_
    refine lv_iload_n hx hb dX5_choose_72 rfl (lv_at hl 2 rfl) ?_
    refine lv_bipush (v := (10 : Int32)) hx hb dX5_choose_73 (by decide) ?_
    refine lv_imul hx hb dX5_choose_75 ?_
    have h14 := chk_1 hf
    replace hf := chk_2 hf
    refine paJ C hP (k := 327) (Nat.le_of_ble_eq_true rfl) (xd_327 _ _) h14 dX5_choose_76 ?_
    refine lv_topl (fun v15 ev15 => ?_)
    replace hf := lt_c ev15 hf
    refine lv_lstore_n (lv' := [(3, .long v15), (0, .ref (b + 326)), (1, .int i1), (2, .int i2)]) hx hb dX5_choose_77 rfl hl (by decide) rfl (fun ls hl => ?_)
    refine lv_iload_n hx hb dX5_choose_78 rfl (lv_at hl 3 rfl) ?_
    obtain ⟨r16, M17, h18, hf⟩ := bnd_s hf
    refine pcSi (As := [.int i2]) C hP hS (cZJ6_bitCount_0f7a4  h18) yZJ6_bitCount_0f7a4_w g_897 rfl rfl rfl ⟨Nat.le_of_ble_eq_true rfl, Nat.le_of_ble_eq_true rfl⟩ hl.1 rfl (Nat.le_of_ble_eq_true rfl) dX5_choose_79 ⟨Nat.le_of_ble_eq_true rfl, Nat.le_of_ble_eq_true rfl⟩ (fun H locs hP hS => ?_)
    refine lv_istore (lv' := [(5, .int r16), (3, .long v15), (0, .ref (b + 326)), (1, .int i1), (2, .int i2)]) hx hb dX5_choose_82 hl (by decide) rfl (fun ls hl => ?_)
    refine lv_iload hx hb dX5_choose_84 (lv_at hl 0 rfl) ?_
    refine lv_aload_n hx hb dX5_choose_86 rfl (lv_at hl 2 rfl) ?_
    refine pg C hP (k := 326) (j := 5) (Nat.le_of_ble_eq_true rfl) (xd_326 _ _) rfl iw_5 (Nat.le_of_ble_eq_true rfl) g_328 rfl rfl dX5_choose_87 ?_
    refine lv_icmp_gt (tgt := 111) hx hb dX5_choose_90 (by decide) (fun c19 => ?_) (fun c19 => ?_)
    · replace hf := ite_t c19 hf
      exact w5_choose_111 (n := n)  C hr hk q20 q61 hf hP hS (lv_sub hl [2, 3, 4, 1, 0] rfl)
    · replace hf := ite_f c19 hf
      refine lv_iload hx hb dX5_choose_93 (lv_at hl 0 rfl) ?_
      refine lv_aload_n hx hb dX5_choose_95 rfl (lv_at hl 2 rfl) ?_
      refine pg C hP (k := 326) (j := 5) (Nat.le_of_ble_eq_true rfl) (xd_326 _ _) rfl iw_5 (Nat.le_of_ble_eq_true rfl) g_328 rfl rfl dX5_choose_96 ?_
      refine lv_icmp_ne (tgt := 115) hx hb dX5_choose_99 (by decide) (fun c20 => ?_) (fun c20 => ?_)
      · replace hf := ite_f c20 hf
        exact w5_choose_115 (n := n)  C hr hk q20 q61 hf hP hS (lv_sub hl [2, 3, 4, 1, 0] rfl)
      · replace hf := ite_t c20 hf
        refine lv_lload_n hx hb dX5_choose_102 rfl (lv_at hl 1 rfl) ?_
        refine lv_aload_n hx hb dX5_choose_103 rfl (lv_at hl 2 rfl) ?_
        refine pg C hP (k := 326) (j := 6) (Nat.le_of_ble_eq_true rfl) (xd_326 _ _) rfl iw_5 (Nat.le_of_ble_eq_true rfl) g_330 rfl rfl dX5_choose_104 ?_
        refine W.lcmp hx hb dX5_choose_107 ?_
        refine lv_if_ge (tgt := 115) hx hb dX5_choose_108 (by decide) (fun c21 => ?_) (fun c21 => ?_)
        · replace hf := ite_t c21 hf
          exact w5_choose_115 (n := n)  C hr hk q20 q61 hf hP hS (lv_sub hl [2, 3, 4, 1, 0] rfl)
        · replace hf := ite_f c21 hf
          exact w5_choose_111 (n := n)  C hr hk q20 q61 hf hP hS (lv_sub hl [2, 3, 4, 1, 0] rfl)
set_option maxHeartbeats 4000000 in
set_option maxRecDepth 100000 in
theorem w5_choose_49 {p : Program} {l : Launch} {e : Env} {s : State} {m : MethodId} {args : Array Value} {below : List Frame} {meth : Method} {c : Code} {z : Zt} {b : Nat}  (C : Cx p s m args c cX5_choose 7 RX5 z 339 b) (hr : meth.sig.returnType = none) (hk : meth.locks = false) {r : Unit} {M' : Mem} {rc : Nat → List Int32 → List Int64 → Mem → Option (Unit × Mem)} {n : Nat} (q20 : ∀ (i1 : Int32) (i2 : Int32) (M : Mem) (H : Heap) (locs : List Loc) (ls : Array Slot), rc 20 [i1, i2] [] M = some (r, M') → va_P z.1 vwCl (pw (xd z b) 339 b M) H → va_S (pA 339 b) s.heap H locs → lv_has ls 7 [(0, .ref (b + 326)), (1, .int i1), (2, .int i2)] → W p l e rm5_choose s m args below meth c H locs 0 0 (MQ below (va_Qv (fun (M2 : Mem) => M2 = M') (fun M2 t => va_P z.1 vwCl (pw (xd z b) 339 b M2) t.heap) (pA 339 b)) args s 0 0 (pA 339 b)) (F0 m 20 ls [])) (q61 : ∀ (i1 : Int32) (i2 : Int32) (M : Mem) (H : Heap) (locs : List Loc) (ls : Array Slot), rc 61 [i1, i2] [] M = some (r, M') → va_P z.1 vwCl (pw (xd z b) 339 b M) H → va_S (pA 339 b) s.heap H locs → lv_has ls 7 [(0, .ref (b + 326)), (1, .int i1), (2, .int i2)] → W p l e rm5_choose s m args below meth c H locs 0 0 (MQ below (va_Qv (fun (M2 : Mem) => M2 = M') (fun M2 t => va_P z.1 vwCl (pw (xd z b) 339 b M2) t.heap) (pA 339 b)) args s 0 0 (pA 339 b)) (F0 m 61 ls [])) {i1 : Int32} {M : Mem} {H : Heap} {locs : List Loc} {ls : Array Slot} (hf : b5_choose_49  rc n i1 M = some (r, M')) (hP : va_P z.1 vwCl (pw (xd z b) 339 b M) H) (hS : va_S (pA 339 b) s.heap H locs) (hl : lv_has ls 7 [(0, .ref (b + 326)), (1, .int i1)]) : W p l e rm5_choose s m args below meth c H locs 0 0 (MQ below (va_Qv (fun (M2 : Mem) => M2 = M') (fun M2 t => va_P z.1 vwCl (pw (xd z b) 339 b M2) t.heap) (pA 339 b)) args s 0 0 (pA 339 b)) (F0 m 49 ls []) := by
  have hx := C.1.1
  have hb := C.1.2.1
  unfold b5_choose_49 at hf
  refine lv_aload_n hx hb dX5_choose_49 rfl (lv_at hl 0 rfl) ?_
  refine lv_iconst (v := (0 : Int32)) hx hb dX5_choose_50 (by decide) ?_
  refine ppI C hP hS (k := 326) (j := 5) (ty := .int) (Nat.le_of_ble_eq_true rfl) (xd_326 _ _) rfl iw_5 tyX5 tyX5_ok nmX5 (Nat.le_of_ble_eq_true rfl) g_328 rfl rfl (by decide +kernel) rfl rfl (Nat.le_of_ble_eq_true rfl) (xu_326_5 _ _ _) dX5_choose_51 (fun M11 H locs eM11 hP hS => ?_)
  replace hf := lt_c eM11 hf
  refine lv_aload_n hx hb dX5_choose_54 rfl (lv_at hl 0 rfl) ?_
  refine lv_lconst (v := (0 : Int64)) hx hb dX5_choose_55 (by decide) ?_
  refine ppJ C hP hS (k := 326) (j := 6) (ty := .long) (Nat.le_of_ble_eq_true rfl) (xd_326 _ _) rfl iw_5 tyX5 tyX5_ok nmX5 (Nat.le_of_ble_eq_true rfl) g_330 rfl rfl (by decide +kernel) rfl rfl (Nat.le_of_ble_eq_true rfl) (xu_326_6 _ _ _) dX5_choose_56 (fun M12 H locs eM12 hP hS => ?_)
  replace hf := lt_c eM12 hf
  refine lv_iconst (v := (1 : Int32)) hx hb dX5_choose_59 (by decide) ?_
  refine lv_istore_n (lv' := [(2, .int (1 : Int32)), (0, .ref (b + 326)), (1, .int i1)]) hx hb dX5_choose_60 rfl hl (by decide) rfl (fun ls hl => ?_)
  exact w5_choose_61 (n := n)  C hr hk q20 q61 hf hP hS (lv_sub hl [1, 2, 0] rfl)
set_option maxHeartbeats 4000000 in
set_option maxRecDepth 100000 in
theorem w5_choose_20 {p : Program} {l : Launch} {e : Env} {s : State} {m : MethodId} {args : Array Value} {below : List Frame} {meth : Method} {c : Code} {z : Zt} {b : Nat}  (C : Cx p s m args c cX5_choose 7 RX5 z 339 b) (hr : meth.sig.returnType = none) (hk : meth.locks = false) {r : Unit} {M' : Mem} {rc : Nat → List Int32 → List Int64 → Mem → Option (Unit × Mem)} {n : Nat} (q20 : ∀ (i1 : Int32) (i2 : Int32) (M : Mem) (H : Heap) (locs : List Loc) (ls : Array Slot), rc 20 [i1, i2] [] M = some (r, M') → va_P z.1 vwCl (pw (xd z b) 339 b M) H → va_S (pA 339 b) s.heap H locs → lv_has ls 7 [(0, .ref (b + 326)), (1, .int i1), (2, .int i2)] → W p l e rm5_choose s m args below meth c H locs 0 0 (MQ below (va_Qv (fun (M2 : Mem) => M2 = M') (fun M2 t => va_P z.1 vwCl (pw (xd z b) 339 b M2) t.heap) (pA 339 b)) args s 0 0 (pA 339 b)) (F0 m 20 ls [])) (q61 : ∀ (i1 : Int32) (i2 : Int32) (M : Mem) (H : Heap) (locs : List Loc) (ls : Array Slot), rc 61 [i1, i2] [] M = some (r, M') → va_P z.1 vwCl (pw (xd z b) 339 b M) H → va_S (pA 339 b) s.heap H locs → lv_has ls 7 [(0, .ref (b + 326)), (1, .int i1), (2, .int i2)] → W p l e rm5_choose s m args below meth c H locs 0 0 (MQ below (va_Qv (fun (M2 : Mem) => M2 = M') (fun M2 t => va_P z.1 vwCl (pw (xd z b) 339 b M2) t.heap) (pA 339 b)) args s 0 0 (pA 339 b)) (F0 m 61 ls [])) {i1 : Int32} {i2 : Int32} {M : Mem} {H : Heap} {locs : List Loc} {ls : Array Slot} (hf : b5_choose_20  rc n i1 i2 M = some (r, M')) (hP : va_P z.1 vwCl (pw (xd z b) 339 b M) H) (hS : va_S (pA 339 b) s.heap H locs) (hl : lv_has ls 7 [(0, .ref (b + 326)), (1, .int i1), (2, .int i2)]) : W p l e rm5_choose s m args below meth c H locs 0 0 (MQ below (va_Qv (fun (M2 : Mem) => M2 = M') (fun M2 t => va_P z.1 vwCl (pw (xd z b) 339 b M2) t.heap) (pA 339 b)) args s 0 0 (pA 339 b)) (F0 m 20 ls []) := by
  have hx := C.1.1
  have hb := C.1.2.1
  unfold b5_choose_20 at hf
  refine lv_iload_n hx hb dX5_choose_20 rfl (lv_at hl 2 rfl) ?_
  refine lv_sipush (v := (512 : Int32)) hx hb dX5_choose_21 (by decide) ?_
  refine lv_icmp_ge (tgt := 38) hx hb dX5_choose_24 (by decide) (fun c5 => ?_) (fun c5 => ?_)
  · replace hf := ite_t c5 hf
    refine lv_aload_n hx hb dX5_choose_38 rfl (lv_at hl 0 rfl) ?_
    refine lv_aload_n hx hb dX5_choose_39 rfl (lv_at hl 0 rfl) ?_
    refine pg C hP (k := 326) (j := 0) (Nat.le_of_ble_eq_true rfl) (xd_326 _ _) rfl iw_5 (Nat.le_of_ble_eq_true rfl) g_323 rfl rfl dX5_choose_40 ?_
    refine pgN C hP (k := 3) (j := 9) (Nat.le_of_ble_eq_true rfl) (xd_3 _ _) rfl iw_8 (Nat.le_of_ble_eq_true rfl) g_97 rfl rfl dX5_choose_43 ?_
    refine ppI C hP hS (k := 326) (j := 4) (ty := .int) (Nat.le_of_ble_eq_true rfl) (xd_326 _ _) rfl iw_5 tyX5 tyX5_ok nmX5 (Nat.le_of_ble_eq_true rfl) g_327 rfl rfl (by decide +kernel) rfl rfl (Nat.le_of_ble_eq_true rfl) (xu_326_4 _ _ _) dX5_choose_46 (fun M6 H locs eM6 hP hS => ?_)
    replace hf := lt_c eM6 hf
    exact w5_choose_49 (n := n)  C hr hk q20 q61 hf hP hS (lv_sub hl [0, 1] rfl)
  · replace hf := ite_f c5 hf
    refine lv_aload_n hx hb dX5_choose_27 rfl (lv_at hl 0 rfl) ?_
    refine lv_iload_n hx hb dX5_choose_28 rfl (lv_at hl 2 rfl) ?_
    obtain ⟨r7, M8, h9, hf⟩ := bnd_s hf
    refine pcVv (As := [.int i2]) C hP hS (k := 326) (Nat.le_of_ble_eq_true rfl) (xd_326 _ _) rfl (c5_findRows  h9) y5_findRows_w g_885 rfl rfl rfl ⟨Nat.le_of_ble_eq_true rfl, Nat.le_of_ble_eq_true rfl⟩ hl.1 rfl (Nat.le_of_ble_eq_true rfl) dX5_choose_29 ⟨Nat.le_of_ble_eq_true rfl, Nat.le_of_ble_eq_true rfl⟩ (fun H locs hP hS => ?_)
    obtain ⟨v10, ev10⟩ : ∃ v : Int32, v = i2 + (1 : Int32) := ⟨_, rfl⟩
    replace hf := lt_c ev10 hf
    refine lv_iinc (v := v10) (lv' := [(2, .int v10), (0, .ref (b + 326)), (1, .int i1)]) hx hb dX5_choose_32 hl (k := 2) rfl (by rw [ev10]; rfl) (by decide) rfl (fun ls hl => ?_)
    refine lv_goto (tgt := 20) hx hb dX5_choose_35 (by decide) ?_
    exact q20 i1 v10 M8 _ _ _ hf hP hS (lv_sub hl [1, 2, 0] rfl)
set_option maxHeartbeats 4000000 in
set_option maxRecDepth 100000 in
theorem w5_choose_0 {p : Program} {l : Launch} {e : Env} {s : State} {m : MethodId} {args : Array Value} {below : List Frame} {meth : Method} {c : Code} {z : Zt} {b : Nat}  (C : Cx p s m args c cX5_choose 7 RX5 z 339 b) (hr : meth.sig.returnType = none) (hk : meth.locks = false) {r : Unit} {M' : Mem} {rc : Nat → List Int32 → List Int64 → Mem → Option (Unit × Mem)} {n : Nat} (q20 : ∀ (i1 : Int32) (i2 : Int32) (M : Mem) (H : Heap) (locs : List Loc) (ls : Array Slot), rc 20 [i1, i2] [] M = some (r, M') → va_P z.1 vwCl (pw (xd z b) 339 b M) H → va_S (pA 339 b) s.heap H locs → lv_has ls 7 [(0, .ref (b + 326)), (1, .int i1), (2, .int i2)] → W p l e rm5_choose s m args below meth c H locs 0 0 (MQ below (va_Qv (fun (M2 : Mem) => M2 = M') (fun M2 t => va_P z.1 vwCl (pw (xd z b) 339 b M2) t.heap) (pA 339 b)) args s 0 0 (pA 339 b)) (F0 m 20 ls [])) (q61 : ∀ (i1 : Int32) (i2 : Int32) (M : Mem) (H : Heap) (locs : List Loc) (ls : Array Slot), rc 61 [i1, i2] [] M = some (r, M') → va_P z.1 vwCl (pw (xd z b) 339 b M) H → va_S (pA 339 b) s.heap H locs → lv_has ls 7 [(0, .ref (b + 326)), (1, .int i1), (2, .int i2)] → W p l e rm5_choose s m args below meth c H locs 0 0 (MQ below (va_Qv (fun (M2 : Mem) => M2 = M') (fun M2 t => va_P z.1 vwCl (pw (xd z b) 339 b M2) t.heap) (pA 339 b)) args s 0 0 (pA 339 b)) (F0 m 61 ls [])) {a1 : Int32} {M : Mem} {H : Heap} {locs : List Loc} {ls : Array Slot} (hf : b5_choose_0  rc n a1 M = some (r, M')) (hP : va_P z.1 vwCl (pw (xd z b) 339 b M) H) (hS : va_S (pA 339 b) s.heap H locs) (hl : lv_has ls 7 [(0, .ref (b + 326)), (1, .int a1)]) : W p l e rm5_choose s m args below meth c H locs 0 0 (MQ below (va_Qv (fun (M2 : Mem) => M2 = M') (fun M2 t => va_P z.1 vwCl (pw (xd z b) 339 b M2) t.heap) (pA 339 b)) args s 0 0 (pA 339 b)) (F0 m 0 ls []) := by
  have hx := C.1.1
  have hb := C.1.2.1
  unfold b5_choose_0 at hf
  refine lv_aload_n hx hb dX5_choose_0 rfl (lv_at hl 0 rfl) ?_
  refine pg C hP (k := 326) (j := 4) (Nat.le_of_ble_eq_true rfl) (xd_326 _ _) rfl iw_5 (Nat.le_of_ble_eq_true rfl) g_327 rfl rfl dX5_choose_1 ?_
  refine lv_aload_n hx hb dX5_choose_4 rfl (lv_at hl 0 rfl) ?_
  refine pg C hP (k := 326) (j := 0) (Nat.le_of_ble_eq_true rfl) (xd_326 _ _) rfl iw_5 (Nat.le_of_ble_eq_true rfl) g_323 rfl rfl dX5_choose_5 ?_
  refine pgN C hP (k := 3) (j := 9) (Nat.le_of_ble_eq_true rfl) (xd_3 _ _) rfl iw_8 (Nat.le_of_ble_eq_true rfl) g_97 rfl rfl dX5_choose_8 ?_
  refine lv_icmp_eq (tgt := 49) hx hb dX5_choose_11 (by decide) (fun c1 => ?_) (fun c1 => ?_)
  · replace hf := ite_t c1 hf
    exact w5_choose_49 (n := n)  C hr hk q20 q61 hf hP hS (lv_sub hl [0, 1] rfl)
  · replace hf := ite_f c1 hf
    refine lv_aload_n hx hb dX5_choose_14 rfl (lv_at hl 0 rfl) ?_
    obtain ⟨r2, M3, h4, hf⟩ := bnd_s hf
    refine pcVv (As := []) C hP hS (k := 326) (Nat.le_of_ble_eq_true rfl) (xd_326 _ _) rfl (c5_measure  h4) y5_measure_w g_876 rfl rfl rfl ⟨Nat.le_of_ble_eq_true rfl, Nat.le_of_ble_eq_true rfl⟩ hl.1 rfl (Nat.le_of_ble_eq_true rfl) dX5_choose_15 ⟨Nat.le_of_ble_eq_true rfl, Nat.le_of_ble_eq_true rfl⟩ (fun H locs hP hS => ?_)
    refine lv_iconst (v := (0 : Int32)) hx hb dX5_choose_18 (by decide) ?_
    refine lv_istore_n (lv' := [(2, .int (0 : Int32)), (0, .ref (b + 326)), (1, .int a1)]) hx hb dX5_choose_19 rfl hl (by decide) rfl (fun ls hl => ?_)
    exact w5_choose_20 (n := n)  C hr hk q20 q61 hf hP hS (lv_sub hl [1, 2, 0] rfl)
set_option maxHeartbeats 4000000 in
set_option maxRecDepth 100000 in
theorem l5_choose {p : Program} {l : Launch} {e : Env} {s : State} {m : MethodId} {args : Array Value} {below : List Frame} {meth : Method} {c : Code} {z : Zt} {b : Nat}  (C : Cx p s m args c cX5_choose 7 RX5 z 339 b) (hr : meth.sig.returnType = none) (hk : meth.locks = false) {r : Unit} {M' : Mem} (n : Nat) : (∀ (i1 : Int32) (i2 : Int32) (M : Mem) (H : Heap) (locs : List Loc) (ls : Array Slot), (r5_choose  n) 20 [i1, i2] [] M = some (r, M') → va_P z.1 vwCl (pw (xd z b) 339 b M) H → va_S (pA 339 b) s.heap H locs → lv_has ls 7 [(0, .ref (b + 326)), (1, .int i1), (2, .int i2)] → W p l e rm5_choose s m args below meth c H locs 0 0 (MQ below (va_Qv (fun (M2 : Mem) => M2 = M') (fun M2 t => va_P z.1 vwCl (pw (xd z b) 339 b M2) t.heap) (pA 339 b)) args s 0 0 (pA 339 b)) (F0 m 20 ls [])) ∧ (∀ (i1 : Int32) (i2 : Int32) (M : Mem) (H : Heap) (locs : List Loc) (ls : Array Slot), (r5_choose  n) 61 [i1, i2] [] M = some (r, M') → va_P z.1 vwCl (pw (xd z b) 339 b M) H → va_S (pA 339 b) s.heap H locs → lv_has ls 7 [(0, .ref (b + 326)), (1, .int i1), (2, .int i2)] → W p l e rm5_choose s m args below meth c H locs 0 0 (MQ below (va_Qv (fun (M2 : Mem) => M2 = M') (fun M2 t => va_P z.1 vwCl (pw (xd z b) 339 b M2) t.heap) (pA 339 b)) args s 0 0 (pA 339 b)) (F0 m 61 ls [])) := by
  induction n with
  | zero => exact ⟨fun _ _ _ _ _ _ hf => (by cases hf), fun _ _ _ _ _ _ hf => (by cases hf)⟩
  | succ n ih => exact ⟨fun _ _ _ _ _ _ hf hP hS hl => w5_choose_20 (n := n)  C hr hk ih.1 ih.2 ((e5_choose_20  n _ _ _).symm.trans hf) hP hS hl, fun _ _ _ _ _ _ hf hP hS hl => w5_choose_61 (n := n)  C hr hk ih.1 ih.2 ((e5_choose_61  n _ _ _).symm.trans hf) hP hS hl⟩
theorem c5_choose {l : Launch} {z : Zt} {b n : Nat}  {a1 : Int32} {M M' : Mem} {r : Unit} (hf : f5_choose n  a1 M = some (r, M')) : CV l z (xd z b) 339 b yX5_choose cX5_choose 7 none rm5_choose [.ref (b + 326), .int a1] M M' :=
  CV.ofW (lv := [(0, .ref (b + 326)), (1, .int a1)]) (by decide) (Nat.le_of_ble_eq_true rfl) rfl (fun p e s m args below meth c ls C hr hk hP hS hl => w5_choose_0 (n := n)  C hr hk (l5_choose  C hr hk n).1 (l5_choose  C hr hk n).2 hf hP hS hl)

-- BronzeKing$Rounds.stepsOfBest()I
theorem dX5_stepsOfBest_0 : decode cX5_stepsOfBest 0 = .ok (.aload_n 0, 1) := by decide +kernel
theorem dX5_stepsOfBest_1 : decode cX5_stepsOfBest 1 = .ok (.getfield 29, 3) := by decide +kernel
theorem dX5_stepsOfBest_4 : decode cX5_stepsOfBest 4 = .ok (.ldc2_w 59, 3) := by decide +kernel
theorem dX5_stepsOfBest_7 : decode cX5_stepsOfBest 7 = .ok (.ldiv, 1) := by decide +kernel
theorem dX5_stepsOfBest_8 : decode cX5_stepsOfBest 8 = .ok (.l2i, 1) := by decide +kernel
theorem dX5_stepsOfBest_9 : decode cX5_stepsOfBest 9 = .ok (.ireturn, 1) := by decide +kernel
def b5_stepsOfBest_0 (rc : Nat → List Int32 → List Int64 → Mem → Option (Int32 × Mem)) (n : Nat) (M : Mem) : Option (Int32 × Mem) :=
  some (((M.2 326 6) / (1000000000 : Int64)).toInt32, M)
def f5_stepsOfBest (n : Nat)  (M : Mem) : Option (Int32 × Mem) := b5_stepsOfBest_0 (fun _ _ _ _ => none) n M
abbrev rm5_stepsOfBest : Room := { frames := 0, cells := 0, slots := 0, locals := 0 }
theorem y5_stepsOfBest_w : yV RX5 yX5_stepsOfBest cX5_stepsOfBest 1 (some .int) 0 := ⟨g_906, g_907, g_12, g_908, rfl, by decide, by decide, by decide +kernel⟩
set_option maxHeartbeats 4000000 in
set_option maxRecDepth 100000 in
theorem w5_stepsOfBest_0 {p : Program} {l : Launch} {e : Env} {s : State} {m : MethodId} {args : Array Value} {below : List Frame} {meth : Method} {c : Code} {z : Zt} {b : Nat}  (C : Cx p s m args c cX5_stepsOfBest 1 RX5 z 339 b) (hr : meth.sig.returnType = (some .int)) (hk : meth.locks = false) {r : Int32} {M' : Mem} {rc : Nat → List Int32 → List Int64 → Mem → Option (Int32 × Mem)} {n : Nat}   {M : Mem} {H : Heap} {locs : List Loc} {ls : Array Slot} (hf : b5_stepsOfBest_0  rc n  M = some (r, M')) (hP : va_P z.1 vwCl (pw (xd z b) 339 b M) H) (hS : va_S (pA 339 b) s.heap H locs) (hl : lv_has ls 1 [(0, .ref (b + 326))]) : W p l e rm5_stepsOfBest s m args below meth c H locs 0 0 (MQ below (va_Qi (fun (r' : Int32) (M2 : Mem) => r' = r ∧ M2 = M') (fun M2 t => va_P z.1 vwCl (pw (xd z b) 339 b M2) t.heap) (pA 339 b)) args s 0 0 (pA 339 b)) (F0 m 0 ls []) := by
  have hx := C.1.1
  have hb := C.1.2.1
  unfold b5_stepsOfBest_0 at hf
  refine lv_aload_n hx hb dX5_stepsOfBest_0 rfl (lv_at hl 0 rfl) ?_
  refine pg C hP (k := 326) (j := 6) (Nat.le_of_ble_eq_true rfl) (xd_326 _ _) rfl iw_5 (Nat.le_of_ble_eq_true rfl) g_330 rfl rfl dX5_stepsOfBest_1 ?_
  refine lv_ldc2 hx hb C.1.2.2.2.1 (C.1.2.2.2.2 _ g_898) dX5_stepsOfBest_4 ?_
  refine lv_ldiv hx hb dX5_stepsOfBest_7 (by decide) ?_
  refine lv_l2i hx hb dX5_stepsOfBest_8 rfl ?_
  exact prI C hr hk hP hS hf dX5_stepsOfBest_9
theorem c5_stepsOfBest {l : Launch} {z : Zt} {b n : Nat}   {M M' : Mem} {r : Int32} (hf : f5_stepsOfBest n   M = some (r, M')) : CI l z (xd z b) 339 b yX5_stepsOfBest cX5_stepsOfBest 1 (some .int) rm5_stepsOfBest [.ref (b + 326)] M M' r :=
  CI.ofW (lv := [(0, .ref (b + 326))]) (by decide) (Nat.le_of_ble_eq_true rfl) rfl (fun p e s m args below meth c ls C hr hk hP hS hl => w5_stepsOfBest_0 (n := n)  C hr hk  hf hP hS hl)

-- BronzeKing$Rounds.doorOfBest(I)I
theorem dX5_doorOfBest_0 : decode cX5_doorOfBest 0 = .ok (.iload_n 1, 1) := by decide +kernel
theorem dX5_doorOfBest_1 : decode cX5_doorOfBest 1 = .ok (.ifCond .lt 20, 3) := by decide +kernel
theorem dX5_doorOfBest_4 : decode cX5_doorOfBest 4 = .ok (.iload_n 1, 1) := by decide +kernel
theorem dX5_doorOfBest_5 : decode cX5_doorOfBest 5 = .ok (.aload_n 0, 1) := by decide +kernel
theorem dX5_doorOfBest_6 : decode cX5_doorOfBest 6 = .ok (.getfield 26, 3) := by decide +kernel
theorem dX5_doorOfBest_9 : decode cX5_doorOfBest 9 = .ok (.if_icmp .ge 12, 3) := by decide +kernel
theorem dX5_doorOfBest_12 : decode cX5_doorOfBest 12 = .ok (.aload_n 0, 1) := by decide +kernel
theorem dX5_doorOfBest_13 : decode cX5_doorOfBest 13 = .ok (.getfield 26, 3) := by decide +kernel
theorem dX5_doorOfBest_16 : decode cX5_doorOfBest 16 = .ok (.bipush 9, 2) := by decide +kernel
theorem dX5_doorOfBest_18 : decode cX5_doorOfBest 18 = .ok (.if_icmp .le 6, 3) := by decide +kernel
theorem dX5_doorOfBest_21 : decode cX5_doorOfBest 21 = .ok (.bipush (-4), 2) := by decide +kernel
theorem dX5_doorOfBest_23 : decode cX5_doorOfBest 23 = .ok (.ireturn, 1) := by decide +kernel
theorem dX5_doorOfBest_24 : decode cX5_doorOfBest 24 = .ok (.aload_n 0, 1) := by decide +kernel
theorem dX5_doorOfBest_25 : decode cX5_doorOfBest 25 = .ok (.getfield 29, 3) := by decide +kernel
theorem dX5_doorOfBest_28 : decode cX5_doorOfBest 28 = .ok (.ldc2_w 59, 3) := by decide +kernel
theorem dX5_doorOfBest_31 : decode cX5_doorOfBest 31 = .ok (.lrem, 1) := by decide +kernel
theorem dX5_doorOfBest_32 : decode cX5_doorOfBest 32 = .ok (.l2i, 1) := by decide +kernel
theorem dX5_doorOfBest_33 : decode cX5_doorOfBest 33 = .ok (.istore_n 2, 1) := by decide +kernel
theorem dX5_doorOfBest_34 : decode cX5_doorOfBest 34 = .ok (.iload_n 2, 1) := by decide +kernel
theorem dX5_doorOfBest_35 : decode cX5_doorOfBest 35 = .ok (.getstatic 61, 3) := by decide +kernel
theorem dX5_doorOfBest_38 : decode cX5_doorOfBest 38 = .ok (.aload_n 0, 1) := by decide +kernel
theorem dX5_doorOfBest_39 : decode cX5_doorOfBest 39 = .ok (.getfield 26, 3) := by decide +kernel
theorem dX5_doorOfBest_42 : decode cX5_doorOfBest 42 = .ok (.iconst 1, 1) := by decide +kernel
theorem dX5_doorOfBest_43 : decode cX5_doorOfBest 43 = .ok (.isub, 1) := by decide +kernel
theorem dX5_doorOfBest_44 : decode cX5_doorOfBest 44 = .ok (.iload_n 1, 1) := by decide +kernel
theorem dX5_doorOfBest_45 : decode cX5_doorOfBest 45 = .ok (.isub, 1) := by decide +kernel
theorem dX5_doorOfBest_46 : decode cX5_doorOfBest 46 = .ok (.iaload, 1) := by decide +kernel
theorem dX5_doorOfBest_47 : decode cX5_doorOfBest 47 = .ok (.idiv, 1) := by decide +kernel
theorem dX5_doorOfBest_48 : decode cX5_doorOfBest 48 = .ok (.bipush 10, 2) := by decide +kernel
theorem dX5_doorOfBest_50 : decode cX5_doorOfBest 50 = .ok (.irem, 1) := by decide +kernel
theorem dX5_doorOfBest_51 : decode cX5_doorOfBest 51 = .ok (.ireturn, 1) := by decide +kernel
def b5_doorOfBest_21 (rc : Nat → List Int32 → List Int64 → Mem → Option (Int32 × Mem)) (n : Nat) (M : Mem) : Option (Int32 × Mem) :=
  some ((-4 : Int32), M)
def b5_doorOfBest_0 (rc : Nat → List Int32 → List Int64 → Mem → Option (Int32 × Mem)) (n : Nat) (a1 : Int32) (M : Mem) : Option (Int32 × Mem) :=
  (if a1 < 0 then (
   b5_doorOfBest_21  rc n  M)
  else (
   (if (M.1 326 5) ≤ a1 then (
    b5_doorOfBest_21  rc n  M)
   else (
    (if (M.1 326 5) ≤ (9 : Int32) then (
     lt (((M.2 326 6) - (M.2 326 6) / (1000000000 : Int64) * (1000000000 : Int64)).toInt32) fun v4 =>
     chk (inb (((M.1 326 5) - (1 : Int32)) - a1) 9) <|
     chk (decide (¬ (tensL.getD (((M.1 326 5) - (1 : Int32)) - a1).toNatClampNeg 0) = 0)) <|
     some (((v4 / (tensL.getD (((M.1 326 5) - (1 : Int32)) - a1).toNatClampNeg 0)) - (v4 / (tensL.getD (((M.1 326 5) - (1 : Int32)) - a1).toNatClampNeg 0)) / (10 : Int32) * (10 : Int32)), M))
    else (
     b5_doorOfBest_21  rc n  M))))))
def f5_doorOfBest (n : Nat) (a1 : Int32) (M : Mem) : Option (Int32 × Mem) := b5_doorOfBest_0 (fun _ _ _ _ => none) n a1 M
abbrev rm5_doorOfBest : Room := { frames := 0, cells := 0, slots := 0, locals := 0 }
theorem y5_doorOfBest_w : yV RX5 yX5_doorOfBest cX5_doorOfBest 3 (some .int) 1 := ⟨g_910, g_911, g_12, g_912, rfl, by decide, by decide, by decide +kernel⟩
set_option maxHeartbeats 4000000 in
set_option maxRecDepth 100000 in
theorem w5_doorOfBest_21 {p : Program} {l : Launch} {e : Env} {s : State} {m : MethodId} {args : Array Value} {below : List Frame} {meth : Method} {c : Code} {z : Zt} {b : Nat}  (C : Cx p s m args c cX5_doorOfBest 3 RX5 z 339 b) (hr : meth.sig.returnType = (some .int)) (hk : meth.locks = false) {r : Int32} {M' : Mem} {rc : Nat → List Int32 → List Int64 → Mem → Option (Int32 × Mem)} {n : Nat}   {M : Mem} {H : Heap} {locs : List Loc} {ls : Array Slot} (hf : b5_doorOfBest_21  rc n  M = some (r, M')) (hP : va_P z.1 vwCl (pw (xd z b) 339 b M) H) (hS : va_S (pA 339 b) s.heap H locs) (hl : lv_has ls 3 []) : W p l e rm5_doorOfBest s m args below meth c H locs 0 0 (MQ below (va_Qi (fun (r' : Int32) (M2 : Mem) => r' = r ∧ M2 = M') (fun M2 t => va_P z.1 vwCl (pw (xd z b) 339 b M2) t.heap) (pA 339 b)) args s 0 0 (pA 339 b)) (F0 m 21 ls []) := by
  have hx := C.1.1
  have hb := C.1.2.1
  unfold b5_doorOfBest_21 at hf
  refine lv_bipush (v := (-4 : Int32)) hx hb dX5_doorOfBest_21 (by decide) ?_
  exact prI C hr hk hP hS hf dX5_doorOfBest_23
set_option maxHeartbeats 4000000 in
set_option maxRecDepth 100000 in
theorem w5_doorOfBest_0 {p : Program} {l : Launch} {e : Env} {s : State} {m : MethodId} {args : Array Value} {below : List Frame} {meth : Method} {c : Code} {z : Zt} {b : Nat}  (C : Cx p s m args c cX5_doorOfBest 3 RX5 z 339 b) (hr : meth.sig.returnType = (some .int)) (hk : meth.locks = false) {r : Int32} {M' : Mem} {rc : Nat → List Int32 → List Int64 → Mem → Option (Int32 × Mem)} {n : Nat}  {a1 : Int32} {M : Mem} {H : Heap} {locs : List Loc} {ls : Array Slot} (hf : b5_doorOfBest_0  rc n a1 M = some (r, M')) (hP : va_P z.1 vwCl (pw (xd z b) 339 b M) H) (hS : va_S (pA 339 b) s.heap H locs) (hl : lv_has ls 3 [(0, .ref (b + 326)), (1, .int a1)]) : W p l e rm5_doorOfBest s m args below meth c H locs 0 0 (MQ below (va_Qi (fun (r' : Int32) (M2 : Mem) => r' = r ∧ M2 = M') (fun M2 t => va_P z.1 vwCl (pw (xd z b) 339 b M2) t.heap) (pA 339 b)) args s 0 0 (pA 339 b)) (F0 m 0 ls []) := by
  have hx := C.1.1
  have hb := C.1.2.1
  unfold b5_doorOfBest_0 at hf
  refine lv_iload_n hx hb dX5_doorOfBest_0 rfl (lv_at hl 1 rfl) ?_
  refine lv_if_lt (tgt := 21) hx hb dX5_doorOfBest_1 (by decide) (fun c1 => ?_) (fun c1 => ?_)
  · replace hf := ite_t c1 hf
    exact w5_doorOfBest_21 (n := n)  C hr hk  hf hP hS (lv_sub hl [] rfl)
  · replace hf := ite_f c1 hf
    refine lv_iload_n hx hb dX5_doorOfBest_4 rfl (lv_at hl 1 rfl) ?_
    refine lv_aload_n hx hb dX5_doorOfBest_5 rfl (lv_at hl 0 rfl) ?_
    refine pg C hP (k := 326) (j := 5) (Nat.le_of_ble_eq_true rfl) (xd_326 _ _) rfl iw_5 (Nat.le_of_ble_eq_true rfl) g_328 rfl rfl dX5_doorOfBest_6 ?_
    refine lv_icmp_ge (tgt := 21) hx hb dX5_doorOfBest_9 (by decide) (fun c2 => ?_) (fun c2 => ?_)
    · replace hf := ite_t c2 hf
      exact w5_doorOfBest_21 (n := n)  C hr hk  hf hP hS (lv_sub hl [] rfl)
    · replace hf := ite_f c2 hf
      refine lv_aload_n hx hb dX5_doorOfBest_12 rfl (lv_at hl 0 rfl) ?_
      refine pg C hP (k := 326) (j := 5) (Nat.le_of_ble_eq_true rfl) (xd_326 _ _) rfl iw_5 (Nat.le_of_ble_eq_true rfl) g_328 rfl rfl dX5_doorOfBest_13 ?_
      refine lv_bipush (v := (9 : Int32)) hx hb dX5_doorOfBest_16 (by decide) ?_
      refine lv_icmp_le (tgt := 24) hx hb dX5_doorOfBest_18 (by decide) (fun c3 => ?_) (fun c3 => ?_)
      · replace hf := ite_t c3 hf
        refine lv_aload_n hx hb dX5_doorOfBest_24 rfl (lv_at hl 0 rfl) ?_
        refine pg C hP (k := 326) (j := 6) (Nat.le_of_ble_eq_true rfl) (xd_326 _ _) rfl iw_5 (Nat.le_of_ble_eq_true rfl) g_330 rfl rfl dX5_doorOfBest_25 ?_
        refine lv_ldc2 hx hb C.1.2.2.2.1 (C.1.2.2.2.2 _ g_898) dX5_doorOfBest_28 ?_
        refine lv_lrem hx hb dX5_doorOfBest_31 (by decide) ?_
        refine lv_l2i hx hb dX5_doorOfBest_32 rfl ?_
        refine lv_topi (fun v4 ev4 => ?_)
        replace hf := lt_c ev4 hf
        refine lv_istore_n (lv' := [(2, .int v4), (0, .ref (b + 326)), (1, .int a1)]) hx hb dX5_doorOfBest_33 rfl hl (by decide) rfl (fun ls hl => ?_)
        refine lv_iload_n hx hb dX5_doorOfBest_34 rfl (lv_at hl 0 rfl) ?_
        refine va_gets hx hb C.2.2.2.2.1 hS C.1.2.2.2.1 (C.1.2.2.2.2 _ g_900) (fun _ h => h) dX5_doorOfBest_35 ?_
        refine lv_aload_n hx hb dX5_doorOfBest_38 rfl (lv_at hl 1 rfl) ?_
        refine pg C hP (k := 326) (j := 5) (Nat.le_of_ble_eq_true rfl) (xd_326 _ _) rfl iw_5 (Nat.le_of_ble_eq_true rfl) g_328 rfl rfl dX5_doorOfBest_39 ?_
        refine lv_iconst (v := (1 : Int32)) hx hb dX5_doorOfBest_42 (by decide) ?_
        refine lv_isub hx hb dX5_doorOfBest_43 ?_
        refine lv_iload_n hx hb dX5_doorOfBest_44 rfl (lv_at hl 2 rfl) ?_
        refine lv_isub hx hb dX5_doorOfBest_45 ?_
        have h5 := chk_1 hf
        replace hf := chk_2 hf
        refine va_ti hx hb C.2.2.2.2.2.1 hS (inb_in h5) rfl dX5_doorOfBest_46 ?_
        have h6 := of_decide_eq_true (chk_1 hf)
        replace hf := chk_2 hf
        refine lv_idiv hx hb dX5_doorOfBest_47 h6 ?_
        refine lv_bipush (v := (10 : Int32)) hx hb dX5_doorOfBest_48 (by decide) ?_
        refine lv_irem hx hb dX5_doorOfBest_50 (by decide) ?_
        exact prI C hr hk hP hS hf dX5_doorOfBest_51
      · replace hf := ite_f c3 hf
        exact w5_doorOfBest_21 (n := n)  C hr hk  hf hP hS (lv_sub hl [] rfl)
theorem c5_doorOfBest {l : Launch} {z : Zt} {b n : Nat}  {a1 : Int32} {M M' : Mem} {r : Int32} (hf : f5_doorOfBest n  a1 M = some (r, M')) : CI l z (xd z b) 339 b yX5_doorOfBest cX5_doorOfBest 3 (some .int) rm5_doorOfBest [.ref (b + 326), .int a1] M M' r :=
  CI.ofW (lv := [(0, .ref (b + 326)), (1, .int a1)]) (by decide) (Nat.le_of_ble_eq_true rfl) rfl (fun p e s m args below meth c ls C hr hk hP hS hl => w5_doorOfBest_0 (n := n)  C hr hk  hf hP hS hl)

-- BronzeKing$Survey.stepsByOldMap(I)I
theorem dX6_stepsByOldMap_0 : decode cX6_stepsByOldMap 0 = .ok (.aload_n 0, 1) := by decide +kernel
theorem dX6_stepsByOldMap_1 : decode cX6_stepsByOldMap 1 = .ok (.getfield 54, 3) := by decide +kernel
theorem dX6_stepsByOldMap_4 : decode cX6_stepsByOldMap 4 = .ok (.aload_n 0, 1) := by decide +kernel
theorem dX6_stepsByOldMap_5 : decode cX6_stepsByOldMap 5 = .ok (.getfield 54, 3) := by decide +kernel
theorem dX6_stepsByOldMap_8 : decode cX6_stepsByOldMap 8 = .ok (.getfield 58, 3) := by decide +kernel
theorem dX6_stepsByOldMap_11 : decode cX6_stepsByOldMap 11 = .ok (.iconst 1, 1) := by decide +kernel
theorem dX6_stepsByOldMap_12 : decode cX6_stepsByOldMap 12 = .ok (.aload_n 0, 1) := by decide +kernel
theorem dX6_stepsByOldMap_13 : decode cX6_stepsByOldMap 13 = .ok (.getfield 9, 3) := by decide +kernel
theorem dX6_stepsByOldMap_16 : decode cX6_stepsByOldMap 16 = .ok (.invokevirtual 63, 3) := by decide +kernel
theorem dX6_stepsByOldMap_19 : decode cX6_stepsByOldMap 19 = .ok (.aload_n 0, 1) := by decide +kernel
theorem dX6_stepsByOldMap_20 : decode cX6_stepsByOldMap 20 = .ok (.getfield 9, 3) := by decide +kernel
theorem dX6_stepsByOldMap_23 : decode cX6_stepsByOldMap 23 = .ok (.iload_n 1, 1) := by decide +kernel
theorem dX6_stepsByOldMap_24 : decode cX6_stepsByOldMap 24 = .ok (.iaload, 1) := by decide +kernel
theorem dX6_stepsByOldMap_25 : decode cX6_stepsByOldMap 25 = .ok (.ireturn, 1) := by decide +kernel
def b6_stepsByOldMap_0 (rc : Nat → List Int32 → List Int64 → Mem → Option (Int32 × Mem)) (n : Nat) (a1 : Int32) (M : Mem) : Option (Int32 × Mem) :=
  bnd (f8_spread n 28 (M.1 3 7) (1 : Int32) M) fun r1 M2 =>
  chk (inb a1 96) <|
  some ((M2.1 28 a1.toNatClampNeg), M2)
def f6_stepsByOldMap (n : Nat) (a1 : Int32) (M : Mem) : Option (Int32 × Mem) := b6_stepsByOldMap_0 (fun _ _ _ _ => none) n a1 M
abbrev rm6_stepsByOldMap : Room := { frames := 2, cells := 0, slots := 0, locals := 51 }
theorem y6_stepsByOldMap_w : yV RX6 yX6_stepsByOldMap cX6_stepsByOldMap 2 (some .int) 1 := ⟨g_918, g_919, g_10, g_920, rfl, by decide, by decide, by decide +kernel⟩
set_option maxHeartbeats 4000000 in
set_option maxRecDepth 100000 in
theorem w6_stepsByOldMap_0 {p : Program} {l : Launch} {e : Env} {s : State} {m : MethodId} {args : Array Value} {below : List Frame} {meth : Method} {c : Code} {z : Zt} {b : Nat}  (C : Cx p s m args c cX6_stepsByOldMap 2 RX6 z 339 b) (hr : meth.sig.returnType = (some .int)) (hk : meth.locks = false) {r : Int32} {M' : Mem} {rc : Nat → List Int32 → List Int64 → Mem → Option (Int32 × Mem)} {n : Nat}  {a1 : Int32} {M : Mem} {H : Heap} {locs : List Loc} {ls : Array Slot} (hf : b6_stepsByOldMap_0  rc n a1 M = some (r, M')) (hP : va_P z.1 vwCl (pw (xd z b) 339 b M) H) (hS : va_S (pA 339 b) s.heap H locs) (hl : lv_has ls 2 [(0, .ref (b + 27)), (1, .int a1)]) : W p l e rm6_stepsByOldMap s m args below meth c H locs 0 0 (MQ below (va_Qi (fun (r' : Int32) (M2 : Mem) => r' = r ∧ M2 = M') (fun M2 t => va_P z.1 vwCl (pw (xd z b) 339 b M2) t.heap) (pA 339 b)) args s 0 0 (pA 339 b)) (F0 m 0 ls []) := by
  have hx := C.1.1
  have hb := C.1.2.1
  unfold b6_stepsByOldMap_0 at hf
  refine lv_aload_n hx hb dX6_stepsByOldMap_0 rfl (lv_at hl 0 rfl) ?_
  refine pg C hP (k := 27) (j := 0) (Nat.le_of_ble_eq_true rfl) (xd_27 _ _) rfl iw_6 (Nat.le_of_ble_eq_true rfl) g_253 rfl rfl dX6_stepsByOldMap_1 ?_
  refine lv_aload_n hx hb dX6_stepsByOldMap_4 rfl (lv_at hl 0 rfl) ?_
  refine pg C hP (k := 27) (j := 0) (Nat.le_of_ble_eq_true rfl) (xd_27 _ _) rfl iw_6 (Nat.le_of_ble_eq_true rfl) g_253 rfl rfl dX6_stepsByOldMap_5 ?_
  refine pgN C hP (k := 3) (j := 7) (Nat.le_of_ble_eq_true rfl) (xd_3 _ _) rfl iw_8 (Nat.le_of_ble_eq_true rfl) g_89 rfl rfl dX6_stepsByOldMap_8 ?_
  refine lv_iconst (v := (1 : Int32)) hx hb dX6_stepsByOldMap_11 (by decide) ?_
  refine lv_aload_n hx hb dX6_stepsByOldMap_12 rfl (lv_at hl 0 rfl) ?_
  refine pg C hP (k := 27) (j := 1) (Nat.le_of_ble_eq_true rfl) (xd_27 _ _) rfl iw_6 (Nat.le_of_ble_eq_true rfl) g_254 rfl rfl dX6_stepsByOldMap_13 ?_
  obtain ⟨r1, M2, h3, hf⟩ := bnd_s hf
  refine pcVv (As := [.int (M.1 3 7), .int (1 : Int32), .ref (b + 28)]) C hP hS (k := 3) (Nat.le_of_ble_eq_true rfl) (xd_3 _ _) rfl (c8_spread a9_28 h3) y8_spread_w g_921 rfl rfl rfl ⟨Nat.le_of_ble_eq_true rfl, Nat.le_of_ble_eq_true rfl⟩ hl.1 rfl (Nat.le_of_ble_eq_true rfl) dX6_stepsByOldMap_16 ⟨Nat.le_of_ble_eq_true rfl, Nat.le_of_ble_eq_true rfl⟩ (fun H locs hP hS => ?_)
  refine lv_aload_n hx hb dX6_stepsByOldMap_19 rfl (lv_at hl 0 rfl) ?_
  refine pg C hP (k := 27) (j := 1) (Nat.le_of_ble_eq_true rfl) (xd_27 _ _) rfl iw_6 (Nat.le_of_ble_eq_true rfl) g_254 rfl rfl dX6_stepsByOldMap_20 ?_
  refine lv_iload_n hx hb dX6_stepsByOldMap_23 rfl (lv_at hl 1 rfl) ?_
  have h4 := chk_1 hf
  replace hf := chk_2 hf
  refine paI C hP (k := 28) (Nat.le_of_ble_eq_true rfl) (xd_28 _ _) h4 dX6_stepsByOldMap_24 ?_
  exact prI C hr hk hP hS hf dX6_stepsByOldMap_25
theorem c6_stepsByOldMap {l : Launch} {z : Zt} {b n : Nat}  {a1 : Int32} {M M' : Mem} {r : Int32} (hf : f6_stepsByOldMap n  a1 M = some (r, M')) : CI l z (xd z b) 339 b yX6_stepsByOldMap cX6_stepsByOldMap 2 (some .int) rm6_stepsByOldMap [.ref (b + 27), .int a1] M M' r :=
  CI.ofW (lv := [(0, .ref (b + 27)), (1, .int a1)]) (by decide) (Nat.le_of_ble_eq_true rfl) rfl (fun p e s m args below meth c ls C hr hk hP hS hl => w6_stepsByOldMap_0 (n := n)  C hr hk  hf hP hS hl)

-- BronzeKing$Survey.findFewerWalls(Z)Z
theorem dX6_findFewerWalls_0 : decode cX6_findFewerWalls 0 = .ok (.iconst 0, 1) := by decide +kernel
theorem dX6_findFewerWalls_1 : decode cX6_findFewerWalls 1 = .ok (.istore_n 2, 1) := by decide +kernel
theorem dX6_findFewerWalls_2 : decode cX6_findFewerWalls 2 = .ok (.iconst 0, 1) := by decide +kernel
theorem dX6_findFewerWalls_3 : decode cX6_findFewerWalls 3 = .ok (.istore_n 3, 1) := by decide +kernel
theorem dX6_findFewerWalls_4 : decode cX6_findFewerWalls 4 = .ok (.iload_n 3, 1) := by decide +kernel
theorem dX6_findFewerWalls_5 : decode cX6_findFewerWalls 5 = .ok (.bipush 96, 2) := by decide +kernel
theorem dX6_findFewerWalls_7 : decode cX6_findFewerWalls 7 = .ok (.if_icmp .ge 135, 3) := by decide +kernel
theorem dX6_findFewerWalls_10 : decode cX6_findFewerWalls 10 = .ok (.iconst 0, 1) := by decide +kernel
theorem dX6_findFewerWalls_11 : decode cX6_findFewerWalls 11 = .ok (.istore 4, 2) := by decide +kernel
theorem dX6_findFewerWalls_13 : decode cX6_findFewerWalls 13 = .ok (.iload 4, 2) := by decide +kernel
theorem dX6_findFewerWalls_15 : decode cX6_findFewerWalls 15 = .ok (.iconst 4, 1) := by decide +kernel
theorem dX6_findFewerWalls_16 : decode cX6_findFewerWalls 16 = .ok (.if_icmp .ge 120, 3) := by decide +kernel
theorem dX6_findFewerWalls_19 : decode cX6_findFewerWalls 19 = .ok (.aload_n 0, 1) := by decide +kernel
theorem dX6_findFewerWalls_20 : decode cX6_findFewerWalls 20 = .ok (.getfield 15, 3) := by decide +kernel
theorem dX6_findFewerWalls_23 : decode cX6_findFewerWalls 23 = .ok (.iload_n 3, 1) := by decide +kernel
theorem dX6_findFewerWalls_24 : decode cX6_findFewerWalls 24 = .ok (.iaload, 1) := by decide +kernel
theorem dX6_findFewerWalls_25 : decode cX6_findFewerWalls 25 = .ok (.bipush 99, 2) := by decide +kernel
theorem dX6_findFewerWalls_27 : decode cX6_findFewerWalls 27 = .ok (.if_icmp .ge 109, 3) := by decide +kernel
theorem dX6_findFewerWalls_30 : decode cX6_findFewerWalls 30 = .ok (.iload_n 3, 1) := by decide +kernel
theorem dX6_findFewerWalls_31 : decode cX6_findFewerWalls 31 = .ok (.iload 4, 2) := by decide +kernel
theorem dX6_findFewerWalls_33 : decode cX6_findFewerWalls 33 = .ok (.invokestatic 81, 3) := by decide +kernel
theorem dX6_findFewerWalls_36 : decode cX6_findFewerWalls 36 = .ok (.istore 5, 2) := by decide +kernel
theorem dX6_findFewerWalls_38 : decode cX6_findFewerWalls 38 = .ok (.iload 5, 2) := by decide +kernel
theorem dX6_findFewerWalls_40 : decode cX6_findFewerWalls 40 = .ok (.ifCond .lt 90, 3) := by decide +kernel
theorem dX6_findFewerWalls_43 : decode cX6_findFewerWalls 43 = .ok (.aload_n 0, 1) := by decide +kernel
theorem dX6_findFewerWalls_44 : decode cX6_findFewerWalls 44 = .ok (.getfield 54, 3) := by decide +kernel
theorem dX6_findFewerWalls_47 : decode cX6_findFewerWalls 47 = .ok (.iload 5, 2) := by decide +kernel
theorem dX6_findFewerWalls_49 : decode cX6_findFewerWalls 49 = .ok (.invokevirtual 85, 3) := by decide +kernel
theorem dX6_findFewerWalls_52 : decode cX6_findFewerWalls 52 = .ok (.ifCond .eq 78, 3) := by decide +kernel
theorem dX6_findFewerWalls_55 : decode cX6_findFewerWalls 55 = .ok (.iload_n 1, 1) := by decide +kernel
theorem dX6_findFewerWalls_56 : decode cX6_findFewerWalls 56 = .ok (.ifCond .eq 24, 3) := by decide +kernel
theorem dX6_findFewerWalls_59 : decode cX6_findFewerWalls 59 = .ok (.aload_n 0, 1) := by decide +kernel
theorem dX6_findFewerWalls_60 : decode cX6_findFewerWalls 60 = .ok (.getfield 9, 3) := by decide +kernel
theorem dX6_findFewerWalls_63 : decode cX6_findFewerWalls 63 = .ok (.iload 5, 2) := by decide +kernel
theorem dX6_findFewerWalls_65 : decode cX6_findFewerWalls 65 = .ok (.iaload, 1) := by decide +kernel
theorem dX6_findFewerWalls_66 : decode cX6_findFewerWalls 66 = .ok (.aload_n 0, 1) := by decide +kernel
theorem dX6_findFewerWalls_67 : decode cX6_findFewerWalls 67 = .ok (.getfield 9, 3) := by decide +kernel
theorem dX6_findFewerWalls_70 : decode cX6_findFewerWalls 70 = .ok (.iload_n 3, 1) := by decide +kernel
theorem dX6_findFewerWalls_71 : decode cX6_findFewerWalls 71 = .ok (.iaload, 1) := by decide +kernel
theorem dX6_findFewerWalls_72 : decode cX6_findFewerWalls 72 = .ok (.iconst 1, 1) := by decide +kernel
theorem dX6_findFewerWalls_73 : decode cX6_findFewerWalls 73 = .ok (.iadd, 1) := by decide +kernel
theorem dX6_findFewerWalls_74 : decode cX6_findFewerWalls 74 = .ok (.if_icmp .eq 6, 3) := by decide +kernel
theorem dX6_findFewerWalls_77 : decode cX6_findFewerWalls 77 = .ok (.goto 53, 3) := by decide +kernel
theorem dX6_findFewerWalls_80 : decode cX6_findFewerWalls 80 = .ok (.aload_n 0, 1) := by decide +kernel
theorem dX6_findFewerWalls_81 : decode cX6_findFewerWalls 81 = .ok (.getfield 15, 3) := by decide +kernel
theorem dX6_findFewerWalls_84 : decode cX6_findFewerWalls 84 = .ok (.iload_n 3, 1) := by decide +kernel
theorem dX6_findFewerWalls_85 : decode cX6_findFewerWalls 85 = .ok (.iaload, 1) := by decide +kernel
theorem dX6_findFewerWalls_86 : decode cX6_findFewerWalls 86 = .ok (.aload_n 0, 1) := by decide +kernel
theorem dX6_findFewerWalls_87 : decode cX6_findFewerWalls 87 = .ok (.getfield 54, 3) := by decide +kernel
theorem dX6_findFewerWalls_90 : decode cX6_findFewerWalls 90 = .ok (.iload 5, 2) := by decide +kernel
theorem dX6_findFewerWalls_92 : decode cX6_findFewerWalls 92 = .ok (.invokevirtual 85, 3) := by decide +kernel
theorem dX6_findFewerWalls_95 : decode cX6_findFewerWalls 95 = .ok (.iconst 1, 1) := by decide +kernel
theorem dX6_findFewerWalls_96 : decode cX6_findFewerWalls 96 = .ok (.if_icmp .ne 7, 3) := by decide +kernel
theorem dX6_findFewerWalls_99 : decode cX6_findFewerWalls 99 = .ok (.iconst 1, 1) := by decide +kernel
theorem dX6_findFewerWalls_100 : decode cX6_findFewerWalls 100 = .ok (.goto 4, 3) := by decide +kernel
theorem dX6_findFewerWalls_103 : decode cX6_findFewerWalls 103 = .ok (.iconst 0, 1) := by decide +kernel
theorem dX6_findFewerWalls_104 : decode cX6_findFewerWalls 104 = .ok (.iadd, 1) := by decide +kernel
theorem dX6_findFewerWalls_105 : decode cX6_findFewerWalls 105 = .ok (.istore 6, 2) := by decide +kernel
theorem dX6_findFewerWalls_107 : decode cX6_findFewerWalls 107 = .ok (.iload 6, 2) := by decide +kernel
theorem dX6_findFewerWalls_109 : decode cX6_findFewerWalls 109 = .ok (.aload_n 0, 1) := by decide +kernel
theorem dX6_findFewerWalls_110 : decode cX6_findFewerWalls 110 = .ok (.getfield 15, 3) := by decide +kernel
theorem dX6_findFewerWalls_113 : decode cX6_findFewerWalls 113 = .ok (.iload 5, 2) := by decide +kernel
theorem dX6_findFewerWalls_115 : decode cX6_findFewerWalls 115 = .ok (.iaload, 1) := by decide +kernel
theorem dX6_findFewerWalls_116 : decode cX6_findFewerWalls 116 = .ok (.if_icmp .ge 14, 3) := by decide +kernel
theorem dX6_findFewerWalls_119 : decode cX6_findFewerWalls 119 = .ok (.aload_n 0, 1) := by decide +kernel
theorem dX6_findFewerWalls_120 : decode cX6_findFewerWalls 120 = .ok (.getfield 15, 3) := by decide +kernel
theorem dX6_findFewerWalls_123 : decode cX6_findFewerWalls 123 = .ok (.iload 5, 2) := by decide +kernel
theorem dX6_findFewerWalls_125 : decode cX6_findFewerWalls 125 = .ok (.iload 6, 2) := by decide +kernel
theorem dX6_findFewerWalls_127 : decode cX6_findFewerWalls 127 = .ok (.iastore, 1) := by decide +kernel
theorem dX6_findFewerWalls_128 : decode cX6_findFewerWalls 128 = .ok (.iconst 1, 1) := by decide +kernel
theorem dX6_findFewerWalls_129 : decode cX6_findFewerWalls 129 = .ok (.istore_n 2, 1) := by decide +kernel
theorem dX6_findFewerWalls_130 : decode cX6_findFewerWalls 130 = .ok (.iinc 4 1, 3) := by decide +kernel
theorem dX6_findFewerWalls_133 : decode cX6_findFewerWalls 133 = .ok (.goto (-120), 3) := by decide +kernel
theorem dX6_findFewerWalls_136 : decode cX6_findFewerWalls 136 = .ok (.iinc 3 1, 3) := by decide +kernel
theorem dX6_findFewerWalls_139 : decode cX6_findFewerWalls 139 = .ok (.goto (-135), 3) := by decide +kernel
theorem dX6_findFewerWalls_142 : decode cX6_findFewerWalls 142 = .ok (.iload_n 2, 1) := by decide +kernel
theorem dX6_findFewerWalls_143 : decode cX6_findFewerWalls 143 = .ok (.ireturn, 1) := by decide +kernel
def b6_findFewerWalls_136 (rc : Nat → List Int32 → List Int64 → Mem → Option (Int32 × Mem)) (n : Nat) (i1 : Int32) (i2 : Int32) (i3 : Int32) (M : Mem) : Option (Int32 × Mem) :=
  lt (i3 + (1 : Int32)) fun v29 =>
  rc 4 [i1, i2, v29] [] M
def b6_findFewerWalls_130 (rc : Nat → List Int32 → List Int64 → Mem → Option (Int32 × Mem)) (n : Nat) (i1 : Int32) (i2 : Int32) (i3 : Int32) (i4 : Int32) (M : Mem) : Option (Int32 × Mem) :=
  lt (i4 + (1 : Int32)) fun v28 =>
  rc 13 [i1, i2, i3, v28] [] M
def b6_findFewerWalls_104 (rc : Nat → List Int32 → List Int64 → Mem → Option (Int32 × Mem)) (n : Nat) (i1 : Int32) (i2 : Int32) (i3 : Int32) (i4 : Int32) (i5 : Int32) (s0 : Int32) (s1 : Int32) (M : Mem) : Option (Int32 × Mem) :=
  lt (s0 + s1) fun v23 =>
  chk (inb i5 96) <|
  (if (M.1 29 i5.toNatClampNeg) ≤ v23 then (
   b6_findFewerWalls_130  rc n i1 i2 i3 i4 M)
  else (
   chk (inb i5 96) <|
   lt (wI M 29 i5.toNatClampNeg v23) fun M27 =>
   b6_findFewerWalls_130  rc n i1 (1 : Int32) i3 i4 M27))
def b6_findFewerWalls_80 (rc : Nat → List Int32 → List Int64 → Mem → Option (Int32 × Mem)) (n : Nat) (i1 : Int32) (i2 : Int32) (i3 : Int32) (i4 : Int32) (i5 : Int32) (M : Mem) : Option (Int32 × Mem) :=
  chk (inb i3 96) <|
  bnd (f8_kindOf n i5 M) fun r19 M20 =>
  (if r19 = (1 : Int32) then (
   b6_findFewerWalls_104  rc n i1 i2 i3 i4 i5 (M.1 29 i3.toNatClampNeg) (1 : Int32) M20)
  else (
   b6_findFewerWalls_104  rc n i1 i2 i3 i4 i5 (M.1 29 i3.toNatClampNeg) (0 : Int32) M20))
def b6_findFewerWalls_13 (rc : Nat → List Int32 → List Int64 → Mem → Option (Int32 × Mem)) (n : Nat) (i1 : Int32) (i2 : Int32) (i3 : Int32) (i4 : Int32) (M : Mem) : Option (Int32 × Mem) :=
  (if (4 : Int32) ≤ i4 then (
   b6_findFewerWalls_136  rc n i1 i2 i3 M)
  else (
   chk (inb i3 96) <|
   (if (99 : Int32) ≤ (M.1 29 i3.toNatClampNeg) then (
    b6_findFewerWalls_136  rc n i1 i2 i3 M)
   else (
    bnd (f11_beside n i3 i4 M) fun r6 M7 =>
    (if r6 < 0 then (
     b6_findFewerWalls_130  rc n i1 i2 i3 i4 M7)
    else (
     bnd (f8_kindOf n r6 M7) fun r10 M11 =>
     (if r10 = 0 then (
      b6_findFewerWalls_130  rc n i1 i2 i3 i4 M11)
     else (
      (if i1 = 0 then (
       b6_findFewerWalls_80  rc n i1 i2 i3 i4 r6 M11)
      else (
       chk (inb r6 96) <|
       chk (inb i3 96) <|
       (if (M11.1 28 r6.toNatClampNeg) = ((M11.1 28 i3.toNatClampNeg) + (1 : Int32)) then (
        b6_findFewerWalls_80  rc n i1 i2 i3 i4 r6 M11)
       else (
        b6_findFewerWalls_130  rc n i1 i2 i3 i4 M11))))))))))))
def b6_findFewerWalls_4 (rc : Nat → List Int32 → List Int64 → Mem → Option (Int32 × Mem)) (n : Nat) (i1 : Int32) (i2 : Int32) (i3 : Int32) (M : Mem) : Option (Int32 × Mem) :=
  (if (96 : Int32) ≤ i3 then (
   chk (isb i2) <|
   some (i2, M))
  else (
   b6_findFewerWalls_13  rc n i1 i2 i3 (0 : Int32) M))
def b6_findFewerWalls_0 (rc : Nat → List Int32 → List Int64 → Mem → Option (Int32 × Mem)) (n : Nat) (a1 : Int32) (M : Mem) : Option (Int32 × Mem) :=
  b6_findFewerWalls_4  rc n a1 (0 : Int32) (0 : Int32) M
def r6_findFewerWalls : Nat → Nat → List Int32 → List Int64 → Mem → Option (Int32 × Mem)
  | 0 => fun _ _ _ _ => none
  | n + 1 => fun pc li lj M =>
    if pc = 4 then (match li, lj with | [i1, i2, i3], [] => b6_findFewerWalls_4  (r6_findFewerWalls  n) n i1 i2 i3 M | _, _ => none) else
    if pc = 13 then (match li, lj with | [i1, i2, i3, i4], [] => b6_findFewerWalls_13  (r6_findFewerWalls  n) n i1 i2 i3 i4 M | _, _ => none) else
    none
theorem e6_findFewerWalls_4  (n : Nat) (i1 : Int32) (i2 : Int32) (i3 : Int32) (M : Mem) : r6_findFewerWalls  (n + 1) 4 [i1, i2, i3] [] M = b6_findFewerWalls_4  (r6_findFewerWalls  n) n i1 i2 i3 M := by
  rw [r6_findFewerWalls]
  simp
theorem e6_findFewerWalls_13  (n : Nat) (i1 : Int32) (i2 : Int32) (i3 : Int32) (i4 : Int32) (M : Mem) : r6_findFewerWalls  (n + 1) 13 [i1, i2, i3, i4] [] M = b6_findFewerWalls_13  (r6_findFewerWalls  n) n i1 i2 i3 i4 M := by
  rw [r6_findFewerWalls]
  simp
def f6_findFewerWalls (n : Nat) (a1 : Int32) (M : Mem) : Option (Int32 × Mem) := b6_findFewerWalls_0 (r6_findFewerWalls n) n a1 M
abbrev rm6_findFewerWalls : Room := { frames := 1, cells := 0, slots := 0, locals := 22 }
theorem y6_findFewerWalls_w : yV RX6 yX6_findFewerWalls cX6_findFewerWalls 7 (some .boolean) 1 := ⟨g_934, gp 31 rfl rfl, g_10, g_935, rfl, by decide, by decide, by decide +kernel⟩
set_option maxHeartbeats 4000000 in
set_option maxRecDepth 100000 in
theorem w6_findFewerWalls_136 {p : Program} {l : Launch} {e : Env} {s : State} {m : MethodId} {args : Array Value} {below : List Frame} {meth : Method} {c : Code} {z : Zt} {b : Nat}  (C : Cx p s m args c cX6_findFewerWalls 7 RX6 z 339 b) (hr : meth.sig.returnType = (some .boolean)) (hk : meth.locks = false) {r : Int32} {M' : Mem} {rc : Nat → List Int32 → List Int64 → Mem → Option (Int32 × Mem)} {n : Nat} (q4 : ∀ (i1 : Int32) (i2 : Int32) (i3 : Int32) (M : Mem) (H : Heap) (locs : List Loc) (ls : Array Slot), rc 4 [i1, i2, i3] [] M = some (r, M') → va_P z.1 vwCl (pw (xd z b) 339 b M) H → va_S (pA 339 b) s.heap H locs → lv_has ls 7 [(0, .ref (b + 27)), (1, .int i1), (2, .int i2), (3, .int i3)] → W p l e rm6_findFewerWalls s m args below meth c H locs 0 0 (MQ below (va_Qi (fun (r' : Int32) (M2 : Mem) => r' = r ∧ M2 = M') (fun M2 t => va_P z.1 vwCl (pw (xd z b) 339 b M2) t.heap) (pA 339 b)) args s 0 0 (pA 339 b)) (F0 m 4 ls [])) (q13 : ∀ (i1 : Int32) (i2 : Int32) (i3 : Int32) (i4 : Int32) (M : Mem) (H : Heap) (locs : List Loc) (ls : Array Slot), rc 13 [i1, i2, i3, i4] [] M = some (r, M') → va_P z.1 vwCl (pw (xd z b) 339 b M) H → va_S (pA 339 b) s.heap H locs → lv_has ls 7 [(0, .ref (b + 27)), (1, .int i1), (2, .int i2), (3, .int i3), (4, .int i4)] → W p l e rm6_findFewerWalls s m args below meth c H locs 0 0 (MQ below (va_Qi (fun (r' : Int32) (M2 : Mem) => r' = r ∧ M2 = M') (fun M2 t => va_P z.1 vwCl (pw (xd z b) 339 b M2) t.heap) (pA 339 b)) args s 0 0 (pA 339 b)) (F0 m 13 ls [])) {i1 : Int32} {i2 : Int32} {i3 : Int32} {M : Mem} {H : Heap} {locs : List Loc} {ls : Array Slot} (hf : b6_findFewerWalls_136  rc n i1 i2 i3 M = some (r, M')) (hP : va_P z.1 vwCl (pw (xd z b) 339 b M) H) (hS : va_S (pA 339 b) s.heap H locs) (hl : lv_has ls 7 [(0, .ref (b + 27)), (1, .int i1), (2, .int i2), (3, .int i3)]) : W p l e rm6_findFewerWalls s m args below meth c H locs 0 0 (MQ below (va_Qi (fun (r' : Int32) (M2 : Mem) => r' = r ∧ M2 = M') (fun M2 t => va_P z.1 vwCl (pw (xd z b) 339 b M2) t.heap) (pA 339 b)) args s 0 0 (pA 339 b)) (F0 m 136 ls []) := by
  have hx := C.1.1
  have hb := C.1.2.1
  unfold b6_findFewerWalls_136 at hf
  obtain ⟨v29, ev29⟩ : ∃ v : Int32, v = i3 + (1 : Int32) := ⟨_, rfl⟩
  replace hf := lt_c ev29 hf
  refine lv_iinc (v := v29) (lv' := [(3, .int v29), (0, .ref (b + 27)), (1, .int i1), (2, .int i2)]) hx hb dX6_findFewerWalls_136 hl (k := 3) rfl (by rw [ev29]; rfl) (by decide) rfl (fun ls hl => ?_)
  refine lv_goto (tgt := 4) hx hb dX6_findFewerWalls_139 (by decide) ?_
  exact q4 i1 i2 v29 M _ _ _ hf hP hS (lv_sub hl [1, 2, 3, 0] rfl)
set_option maxHeartbeats 4000000 in
set_option maxRecDepth 100000 in
theorem w6_findFewerWalls_130 {p : Program} {l : Launch} {e : Env} {s : State} {m : MethodId} {args : Array Value} {below : List Frame} {meth : Method} {c : Code} {z : Zt} {b : Nat}  (C : Cx p s m args c cX6_findFewerWalls 7 RX6 z 339 b) (hr : meth.sig.returnType = (some .boolean)) (hk : meth.locks = false) {r : Int32} {M' : Mem} {rc : Nat → List Int32 → List Int64 → Mem → Option (Int32 × Mem)} {n : Nat} (q4 : ∀ (i1 : Int32) (i2 : Int32) (i3 : Int32) (M : Mem) (H : Heap) (locs : List Loc) (ls : Array Slot), rc 4 [i1, i2, i3] [] M = some (r, M') → va_P z.1 vwCl (pw (xd z b) 339 b M) H → va_S (pA 339 b) s.heap H locs → lv_has ls 7 [(0, .ref (b + 27)), (1, .int i1), (2, .int i2), (3, .int i3)] → W p l e rm6_findFewerWalls s m args below meth c H locs 0 0 (MQ below (va_Qi (fun (r' : Int32) (M2 : Mem) => r' = r ∧ M2 = M') (fun M2 t => va_P z.1 vwCl (pw (xd z b) 339 b M2) t.heap) (pA 339 b)) args s 0 0 (pA 339 b)) (F0 m 4 ls [])) (q13 : ∀ (i1 : Int32) (i2 : Int32) (i3 : Int32) (i4 : Int32) (M : Mem) (H : Heap) (locs : List Loc) (ls : Array Slot), rc 13 [i1, i2, i3, i4] [] M = some (r, M') → va_P z.1 vwCl (pw (xd z b) 339 b M) H → va_S (pA 339 b) s.heap H locs → lv_has ls 7 [(0, .ref (b + 27)), (1, .int i1), (2, .int i2), (3, .int i3), (4, .int i4)] → W p l e rm6_findFewerWalls s m args below meth c H locs 0 0 (MQ below (va_Qi (fun (r' : Int32) (M2 : Mem) => r' = r ∧ M2 = M') (fun M2 t => va_P z.1 vwCl (pw (xd z b) 339 b M2) t.heap) (pA 339 b)) args s 0 0 (pA 339 b)) (F0 m 13 ls [])) {i1 : Int32} {i2 : Int32} {i3 : Int32} {i4 : Int32} {M : Mem} {H : Heap} {locs : List Loc} {ls : Array Slot} (hf : b6_findFewerWalls_130  rc n i1 i2 i3 i4 M = some (r, M')) (hP : va_P z.1 vwCl (pw (xd z b) 339 b M) H) (hS : va_S (pA 339 b) s.heap H locs) (hl : lv_has ls 7 [(0, .ref (b + 27)), (1, .int i1), (2, .int i2), (3, .int i3), (4, .int i4)]) : W p l e rm6_findFewerWalls s m args below meth c H locs 0 0 (MQ below (va_Qi (fun (r' : Int32) (M2 : Mem) => r' = r ∧ M2 = M') (fun M2 t => va_P z.1 vwCl (pw (xd z b) 339 b M2) t.heap) (pA 339 b)) args s 0 0 (pA 339 b)) (F0 m 130 ls []) := by
  have hx := C.1.1
  have hb := C.1.2.1
  unfold b6_findFewerWalls_130 at hf
  obtain ⟨v28, ev28⟩ : ∃ v : Int32, v = i4 + (1 : Int32) := ⟨_, rfl⟩
  replace hf := lt_c ev28 hf
  refine lv_iinc (v := v28) (lv' := [(4, .int v28), (0, .ref (b + 27)), (1, .int i1), (2, .int i2), (3, .int i3)]) hx hb dX6_findFewerWalls_130 hl (k := 4) rfl (by rw [ev28]; rfl) (by decide) rfl (fun ls hl => ?_)
  refine lv_goto (tgt := 13) hx hb dX6_findFewerWalls_133 (by decide) ?_
  exact q13 i1 i2 i3 v28 M _ _ _ hf hP hS (lv_sub hl [1, 2, 3, 4, 0] rfl)
set_option maxHeartbeats 4000000 in
set_option maxRecDepth 100000 in
theorem w6_findFewerWalls_104 {p : Program} {l : Launch} {e : Env} {s : State} {m : MethodId} {args : Array Value} {below : List Frame} {meth : Method} {c : Code} {z : Zt} {b : Nat}  (C : Cx p s m args c cX6_findFewerWalls 7 RX6 z 339 b) (hr : meth.sig.returnType = (some .boolean)) (hk : meth.locks = false) {r : Int32} {M' : Mem} {rc : Nat → List Int32 → List Int64 → Mem → Option (Int32 × Mem)} {n : Nat} (q4 : ∀ (i1 : Int32) (i2 : Int32) (i3 : Int32) (M : Mem) (H : Heap) (locs : List Loc) (ls : Array Slot), rc 4 [i1, i2, i3] [] M = some (r, M') → va_P z.1 vwCl (pw (xd z b) 339 b M) H → va_S (pA 339 b) s.heap H locs → lv_has ls 7 [(0, .ref (b + 27)), (1, .int i1), (2, .int i2), (3, .int i3)] → W p l e rm6_findFewerWalls s m args below meth c H locs 0 0 (MQ below (va_Qi (fun (r' : Int32) (M2 : Mem) => r' = r ∧ M2 = M') (fun M2 t => va_P z.1 vwCl (pw (xd z b) 339 b M2) t.heap) (pA 339 b)) args s 0 0 (pA 339 b)) (F0 m 4 ls [])) (q13 : ∀ (i1 : Int32) (i2 : Int32) (i3 : Int32) (i4 : Int32) (M : Mem) (H : Heap) (locs : List Loc) (ls : Array Slot), rc 13 [i1, i2, i3, i4] [] M = some (r, M') → va_P z.1 vwCl (pw (xd z b) 339 b M) H → va_S (pA 339 b) s.heap H locs → lv_has ls 7 [(0, .ref (b + 27)), (1, .int i1), (2, .int i2), (3, .int i3), (4, .int i4)] → W p l e rm6_findFewerWalls s m args below meth c H locs 0 0 (MQ below (va_Qi (fun (r' : Int32) (M2 : Mem) => r' = r ∧ M2 = M') (fun M2 t => va_P z.1 vwCl (pw (xd z b) 339 b M2) t.heap) (pA 339 b)) args s 0 0 (pA 339 b)) (F0 m 13 ls [])) {i1 : Int32} {i2 : Int32} {i3 : Int32} {i4 : Int32} {i5 : Int32} {s0 : Int32} {s1 : Int32} {M : Mem} {H : Heap} {locs : List Loc} {ls : Array Slot} (hf : b6_findFewerWalls_104  rc n i1 i2 i3 i4 i5 s0 s1 M = some (r, M')) (hP : va_P z.1 vwCl (pw (xd z b) 339 b M) H) (hS : va_S (pA 339 b) s.heap H locs) (hl : lv_has ls 7 [(0, .ref (b + 27)), (1, .int i1), (2, .int i2), (3, .int i3), (4, .int i4), (5, .int i5)]) : W p l e rm6_findFewerWalls s m args below meth c H locs 0 0 (MQ below (va_Qi (fun (r' : Int32) (M2 : Mem) => r' = r ∧ M2 = M') (fun M2 t => va_P z.1 vwCl (pw (xd z b) 339 b M2) t.heap) (pA 339 b)) args s 0 0 (pA 339 b)) (F0 m 104 ls [.int s1, .int s0]) := by
  have hx := C.1.1
  have hb := C.1.2.1
  unfold b6_findFewerWalls_104 at hf
  refine lv_iadd hx hb dX6_findFewerWalls_104 ?_
  refine lv_topi (fun v23 ev23 => ?_)
  replace hf := lt_c ev23 hf
  refine lv_istore (lv' := [(6, .int v23), (0, .ref (b + 27)), (1, .int i1), (2, .int i2), (3, .int i3), (4, .int i4), (5, .int i5)]) hx hb dX6_findFewerWalls_105 hl (by decide) rfl (fun ls hl => ?_)
  refine lv_iload hx hb dX6_findFewerWalls_107 (lv_at hl 0 rfl) ?_
  refine lv_aload_n hx hb dX6_findFewerWalls_109 rfl (lv_at hl 1 rfl) ?_
  refine pg C hP (k := 27) (j := 2) (Nat.le_of_ble_eq_true rfl) (xd_27 _ _) rfl iw_6 (Nat.le_of_ble_eq_true rfl) g_255 rfl rfl dX6_findFewerWalls_110 ?_
  refine lv_iload hx hb dX6_findFewerWalls_113 (lv_at hl 6 rfl) ?_
  have h24 := chk_1 hf
  replace hf := chk_2 hf
  refine paI C hP (k := 29) (Nat.le_of_ble_eq_true rfl) (xd_29 _ _) h24 dX6_findFewerWalls_115 ?_
  refine lv_icmp_ge (tgt := 130) hx hb dX6_findFewerWalls_116 (by decide) (fun c25 => ?_) (fun c25 => ?_)
  · replace hf := ite_t c25 hf
    exact w6_findFewerWalls_130 (n := n)  C hr hk q4 q13 hf hP hS (lv_sub hl [1, 2, 3, 4, 5] rfl)
  · replace hf := ite_f c25 hf
    refine lv_aload_n hx hb dX6_findFewerWalls_119 rfl (lv_at hl 1 rfl) ?_
    refine pg C hP (k := 27) (j := 2) (Nat.le_of_ble_eq_true rfl) (xd_27 _ _) rfl iw_6 (Nat.le_of_ble_eq_true rfl) g_255 rfl rfl dX6_findFewerWalls_120 ?_
    refine lv_iload hx hb dX6_findFewerWalls_123 (lv_at hl 6 rfl) ?_
    refine lv_iload hx hb dX6_findFewerWalls_125 (lv_at hl 0 rfl) ?_
    have h26 := chk_1 hf
    replace hf := chk_2 hf
    refine psI C hP hS (k := 29) (Nat.le_of_ble_eq_true rfl) (xd_29) h26 dX6_findFewerWalls_127 (fun M27 H locs eM27 hP hS => ?_)
    replace hf := lt_c eM27 hf
    refine lv_iconst (v := (1 : Int32)) hx hb dX6_findFewerWalls_128 (by decide) ?_
    refine lv_istore_n (lv' := [(2, .int (1 : Int32)), (6, .int v23), (0, .ref (b + 27)), (1, .int i1), (3, .int i3), (4, .int i4), (5, .int i5)]) hx hb dX6_findFewerWalls_129 rfl hl (by decide) rfl (fun ls hl => ?_)
    exact w6_findFewerWalls_130 (n := n)  C hr hk q4 q13 hf hP hS (lv_sub hl [2, 3, 0, 4, 5] rfl)
set_option maxHeartbeats 4000000 in
set_option maxRecDepth 100000 in
theorem w6_findFewerWalls_80 {p : Program} {l : Launch} {e : Env} {s : State} {m : MethodId} {args : Array Value} {below : List Frame} {meth : Method} {c : Code} {z : Zt} {b : Nat}  (C : Cx p s m args c cX6_findFewerWalls 7 RX6 z 339 b) (hr : meth.sig.returnType = (some .boolean)) (hk : meth.locks = false) {r : Int32} {M' : Mem} {rc : Nat → List Int32 → List Int64 → Mem → Option (Int32 × Mem)} {n : Nat} (q4 : ∀ (i1 : Int32) (i2 : Int32) (i3 : Int32) (M : Mem) (H : Heap) (locs : List Loc) (ls : Array Slot), rc 4 [i1, i2, i3] [] M = some (r, M') → va_P z.1 vwCl (pw (xd z b) 339 b M) H → va_S (pA 339 b) s.heap H locs → lv_has ls 7 [(0, .ref (b + 27)), (1, .int i1), (2, .int i2), (3, .int i3)] → W p l e rm6_findFewerWalls s m args below meth c H locs 0 0 (MQ below (va_Qi (fun (r' : Int32) (M2 : Mem) => r' = r ∧ M2 = M') (fun M2 t => va_P z.1 vwCl (pw (xd z b) 339 b M2) t.heap) (pA 339 b)) args s 0 0 (pA 339 b)) (F0 m 4 ls [])) (q13 : ∀ (i1 : Int32) (i2 : Int32) (i3 : Int32) (i4 : Int32) (M : Mem) (H : Heap) (locs : List Loc) (ls : Array Slot), rc 13 [i1, i2, i3, i4] [] M = some (r, M') → va_P z.1 vwCl (pw (xd z b) 339 b M) H → va_S (pA 339 b) s.heap H locs → lv_has ls 7 [(0, .ref (b + 27)), (1, .int i1), (2, .int i2), (3, .int i3), (4, .int i4)] → W p l e rm6_findFewerWalls s m args below meth c H locs 0 0 (MQ below (va_Qi (fun (r' : Int32) (M2 : Mem) => r' = r ∧ M2 = M') (fun M2 t => va_P z.1 vwCl (pw (xd z b) 339 b M2) t.heap) (pA 339 b)) args s 0 0 (pA 339 b)) (F0 m 13 ls [])) {i1 : Int32} {i2 : Int32} {i3 : Int32} {i4 : Int32} {i5 : Int32} {M : Mem} {H : Heap} {locs : List Loc} {ls : Array Slot} (hf : b6_findFewerWalls_80  rc n i1 i2 i3 i4 i5 M = some (r, M')) (hP : va_P z.1 vwCl (pw (xd z b) 339 b M) H) (hS : va_S (pA 339 b) s.heap H locs) (hl : lv_has ls 7 [(0, .ref (b + 27)), (1, .int i1), (2, .int i2), (3, .int i3), (4, .int i4), (5, .int i5)]) : W p l e rm6_findFewerWalls s m args below meth c H locs 0 0 (MQ below (va_Qi (fun (r' : Int32) (M2 : Mem) => r' = r ∧ M2 = M') (fun M2 t => va_P z.1 vwCl (pw (xd z b) 339 b M2) t.heap) (pA 339 b)) args s 0 0 (pA 339 b)) (F0 m 80 ls []) := by
  have hx := C.1.1
  have hb := C.1.2.1
  unfold b6_findFewerWalls_80 at hf
  refine lv_aload_n hx hb dX6_findFewerWalls_80 rfl (lv_at hl 0 rfl) ?_
  refine pg C hP (k := 27) (j := 2) (Nat.le_of_ble_eq_true rfl) (xd_27 _ _) rfl iw_6 (Nat.le_of_ble_eq_true rfl) g_255 rfl rfl dX6_findFewerWalls_81 ?_
  refine lv_iload_n hx hb dX6_findFewerWalls_84 rfl (lv_at hl 3 rfl) ?_
  have h18 := chk_1 hf
  replace hf := chk_2 hf
  refine paI C hP (k := 29) (Nat.le_of_ble_eq_true rfl) (xd_29 _ _) h18 dX6_findFewerWalls_85 ?_
  refine lv_aload_n hx hb dX6_findFewerWalls_86 rfl (lv_at hl 0 rfl) ?_
  refine pg C hP (k := 27) (j := 0) (Nat.le_of_ble_eq_true rfl) (xd_27 _ _) rfl iw_6 (Nat.le_of_ble_eq_true rfl) g_253 rfl rfl dX6_findFewerWalls_87 ?_
  refine lv_iload hx hb dX6_findFewerWalls_90 (lv_at hl 5 rfl) ?_
  obtain ⟨r19, M20, h21, hf⟩ := bnd_s hf
  refine pcVi (As := [.int i5]) C hP hS (k := 3) (Nat.le_of_ble_eq_true rfl) (xd_3 _ _) rfl (c8_kindOf  h21) y8_kindOf_w g_937 rfl rfl rfl ⟨Nat.le_of_ble_eq_true rfl, Nat.le_of_ble_eq_true rfl⟩ hl.1 rfl (Nat.le_of_ble_eq_true rfl) dX6_findFewerWalls_92 ⟨Nat.le_of_ble_eq_true rfl, Nat.le_of_ble_eq_true rfl⟩ (fun H locs hP hS => ?_)
  refine lv_iconst (v := (1 : Int32)) hx hb dX6_findFewerWalls_95 (by decide) ?_
  refine lv_icmp_ne (tgt := 103) hx hb dX6_findFewerWalls_96 (by decide) (fun c22 => ?_) (fun c22 => ?_)
  · replace hf := ite_f c22 hf
    refine lv_iconst (v := (0 : Int32)) hx hb dX6_findFewerWalls_103 (by decide) ?_
    exact w6_findFewerWalls_104 (n := n)  C hr hk q4 q13 hf hP hS (lv_sub hl [0, 1, 2, 3, 4, 5] rfl)
  · replace hf := ite_t c22 hf
    refine lv_iconst (v := (1 : Int32)) hx hb dX6_findFewerWalls_99 (by decide) ?_
    refine lv_goto (tgt := 104) hx hb dX6_findFewerWalls_100 (by decide) ?_
    exact w6_findFewerWalls_104 (n := n)  C hr hk q4 q13 hf hP hS (lv_sub hl [0, 1, 2, 3, 4, 5] rfl)
set_option maxHeartbeats 4000000 in
set_option maxRecDepth 100000 in
theorem w6_findFewerWalls_13 {p : Program} {l : Launch} {e : Env} {s : State} {m : MethodId} {args : Array Value} {below : List Frame} {meth : Method} {c : Code} {z : Zt} {b : Nat}  (C : Cx p s m args c cX6_findFewerWalls 7 RX6 z 339 b) (hr : meth.sig.returnType = (some .boolean)) (hk : meth.locks = false) {r : Int32} {M' : Mem} {rc : Nat → List Int32 → List Int64 → Mem → Option (Int32 × Mem)} {n : Nat} (q4 : ∀ (i1 : Int32) (i2 : Int32) (i3 : Int32) (M : Mem) (H : Heap) (locs : List Loc) (ls : Array Slot), rc 4 [i1, i2, i3] [] M = some (r, M') → va_P z.1 vwCl (pw (xd z b) 339 b M) H → va_S (pA 339 b) s.heap H locs → lv_has ls 7 [(0, .ref (b + 27)), (1, .int i1), (2, .int i2), (3, .int i3)] → W p l e rm6_findFewerWalls s m args below meth c H locs 0 0 (MQ below (va_Qi (fun (r' : Int32) (M2 : Mem) => r' = r ∧ M2 = M') (fun M2 t => va_P z.1 vwCl (pw (xd z b) 339 b M2) t.heap) (pA 339 b)) args s 0 0 (pA 339 b)) (F0 m 4 ls [])) (q13 : ∀ (i1 : Int32) (i2 : Int32) (i3 : Int32) (i4 : Int32) (M : Mem) (H : Heap) (locs : List Loc) (ls : Array Slot), rc 13 [i1, i2, i3, i4] [] M = some (r, M') → va_P z.1 vwCl (pw (xd z b) 339 b M) H → va_S (pA 339 b) s.heap H locs → lv_has ls 7 [(0, .ref (b + 27)), (1, .int i1), (2, .int i2), (3, .int i3), (4, .int i4)] → W p l e rm6_findFewerWalls s m args below meth c H locs 0 0 (MQ below (va_Qi (fun (r' : Int32) (M2 : Mem) => r' = r ∧ M2 = M') (fun M2 t => va_P z.1 vwCl (pw (xd z b) 339 b M2) t.heap) (pA 339 b)) args s 0 0 (pA 339 b)) (F0 m 13 ls [])) {i1 : Int32} {i2 : Int32} {i3 : Int32} {i4 : Int32} {M : Mem} {H : Heap} {locs : List Loc} {ls : Array Slot} (hf : b6_findFewerWalls_13  rc n i1 i2 i3 i4 M = some (r, M')) (hP : va_P z.1 vwCl (pw (xd z b) 339 b M) H) (hS : va_S (pA 339 b) s.heap H locs) (hl : lv_has ls 7 [(0, .ref (b + 27)), (1, .int i1), (2, .int i2), (3, .int i3), (4, .int i4)]) : W p l e rm6_findFewerWalls s m args below meth c H locs 0 0 (MQ below (va_Qi (fun (r' : Int32) (M2 : Mem) => r' = r ∧ M2 = M') (fun M2 t => va_P z.1 vwCl (pw (xd z b) 339 b M2) t.heap) (pA 339 b)) args s 0 0 (pA 339 b)) (F0 m 13 ls []) := by
  have hx := C.1.1
  have hb := C.1.2.1
  unfold b6_findFewerWalls_13 at hf
  refine lv_iload hx hb dX6_findFewerWalls_13 (lv_at hl 4 rfl) ?_
  refine lv_iconst (v := (4 : Int32)) hx hb dX6_findFewerWalls_15 (by decide) ?_
  refine lv_icmp_ge (tgt := 136) hx hb dX6_findFewerWalls_16 (by decide) (fun c3 => ?_) (fun c3 => ?_)
  · replace hf := ite_t c3 hf
    exact w6_findFewerWalls_136 (n := n)  C hr hk q4 q13 hf hP hS (lv_sub hl [0, 1, 2, 3] rfl)
  · replace hf := ite_f c3 hf
    refine lv_aload_n hx hb dX6_findFewerWalls_19 rfl (lv_at hl 0 rfl) ?_
    refine pg C hP (k := 27) (j := 2) (Nat.le_of_ble_eq_true rfl) (xd_27 _ _) rfl iw_6 (Nat.le_of_ble_eq_true rfl) g_255 rfl rfl dX6_findFewerWalls_20 ?_
    refine lv_iload_n hx hb dX6_findFewerWalls_23 rfl (lv_at hl 3 rfl) ?_
    have h4 := chk_1 hf
    replace hf := chk_2 hf
    refine paI C hP (k := 29) (Nat.le_of_ble_eq_true rfl) (xd_29 _ _) h4 dX6_findFewerWalls_24 ?_
    refine lv_bipush (v := (99 : Int32)) hx hb dX6_findFewerWalls_25 (by decide) ?_
    refine lv_icmp_ge (tgt := 136) hx hb dX6_findFewerWalls_27 (by decide) (fun c5 => ?_) (fun c5 => ?_)
    · replace hf := ite_t c5 hf
      exact w6_findFewerWalls_136 (n := n)  C hr hk q4 q13 hf hP hS (lv_sub hl [0, 1, 2, 3] rfl)
    · replace hf := ite_f c5 hf
      refine lv_iload_n hx hb dX6_findFewerWalls_30 rfl (lv_at hl 3 rfl) ?_
      refine lv_iload hx hb dX6_findFewerWalls_31 (lv_at hl 4 rfl) ?_
      obtain ⟨r6, M7, h8, hf⟩ := bnd_s hf
      refine pcTi (As := [.int i3, .int i4]) C hP hS (c11_beside  h8) y11_beside_w g_936 rfl rfl rfl ⟨Nat.le_of_ble_eq_true rfl, Nat.le_of_ble_eq_true rfl⟩ hl.1 rfl (Nat.le_of_ble_eq_true rfl) dX6_findFewerWalls_33 ⟨Nat.le_of_ble_eq_true rfl, Nat.le_of_ble_eq_true rfl⟩ (fun H locs hP hS => ?_)
      refine lv_istore (lv' := [(5, .int r6), (0, .ref (b + 27)), (1, .int i1), (2, .int i2), (3, .int i3), (4, .int i4)]) hx hb dX6_findFewerWalls_36 hl (by decide) rfl (fun ls hl => ?_)
      refine lv_iload hx hb dX6_findFewerWalls_38 (lv_at hl 0 rfl) ?_
      refine lv_if_lt (tgt := 130) hx hb dX6_findFewerWalls_40 (by decide) (fun c9 => ?_) (fun c9 => ?_)
      · replace hf := ite_t c9 hf
        exact w6_findFewerWalls_130 (n := n)  C hr hk q4 q13 hf hP hS (lv_sub hl [1, 2, 3, 4, 5] rfl)
      · replace hf := ite_f c9 hf
        refine lv_aload_n hx hb dX6_findFewerWalls_43 rfl (lv_at hl 1 rfl) ?_
        refine pg C hP (k := 27) (j := 0) (Nat.le_of_ble_eq_true rfl) (xd_27 _ _) rfl iw_6 (Nat.le_of_ble_eq_true rfl) g_253 rfl rfl dX6_findFewerWalls_44 ?_
        refine lv_iload hx hb dX6_findFewerWalls_47 (lv_at hl 0 rfl) ?_
        obtain ⟨r10, M11, h12, hf⟩ := bnd_s hf
        refine pcVi (As := [.int r6]) C hP hS (k := 3) (Nat.le_of_ble_eq_true rfl) (xd_3 _ _) rfl (c8_kindOf  h12) y8_kindOf_w g_937 rfl rfl rfl ⟨Nat.le_of_ble_eq_true rfl, Nat.le_of_ble_eq_true rfl⟩ hl.1 rfl (Nat.le_of_ble_eq_true rfl) dX6_findFewerWalls_49 ⟨Nat.le_of_ble_eq_true rfl, Nat.le_of_ble_eq_true rfl⟩ (fun H locs hP hS => ?_)
        refine lv_if_eq (tgt := 130) hx hb dX6_findFewerWalls_52 (by decide) (fun c13 => ?_) (fun c13 => ?_)
        · replace hf := ite_t c13 hf
          exact w6_findFewerWalls_130 (n := n)  C hr hk q4 q13 hf hP hS (lv_sub hl [1, 2, 3, 4, 5] rfl)
        · replace hf := ite_f c13 hf
          refine lv_iload_n hx hb dX6_findFewerWalls_55 rfl (lv_at hl 2 rfl) ?_
          refine lv_if_eq (tgt := 80) hx hb dX6_findFewerWalls_56 (by decide) (fun c14 => ?_) (fun c14 => ?_)
          · replace hf := ite_t c14 hf
            exact w6_findFewerWalls_80 (n := n)  C hr hk q4 q13 hf hP hS (lv_sub hl [1, 2, 3, 4, 5, 0] rfl)
          · replace hf := ite_f c14 hf
            refine lv_aload_n hx hb dX6_findFewerWalls_59 rfl (lv_at hl 1 rfl) ?_
            refine pg C hP (k := 27) (j := 1) (Nat.le_of_ble_eq_true rfl) (xd_27 _ _) rfl iw_6 (Nat.le_of_ble_eq_true rfl) g_254 rfl rfl dX6_findFewerWalls_60 ?_
            refine lv_iload hx hb dX6_findFewerWalls_63 (lv_at hl 0 rfl) ?_
            have h15 := chk_1 hf
            replace hf := chk_2 hf
            refine paI C hP (k := 28) (Nat.le_of_ble_eq_true rfl) (xd_28 _ _) h15 dX6_findFewerWalls_65 ?_
            refine lv_aload_n hx hb dX6_findFewerWalls_66 rfl (lv_at hl 1 rfl) ?_
            refine pg C hP (k := 27) (j := 1) (Nat.le_of_ble_eq_true rfl) (xd_27 _ _) rfl iw_6 (Nat.le_of_ble_eq_true rfl) g_254 rfl rfl dX6_findFewerWalls_67 ?_
            refine lv_iload_n hx hb dX6_findFewerWalls_70 rfl (lv_at hl 4 rfl) ?_
            have h16 := chk_1 hf
            replace hf := chk_2 hf
            refine paI C hP (k := 28) (Nat.le_of_ble_eq_true rfl) (xd_28 _ _) h16 dX6_findFewerWalls_71 ?_
            refine lv_iconst (v := (1 : Int32)) hx hb dX6_findFewerWalls_72 (by decide) ?_
            refine lv_iadd hx hb dX6_findFewerWalls_73 ?_
            refine lv_icmp_eq (tgt := 80) hx hb dX6_findFewerWalls_74 (by decide) (fun c17 => ?_) (fun c17 => ?_)
            · replace hf := ite_t c17 hf
              exact w6_findFewerWalls_80 (n := n)  C hr hk q4 q13 hf hP hS (lv_sub hl [1, 2, 3, 4, 5, 0] rfl)
            · replace hf := ite_f c17 hf
              refine lv_goto (tgt := 130) hx hb dX6_findFewerWalls_77 (by decide) ?_
              exact w6_findFewerWalls_130 (n := n)  C hr hk q4 q13 hf hP hS (lv_sub hl [1, 2, 3, 4, 5] rfl)
set_option maxHeartbeats 4000000 in
set_option maxRecDepth 100000 in
theorem w6_findFewerWalls_4 {p : Program} {l : Launch} {e : Env} {s : State} {m : MethodId} {args : Array Value} {below : List Frame} {meth : Method} {c : Code} {z : Zt} {b : Nat}  (C : Cx p s m args c cX6_findFewerWalls 7 RX6 z 339 b) (hr : meth.sig.returnType = (some .boolean)) (hk : meth.locks = false) {r : Int32} {M' : Mem} {rc : Nat → List Int32 → List Int64 → Mem → Option (Int32 × Mem)} {n : Nat} (q4 : ∀ (i1 : Int32) (i2 : Int32) (i3 : Int32) (M : Mem) (H : Heap) (locs : List Loc) (ls : Array Slot), rc 4 [i1, i2, i3] [] M = some (r, M') → va_P z.1 vwCl (pw (xd z b) 339 b M) H → va_S (pA 339 b) s.heap H locs → lv_has ls 7 [(0, .ref (b + 27)), (1, .int i1), (2, .int i2), (3, .int i3)] → W p l e rm6_findFewerWalls s m args below meth c H locs 0 0 (MQ below (va_Qi (fun (r' : Int32) (M2 : Mem) => r' = r ∧ M2 = M') (fun M2 t => va_P z.1 vwCl (pw (xd z b) 339 b M2) t.heap) (pA 339 b)) args s 0 0 (pA 339 b)) (F0 m 4 ls [])) (q13 : ∀ (i1 : Int32) (i2 : Int32) (i3 : Int32) (i4 : Int32) (M : Mem) (H : Heap) (locs : List Loc) (ls : Array Slot), rc 13 [i1, i2, i3, i4] [] M = some (r, M') → va_P z.1 vwCl (pw (xd z b) 339 b M) H → va_S (pA 339 b) s.heap H locs → lv_has ls 7 [(0, .ref (b + 27)), (1, .int i1), (2, .int i2), (3, .int i3), (4, .int i4)] → W p l e rm6_findFewerWalls s m args below meth c H locs 0 0 (MQ below (va_Qi (fun (r' : Int32) (M2 : Mem) => r' = r ∧ M2 = M') (fun M2 t => va_P z.1 vwCl (pw (xd z b) 339 b M2) t.heap) (pA 339 b)) args s 0 0 (pA 339 b)) (F0 m 13 ls [])) {i1 : Int32} {i2 : Int32} {i3 : Int32} {M : Mem} {H : Heap} {locs : List Loc} {ls : Array Slot} (hf : b6_findFewerWalls_4  rc n i1 i2 i3 M = some (r, M')) (hP : va_P z.1 vwCl (pw (xd z b) 339 b M) H) (hS : va_S (pA 339 b) s.heap H locs) (hl : lv_has ls 7 [(0, .ref (b + 27)), (1, .int i1), (2, .int i2), (3, .int i3)]) : W p l e rm6_findFewerWalls s m args below meth c H locs 0 0 (MQ below (va_Qi (fun (r' : Int32) (M2 : Mem) => r' = r ∧ M2 = M') (fun M2 t => va_P z.1 vwCl (pw (xd z b) 339 b M2) t.heap) (pA 339 b)) args s 0 0 (pA 339 b)) (F0 m 4 ls []) := by
  have hx := C.1.1
  have hb := C.1.2.1
  unfold b6_findFewerWalls_4 at hf
  refine lv_iload_n hx hb dX6_findFewerWalls_4 rfl (lv_at hl 3 rfl) ?_
  refine lv_bipush (v := (96 : Int32)) hx hb dX6_findFewerWalls_5 (by decide) ?_
  refine lv_icmp_ge (tgt := 142) hx hb dX6_findFewerWalls_7 (by decide) (fun c1 => ?_) (fun c1 => ?_)
  · replace hf := ite_t c1 hf
    refine lv_iload_n hx hb dX6_findFewerWalls_142 rfl (lv_at hl 2 rfl) ?_
    have h2 := chk_1 hf
    replace hf := chk_2 hf
    exact prZ C hr hk hP hS hf (isb_n h2) dX6_findFewerWalls_143
  · replace hf := ite_f c1 hf
    refine lv_iconst (v := (0 : Int32)) hx hb dX6_findFewerWalls_10 (by decide) ?_
    refine lv_istore (lv' := [(4, .int (0 : Int32)), (0, .ref (b + 27)), (1, .int i1), (2, .int i2), (3, .int i3)]) hx hb dX6_findFewerWalls_11 hl (by decide) rfl (fun ls hl => ?_)
    exact w6_findFewerWalls_13 (n := n)  C hr hk q4 q13 hf hP hS (lv_sub hl [1, 2, 3, 4, 0] rfl)
set_option maxHeartbeats 4000000 in
set_option maxRecDepth 100000 in
theorem w6_findFewerWalls_0 {p : Program} {l : Launch} {e : Env} {s : State} {m : MethodId} {args : Array Value} {below : List Frame} {meth : Method} {c : Code} {z : Zt} {b : Nat}  (C : Cx p s m args c cX6_findFewerWalls 7 RX6 z 339 b) (hr : meth.sig.returnType = (some .boolean)) (hk : meth.locks = false) {r : Int32} {M' : Mem} {rc : Nat → List Int32 → List Int64 → Mem → Option (Int32 × Mem)} {n : Nat} (q4 : ∀ (i1 : Int32) (i2 : Int32) (i3 : Int32) (M : Mem) (H : Heap) (locs : List Loc) (ls : Array Slot), rc 4 [i1, i2, i3] [] M = some (r, M') → va_P z.1 vwCl (pw (xd z b) 339 b M) H → va_S (pA 339 b) s.heap H locs → lv_has ls 7 [(0, .ref (b + 27)), (1, .int i1), (2, .int i2), (3, .int i3)] → W p l e rm6_findFewerWalls s m args below meth c H locs 0 0 (MQ below (va_Qi (fun (r' : Int32) (M2 : Mem) => r' = r ∧ M2 = M') (fun M2 t => va_P z.1 vwCl (pw (xd z b) 339 b M2) t.heap) (pA 339 b)) args s 0 0 (pA 339 b)) (F0 m 4 ls [])) (q13 : ∀ (i1 : Int32) (i2 : Int32) (i3 : Int32) (i4 : Int32) (M : Mem) (H : Heap) (locs : List Loc) (ls : Array Slot), rc 13 [i1, i2, i3, i4] [] M = some (r, M') → va_P z.1 vwCl (pw (xd z b) 339 b M) H → va_S (pA 339 b) s.heap H locs → lv_has ls 7 [(0, .ref (b + 27)), (1, .int i1), (2, .int i2), (3, .int i3), (4, .int i4)] → W p l e rm6_findFewerWalls s m args below meth c H locs 0 0 (MQ below (va_Qi (fun (r' : Int32) (M2 : Mem) => r' = r ∧ M2 = M') (fun M2 t => va_P z.1 vwCl (pw (xd z b) 339 b M2) t.heap) (pA 339 b)) args s 0 0 (pA 339 b)) (F0 m 13 ls [])) {a1 : Int32} {M : Mem} {H : Heap} {locs : List Loc} {ls : Array Slot} (hf : b6_findFewerWalls_0  rc n a1 M = some (r, M')) (hP : va_P z.1 vwCl (pw (xd z b) 339 b M) H) (hS : va_S (pA 339 b) s.heap H locs) (hl : lv_has ls 7 [(0, .ref (b + 27)), (1, .int a1)]) : W p l e rm6_findFewerWalls s m args below meth c H locs 0 0 (MQ below (va_Qi (fun (r' : Int32) (M2 : Mem) => r' = r ∧ M2 = M') (fun M2 t => va_P z.1 vwCl (pw (xd z b) 339 b M2) t.heap) (pA 339 b)) args s 0 0 (pA 339 b)) (F0 m 0 ls []) := by
  have hx := C.1.1
  have hb := C.1.2.1
  unfold b6_findFewerWalls_0 at hf
  refine lv_iconst (v := (0 : Int32)) hx hb dX6_findFewerWalls_0 (by decide) ?_
  refine lv_istore_n (lv' := [(2, .int (0 : Int32)), (0, .ref (b + 27)), (1, .int a1)]) hx hb dX6_findFewerWalls_1 rfl hl (by decide) rfl (fun ls hl => ?_)
  refine lv_iconst (v := (0 : Int32)) hx hb dX6_findFewerWalls_2 (by decide) ?_
  refine lv_istore_n (lv' := [(3, .int (0 : Int32)), (2, .int (0 : Int32)), (0, .ref (b + 27)), (1, .int a1)]) hx hb dX6_findFewerWalls_3 rfl hl (by decide) rfl (fun ls hl => ?_)
  exact w6_findFewerWalls_4 (n := n)  C hr hk q4 q13 hf hP hS (lv_sub hl [2, 3, 1, 0] rfl)
set_option maxHeartbeats 4000000 in
set_option maxRecDepth 100000 in
theorem l6_findFewerWalls {p : Program} {l : Launch} {e : Env} {s : State} {m : MethodId} {args : Array Value} {below : List Frame} {meth : Method} {c : Code} {z : Zt} {b : Nat}  (C : Cx p s m args c cX6_findFewerWalls 7 RX6 z 339 b) (hr : meth.sig.returnType = (some .boolean)) (hk : meth.locks = false) {r : Int32} {M' : Mem} (n : Nat) : (∀ (i1 : Int32) (i2 : Int32) (i3 : Int32) (M : Mem) (H : Heap) (locs : List Loc) (ls : Array Slot), (r6_findFewerWalls  n) 4 [i1, i2, i3] [] M = some (r, M') → va_P z.1 vwCl (pw (xd z b) 339 b M) H → va_S (pA 339 b) s.heap H locs → lv_has ls 7 [(0, .ref (b + 27)), (1, .int i1), (2, .int i2), (3, .int i3)] → W p l e rm6_findFewerWalls s m args below meth c H locs 0 0 (MQ below (va_Qi (fun (r' : Int32) (M2 : Mem) => r' = r ∧ M2 = M') (fun M2 t => va_P z.1 vwCl (pw (xd z b) 339 b M2) t.heap) (pA 339 b)) args s 0 0 (pA 339 b)) (F0 m 4 ls [])) ∧ (∀ (i1 : Int32) (i2 : Int32) (i3 : Int32) (i4 : Int32) (M : Mem) (H : Heap) (locs : List Loc) (ls : Array Slot), (r6_findFewerWalls  n) 13 [i1, i2, i3, i4] [] M = some (r, M') → va_P z.1 vwCl (pw (xd z b) 339 b M) H → va_S (pA 339 b) s.heap H locs → lv_has ls 7 [(0, .ref (b + 27)), (1, .int i1), (2, .int i2), (3, .int i3), (4, .int i4)] → W p l e rm6_findFewerWalls s m args below meth c H locs 0 0 (MQ below (va_Qi (fun (r' : Int32) (M2 : Mem) => r' = r ∧ M2 = M') (fun M2 t => va_P z.1 vwCl (pw (xd z b) 339 b M2) t.heap) (pA 339 b)) args s 0 0 (pA 339 b)) (F0 m 13 ls [])) := by
  induction n with
  | zero => exact ⟨fun _ _ _ _ _ _ _ hf => (by cases hf), fun _ _ _ _ _ _ _ _ hf => (by cases hf)⟩
  | succ n ih => exact ⟨fun _ _ _ _ _ _ _ hf hP hS hl => w6_findFewerWalls_4 (n := n)  C hr hk ih.1 ih.2 ((e6_findFewerWalls_4  n _ _ _ _).symm.trans hf) hP hS hl, fun _ _ _ _ _ _ _ _ hf hP hS hl => w6_findFewerWalls_13 (n := n)  C hr hk ih.1 ih.2 ((e6_findFewerWalls_13  n _ _ _ _ _).symm.trans hf) hP hS hl⟩
theorem c6_findFewerWalls {l : Launch} {z : Zt} {b n : Nat}  {a1 : Int32} {M M' : Mem} {r : Int32} (hf : f6_findFewerWalls n  a1 M = some (r, M')) : CI l z (xd z b) 339 b yX6_findFewerWalls cX6_findFewerWalls 7 (some .boolean) rm6_findFewerWalls [.ref (b + 27), .int a1] M M' r :=
  CI.ofW (lv := [(0, .ref (b + 27)), (1, .int a1)]) (by decide) (Nat.le_of_ble_eq_true rfl) rfl (fun p e s m args below meth c ls C hr hk hP hS hl => w6_findFewerWalls_0 (n := n)  C hr hk (l6_findFewerWalls  C hr hk n).1 (l6_findFewerWalls  C hr hk n).2 hf hP hS hl)
