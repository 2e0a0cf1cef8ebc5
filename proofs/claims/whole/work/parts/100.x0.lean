-- BronzeKing$Course.take(LBronzeKing$Course;)V
theorem dX0_take_0 : decode cX0_take 0 = .ok (.aload_n 1, 1) := by decide +kernel
theorem dX0_take_1 : decode cX0_take 1 = .ok (.getfield 9, 3) := by decide +kernel
theorem dX0_take_4 : decode cX0_take 4 = .ok (.iconst 0, 1) := by decide +kernel
theorem dX0_take_5 : decode cX0_take 5 = .ok (.aload_n 0, 1) := by decide +kernel
theorem dX0_take_6 : decode cX0_take 6 = .ok (.getfield 9, 3) := by decide +kernel
theorem dX0_take_9 : decode cX0_take 9 = .ok (.iconst 0, 1) := by decide +kernel
theorem dX0_take_10 : decode cX0_take 10 = .ok (.bipush 96, 2) := by decide +kernel
theorem dX0_take_12 : decode cX0_take 12 = .ok (.invokestatic 37, 3) := by decide +kernel
theorem dX0_take_15 : decode cX0_take 15 = .ok (.aload_n 1, 1) := by decide +kernel
theorem dX0_take_16 : decode cX0_take 16 = .ok (.getfield 15, 3) := by decide +kernel
theorem dX0_take_19 : decode cX0_take 19 = .ok (.iconst 0, 1) := by decide +kernel
theorem dX0_take_20 : decode cX0_take 20 = .ok (.aload_n 0, 1) := by decide +kernel
theorem dX0_take_21 : decode cX0_take 21 = .ok (.getfield 15, 3) := by decide +kernel
theorem dX0_take_24 : decode cX0_take 24 = .ok (.iconst 0, 1) := by decide +kernel
theorem dX0_take_25 : decode cX0_take 25 = .ok (.bipush 60, 2) := by decide +kernel
theorem dX0_take_27 : decode cX0_take 27 = .ok (.invokestatic 37, 3) := by decide +kernel
theorem dX0_take_30 : decode cX0_take 30 = .ok (.aload_n 0, 1) := by decide +kernel
theorem dX0_take_31 : decode cX0_take 31 = .ok (.aload_n 1, 1) := by decide +kernel
theorem dX0_take_32 : decode cX0_take 32 = .ok (.getfield 18, 3) := by decide +kernel
theorem dX0_take_35 : decode cX0_take 35 = .ok (.putfield 18, 3) := by decide +kernel
theorem dX0_take_38 : decode cX0_take 38 = .ok (.aload_n 0, 1) := by decide +kernel
theorem dX0_take_39 : decode cX0_take 39 = .ok (.aload_n 1, 1) := by decide +kernel
theorem dX0_take_40 : decode cX0_take 40 = .ok (.getfield 22, 3) := by decide +kernel
theorem dX0_take_43 : decode cX0_take 43 = .ok (.putfield 22, 3) := by decide +kernel
theorem dX0_take_46 : decode cX0_take 46 = .ok (.aload_n 0, 1) := by decide +kernel
theorem dX0_take_47 : decode cX0_take 47 = .ok (.aload_n 1, 1) := by decide +kernel
theorem dX0_take_48 : decode cX0_take 48 = .ok (.getfield 25, 3) := by decide +kernel
theorem dX0_take_51 : decode cX0_take 51 = .ok (.putfield 25, 3) := by decide +kernel
theorem dX0_take_54 : decode cX0_take 54 = .ok (.aload_n 0, 1) := by decide +kernel
theorem dX0_take_55 : decode cX0_take 55 = .ok (.aload_n 1, 1) := by decide +kernel
theorem dX0_take_56 : decode cX0_take 56 = .ok (.getfield 28, 3) := by decide +kernel
theorem dX0_take_59 : decode cX0_take 59 = .ok (.putfield 28, 3) := by decide +kernel
theorem dX0_take_62 : decode cX0_take 62 = .ok (.aload_n 0, 1) := by decide +kernel
theorem dX0_take_63 : decode cX0_take 63 = .ok (.aload_n 1, 1) := by decide +kernel
theorem dX0_take_64 : decode cX0_take 64 = .ok (.getfield 31, 3) := by decide +kernel
theorem dX0_take_67 : decode cX0_take 67 = .ok (.putfield 31, 3) := by decide +kernel
theorem dX0_take_70 : decode cX0_take 70 = .ok (.aload_n 0, 1) := by decide +kernel
theorem dX0_take_71 : decode cX0_take 71 = .ok (.aload_n 1, 1) := by decide +kernel
theorem dX0_take_72 : decode cX0_take 72 = .ok (.getfield 34, 3) := by decide +kernel
theorem dX0_take_75 : decode cX0_take 75 = .ok (.putfield 34, 3) := by decide +kernel
theorem dX0_take_78 : decode cX0_take 78 = .ok (.return_, 1) := by decide +kernel
def b0_take_0 (k0 : Nat) (k1 : Nat) (rc : Nat → List Int32 → List Int64 → Mem → Option (Unit × Mem)) (n : Nat) (M : Mem) : Option (Unit × Mem) :=
  lt (wR M (k0 + 1) (va_cpy (M.1 (k1 + 1)) (M.1 (k0 + 1)) (0 : Int32).toNatClampNeg (0 : Int32).toNatClampNeg (96 : Int32).toNatClampNeg)) fun M1 =>
  lt (wR M1 (k0 + 2) (va_cpy (M1.1 (k1 + 2)) (M1.1 (k0 + 2)) (0 : Int32).toNatClampNeg (0 : Int32).toNatClampNeg (60 : Int32).toNatClampNeg)) fun M2 =>
  lt (wI M2 k0 2 (M2.1 k1 2)) fun M3 =>
  lt (wI M3 k0 3 (M3.1 k1 3)) fun M4 =>
  lt (wI M4 k0 4 (M4.1 k1 4)) fun M5 =>
  lt (wI M5 k0 5 (M5.1 k1 5)) fun M6 =>
  lt (wI M6 k0 6 (M6.1 k1 6)) fun M7 =>
  lt (wI M7 k0 7 (M7.1 k1 7)) fun M8 =>
  some ((), M8)
def f0_take (n : Nat) (k0 : Nat) (k1 : Nat) (M : Mem) : Option (Unit × Mem) := b0_take_0 k0 k1 (fun _ _ _ _ => none) n M
abbrev rm0_take : Room := { frames := 1, cells := 0, slots := 0, locals := 60 }
theorem y0_take_w : yV RX0 yX0_take cX0_take 2 none 1 := ⟨g_812, g_813, g_13, g_814, rfl, by decide, by decide, by decide +kernel⟩
set_option maxHeartbeats 4000000 in
set_option maxRecDepth 100000 in
theorem w0_take_0 {p : Program} {l : Launch} {e : Env} {s : State} {m : MethodId} {args : Array Value} {below : List Frame} {meth : Method} {c : Code} {z : Zt} {b : Nat} {k0 : Nat} (hk0 : isCo k0) {k1 : Nat} (hk1 : isCo k1) (C : Cx p s m args c cX0_take 2 RX0 z 339 b) (hr : meth.sig.returnType = none) (hk : meth.locks = false) {r : Unit} {M' : Mem} {rc : Nat → List Int32 → List Int64 → Mem → Option (Unit × Mem)} {n : Nat}   {M : Mem} {H : Heap} {locs : List Loc} {ls : Array Slot} (hf : b0_take_0 k0 k1 rc n  M = some (r, M')) (hP : va_P z.1 vwCl (pw (xd z b) 339 b M) H) (hS : va_S (pA 339 b) s.heap H locs) (hl : lv_has ls 2 [(0, .ref (b + k0)), (1, .ref (b + k1))]) : W p l e rm0_take s m args below meth c H locs 0 0 (MQ below (va_Qv (fun (M2 : Mem) => M2 = M') (fun M2 t => va_P z.1 vwCl (pw (xd z b) 339 b M2) t.heap) (pA 339 b)) args s 0 0 (pA 339 b)) (F0 m 0 ls []) := by
  have hx := C.1.1
  have hb := C.1.2.1
  unfold b0_take_0 at hf
  refine lv_aload_n hx hb dX0_take_0 rfl (lv_at hl 1 rfl) ?_
  refine pg C hP (k := k1) (j := 0) (co_lt hk1) ((co_d hk1) _ _) rfl iw_0 (Nat.le_of_ble_eq_true rfl) g_353 rfl rfl dX0_take_1 ?_
  refine lv_iconst (v := (0 : Int32)) hx hb dX0_take_4 (by decide) ?_
  refine lv_aload_n hx hb dX0_take_5 rfl (lv_at hl 0 rfl) ?_
  refine pg C hP (k := k0) (j := 0) (co_lt hk0) ((co_d hk0) _ _) rfl iw_0 (Nat.le_of_ble_eq_true rfl) g_353 rfl rfl dX0_take_6 ?_
  refine lv_iconst (v := (0 : Int32)) hx hb dX0_take_9 (by decide) ?_
  refine lv_bipush (v := (96 : Int32)) hx hb dX0_take_10 (by decide) ?_
  refine pcopy C hP hS (k0 := k1 + 1) (k1 := k0 + 1) (by rw [C.1.2.2.1]; exact hl.1.symm) g_815 g_673 g_672 g_21 (co_lt1 hk1) (co_lt1 hk0) ((co_d1 hk1)) ((co_d1 hk0)) (by decide) (by decide) (by decide) (by decide) (by decide) (Nat.le_of_ble_eq_true rfl) (Nat.le_of_ble_eq_true rfl) dX0_take_12 (fun M1 H locs eM1 hP hS => ?_)
  replace hf := lt_c eM1 hf
  refine lv_aload_n hx hb dX0_take_15 rfl (lv_at hl 1 rfl) ?_
  refine pg C hP (k := k1) (j := 1) (co_lt hk1) ((co_d hk1) _ _) rfl iw_0 (Nat.le_of_ble_eq_true rfl) g_356 rfl rfl dX0_take_16 ?_
  refine lv_iconst (v := (0 : Int32)) hx hb dX0_take_19 (by decide) ?_
  refine lv_aload_n hx hb dX0_take_20 rfl (lv_at hl 0 rfl) ?_
  refine pg C hP (k := k0) (j := 1) (co_lt hk0) ((co_d hk0) _ _) rfl iw_0 (Nat.le_of_ble_eq_true rfl) g_356 rfl rfl dX0_take_21 ?_
  refine lv_iconst (v := (0 : Int32)) hx hb dX0_take_24 (by decide) ?_
  refine lv_bipush (v := (60 : Int32)) hx hb dX0_take_25 (by decide) ?_
  refine pcopy C hP hS (k0 := k1 + 2) (k1 := k0 + 2) (by rw [C.1.2.2.1]; exact hl.1.symm) g_815 g_673 g_672 g_21 (co_lt2 hk1) (co_lt2 hk0) ((co_d2 hk1)) ((co_d2 hk0)) (by decide) (by decide) (by decide) (by decide) (by decide) (Nat.le_of_ble_eq_true rfl) (Nat.le_of_ble_eq_true rfl) dX0_take_27 (fun M2 H locs eM2 hP hS => ?_)
  replace hf := lt_c eM2 hf
  refine lv_aload_n hx hb dX0_take_30 rfl (lv_at hl 0 rfl) ?_
  refine lv_aload_n hx hb dX0_take_31 rfl (lv_at hl 1 rfl) ?_
  refine pg C hP (k := k1) (j := 2) (co_lt hk1) ((co_d hk1) _ _) rfl iw_0 (Nat.le_of_ble_eq_true rfl) g_359 rfl rfl dX0_take_32 ?_
  refine ppI C hP hS (k := k0) (j := 2) (ty := .int) (co_lt hk0) ((co_d hk0) _ _) rfl iw_0 tyX0 tyX0_ok nmX0 (Nat.le_of_ble_eq_true rfl) g_359 rfl rfl (by decide +kernel) rfl rfl (Nat.le_of_ble_eq_true rfl) (xu_co_2 hk0 _ _ _) dX0_take_35 (fun M3 H locs eM3 hP hS => ?_)
  replace hf := lt_c eM3 hf
  refine lv_aload_n hx hb dX0_take_38 rfl (lv_at hl 0 rfl) ?_
  refine lv_aload_n hx hb dX0_take_39 rfl (lv_at hl 1 rfl) ?_
  refine pg C hP (k := k1) (j := 3) (co_lt hk1) ((co_d hk1) _ _) rfl iw_0 (Nat.le_of_ble_eq_true rfl) g_362 rfl rfl dX0_take_40 ?_
  refine ppI C hP hS (k := k0) (j := 3) (ty := .int) (co_lt hk0) ((co_d hk0) _ _) rfl iw_0 tyX0 tyX0_ok nmX0 (Nat.le_of_ble_eq_true rfl) g_362 rfl rfl (by decide +kernel) rfl rfl (Nat.le_of_ble_eq_true rfl) (xu_co_3 hk0 _ _ _) dX0_take_43 (fun M4 H locs eM4 hP hS => ?_)
  replace hf := lt_c eM4 hf
  refine lv_aload_n hx hb dX0_take_46 rfl (lv_at hl 0 rfl) ?_
  refine lv_aload_n hx hb dX0_take_47 rfl (lv_at hl 1 rfl) ?_
  refine pg C hP (k := k1) (j := 4) (co_lt hk1) ((co_d hk1) _ _) rfl iw_0 (Nat.le_of_ble_eq_true rfl) g_364 rfl rfl dX0_take_48 ?_
  refine ppI C hP hS (k := k0) (j := 4) (ty := .int) (co_lt hk0) ((co_d hk0) _ _) rfl iw_0 tyX0 tyX0_ok nmX0 (Nat.le_of_ble_eq_true rfl) g_364 rfl rfl (by decide +kernel) rfl rfl (Nat.le_of_ble_eq_true rfl) (xu_co_4 hk0 _ _ _) dX0_take_51 (fun M5 H locs eM5 hP hS => ?_)
  replace hf := lt_c eM5 hf
  refine lv_aload_n hx hb dX0_take_54 rfl (lv_at hl 0 rfl) ?_
  refine lv_aload_n hx hb dX0_take_55 rfl (lv_at hl 1 rfl) ?_
  refine pg C hP (k := k1) (j := 5) (co_lt hk1) ((co_d hk1) _ _) rfl iw_0 (Nat.le_of_ble_eq_true rfl) g_367 rfl rfl dX0_take_56 ?_
  refine ppI C hP hS (k := k0) (j := 5) (ty := .int) (co_lt hk0) ((co_d hk0) _ _) rfl iw_0 tyX0 tyX0_ok nmX0 (Nat.le_of_ble_eq_true rfl) g_367 rfl rfl (by decide +kernel) rfl rfl (Nat.le_of_ble_eq_true rfl) (xu_co_5 hk0 _ _ _) dX0_take_59 (fun M6 H locs eM6 hP hS => ?_)
  replace hf := lt_c eM6 hf
  refine lv_aload_n hx hb dX0_take_62 rfl (lv_at hl 0 rfl) ?_
  refine lv_aload_n hx hb dX0_take_63 rfl (lv_at hl 1 rfl) ?_
  refine pg C hP (k := k1) (j := 6) (co_lt hk1) ((co_d hk1) _ _) rfl iw_0 (Nat.le_of_ble_eq_true rfl) g_370 rfl rfl dX0_take_64 ?_
  refine ppI C hP hS (k := k0) (j := 6) (ty := .int) (co_lt hk0) ((co_d hk0) _ _) rfl iw_0 tyX0 tyX0_ok nmX0 (Nat.le_of_ble_eq_true rfl) g_370 rfl rfl (by decide +kernel) rfl rfl (Nat.le_of_ble_eq_true rfl) (xu_co_6 hk0 _ _ _) dX0_take_67 (fun M7 H locs eM7 hP hS => ?_)
  replace hf := lt_c eM7 hf
  refine lv_aload_n hx hb dX0_take_70 rfl (lv_at hl 0 rfl) ?_
  refine lv_aload_n hx hb dX0_take_71 rfl (lv_at hl 1 rfl) ?_
  refine pg C hP (k := k1) (j := 7) (co_lt hk1) ((co_d hk1) _ _) rfl iw_0 (Nat.le_of_ble_eq_true rfl) g_373 rfl rfl dX0_take_72 ?_
  refine ppI C hP hS (k := k0) (j := 7) (ty := .int) (co_lt hk0) ((co_d hk0) _ _) rfl iw_0 tyX0 tyX0_ok nmX0 (Nat.le_of_ble_eq_true rfl) g_373 rfl rfl (by decide +kernel) rfl rfl (Nat.le_of_ble_eq_true rfl) (xu_co_7 hk0 _ _ _) dX0_take_75 (fun M8 H locs eM8 hP hS => ?_)
  replace hf := lt_c eM8 hf
  exact prV C hr hk hP hS hf dX0_take_78
theorem c0_take {l : Launch} {z : Zt} {b n : Nat} {k0 : Nat} (hk0 : isCo k0) {k1 : Nat} (hk1 : isCo k1)  {M M' : Mem} {r : Unit} (hf : f0_take n k0 k1  M = some (r, M')) : CV l z (xd z b) 339 b yX0_take cX0_take 2 none rm0_take [.ref (b + k0), .ref (b + k1)] M M' :=
  CV.ofW (lv := [(0, .ref (b + k0)), (1, .ref (b + k1))]) (by decide) (Nat.le_of_ble_eq_true rfl) rfl (fun p e s m args below meth c ls C hr hk hP hS hl => w0_take_0 (n := n) hk0 hk1 C hr hk  hf hP hS hl)

-- BronzeKing$Course.forgetWalk()V
theorem dX0_forgetWalk_0 : decode cX0_forgetWalk 0 = .ok (.aload_n 0, 1) := by decide +kernel
theorem dX0_forgetWalk_1 : decode cX0_forgetWalk 1 = .ok (.bipush (-2), 2) := by decide +kernel
theorem dX0_forgetWalk_3 : decode cX0_forgetWalk 3 = .ok (.putfield 25, 3) := by decide +kernel
theorem dX0_forgetWalk_6 : decode cX0_forgetWalk 6 = .ok (.aload_n 0, 1) := by decide +kernel
theorem dX0_forgetWalk_7 : decode cX0_forgetWalk 7 = .ok (.iconst 0, 1) := by decide +kernel
theorem dX0_forgetWalk_8 : decode cX0_forgetWalk 8 = .ok (.putfield 28, 3) := by decide +kernel
theorem dX0_forgetWalk_11 : decode cX0_forgetWalk 11 = .ok (.aload_n 0, 1) := by decide +kernel
theorem dX0_forgetWalk_12 : decode cX0_forgetWalk 12 = .ok (.iconst 0, 1) := by decide +kernel
theorem dX0_forgetWalk_13 : decode cX0_forgetWalk 13 = .ok (.putfield 31, 3) := by decide +kernel
theorem dX0_forgetWalk_16 : decode cX0_forgetWalk 16 = .ok (.aload_n 0, 1) := by decide +kernel
theorem dX0_forgetWalk_17 : decode cX0_forgetWalk 17 = .ok (.iconst 0, 1) := by decide +kernel
theorem dX0_forgetWalk_18 : decode cX0_forgetWalk 18 = .ok (.putfield 34, 3) := by decide +kernel
theorem dX0_forgetWalk_21 : decode cX0_forgetWalk 21 = .ok (.return_, 1) := by decide +kernel
def b0_forgetWalk_0 (k0 : Nat) (rc : Nat → List Int32 → List Int64 → Mem → Option (Unit × Mem)) (n : Nat) (M : Mem) : Option (Unit × Mem) :=
  lt (wI M k0 4 (-2 : Int32)) fun M1 =>
  lt (wI M1 k0 5 (0 : Int32)) fun M2 =>
  lt (wI M2 k0 6 (0 : Int32)) fun M3 =>
  lt (wI M3 k0 7 (0 : Int32)) fun M4 =>
  some ((), M4)
def f0_forgetWalk (n : Nat) (k0 : Nat) (M : Mem) : Option (Unit × Mem) := b0_forgetWalk_0 k0 (fun _ _ _ _ => none) n M
abbrev rm0_forgetWalk : Room := { frames := 0, cells := 0, slots := 0, locals := 0 }
theorem y0_forgetWalk_w : yV RX0 yX0_forgetWalk cX0_forgetWalk 1 none 0 := ⟨g_726, g_727, g_13, g_728, rfl, by decide, by decide, by decide +kernel⟩
set_option maxHeartbeats 4000000 in
set_option maxRecDepth 100000 in
theorem w0_forgetWalk_0 {p : Program} {l : Launch} {e : Env} {s : State} {m : MethodId} {args : Array Value} {below : List Frame} {meth : Method} {c : Code} {z : Zt} {b : Nat} {k0 : Nat} (hk0 : isCo k0) (C : Cx p s m args c cX0_forgetWalk 1 RX0 z 339 b) (hr : meth.sig.returnType = none) (hk : meth.locks = false) {r : Unit} {M' : Mem} {rc : Nat → List Int32 → List Int64 → Mem → Option (Unit × Mem)} {n : Nat}   {M : Mem} {H : Heap} {locs : List Loc} {ls : Array Slot} (hf : b0_forgetWalk_0 k0 rc n  M = some (r, M')) (hP : va_P z.1 vwCl (pw (xd z b) 339 b M) H) (hS : va_S (pA 339 b) s.heap H locs) (hl : lv_has ls 1 [(0, .ref (b + k0))]) : W p l e rm0_forgetWalk s m args below meth c H locs 0 0 (MQ below (va_Qv (fun (M2 : Mem) => M2 = M') (fun M2 t => va_P z.1 vwCl (pw (xd z b) 339 b M2) t.heap) (pA 339 b)) args s 0 0 (pA 339 b)) (F0 m 0 ls []) := by
  have hx := C.1.1
  have hb := C.1.2.1
  unfold b0_forgetWalk_0 at hf
  refine lv_aload_n hx hb dX0_forgetWalk_0 rfl (lv_at hl 0 rfl) ?_
  refine lv_bipush (v := (-2 : Int32)) hx hb dX0_forgetWalk_1 (by decide) ?_
  refine ppI C hP hS (k := k0) (j := 4) (ty := .int) (co_lt hk0) ((co_d hk0) _ _) rfl iw_0 tyX0 tyX0_ok nmX0 (Nat.le_of_ble_eq_true rfl) g_364 rfl rfl (by decide +kernel) rfl rfl (Nat.le_of_ble_eq_true rfl) (xu_co_4 hk0 _ _ _) dX0_forgetWalk_3 (fun M1 H locs eM1 hP hS => ?_)
  replace hf := lt_c eM1 hf
  refine lv_aload_n hx hb dX0_forgetWalk_6 rfl (lv_at hl 0 rfl) ?_
  refine lv_iconst (v := (0 : Int32)) hx hb dX0_forgetWalk_7 (by decide) ?_
  refine ppI C hP hS (k := k0) (j := 5) (ty := .int) (co_lt hk0) ((co_d hk0) _ _) rfl iw_0 tyX0 tyX0_ok nmX0 (Nat.le_of_ble_eq_true rfl) g_367 rfl rfl (by decide +kernel) rfl rfl (Nat.le_of_ble_eq_true rfl) (xu_co_5 hk0 _ _ _) dX0_forgetWalk_8 (fun M2 H locs eM2 hP hS => ?_)
  replace hf := lt_c eM2 hf
  refine lv_aload_n hx hb dX0_forgetWalk_11 rfl (lv_at hl 0 rfl) ?_
  refine lv_iconst (v := (0 : Int32)) hx hb dX0_forgetWalk_12 (by decide) ?_
  refine ppI C hP hS (k := k0) (j := 6) (ty := .int) (co_lt hk0) ((co_d hk0) _ _) rfl iw_0 tyX0 tyX0_ok nmX0 (Nat.le_of_ble_eq_true rfl) g_370 rfl rfl (by decide +kernel) rfl rfl (Nat.le_of_ble_eq_true rfl) (xu_co_6 hk0 _ _ _) dX0_forgetWalk_13 (fun M3 H locs eM3 hP hS => ?_)
  replace hf := lt_c eM3 hf
  refine lv_aload_n hx hb dX0_forgetWalk_16 rfl (lv_at hl 0 rfl) ?_
  refine lv_iconst (v := (0 : Int32)) hx hb dX0_forgetWalk_17 (by decide) ?_
  refine ppI C hP hS (k := k0) (j := 7) (ty := .int) (co_lt hk0) ((co_d hk0) _ _) rfl iw_0 tyX0 tyX0_ok nmX0 (Nat.le_of_ble_eq_true rfl) g_373 rfl rfl (by decide +kernel) rfl rfl (Nat.le_of_ble_eq_true rfl) (xu_co_7 hk0 _ _ _) dX0_forgetWalk_18 (fun M4 H locs eM4 hP hS => ?_)
  replace hf := lt_c eM4 hf
  exact prV C hr hk hP hS hf dX0_forgetWalk_21
theorem c0_forgetWalk {l : Launch} {z : Zt} {b n : Nat} {k0 : Nat} (hk0 : isCo k0)  {M M' : Mem} {r : Unit} (hf : f0_forgetWalk n k0  M = some (r, M')) : CV l z (xd z b) 339 b yX0_forgetWalk cX0_forgetWalk 1 none rm0_forgetWalk [.ref (b + k0)] M M' :=
  CV.ofW (lv := [(0, .ref (b + k0))]) (by decide) (Nat.le_of_ble_eq_true rfl) rfl (fun p e s m args below meth c ls C hr hk hP hS hl => w0_forgetWalk_0 (n := n) hk0 C hr hk  hf hP hS hl)

-- BronzeKing$Course.draw()I
theorem dX0_draw_0 : decode cX0_draw 0 = .ok (.aload_n 0, 1) := by decide +kernel
theorem dX0_draw_1 : decode cX0_draw 1 = .ok (.sipush 25173, 3) := by decide +kernel
theorem dX0_draw_4 : decode cX0_draw 4 = .ok (.aload_n 0, 1) := by decide +kernel
theorem dX0_draw_5 : decode cX0_draw 5 = .ok (.getfield 22, 3) := by decide +kernel
theorem dX0_draw_8 : decode cX0_draw 8 = .ok (.imul, 1) := by decide +kernel
theorem dX0_draw_9 : decode cX0_draw 9 = .ok (.sipush 13849, 3) := by decide +kernel
theorem dX0_draw_12 : decode cX0_draw 12 = .ok (.iadd, 1) := by decide +kernel
theorem dX0_draw_13 : decode cX0_draw 13 = .ok (.ldc 43, 2) := by decide +kernel
theorem dX0_draw_15 : decode cX0_draw 15 = .ok (.irem, 1) := by decide +kernel
theorem dX0_draw_16 : decode cX0_draw 16 = .ok (.putfield 22, 3) := by decide +kernel
theorem dX0_draw_19 : decode cX0_draw 19 = .ok (.aload_n 0, 1) := by decide +kernel
theorem dX0_draw_20 : decode cX0_draw 20 = .ok (.getfield 22, 3) := by decide +kernel
theorem dX0_draw_23 : decode cX0_draw 23 = .ok (.ireturn, 1) := by decide +kernel
def b0_draw_0 (k0 : Nat) (rc : Nat → List Int32 → List Int64 → Mem → Option (Int32 × Mem)) (n : Nat) (M : Mem) : Option (Int32 × Mem) :=
  lt (wI M k0 3 ((((25173 : Int32) * (M.1 k0 3)) + (13849 : Int32)) - (((25173 : Int32) * (M.1 k0 3)) + (13849 : Int32)) / (65536 : Int32) * (65536 : Int32))) fun M1 =>
  some ((M1.1 k0 3), M1)
def f0_draw (n : Nat) (k0 : Nat) (M : Mem) : Option (Int32 × Mem) := b0_draw_0 k0 (fun _ _ _ _ => none) n M
abbrev rm0_draw : Room := { frames := 0, cells := 0, slots := 0, locals := 0 }
theorem y0_draw_w : yV RX0 yX0_draw cX0_draw 1 (some .int) 0 := ⟨g_759, g_760, g_13, g_761, rfl, by decide, by decide, by decide +kernel⟩
set_option maxHeartbeats 4000000 in
set_option maxRecDepth 100000 in
theorem w0_draw_0 {p : Program} {l : Launch} {e : Env} {s : State} {m : MethodId} {args : Array Value} {below : List Frame} {meth : Method} {c : Code} {z : Zt} {b : Nat} {k0 : Nat} (hk0 : isCo k0) (C : Cx p s m args c cX0_draw 1 RX0 z 339 b) (hr : meth.sig.returnType = (some .int)) (hk : meth.locks = false) {r : Int32} {M' : Mem} {rc : Nat → List Int32 → List Int64 → Mem → Option (Int32 × Mem)} {n : Nat}   {M : Mem} {H : Heap} {locs : List Loc} {ls : Array Slot} (hf : b0_draw_0 k0 rc n  M = some (r, M')) (hP : va_P z.1 vwCl (pw (xd z b) 339 b M) H) (hS : va_S (pA 339 b) s.heap H locs) (hl : lv_has ls 1 [(0, .ref (b + k0))]) : W p l e rm0_draw s m args below meth c H locs 0 0 (MQ below (va_Qi (fun (r' : Int32) (M2 : Mem) => r' = r ∧ M2 = M') (fun M2 t => va_P z.1 vwCl (pw (xd z b) 339 b M2) t.heap) (pA 339 b)) args s 0 0 (pA 339 b)) (F0 m 0 ls []) := by
  have hx := C.1.1
  have hb := C.1.2.1
  unfold b0_draw_0 at hf
  refine lv_aload_n hx hb dX0_draw_0 rfl (lv_at hl 0 rfl) ?_
  refine lv_sipush (v := (25173 : Int32)) hx hb dX0_draw_1 (by decide) ?_
  refine lv_aload_n hx hb dX0_draw_4 rfl (lv_at hl 0 rfl) ?_
  refine pg C hP (k := k0) (j := 3) (co_lt hk0) ((co_d hk0) _ _) rfl iw_0 (Nat.le_of_ble_eq_true rfl) g_362 rfl rfl dX0_draw_5 ?_
  refine lv_imul hx hb dX0_draw_8 ?_
  refine lv_sipush (v := (13849 : Int32)) hx hb dX0_draw_9 (by decide) ?_
  refine lv_iadd hx hb dX0_draw_12 ?_
  refine lv_ldc hx hb C.1.2.2.2.1 (C.1.2.2.2.2 _ g_762) dX0_draw_13 ?_
  refine lv_irem hx hb dX0_draw_15 (by decide) ?_
  refine ppI C hP hS (k := k0) (j := 3) (ty := .int) (co_lt hk0) ((co_d hk0) _ _) rfl iw_0 tyX0 tyX0_ok nmX0 (Nat.le_of_ble_eq_true rfl) g_362 rfl rfl (by decide +kernel) rfl rfl (Nat.le_of_ble_eq_true rfl) (xu_co_3 hk0 _ _ _) dX0_draw_16 (fun M1 H locs eM1 hP hS => ?_)
  replace hf := lt_c eM1 hf
  refine lv_aload_n hx hb dX0_draw_19 rfl (lv_at hl 0 rfl) ?_
  refine pg C hP (k := k0) (j := 3) (co_lt hk0) ((co_d hk0) _ _) rfl iw_0 (Nat.le_of_ble_eq_true rfl) g_362 rfl rfl dX0_draw_20 ?_
  exact prI C hr hk hP hS hf dX0_draw_23
theorem c0_draw {l : Launch} {z : Zt} {b n : Nat} {k0 : Nat} (hk0 : isCo k0)  {M M' : Mem} {r : Int32} (hf : f0_draw n k0  M = some (r, M')) : CI l z (xd z b) 339 b yX0_draw cX0_draw 1 (some .int) rm0_draw [.ref (b + k0)] M M' r :=
  CI.ofW (lv := [(0, .ref (b + k0))]) (by decide) (Nat.le_of_ble_eq_true rfl) rfl (fun p e s m args below meth c ls C hr hk hP hS hl => w0_draw_0 (n := n) hk0 C hr hk  hf hP hS hl)

-- BronzeKing$Course.wearOfAll()I
theorem dX0_wearOfAll_0 : decode cX0_wearOfAll 0 = .ok (.iconst 0, 1) := by decide +kernel
theorem dX0_wearOfAll_1 : decode cX0_wearOfAll 1 = .ok (.istore_n 1, 1) := by decide +kernel
theorem dX0_wearOfAll_2 : decode cX0_wearOfAll 2 = .ok (.iconst 0, 1) := by decide +kernel
theorem dX0_wearOfAll_3 : decode cX0_wearOfAll 3 = .ok (.istore_n 2, 1) := by decide +kernel
theorem dX0_wearOfAll_4 : decode cX0_wearOfAll 4 = .ok (.iload_n 2, 1) := by decide +kernel
theorem dX0_wearOfAll_5 : decode cX0_wearOfAll 5 = .ok (.bipush 96, 2) := by decide +kernel
theorem dX0_wearOfAll_7 : decode cX0_wearOfAll 7 = .ok (.if_icmp .ge 18, 3) := by decide +kernel
theorem dX0_wearOfAll_10 : decode cX0_wearOfAll 10 = .ok (.iload_n 1, 1) := by decide +kernel
theorem dX0_wearOfAll_11 : decode cX0_wearOfAll 11 = .ok (.aload_n 0, 1) := by decide +kernel
theorem dX0_wearOfAll_12 : decode cX0_wearOfAll 12 = .ok (.getfield 9, 3) := by decide +kernel
theorem dX0_wearOfAll_15 : decode cX0_wearOfAll 15 = .ok (.iload_n 2, 1) := by decide +kernel
theorem dX0_wearOfAll_16 : decode cX0_wearOfAll 16 = .ok (.iaload, 1) := by decide +kernel
theorem dX0_wearOfAll_17 : decode cX0_wearOfAll 17 = .ok (.iadd, 1) := by decide +kernel
theorem dX0_wearOfAll_18 : decode cX0_wearOfAll 18 = .ok (.istore_n 1, 1) := by decide +kernel
theorem dX0_wearOfAll_19 : decode cX0_wearOfAll 19 = .ok (.iinc 2 1, 3) := by decide +kernel
theorem dX0_wearOfAll_22 : decode cX0_wearOfAll 22 = .ok (.goto (-18), 3) := by decide +kernel
theorem dX0_wearOfAll_25 : decode cX0_wearOfAll 25 = .ok (.iload_n 1, 1) := by decide +kernel
theorem dX0_wearOfAll_26 : decode cX0_wearOfAll 26 = .ok (.ireturn, 1) := by decide +kernel
def b0_wearOfAll_4 (k0 : Nat) (rc : Nat → List Int32 → List Int64 → Mem → Option (Int32 × Mem)) (n : Nat) (i1 : Int32) (i2 : Int32) (M : Mem) : Option (Int32 × Mem) :=
  (if (96 : Int32) ≤ i2 then (
   some (i1, M))
  else (
   chk (inb i2 96) <|
   lt (i1 + (M.1 (k0 + 1) i2.toNatClampNeg)) fun v3 =>
   lt (i2 + (1 : Int32)) fun v4 =>
   rc 4 [v3, v4] [] M))
def b0_wearOfAll_0 (k0 : Nat) (rc : Nat → List Int32 → List Int64 → Mem → Option (Int32 × Mem)) (n : Nat) (M : Mem) : Option (Int32 × Mem) :=
  b0_wearOfAll_4 k0 rc n (0 : Int32) (0 : Int32) M
def r0_wearOfAll (k0 : Nat) : Nat → Nat → List Int32 → List Int64 → Mem → Option (Int32 × Mem)
  | 0 => fun _ _ _ _ => none
  | n + 1 => fun pc li lj M =>
    if pc = 4 then (match li, lj with | [i1, i2], [] => b0_wearOfAll_4 k0 (r0_wearOfAll k0 n) n i1 i2 M | _, _ => none) else
    none
theorem e0_wearOfAll_4 (k0 : Nat) (n : Nat) (i1 : Int32) (i2 : Int32) (M : Mem) : r0_wearOfAll k0 (n + 1) 4 [i1, i2] [] M = b0_wearOfAll_4 k0 (r0_wearOfAll k0 n) n i1 i2 M := by
  rw [r0_wearOfAll]
  simp
def f0_wearOfAll (n : Nat) (k0 : Nat) (M : Mem) : Option (Int32 × Mem) := b0_wearOfAll_0 k0 (r0_wearOfAll k0 n) n M
abbrev rm0_wearOfAll : Room := { frames := 0, cells := 0, slots := 0, locals := 0 }
theorem y0_wearOfAll_w : yV RX0 yX0_wearOfAll cX0_wearOfAll 3 (some .int) 0 := ⟨g_1121, g_1122, g_13, g_1123, rfl, by decide, by decide, by decide +kernel⟩
set_option maxHeartbeats 4000000 in
set_option maxRecDepth 100000 in
theorem w0_wearOfAll_4 {p : Program} {l : Launch} {e : Env} {s : State} {m : MethodId} {args : Array Value} {below : List Frame} {meth : Method} {c : Code} {z : Zt} {b : Nat} {k0 : Nat} (hk0 : isCo k0) (C : Cx p s m args c cX0_wearOfAll 3 RX0 z 339 b) (hr : meth.sig.returnType = (some .int)) (hk : meth.locks = false) {r : Int32} {M' : Mem} {rc : Nat → List Int32 → List Int64 → Mem → Option (Int32 × Mem)} {n : Nat} (q4 : ∀ (i1 : Int32) (i2 : Int32) (M : Mem) (H : Heap) (locs : List Loc) (ls : Array Slot), rc 4 [i1, i2] [] M = some (r, M') → va_P z.1 vwCl (pw (xd z b) 339 b M) H → va_S (pA 339 b) s.heap H locs → lv_has ls 3 [(0, .ref (b + k0)), (1, .int i1), (2, .int i2)] → W p l e rm0_wearOfAll s m args below meth c H locs 0 0 (MQ below (va_Qi (fun (r' : Int32) (M2 : Mem) => r' = r ∧ M2 = M') (fun M2 t => va_P z.1 vwCl (pw (xd z b) 339 b M2) t.heap) (pA 339 b)) args s 0 0 (pA 339 b)) (F0 m 4 ls [])) {i1 : Int32} {i2 : Int32} {M : Mem} {H : Heap} {locs : List Loc} {ls : Array Slot} (hf : b0_wearOfAll_4 k0 rc n i1 i2 M = some (r, M')) (hP : va_P z.1 vwCl (pw (xd z b) 339 b M) H) (hS : va_S (pA 339 b) s.heap H locs) (hl : lv_has ls 3 [(0, .ref (b + k0)), (1, .int i1), (2, .int i2)]) : W p l e rm0_wearOfAll s m args below meth c H locs 0 0 (MQ below (va_Qi (fun (r' : Int32) (M2 : Mem) => r' = r ∧ M2 = M') (fun M2 t => va_P z.1 vwCl (pw (xd z b) 339 b M2) t.heap) (pA 339 b)) args s 0 0 (pA 339 b)) (F0 m 4 ls []) := by
  have hx := C.1.1
  have hb := C.1.2.1
  unfold b0_wearOfAll_4 at hf
  refine lv_iload_n hx hb dX0_wearOfAll_4 rfl (lv_at hl 2 rfl) ?_
  refine lv_bipush (v := (96 : Int32)) hx hb dX0_wearOfAll_5 (by decide) ?_
  refine lv_icmp_ge (tgt := 25) hx hb dX0_wearOfAll_7 (by decide) (fun c1 => ?_) (fun c1 => ?_)
  · replace hf := ite_t c1 hf
    refine lv_iload_n hx hb dX0_wearOfAll_25 rfl (lv_at hl 1 rfl) ?_
    exact prI C hr hk hP hS hf dX0_wearOfAll_26
  · replace hf := ite_f c1 hf
    refine lv_iload_n hx hb dX0_wearOfAll_10 rfl (lv_at hl 1 rfl) ?_
    refine lv_aload_n hx hb dX0_wearOfAll_11 rfl (lv_at hl 0 rfl) ?_
    refine pg C hP (k := k0) (j := 0) (co_lt hk0) ((co_d hk0) _ _) rfl iw_0 (Nat.le_of_ble_eq_true rfl) g_353 rfl rfl dX0_wearOfAll_12 ?_
    refine lv_iload_n hx hb dX0_wearOfAll_15 rfl (lv_at hl 2 rfl) ?_
    have h2 := chk_1 hf
    replace hf := chk_2 hf
    refine paI C hP (k := k0 + 1) (co_lt1 hk0) ((co_d1 hk0) _ _) h2 dX0_wearOfAll_16 ?_
    refine lv_iadd hx hb dX0_wearOfAll_17 ?_
    refine lv_topi (fun v3 ev3 => ?_)
    replace hf := lt_c ev3 hf
    refine lv_istore_n (lv' := [(1, .int v3), (0, .ref (b + k0)), (2, .int i2)]) hx hb dX0_wearOfAll_18 rfl hl (by decide) rfl (fun ls hl => ?_)
    obtain ⟨v4, ev4⟩ : ∃ v : Int32, v = i2 + (1 : Int32) := ⟨_, rfl⟩
    replace hf := lt_c ev4 hf
    refine lv_iinc (v := v4) (lv' := [(2, .int v4), (1, .int v3), (0, .ref (b + k0))]) hx hb dX0_wearOfAll_19 hl (k := 2) rfl (by rw [ev4]; rfl) (by decide) rfl (fun ls hl => ?_)
    refine lv_goto (tgt := 4) hx hb dX0_wearOfAll_22 (by decide) ?_
    exact q4 v3 v4 M _ _ _ hf hP hS (lv_sub hl [2, 1, 0] rfl)
set_option maxHeartbeats 4000000 in
set_option maxRecDepth 100000 in
theorem w0_wearOfAll_0 {p : Program} {l : Launch} {e : Env} {s : State} {m : MethodId} {args : Array Value} {below : List Frame} {meth : Method} {c : Code} {z : Zt} {b : Nat} {k0 : Nat} (hk0 : isCo k0) (C : Cx p s m args c cX0_wearOfAll 3 RX0 z 339 b) (hr : meth.sig.returnType = (some .int)) (hk : meth.locks = false) {r : Int32} {M' : Mem} {rc : Nat → List Int32 → List Int64 → Mem → Option (Int32 × Mem)} {n : Nat} (q4 : ∀ (i1 : Int32) (i2 : Int32) (M : Mem) (H : Heap) (locs : List Loc) (ls : Array Slot), rc 4 [i1, i2] [] M = some (r, M') → va_P z.1 vwCl (pw (xd z b) 339 b M) H → va_S (pA 339 b) s.heap H locs → lv_has ls 3 [(0, .ref (b + k0)), (1, .int i1), (2, .int i2)] → W p l e rm0_wearOfAll s m args below meth c H locs 0 0 (MQ below (va_Qi (fun (r' : Int32) (M2 : Mem) => r' = r ∧ M2 = M') (fun M2 t => va_P z.1 vwCl (pw (xd z b) 339 b M2) t.heap) (pA 339 b)) args s 0 0 (pA 339 b)) (F0 m 4 ls []))  {M : Mem} {H : Heap} {locs : List Loc} {ls : Array Slot} (hf : b0_wearOfAll_0 k0 rc n  M = some (r, M')) (hP : va_P z.1 vwCl (pw (xd z b) 339 b M) H) (hS : va_S (pA 339 b) s.heap H locs) (hl : lv_has ls 3 [(0, .ref (b + k0))]) : W p l e rm0_wearOfAll s m args below meth c H locs 0 0 (MQ below (va_Qi (fun (r' : Int32) (M2 : Mem) => r' = r ∧ M2 = M') (fun M2 t => va_P z.1 vwCl (pw (xd z b) 339 b M2) t.heap) (pA 339 b)) args s 0 0 (pA 339 b)) (F0 m 0 ls []) := by
  have hx := C.1.1
  have hb := C.1.2.1
  unfold b0_wearOfAll_0 at hf
  refine lv_iconst (v := (0 : Int32)) hx hb dX0_wearOfAll_0 (by decide) ?_
  refine lv_istore_n (lv' := [(1, .int (0 : Int32)), (0, .ref (b + k0))]) hx hb dX0_wearOfAll_1 rfl hl (by decide) rfl (fun ls hl => ?_)
  refine lv_iconst (v := (0 : Int32)) hx hb dX0_wearOfAll_2 (by decide) ?_
  refine lv_istore_n (lv' := [(2, .int (0 : Int32)), (1, .int (0 : Int32)), (0, .ref (b + k0))]) hx hb dX0_wearOfAll_3 rfl hl (by decide) rfl (fun ls hl => ?_)
  exact w0_wearOfAll_4 (n := n) hk0 C hr hk q4 hf hP hS (lv_sub hl [2, 1, 0] rfl)
set_option maxHeartbeats 4000000 in
set_option maxRecDepth 100000 in
theorem l0_wearOfAll {p : Program} {l : Launch} {e : Env} {s : State} {m : MethodId} {args : Array Value} {below : List Frame} {meth : Method} {c : Code} {z : Zt} {b : Nat} {k0 : Nat} (hk0 : isCo k0) (C : Cx p s m args c cX0_wearOfAll 3 RX0 z 339 b) (hr : meth.sig.returnType = (some .int)) (hk : meth.locks = false) {r : Int32} {M' : Mem} (n : Nat) : (∀ (i1 : Int32) (i2 : Int32) (M : Mem) (H : Heap) (locs : List Loc) (ls : Array Slot), (r0_wearOfAll k0 n) 4 [i1, i2] [] M = some (r, M') → va_P z.1 vwCl (pw (xd z b) 339 b M) H → va_S (pA 339 b) s.heap H locs → lv_has ls 3 [(0, .ref (b + k0)), (1, .int i1), (2, .int i2)] → W p l e rm0_wearOfAll s m args below meth c H locs 0 0 (MQ below (va_Qi (fun (r' : Int32) (M2 : Mem) => r' = r ∧ M2 = M') (fun M2 t => va_P z.1 vwCl (pw (xd z b) 339 b M2) t.heap) (pA 339 b)) args s 0 0 (pA 339 b)) (F0 m 4 ls [])) := by
  induction n with
  | zero => exact fun _ _ _ _ _ _ hf => (by cases hf)
  | succ n ih => exact fun _ _ _ _ _ _ hf hP hS hl => w0_wearOfAll_4 (n := n) hk0 C hr hk ih ((e0_wearOfAll_4 _ n _ _ _).symm.trans hf) hP hS hl
theorem c0_wearOfAll {l : Launch} {z : Zt} {b n : Nat} {k0 : Nat} (hk0 : isCo k0)  {M M' : Mem} {r : Int32} (hf : f0_wearOfAll n k0  M = some (r, M')) : CI l z (xd z b) 339 b yX0_wearOfAll cX0_wearOfAll 3 (some .int) rm0_wearOfAll [.ref (b + k0)] M M' r :=
  CI.ofW (lv := [(0, .ref (b + k0))]) (by decide) (Nat.le_of_ble_eq_true rfl) rfl (fun p e s m args below meth c ls C hr hk hP hS hl => w0_wearOfAll_0 (n := n) hk0 C hr hk (l0_wearOfAll hk0 C hr hk n) hf hP hS hl)

-- BronzeKing$PlaceSet.clear()V
theorem dX4_clear_0 : decode cX4_clear 0 = .ok (.aload_n 0, 1) := by decide +kernel
theorem dX4_clear_1 : decode cX4_clear 1 = .ok (.lconst 0, 1) := by decide +kernel
theorem dX4_clear_2 : decode cX4_clear 2 = .ok (.putfield 9, 3) := by decide +kernel
theorem dX4_clear_5 : decode cX4_clear 5 = .ok (.aload_n 0, 1) := by decide +kernel
theorem dX4_clear_6 : decode cX4_clear 6 = .ok (.lconst 0, 1) := by decide +kernel
theorem dX4_clear_7 : decode cX4_clear 7 = .ok (.putfield 15, 3) := by decide +kernel
theorem dX4_clear_10 : decode cX4_clear 10 = .ok (.return_, 1) := by decide +kernel
def b4_clear_0 (k0 : Nat) (rc : Nat → List Int32 → List Int64 → Mem → Option (Unit × Mem)) (n : Nat) (M : Mem) : Option (Unit × Mem) :=
  lt (wJ M k0 0 (0 : Int64)) fun M1 =>
  lt (wJ M1 k0 1 (0 : Int64)) fun M2 =>
  some ((), M2)
def f4_clear (n : Nat) (k0 : Nat) (M : Mem) : Option (Unit × Mem) := b4_clear_0 k0 (fun _ _ _ _ => none) n M
abbrev rm4_clear : Room := { frames := 0, cells := 0, slots := 0, locals := 0 }
theorem y4_clear_w : yV RX4 yX4_clear cX4_clear 1 none 0 := ⟨g_398, g_399, g_4, g_400, rfl, by decide, by decide, by decide +kernel⟩
set_option maxHeartbeats 4000000 in
set_option maxRecDepth 100000 in
theorem w4_clear_0 {p : Program} {l : Launch} {e : Env} {s : State} {m : MethodId} {args : Array Value} {below : List Frame} {meth : Method} {c : Code} {z : Zt} {b : Nat} {k0 : Nat} (hk0 : isPS k0 = true) (C : Cx p s m args c cX4_clear 1 RX4 z 339 b) (hr : meth.sig.returnType = none) (hk : meth.locks = false) {r : Unit} {M' : Mem} {rc : Nat → List Int32 → List Int64 → Mem → Option (Unit × Mem)} {n : Nat}   {M : Mem} {H : Heap} {locs : List Loc} {ls : Array Slot} (hf : b4_clear_0 k0 rc n  M = some (r, M')) (hP : va_P z.1 vwCl (pw (xd z b) 339 b M) H) (hS : va_S (pA 339 b) s.heap H locs) (hl : lv_has ls 1 [(0, .ref (b + k0))]) : W p l e rm4_clear s m args below meth c H locs 0 0 (MQ below (va_Qv (fun (M2 : Mem) => M2 = M') (fun M2 t => va_P z.1 vwCl (pw (xd z b) 339 b M2) t.heap) (pA 339 b)) args s 0 0 (pA 339 b)) (F0 m 0 ls []) := by
  have hx := C.1.1
  have hb := C.1.2.1
  unfold b4_clear_0 at hf
  refine lv_aload_n hx hb dX4_clear_0 rfl (lv_at hl 0 rfl) ?_
  refine lv_lconst (v := (0 : Int64)) hx hb dX4_clear_1 (by decide) ?_
  refine ppJ C hP hS (k := k0) (j := 0) (ty := .long) (ps_lt hk0) ((ps_d hk0) _ _) rfl iw_4 tyX4 tyX4_ok nmX4 (Nat.le_of_ble_eq_true rfl) g_60 rfl rfl (by decide +kernel) rfl rfl (Nat.le_of_ble_eq_true rfl) (xu_ps_0 hk0 _ _ _) dX4_clear_2 (fun M1 H locs eM1 hP hS => ?_)
  replace hf := lt_c eM1 hf
  refine lv_aload_n hx hb dX4_clear_5 rfl (lv_at hl 0 rfl) ?_
  refine lv_lconst (v := (0 : Int64)) hx hb dX4_clear_6 (by decide) ?_
  refine ppJ C hP hS (k := k0) (j := 1) (ty := .long) (ps_lt hk0) ((ps_d hk0) _ _) rfl iw_4 tyX4 tyX4_ok nmX4 (Nat.le_of_ble_eq_true rfl) g_61 rfl rfl (by decide +kernel) rfl rfl (Nat.le_of_ble_eq_true rfl) (xu_ps_1 hk0 _ _ _) dX4_clear_7 (fun M2 H locs eM2 hP hS => ?_)
  replace hf := lt_c eM2 hf
  exact prV C hr hk hP hS hf dX4_clear_10
theorem c4_clear {l : Launch} {z : Zt} {b n : Nat} {k0 : Nat} (hk0 : isPS k0 = true)  {M M' : Mem} {r : Unit} (hf : f4_clear n k0  M = some (r, M')) : CV l z (xd z b) 339 b yX4_clear cX4_clear 1 none rm4_clear [.ref (b + k0)] M M' :=
  CV.ofW (lv := [(0, .ref (b + k0))]) (by decide) (Nat.le_of_ble_eq_true rfl) rfl (fun p e s m args below meth c ls C hr hk hP hS hl => w4_clear_0 (n := n) hk0 C hr hk  hf hP hS hl)

-- BronzeKing$PlaceSet.add(I)V
theorem dX4_add_0 : decode cX4_add 0 = .ok (.iload_n 1, 1) := by decide +kernel
theorem dX4_add_1 : decode cX4_add 1 = .ok (.bipush 48, 2) := by decide +kernel
theorem dX4_add_3 : decode cX4_add 3 = .ok (.if_icmp .ge 18, 3) := by decide +kernel
theorem dX4_add_6 : decode cX4_add 6 = .ok (.aload_n 0, 1) := by decide +kernel
theorem dX4_add_7 : decode cX4_add 7 = .ok (.dup, 1) := by decide +kernel
theorem dX4_add_8 : decode cX4_add 8 = .ok (.getfield 9, 3) := by decide +kernel
theorem dX4_add_11 : decode cX4_add 11 = .ok (.lconst 1, 1) := by decide +kernel
theorem dX4_add_12 : decode cX4_add 12 = .ok (.iload_n 1, 1) := by decide +kernel
theorem dX4_add_13 : decode cX4_add 13 = .ok (.lshl, 1) := by decide +kernel
theorem dX4_add_14 : decode cX4_add 14 = .ok (.lor, 1) := by decide +kernel
theorem dX4_add_15 : decode cX4_add 15 = .ok (.putfield 9, 3) := by decide +kernel
theorem dX4_add_18 : decode cX4_add 18 = .ok (.goto 18, 3) := by decide +kernel
theorem dX4_add_21 : decode cX4_add 21 = .ok (.aload_n 0, 1) := by decide +kernel
theorem dX4_add_22 : decode cX4_add 22 = .ok (.dup, 1) := by decide +kernel
theorem dX4_add_23 : decode cX4_add 23 = .ok (.getfield 15, 3) := by decide +kernel
theorem dX4_add_26 : decode cX4_add 26 = .ok (.lconst 1, 1) := by decide +kernel
theorem dX4_add_27 : decode cX4_add 27 = .ok (.iload_n 1, 1) := by decide +kernel
theorem dX4_add_28 : decode cX4_add 28 = .ok (.bipush 48, 2) := by decide +kernel
theorem dX4_add_30 : decode cX4_add 30 = .ok (.isub, 1) := by decide +kernel
theorem dX4_add_31 : decode cX4_add 31 = .ok (.lshl, 1) := by decide +kernel
theorem dX4_add_32 : decode cX4_add 32 = .ok (.lor, 1) := by decide +kernel
theorem dX4_add_33 : decode cX4_add 33 = .ok (.putfield 15, 3) := by decide +kernel
theorem dX4_add_36 : decode cX4_add 36 = .ok (.return_, 1) := by decide +kernel
def b4_add_0 (k0 : Nat) (rc : Nat → List Int32 → List Int64 → Mem → Option (Unit × Mem)) (n : Nat) (a1 : Int32) (M : Mem) : Option (Unit × Mem) :=
  (if (48 : Int32) ≤ a1 then (
   lt (wJ M k0 1 ((M.2 k0 1) ||| ((1 : Int64) <<< ((a1 - (48 : Int32)).toInt64 &&& 63)))) fun M2 =>
   some ((), M2))
  else (
   lt (wJ M k0 0 ((M.2 k0 0) ||| ((1 : Int64) <<< (a1.toInt64 &&& 63)))) fun M3 =>
   some ((), M3)))
def f4_add (n : Nat) (k0 : Nat) (a1 : Int32) (M : Mem) : Option (Unit × Mem) := b4_add_0 k0 (fun _ _ _ _ => none) n a1 M
abbrev rm4_add : Room := { frames := 0, cells := 0, slots := 0, locals := 0 }
theorem y4_add_w : yV RX4 yX4_add cX4_add 2 none 1 := ⟨g_410, g_411, g_4, g_412, rfl, by decide, by decide, by decide +kernel⟩
set_option maxHeartbeats 4000000 in
set_option maxRecDepth 100000 in
theorem w4_add_0 {p : Program} {l : Launch} {e : Env} {s : State} {m : MethodId} {args : Array Value} {below : List Frame} {meth : Method} {c : Code} {z : Zt} {b : Nat} {k0 : Nat} (hk0 : isPS k0 = true) (C : Cx p s m args c cX4_add 2 RX4 z 339 b) (hr : meth.sig.returnType = none) (hk : meth.locks = false) {r : Unit} {M' : Mem} {rc : Nat → List Int32 → List Int64 → Mem → Option (Unit × Mem)} {n : Nat}  {a1 : Int32} {M : Mem} {H : Heap} {locs : List Loc} {ls : Array Slot} (hf : b4_add_0 k0 rc n a1 M = some (r, M')) (hP : va_P z.1 vwCl (pw (xd z b) 339 b M) H) (hS : va_S (pA 339 b) s.heap H locs) (hl : lv_has ls 2 [(0, .ref (b + k0)), (1, .int a1)]) : W p l e rm4_add s m args below meth c H locs 0 0 (MQ below (va_Qv (fun (M2 : Mem) => M2 = M') (fun M2 t => va_P z.1 vwCl (pw (xd z b) 339 b M2) t.heap) (pA 339 b)) args s 0 0 (pA 339 b)) (F0 m 0 ls []) := by
  have hx := C.1.1
  have hb := C.1.2.1
  unfold b4_add_0 at hf
  refine lv_iload_n hx hb dX4_add_0 rfl (lv_at hl 1 rfl) ?_
  refine lv_bipush (v := (48 : Int32)) hx hb dX4_add_1 (by decide) ?_
  refine lv_icmp_ge (tgt := 21) hx hb dX4_add_3 (by decide) (fun c1 => ?_) (fun c1 => ?_)
  · replace hf := ite_t c1 hf
    refine lv_aload_n hx hb dX4_add_21 rfl (lv_at hl 0 rfl) ?_
    refine lv_dup hx hb dX4_add_22 rfl ?_
    refine pg C hP (k := k0) (j := 1) (ps_lt hk0) ((ps_d hk0) _ _) rfl iw_4 (Nat.le_of_ble_eq_true rfl) g_61 rfl rfl dX4_add_23 ?_
    refine lv_lconst (v := (1 : Int64)) hx hb dX4_add_26 (by decide) ?_
    refine lv_iload_n hx hb dX4_add_27 rfl (lv_at hl 1 rfl) ?_
    refine lv_bipush (v := (48 : Int32)) hx hb dX4_add_28 (by decide) ?_
    refine lv_isub hx hb dX4_add_30 ?_
    refine lv_lshl hx hb dX4_add_31 rfl ?_
    refine lv_lor hx hb dX4_add_32 ?_
    refine ppJ C hP hS (k := k0) (j := 1) (ty := .long) (ps_lt hk0) ((ps_d hk0) _ _) rfl iw_4 tyX4 tyX4_ok nmX4 (Nat.le_of_ble_eq_true rfl) g_61 rfl rfl (by decide +kernel) rfl rfl (Nat.le_of_ble_eq_true rfl) (xu_ps_1 hk0 _ _ _) dX4_add_33 (fun M2 H locs eM2 hP hS => ?_)
    replace hf := lt_c eM2 hf
    exact prV C hr hk hP hS hf dX4_add_36
  · replace hf := ite_f c1 hf
    refine lv_aload_n hx hb dX4_add_6 rfl (lv_at hl 0 rfl) ?_
    refine lv_dup hx hb dX4_add_7 rfl ?_
    refine pg C hP (k := k0) (j := 0) (ps_lt hk0) ((ps_d hk0) _ _) rfl iw_4 (Nat.le_of_ble_eq_true rfl) g_60 rfl rfl dX4_add_8 ?_
    refine lv_lconst (v := (1 : Int64)) hx hb dX4_add_11 (by decide) ?_
    refine lv_iload_n hx hb dX4_add_12 rfl (lv_at hl 1 rfl) ?_
    refine lv_lshl hx hb dX4_add_13 rfl ?_
    refine lv_lor hx hb dX4_add_14 ?_
    refine ppJ C hP hS (k := k0) (j := 0) (ty := .long) (ps_lt hk0) ((ps_d hk0) _ _) rfl iw_4 tyX4 tyX4_ok nmX4 (Nat.le_of_ble_eq_true rfl) g_60 rfl rfl (by decide +kernel) rfl rfl (Nat.le_of_ble_eq_true rfl) (xu_ps_0 hk0 _ _ _) dX4_add_15 (fun M3 H locs eM3 hP hS => ?_)
    replace hf := lt_c eM3 hf
    refine lv_goto (tgt := 36) hx hb dX4_add_18 (by decide) ?_
    exact prV C hr hk hP hS hf dX4_add_36
theorem c4_add {l : Launch} {z : Zt} {b n : Nat} {k0 : Nat} (hk0 : isPS k0 = true) {a1 : Int32} {M M' : Mem} {r : Unit} (hf : f4_add n k0 a1 M = some (r, M')) : CV l z (xd z b) 339 b yX4_add cX4_add 2 none rm4_add [.ref (b + k0), .int a1] M M' :=
  CV.ofW (lv := [(0, .ref (b + k0)), (1, .int a1)]) (by decide) (Nat.le_of_ble_eq_true rfl) rfl (fun p e s m args below meth c ls C hr hk hP hS hl => w4_add_0 (n := n) hk0 C hr hk  hf hP hS hl)

-- BronzeKing$PlaceSet.has(I)Z
theorem dX4_has_0 : decode cX4_has 0 = .ok (.iload_n 1, 1) := by decide +kernel
theorem dX4_has_1 : decode cX4_has 1 = .ok (.bipush 48, 2) := by decide +kernel
theorem dX4_has_3 : decode cX4_has 3 = .ok (.if_icmp .ge 12, 3) := by decide +kernel
theorem dX4_has_6 : decode cX4_has 6 = .ok (.aload_n 0, 1) := by decide +kernel
theorem dX4_has_7 : decode cX4_has 7 = .ok (.getfield 9, 3) := by decide +kernel
theorem dX4_has_10 : decode cX4_has 10 = .ok (.iload_n 1, 1) := by decide +kernel
theorem dX4_has_11 : decode cX4_has 11 = .ok (.lushr, 1) := by decide +kernel
theorem dX4_has_12 : decode cX4_has 12 = .ok (.goto 12, 3) := by decide +kernel
theorem dX4_has_15 : decode cX4_has 15 = .ok (.aload_n 0, 1) := by decide +kernel
theorem dX4_has_16 : decode cX4_has 16 = .ok (.getfield 15, 3) := by decide +kernel
theorem dX4_has_19 : decode cX4_has 19 = .ok (.iload_n 1, 1) := by decide +kernel
theorem dX4_has_20 : decode cX4_has 20 = .ok (.bipush 48, 2) := by decide +kernel
theorem dX4_has_22 : decode cX4_has 22 = .ok (.isub, 1) := by decide +kernel
theorem dX4_has_23 : decode cX4_has 23 = .ok (.lushr, 1) := by decide +kernel
theorem dX4_has_24 : decode cX4_has 24 = .ok (.lstore_n 2, 1) := by decide +kernel
theorem dX4_has_25 : decode cX4_has 25 = .ok (.lload_n 2, 1) := by decide +kernel
theorem dX4_has_26 : decode cX4_has 26 = .ok (.lconst 1, 1) := by decide +kernel
theorem dX4_has_27 : decode cX4_has 27 = .ok (.land, 1) := by decide +kernel
theorem dX4_has_28 : decode cX4_has 28 = .ok (.lconst 0, 1) := by decide +kernel
theorem dX4_has_29 : decode cX4_has 29 = .ok (.lcmp, 1) := by decide +kernel
theorem dX4_has_30 : decode cX4_has 30 = .ok (.ifCond .eq 7, 3) := by decide +kernel
theorem dX4_has_33 : decode cX4_has 33 = .ok (.iconst 1, 1) := by decide +kernel
theorem dX4_has_34 : decode cX4_has 34 = .ok (.goto 4, 3) := by decide +kernel
theorem dX4_has_37 : decode cX4_has 37 = .ok (.iconst 0, 1) := by decide +kernel
theorem dX4_has_38 : decode cX4_has 38 = .ok (.ireturn, 1) := by decide +kernel
def b4_has_24 (k0 : Nat) (rc : Nat → List Int32 → List Int64 → Mem → Option (Int32 × Mem)) (n : Nat) (t0 : Int64) (M : Mem) : Option (Int32 × Mem) :=
  (if (lg_cmp (t0 &&& (1 : Int64)) (0 : Int64)) = 0 then (
   some ((0 : Int32), M))
  else (
   some ((1 : Int32), M)))
def b4_has_0 (k0 : Nat) (rc : Nat → List Int32 → List Int64 → Mem → Option (Int32 × Mem)) (n : Nat) (a1 : Int32) (M : Mem) : Option (Int32 × Mem) :=
  (if (48 : Int32) ≤ a1 then (
   b4_has_24 k0 rc n (((M.2 k0 1).toUInt64 >>> ((a1 - (48 : Int32)).toInt64.toUInt64 &&& Int64.toUInt64 63)).toInt64) M)
  else (
   b4_has_24 k0 rc n (((M.2 k0 0).toUInt64 >>> (a1.toInt64.toUInt64 &&& Int64.toUInt64 63)).toInt64) M))
def f4_has (n : Nat) (k0 : Nat) (a1 : Int32) (M : Mem) : Option (Int32 × Mem) := b4_has_0 k0 (fun _ _ _ _ => none) n a1 M
abbrev rm4_has : Room := { frames := 0, cells := 0, slots := 0, locals := 0 }
theorem y4_has_w : yV RX4 yX4_has cX4_has 4 (some .boolean) 1 := ⟨g_950, g_951, g_4, g_952, rfl, by decide, by decide, by decide +kernel⟩
set_option maxHeartbeats 4000000 in
set_option maxRecDepth 100000 in
theorem w4_has_24 {p : Program} {l : Launch} {e : Env} {s : State} {m : MethodId} {args : Array Value} {below : List Frame} {meth : Method} {c : Code} {z : Zt} {b : Nat} {k0 : Nat} (hk0 : isPS k0 = true) (C : Cx p s m args c cX4_has 4 RX4 z 339 b) (hr : meth.sig.returnType = (some .boolean)) (hk : meth.locks = false) {r : Int32} {M' : Mem} {rc : Nat → List Int32 → List Int64 → Mem → Option (Int32 × Mem)} {n : Nat}  {t0 : Int64} {M : Mem} {H : Heap} {locs : List Loc} {ls : Array Slot} (hf : b4_has_24 k0 rc n t0 M = some (r, M')) (hP : va_P z.1 vwCl (pw (xd z b) 339 b M) H) (hS : va_S (pA 339 b) s.heap H locs) (hl : lv_has ls 4 []) : W p l e rm4_has s m args below meth c H locs 0 0 (MQ below (va_Qi (fun (r' : Int32) (M2 : Mem) => r' = r ∧ M2 = M') (fun M2 t => va_P z.1 vwCl (pw (xd z b) 339 b M2) t.heap) (pA 339 b)) args s 0 0 (pA 339 b)) (F0 m 24 ls [.long t0]) := by
  have hx := C.1.1
  have hb := C.1.2.1
  unfold b4_has_24 at hf
  refine lv_lstore_n (lv' := [(2, .long t0)]) hx hb dX4_has_24 rfl hl (by decide) rfl (fun ls hl => ?_)
  refine lv_lload_n hx hb dX4_has_25 rfl (lv_at hl 0 rfl) ?_
  refine lv_lconst (v := (1 : Int64)) hx hb dX4_has_26 (by decide) ?_
  refine lv_land hx hb dX4_has_27 ?_
  refine lv_lconst (v := (0 : Int64)) hx hb dX4_has_28 (by decide) ?_
  refine W.lcmp hx hb dX4_has_29 ?_
  refine lv_if_eq (tgt := 37) hx hb dX4_has_30 (by decide) (fun c2 => ?_) (fun c2 => ?_)
  · replace hf := ite_t c2 hf
    refine lv_iconst (v := (0 : Int32)) hx hb dX4_has_37 (by decide) ?_
    exact prZ C hr hk hP hS hf rfl dX4_has_38
  · replace hf := ite_f c2 hf
    refine lv_iconst (v := (1 : Int32)) hx hb dX4_has_33 (by decide) ?_
    refine lv_goto (tgt := 38) hx hb dX4_has_34 (by decide) ?_
    exact prZ C hr hk hP hS hf rfl dX4_has_38
set_option maxHeartbeats 4000000 in
set_option maxRecDepth 100000 in
theorem w4_has_0 {p : Program} {l : Launch} {e : Env} {s : State} {m : MethodId} {args : Array Value} {below : List Frame} {meth : Method} {c : Code} {z : Zt} {b : Nat} {k0 : Nat} (hk0 : isPS k0 = true) (C : Cx p s m args c cX4_has 4 RX4 z 339 b) (hr : meth.sig.returnType = (some .boolean)) (hk : meth.locks = false) {r : Int32} {M' : Mem} {rc : Nat → List Int32 → List Int64 → Mem → Option (Int32 × Mem)} {n : Nat}  {a1 : Int32} {M : Mem} {H : Heap} {locs : List Loc} {ls : Array Slot} (hf : b4_has_0 k0 rc n a1 M = some (r, M')) (hP : va_P z.1 vwCl (pw (xd z b) 339 b M) H) (hS : va_S (pA 339 b) s.heap H locs) (hl : lv_has ls 4 [(0, .ref (b + k0)), (1, .int a1)]) : W p l e rm4_has s m args below meth c H locs 0 0 (MQ below (va_Qi (fun (r' : Int32) (M2 : Mem) => r' = r ∧ M2 = M') (fun M2 t => va_P z.1 vwCl (pw (xd z b) 339 b M2) t.heap) (pA 339 b)) args s 0 0 (pA 339 b)) (F0 m 0 ls []) := by
  have hx := C.1.1
  have hb := C.1.2.1
  unfold b4_has_0 at hf
  refine lv_iload_n hx hb dX4_has_0 rfl (lv_at hl 1 rfl) ?_
  refine lv_bipush (v := (48 : Int32)) hx hb dX4_has_1 (by decide) ?_
  refine lv_icmp_ge (tgt := 15) hx hb dX4_has_3 (by decide) (fun c1 => ?_) (fun c1 => ?_)
  · replace hf := ite_t c1 hf
    refine lv_aload_n hx hb dX4_has_15 rfl (lv_at hl 0 rfl) ?_
    refine pg C hP (k := k0) (j := 1) (ps_lt hk0) ((ps_d hk0) _ _) rfl iw_4 (Nat.le_of_ble_eq_true rfl) g_61 rfl rfl dX4_has_16 ?_
    refine lv_iload_n hx hb dX4_has_19 rfl (lv_at hl 1 rfl) ?_
    refine lv_bipush (v := (48 : Int32)) hx hb dX4_has_20 (by decide) ?_
    refine lv_isub hx hb dX4_has_22 ?_
    refine lv_lushr hx hb dX4_has_23 rfl ?_
    exact w4_has_24 (n := n) hk0 C hr hk  hf hP hS (lv_sub hl [] rfl)
  · replace hf := ite_f c1 hf
    refine lv_aload_n hx hb dX4_has_6 rfl (lv_at hl 0 rfl) ?_
    refine pg C hP (k := k0) (j := 0) (ps_lt hk0) ((ps_d hk0) _ _) rfl iw_4 (Nat.le_of_ble_eq_true rfl) g_60 rfl rfl dX4_has_7 ?_
    refine lv_iload_n hx hb dX4_has_10 rfl (lv_at hl 1 rfl) ?_
    refine lv_lushr hx hb dX4_has_11 rfl ?_
    refine lv_goto (tgt := 24) hx hb dX4_has_12 (by decide) ?_
    exact w4_has_24 (n := n) hk0 C hr hk  hf hP hS (lv_sub hl [] rfl)
theorem c4_has {l : Launch} {z : Zt} {b n : Nat} {k0 : Nat} (hk0 : isPS k0 = true) {a1 : Int32} {M M' : Mem} {r : Int32} (hf : f4_has n k0 a1 M = some (r, M')) : CI l z (xd z b) 339 b yX4_has cX4_has 4 (some .boolean) rm4_has [.ref (b + k0), .int a1] M M' r :=
  CI.ofW (lv := [(0, .ref (b + k0)), (1, .int a1)]) (by decide) (Nat.le_of_ble_eq_true rfl) rfl (fun p e s m args below meth c ls C hr hk hP hS hl => w4_has_0 (n := n) hk0 C hr hk  hf hP hS hl)

-- BronzeKing$PlaceSet.take(LBronzeKing$PlaceSet;)V
theorem dX4_take_0 : decode cX4_take 0 = .ok (.aload_n 0, 1) := by decide +kernel
theorem dX4_take_1 : decode cX4_take 1 = .ok (.aload_n 1, 1) := by decide +kernel
theorem dX4_take_2 : decode cX4_take 2 = .ok (.getfield 9, 3) := by decide +kernel
theorem dX4_take_5 : decode cX4_take 5 = .ok (.putfield 9, 3) := by decide +kernel
theorem dX4_take_8 : decode cX4_take 8 = .ok (.aload_n 0, 1) := by decide +kernel
theorem dX4_take_9 : decode cX4_take 9 = .ok (.aload_n 1, 1) := by decide +kernel
theorem dX4_take_10 : decode cX4_take 10 = .ok (.getfield 15, 3) := by decide +kernel
theorem dX4_take_13 : decode cX4_take 13 = .ok (.putfield 15, 3) := by decide +kernel
theorem dX4_take_16 : decode cX4_take 16 = .ok (.return_, 1) := by decide +kernel
def b4_take_0 (k0 : Nat) (k1 : Nat) (rc : Nat → List Int32 → List Int64 → Mem → Option (Unit × Mem)) (n : Nat) (M : Mem) : Option (Unit × Mem) :=
  lt (wJ M k0 0 (M.2 k1 0)) fun M1 =>
  lt (wJ M1 k0 1 (M1.2 k1 1)) fun M2 =>
  some ((), M2)
def f4_take (n : Nat) (k0 : Nat) (k1 : Nat) (M : Mem) : Option (Unit × Mem) := b4_take_0 k0 k1 (fun _ _ _ _ => none) n M
abbrev rm4_take : Room := { frames := 0, cells := 0, slots := 0, locals := 0 }
theorem y4_take_w : yV RX4 yX4_take cX4_take 2 none 1 := ⟨g_958, g_959, g_4, g_960, rfl, by decide, by decide, by decide +kernel⟩
set_option maxHeartbeats 4000000 in
set_option maxRecDepth 100000 in
theorem w4_take_0 {p : Program} {l : Launch} {e : Env} {s : State} {m : MethodId} {args : Array Value} {below : List Frame} {meth : Method} {c : Code} {z : Zt} {b : Nat} {k0 : Nat} (hk0 : isPS k0 = true) {k1 : Nat} (hk1 : isPS k1 = true) (C : Cx p s m args c cX4_take 2 RX4 z 339 b) (hr : meth.sig.returnType = none) (hk : meth.locks = false) {r : Unit} {M' : Mem} {rc : Nat → List Int32 → List Int64 → Mem → Option (Unit × Mem)} {n : Nat}   {M : Mem} {H : Heap} {locs : List Loc} {ls : Array Slot} (hf : b4_take_0 k0 k1 rc n  M = some (r, M')) (hP : va_P z.1 vwCl (pw (xd z b) 339 b M) H) (hS : va_S (pA 339 b) s.heap H locs) (hl : lv_has ls 2 [(0, .ref (b + k0)), (1, .ref (b + k1))]) : W p l e rm4_take s m args below meth c H locs 0 0 (MQ below (va_Qv (fun (M2 : Mem) => M2 = M') (fun M2 t => va_P z.1 vwCl (pw (xd z b) 339 b M2) t.heap) (pA 339 b)) args s 0 0 (pA 339 b)) (F0 m 0 ls []) := by
  have hx := C.1.1
  have hb := C.1.2.1
  unfold b4_take_0 at hf
  refine lv_aload_n hx hb dX4_take_0 rfl (lv_at hl 0 rfl) ?_
  refine lv_aload_n hx hb dX4_take_1 rfl (lv_at hl 1 rfl) ?_
  refine pg C hP (k := k1) (j := 0) (ps_lt hk1) ((ps_d hk1) _ _) rfl iw_4 (Nat.le_of_ble_eq_true rfl) g_60 rfl rfl dX4_take_2 ?_
  refine ppJ C hP hS (k := k0) (j := 0) (ty := .long) (ps_lt hk0) ((ps_d hk0) _ _) rfl iw_4 tyX4 tyX4_ok nmX4 (Nat.le_of_ble_eq_true rfl) g_60 rfl rfl (by decide +kernel) rfl rfl (Nat.le_of_ble_eq_true rfl) (xu_ps_0 hk0 _ _ _) dX4_take_5 (fun M1 H locs eM1 hP hS => ?_)
  replace hf := lt_c eM1 hf
  refine lv_aload_n hx hb dX4_take_8 rfl (lv_at hl 0 rfl) ?_
  refine lv_aload_n hx hb dX4_take_9 rfl (lv_at hl 1 rfl) ?_
  refine pg C hP (k := k1) (j := 1) (ps_lt hk1) ((ps_d hk1) _ _) rfl iw_4 (Nat.le_of_ble_eq_true rfl) g_61 rfl rfl dX4_take_10 ?_
  refine ppJ C hP hS (k := k0) (j := 1) (ty := .long) (ps_lt hk0) ((ps_d hk0) _ _) rfl iw_4 tyX4 tyX4_ok nmX4 (Nat.le_of_ble_eq_true rfl) g_61 rfl rfl (by decide +kernel) rfl rfl (Nat.le_of_ble_eq_true rfl) (xu_ps_1 hk0 _ _ _) dX4_take_13 (fun M2 H locs eM2 hP hS => ?_)
  replace hf := lt_c eM2 hf
  exact prV C hr hk hP hS hf dX4_take_16
theorem c4_take {l : Launch} {z : Zt} {b n : Nat} {k0 : Nat} (hk0 : isPS k0 = true) {k1 : Nat} (hk1 : isPS k1 = true)  {M M' : Mem} {r : Unit} (hf : f4_take n k0 k1  M = some (r, M')) : CV l z (xd z b) 339 b yX4_take cX4_take 2 none rm4_take [.ref (b + k0), .ref (b + k1)] M M' :=
  CV.ofW (lv := [(0, .ref (b + k0)), (1, .ref (b + k1))]) (by decide) (Nat.le_of_ble_eq_true rfl) rfl (fun p e s m args below meth c ls C hr hk hP hS hl => w4_take_0 (n := n) hk0 hk1 C hr hk  hf hP hS hl)

-- BronzeKing$PlaceSet.turnWithin(LBronzeKing$PlaceSet;)V
theorem dX4_turnWithin_0 : decode cX4_turnWithin 0 = .ok (.aload_n 0, 1) := by decide +kernel
theorem dX4_turnWithin_1 : decode cX4_turnWithin 1 = .ok (.aload_n 1, 1) := by decide +kernel
theorem dX4_turnWithin_2 : decode cX4_turnWithin 2 = .ok (.getfield 9, 3) := by decide +kernel
theorem dX4_turnWithin_5 : decode cX4_turnWithin 5 = .ok (.aload_n 0, 1) := by decide +kernel
theorem dX4_turnWithin_6 : decode cX4_turnWithin 6 = .ok (.getfield 9, 3) := by decide +kernel
theorem dX4_turnWithin_9 : decode cX4_turnWithin 9 = .ok (.ldc2_w 18, 3) := by decide +kernel
theorem dX4_turnWithin_12 : decode cX4_turnWithin 12 = .ok (.lxor, 1) := by decide +kernel
theorem dX4_turnWithin_13 : decode cX4_turnWithin 13 = .ok (.land, 1) := by decide +kernel
theorem dX4_turnWithin_14 : decode cX4_turnWithin 14 = .ok (.putfield 9, 3) := by decide +kernel
theorem dX4_turnWithin_17 : decode cX4_turnWithin 17 = .ok (.aload_n 0, 1) := by decide +kernel
theorem dX4_turnWithin_18 : decode cX4_turnWithin 18 = .ok (.aload_n 1, 1) := by decide +kernel
theorem dX4_turnWithin_19 : decode cX4_turnWithin 19 = .ok (.getfield 15, 3) := by decide +kernel
theorem dX4_turnWithin_22 : decode cX4_turnWithin 22 = .ok (.aload_n 0, 1) := by decide +kernel
theorem dX4_turnWithin_23 : decode cX4_turnWithin 23 = .ok (.getfield 15, 3) := by decide +kernel
theorem dX4_turnWithin_26 : decode cX4_turnWithin 26 = .ok (.ldc2_w 18, 3) := by decide +kernel
theorem dX4_turnWithin_29 : decode cX4_turnWithin 29 = .ok (.lxor, 1) := by decide +kernel
theorem dX4_turnWithin_30 : decode cX4_turnWithin 30 = .ok (.land, 1) := by decide +kernel
theorem dX4_turnWithin_31 : decode cX4_turnWithin 31 = .ok (.putfield 15, 3) := by decide +kernel
theorem dX4_turnWithin_34 : decode cX4_turnWithin 34 = .ok (.return_, 1) := by decide +kernel
def b4_turnWithin_0 (k0 : Nat) (k1 : Nat) (rc : Nat → List Int32 → List Int64 → Mem → Option (Unit × Mem)) (n : Nat) (M : Mem) : Option (Unit × Mem) :=
  lt (wJ M k0 0 ((M.2 k1 0) &&& ((M.2 k0 0) ^^^ (-1 : Int64)))) fun M1 =>
  lt (wJ M1 k0 1 ((M1.2 k1 1) &&& ((M1.2 k0 1) ^^^ (-1 : Int64)))) fun M2 =>
  some ((), M2)
def f4_turnWithin (n : Nat) (k0 : Nat) (k1 : Nat) (M : Mem) : Option (Unit × Mem) := b4_turnWithin_0 k0 k1 (fun _ _ _ _ => none) n M
abbrev rm4_turnWithin : Room := { frames := 0, cells := 0, slots := 0, locals := 0 }
theorem y4_turnWithin_w : yV RX4 yX4_turnWithin cX4_turnWithin 2 none 1 := ⟨g_962, g_963, g_4, g_964, rfl, by decide, by decide, by decide +kernel⟩
set_option maxHeartbeats 4000000 in
set_option maxRecDepth 100000 in
theorem w4_turnWithin_0 {p : Program} {l : Launch} {e : Env} {s : State} {m : MethodId} {args : Array Value} {below : List Frame} {meth : Method} {c : Code} {z : Zt} {b : Nat} {k0 : Nat} (hk0 : isPS k0 = true) {k1 : Nat} (hk1 : isPS k1 = true) (C : Cx p s m args c cX4_turnWithin 2 RX4 z 339 b) (hr : meth.sig.returnType = none) (hk : meth.locks = false) {r : Unit} {M' : Mem} {rc : Nat → List Int32 → List Int64 → Mem → Option (Unit × Mem)} {n : Nat}   {M : Mem} {H : Heap} {locs : List Loc} {ls : Array Slot} (hf : b4_turnWithin_0 k0 k1 rc n  M = some (r, M')) (hP : va_P z.1 vwCl (pw (xd z b) 339 b M) H) (hS : va_S (pA 339 b) s.heap H locs) (hl : lv_has ls 2 [(0, .ref (b + k0)), (1, .ref (b + k1))]) : W p l e rm4_turnWithin s m args below meth c H locs 0 0 (MQ below (va_Qv (fun (M2 : Mem) => M2 = M') (fun M2 t => va_P z.1 vwCl (pw (xd z b) 339 b M2) t.heap) (pA 339 b)) args s 0 0 (pA 339 b)) (F0 m 0 ls []) := by
  have hx := C.1.1
  have hb := C.1.2.1
  unfold b4_turnWithin_0 at hf
  refine lv_aload_n hx hb dX4_turnWithin_0 rfl (lv_at hl 0 rfl) ?_
  refine lv_aload_n hx hb dX4_turnWithin_1 rfl (lv_at hl 1 rfl) ?_
  refine pg C hP (k := k1) (j := 0) (ps_lt hk1) ((ps_d hk1) _ _) rfl iw_4 (Nat.le_of_ble_eq_true rfl) g_60 rfl rfl dX4_turnWithin_2 ?_
  refine lv_aload_n hx hb dX4_turnWithin_5 rfl (lv_at hl 0 rfl) ?_
  refine pg C hP (k := k0) (j := 0) (ps_lt hk0) ((ps_d hk0) _ _) rfl iw_4 (Nat.le_of_ble_eq_true rfl) g_60 rfl rfl dX4_turnWithin_6 ?_
  refine lv_ldc2 hx hb C.1.2.2.2.1 (C.1.2.2.2.2 _ g_965) dX4_turnWithin_9 ?_
  refine lv_lxor hx hb dX4_turnWithin_12 ?_
  refine lv_land hx hb dX4_turnWithin_13 ?_
  refine ppJ C hP hS (k := k0) (j := 0) (ty := .long) (ps_lt hk0) ((ps_d hk0) _ _) rfl iw_4 tyX4 tyX4_ok nmX4 (Nat.le_of_ble_eq_true rfl) g_60 rfl rfl (by decide +kernel) rfl rfl (Nat.le_of_ble_eq_true rfl) (xu_ps_0 hk0 _ _ _) dX4_turnWithin_14 (fun M1 H locs eM1 hP hS => ?_)
  replace hf := lt_c eM1 hf
  refine lv_aload_n hx hb dX4_turnWithin_17 rfl (lv_at hl 0 rfl) ?_
  refine lv_aload_n hx hb dX4_turnWithin_18 rfl (lv_at hl 1 rfl) ?_
  refine pg C hP (k := k1) (j := 1) (ps_lt hk1) ((ps_d hk1) _ _) rfl iw_4 (Nat.le_of_ble_eq_true rfl) g_61 rfl rfl dX4_turnWithin_19 ?_
  refine lv_aload_n hx hb dX4_turnWithin_22 rfl (lv_at hl 0 rfl) ?_
  refine pg C hP (k := k0) (j := 1) (ps_lt hk0) ((ps_d hk0) _ _) rfl iw_4 (Nat.le_of_ble_eq_true rfl) g_61 rfl rfl dX4_turnWithin_23 ?_
  refine lv_ldc2 hx hb C.1.2.2.2.1 (C.1.2.2.2.2 _ g_965) dX4_turnWithin_26 ?_
  refine lv_lxor hx hb dX4_turnWithin_29 ?_
  refine lv_land hx hb dX4_turnWithin_30 ?_
  refine ppJ C hP hS (k := k0) (j := 1) (ty := .long) (ps_lt hk0) ((ps_d hk0) _ _) rfl iw_4 tyX4 tyX4_ok nmX4 (Nat.le_of_ble_eq_true rfl) g_61 rfl rfl (by decide +kernel) rfl rfl (Nat.le_of_ble_eq_true rfl) (xu_ps_1 hk0 _ _ _) dX4_turnWithin_31 (fun M2 H locs eM2 hP hS => ?_)
  replace hf := lt_c eM2 hf
  exact prV C hr hk hP hS hf dX4_turnWithin_34
theorem c4_turnWithin {l : Launch} {z : Zt} {b n : Nat} {k0 : Nat} (hk0 : isPS k0 = true) {k1 : Nat} (hk1 : isPS k1 = true)  {M M' : Mem} {r : Unit} (hf : f4_turnWithin n k0 k1  M = some (r, M')) : CV l z (xd z b) 339 b yX4_turnWithin cX4_turnWithin 2 none rm4_turnWithin [.ref (b + k0), .ref (b + k1)] M M' :=
  CV.ofW (lv := [(0, .ref (b + k0)), (1, .ref (b + k1))]) (by decide) (Nat.le_of_ble_eq_true rfl) rfl (fun p e s m args below meth c ls C hr hk hP hS hl => w4_turnWithin_0 (n := n) hk0 hk1 C hr hk  hf hP hS hl)

-- BronzeKing$PlaceSet.besideInRows(J)J
theorem dX4_besideInRows_0 : decode cX4_besideInRows 0 = .ok (.lload_n 0, 1) := by decide +kernel
theorem dX4_besideInRows_1 : decode cX4_besideInRows 1 = .ok (.ldc2_w 28, 3) := by decide +kernel
theorem dX4_besideInRows_4 : decode cX4_besideInRows 4 = .ok (.land, 1) := by decide +kernel
theorem dX4_besideInRows_5 : decode cX4_besideInRows 5 = .ok (.iconst 1, 1) := by decide +kernel
theorem dX4_besideInRows_6 : decode cX4_besideInRows 6 = .ok (.lshl, 1) := by decide +kernel
theorem dX4_besideInRows_7 : decode cX4_besideInRows 7 = .ok (.lload_n 0, 1) := by decide +kernel
theorem dX4_besideInRows_8 : decode cX4_besideInRows 8 = .ok (.ldc2_w 30, 3) := by decide +kernel
theorem dX4_besideInRows_11 : decode cX4_besideInRows 11 = .ok (.land, 1) := by decide +kernel
theorem dX4_besideInRows_12 : decode cX4_besideInRows 12 = .ok (.iconst 1, 1) := by decide +kernel
theorem dX4_besideInRows_13 : decode cX4_besideInRows 13 = .ok (.lushr, 1) := by decide +kernel
theorem dX4_besideInRows_14 : decode cX4_besideInRows 14 = .ok (.lor, 1) := by decide +kernel
theorem dX4_besideInRows_15 : decode cX4_besideInRows 15 = .ok (.lreturn, 1) := by decide +kernel
def b4_besideInRows_0 (rc : Nat → List Int32 → List Int64 → Mem → Option (Int64 × Mem)) (n : Nat) (a0 : Int64) (M : Mem) : Option (Int64 × Mem) :=
  some ((((a0 &&& (-140771856484353 : Int64)) <<< ((1 : Int32).toInt64 &&& 63)) ||| ((a0 &&& (-68736258050 : Int64)).toUInt64 >>> ((1 : Int32).toInt64.toUInt64 &&& Int64.toUInt64 63)).toInt64), M)
def f4_besideInRows (n : Nat) (a0 : Int64) (M : Mem) : Option (Int64 × Mem) := b4_besideInRows_0 (fun _ _ _ _ => none) n a0 M
abbrev rm4_besideInRows : Room := { frames := 0, cells := 0, slots := 0, locals := 0 }
theorem y4_besideInRows_w : yS yX4_besideInRows cX4_besideInRows 2 (some .long) 1 := ⟨g_971, g_4, g_972, by decide, by decide, by decide +kernel⟩
set_option maxHeartbeats 4000000 in
set_option maxRecDepth 100000 in
theorem w4_besideInRows_0 {p : Program} {l : Launch} {e : Env} {s : State} {m : MethodId} {args : Array Value} {below : List Frame} {meth : Method} {c : Code} {z : Zt} {b : Nat}  (C : Cx p s m args c cX4_besideInRows 2 RX4 z 339 b) (hr : meth.sig.returnType = (some .long)) (hk : meth.locks = false) {r : Int64} {M' : Mem} {rc : Nat → List Int32 → List Int64 → Mem → Option (Int64 × Mem)} {n : Nat}  {a0 : Int64} {M : Mem} {H : Heap} {locs : List Loc} {ls : Array Slot} (hf : b4_besideInRows_0  rc n a0 M = some (r, M')) (hP : va_P z.1 vwCl (pw (xd z b) 339 b M) H) (hS : va_S (pA 339 b) s.heap H locs) (hl : lv_has ls 2 [(0, .long a0)]) : W p l e rm4_besideInRows s m args below meth c H locs 0 0 (MQ below (va_Ql (fun (r' : Int64) (M2 : Mem) => r' = r ∧ M2 = M') (fun M2 t => va_P z.1 vwCl (pw (xd z b) 339 b M2) t.heap) (pA 339 b)) args s 0 0 (pA 339 b)) (F0 m 0 ls []) := by
  have hx := C.1.1
  have hb := C.1.2.1
  unfold b4_besideInRows_0 at hf
  refine lv_lload_n hx hb dX4_besideInRows_0 rfl (lv_at hl 0 rfl) ?_
  refine lv_ldc2 hx hb C.1.2.2.2.1 (C.1.2.2.2.2 _ g_973) dX4_besideInRows_1 ?_
  refine lv_land hx hb dX4_besideInRows_4 ?_
  refine lv_iconst (v := (1 : Int32)) hx hb dX4_besideInRows_5 (by decide) ?_
  refine lv_lshl hx hb dX4_besideInRows_6 rfl ?_
  refine lv_lload_n hx hb dX4_besideInRows_7 rfl (lv_at hl 0 rfl) ?_
  refine lv_ldc2 hx hb C.1.2.2.2.1 (C.1.2.2.2.2 _ g_974) dX4_besideInRows_8 ?_
  refine lv_land hx hb dX4_besideInRows_11 ?_
  refine lv_iconst (v := (1 : Int32)) hx hb dX4_besideInRows_12 (by decide) ?_
  refine lv_lushr hx hb dX4_besideInRows_13 rfl ?_
  refine lv_lor hx hb dX4_besideInRows_14 ?_
  exact prL C hr hk hP hS hf dX4_besideInRows_15
theorem c4_besideInRows {l : Launch} {z : Zt} {b n : Nat}  {a0 : Int64} {M M' : Mem} {r : Int64} (hf : f4_besideInRows n  a0 M = some (r, M')) : CL l z (xd z b) 339 b yX4_besideInRows cX4_besideInRows 2 (some .long) rm4_besideInRows [.long a0] M M' r :=
  CL.ofW (lv := [(0, .long a0)]) (by decide) (Nat.le_of_ble_eq_true rfl) rfl (fun p e s m args below meth c ls C hr hk hP hS hl => w4_besideInRows_0 (n := n)  C hr hk  hf hP hS hl)

-- BronzeKing$PlaceSet.grow()V
theorem dX4_grow_0 : decode cX4_grow 0 = .ok (.aload_n 0, 1) := by decide +kernel
theorem dX4_grow_1 : decode cX4_grow 1 = .ok (.getfield 9, 3) := by decide +kernel
theorem dX4_grow_4 : decode cX4_grow 4 = .ok (.lstore_n 1, 1) := by decide +kernel
theorem dX4_grow_5 : decode cX4_grow 5 = .ok (.aload_n 0, 1) := by decide +kernel
theorem dX4_grow_6 : decode cX4_grow 6 = .ok (.getfield 15, 3) := by decide +kernel
theorem dX4_grow_9 : decode cX4_grow 9 = .ok (.lstore_n 3, 1) := by decide +kernel
theorem dX4_grow_10 : decode cX4_grow 10 = .ok (.aload_n 0, 1) := by decide +kernel
theorem dX4_grow_11 : decode cX4_grow 11 = .ok (.lload_n 1, 1) := by decide +kernel
theorem dX4_grow_12 : decode cX4_grow 12 = .ok (.lload_n 1, 1) := by decide +kernel
theorem dX4_grow_13 : decode cX4_grow 13 = .ok (.invokestatic 20, 3) := by decide +kernel
theorem dX4_grow_16 : decode cX4_grow 16 = .ok (.lor, 1) := by decide +kernel
theorem dX4_grow_17 : decode cX4_grow 17 = .ok (.lload_n 1, 1) := by decide +kernel
theorem dX4_grow_18 : decode cX4_grow 18 = .ok (.bipush 12, 2) := by decide +kernel
theorem dX4_grow_20 : decode cX4_grow 20 = .ok (.lushr, 1) := by decide +kernel
theorem dX4_grow_21 : decode cX4_grow 21 = .ok (.lor, 1) := by decide +kernel
theorem dX4_grow_22 : decode cX4_grow 22 = .ok (.lload_n 1, 1) := by decide +kernel
theorem dX4_grow_23 : decode cX4_grow 23 = .ok (.bipush 12, 2) := by decide +kernel
theorem dX4_grow_25 : decode cX4_grow 25 = .ok (.lshl, 1) := by decide +kernel
theorem dX4_grow_26 : decode cX4_grow 26 = .ok (.ldc2_w 24, 3) := by decide +kernel
theorem dX4_grow_29 : decode cX4_grow 29 = .ok (.land, 1) := by decide +kernel
theorem dX4_grow_30 : decode cX4_grow 30 = .ok (.lor, 1) := by decide +kernel
theorem dX4_grow_31 : decode cX4_grow 31 = .ok (.lload_n 3, 1) := by decide +kernel
theorem dX4_grow_32 : decode cX4_grow 32 = .ok (.ldc2_w 26, 3) := by decide +kernel
theorem dX4_grow_35 : decode cX4_grow 35 = .ok (.land, 1) := by decide +kernel
theorem dX4_grow_36 : decode cX4_grow 36 = .ok (.bipush 36, 2) := by decide +kernel
theorem dX4_grow_38 : decode cX4_grow 38 = .ok (.lshl, 1) := by decide +kernel
theorem dX4_grow_39 : decode cX4_grow 39 = .ok (.lor, 1) := by decide +kernel
theorem dX4_grow_40 : decode cX4_grow 40 = .ok (.putfield 9, 3) := by decide +kernel
theorem dX4_grow_43 : decode cX4_grow 43 = .ok (.aload_n 0, 1) := by decide +kernel
theorem dX4_grow_44 : decode cX4_grow 44 = .ok (.lload_n 3, 1) := by decide +kernel
theorem dX4_grow_45 : decode cX4_grow 45 = .ok (.lload_n 3, 1) := by decide +kernel
theorem dX4_grow_46 : decode cX4_grow 46 = .ok (.invokestatic 20, 3) := by decide +kernel
theorem dX4_grow_49 : decode cX4_grow 49 = .ok (.lor, 1) := by decide +kernel
theorem dX4_grow_50 : decode cX4_grow 50 = .ok (.lload_n 3, 1) := by decide +kernel
theorem dX4_grow_51 : decode cX4_grow 51 = .ok (.bipush 12, 2) := by decide +kernel
theorem dX4_grow_53 : decode cX4_grow 53 = .ok (.lushr, 1) := by decide +kernel
theorem dX4_grow_54 : decode cX4_grow 54 = .ok (.lor, 1) := by decide +kernel
theorem dX4_grow_55 : decode cX4_grow 55 = .ok (.lload_n 3, 1) := by decide +kernel
theorem dX4_grow_56 : decode cX4_grow 56 = .ok (.bipush 12, 2) := by decide +kernel
theorem dX4_grow_58 : decode cX4_grow 58 = .ok (.lshl, 1) := by decide +kernel
theorem dX4_grow_59 : decode cX4_grow 59 = .ok (.ldc2_w 24, 3) := by decide +kernel
theorem dX4_grow_62 : decode cX4_grow 62 = .ok (.land, 1) := by decide +kernel
theorem dX4_grow_63 : decode cX4_grow 63 = .ok (.lor, 1) := by decide +kernel
theorem dX4_grow_64 : decode cX4_grow 64 = .ok (.lload_n 1, 1) := by decide +kernel
theorem dX4_grow_65 : decode cX4_grow 65 = .ok (.bipush 36, 2) := by decide +kernel
theorem dX4_grow_67 : decode cX4_grow 67 = .ok (.lushr, 1) := by decide +kernel
theorem dX4_grow_68 : decode cX4_grow 68 = .ok (.lor, 1) := by decide +kernel
theorem dX4_grow_69 : decode cX4_grow 69 = .ok (.putfield 15, 3) := by decide +kernel
theorem dX4_grow_72 : decode cX4_grow 72 = .ok (.return_, 1) := by decide +kernel
def b4_grow_0 (k0 : Nat) (rc : Nat → List Int32 → List Int64 → Mem → Option (Unit × Mem)) (n : Nat) (M : Mem) : Option (Unit × Mem) :=
  lt (M.2 k0 0) fun v1 =>
  lt (M.2 k0 1) fun v2 =>
  bnd (f4_besideInRows n v1 M) fun r3 M4 =>
  lt (wJ M4 k0 0 ((((v1 ||| r3) ||| (v1.toUInt64 >>> ((12 : Int32).toInt64.toUInt64 &&& Int64.toUInt64 63)).toInt64) ||| ((v1 <<< ((12 : Int32).toInt64 &&& 63)) &&& (281474976710655 : Int64))) ||| ((v2 &&& (4095 : Int64)) <<< ((36 : Int32).toInt64 &&& 63)))) fun M6 =>
  bnd (f4_besideInRows n v2 M6) fun r7 M8 =>
  lt (wJ M8 k0 1 ((((v2 ||| r7) ||| (v2.toUInt64 >>> ((12 : Int32).toInt64.toUInt64 &&& Int64.toUInt64 63)).toInt64) ||| ((v2 <<< ((12 : Int32).toInt64 &&& 63)) &&& (281474976710655 : Int64))) ||| (v1.toUInt64 >>> ((36 : Int32).toInt64.toUInt64 &&& Int64.toUInt64 63)).toInt64)) fun M10 =>
  some ((), M10)
def f4_grow (n : Nat) (k0 : Nat) (M : Mem) : Option (Unit × Mem) := b4_grow_0 k0 (fun _ _ _ _ => none) n M
abbrev rm4_grow : Room := { frames := 1, cells := 0, slots := 0, locals := 21 }
theorem y4_grow_w : yV RX4 yX4_grow cX4_grow 5 none 0 := ⟨g_967, g_968, g_4, g_969, rfl, by decide, by decide, by decide +kernel⟩
set_option maxHeartbeats 4000000 in
set_option maxRecDepth 100000 in
theorem w4_grow_0 {p : Program} {l : Launch} {e : Env} {s : State} {m : MethodId} {args : Array Value} {below : List Frame} {meth : Method} {c : Code} {z : Zt} {b : Nat} {k0 : Nat} (hk0 : isPS k0 = true) (C : Cx p s m args c cX4_grow 5 RX4 z 339 b) (hr : meth.sig.returnType = none) (hk : meth.locks = false) {r : Unit} {M' : Mem} {rc : Nat → List Int32 → List Int64 → Mem → Option (Unit × Mem)} {n : Nat}   {M : Mem} {H : Heap} {locs : List Loc} {ls : Array Slot} (hf : b4_grow_0 k0 rc n  M = some (r, M')) (hP : va_P z.1 vwCl (pw (xd z b) 339 b M) H) (hS : va_S (pA 339 b) s.heap H locs) (hl : lv_has ls 5 [(0, .ref (b + k0))]) : W p l e rm4_grow s m args below meth c H locs 0 0 (MQ below (va_Qv (fun (M2 : Mem) => M2 = M') (fun M2 t => va_P z.1 vwCl (pw (xd z b) 339 b M2) t.heap) (pA 339 b)) args s 0 0 (pA 339 b)) (F0 m 0 ls []) := by
  have hx := C.1.1
  have hb := C.1.2.1
  unfold b4_grow_0 at hf
  refine lv_aload_n hx hb dX4_grow_0 rfl (lv_at hl 0 rfl) ?_
  refine pg C hP (k := k0) (j := 0) (ps_lt hk0) ((ps_d hk0) _ _) rfl iw_4 (Nat.le_of_ble_eq_true rfl) g_60 rfl rfl dX4_grow_1 ?_
  refine lv_topl (fun v1 ev1 => ?_)
  replace hf := lt_c ev1 hf
  refine lv_lstore_n (lv' := [(1, .long v1), (0, .ref (b + k0))]) hx hb dX4_grow_4 rfl hl (by decide) rfl (fun ls hl => ?_)
  refine lv_aload_n hx hb dX4_grow_5 rfl (lv_at hl 1 rfl) ?_
  refine pg C hP (k := k0) (j := 1) (ps_lt hk0) ((ps_d hk0) _ _) rfl iw_4 (Nat.le_of_ble_eq_true rfl) g_61 rfl rfl dX4_grow_6 ?_
  refine lv_topl (fun v2 ev2 => ?_)
  replace hf := lt_c ev2 hf
  refine lv_lstore_n (lv' := [(3, .long v2), (1, .long v1), (0, .ref (b + k0))]) hx hb dX4_grow_9 rfl hl (by decide) rfl (fun ls hl => ?_)
  refine lv_aload_n hx hb dX4_grow_10 rfl (lv_at hl 2 rfl) ?_
  refine lv_lload_n hx hb dX4_grow_11 rfl (lv_at hl 1 rfl) ?_
  refine lv_lload_n hx hb dX4_grow_12 rfl (lv_at hl 1 rfl) ?_
  obtain ⟨r3, M4, h5, hf⟩ := bnd_s hf
  refine pcSl (As := [.long v1]) C hP hS (c4_besideInRows  h5) y4_besideInRows_w g_970 rfl rfl rfl ⟨Nat.le_of_ble_eq_true rfl, Nat.le_of_ble_eq_true rfl⟩ hl.1 rfl (Nat.le_of_ble_eq_true rfl) dX4_grow_13 ⟨Nat.le_of_ble_eq_true rfl, Nat.le_of_ble_eq_true rfl⟩ (fun H locs hP hS => ?_)
  refine lv_lor hx hb dX4_grow_16 ?_
  refine lv_lload_n hx hb dX4_grow_17 rfl (lv_at hl 1 rfl) ?_
  refine lv_bipush (v := (12 : Int32)) hx hb dX4_grow_18 (by decide) ?_
  refine lv_lushr hx hb dX4_grow_20 rfl ?_
  refine lv_lor hx hb dX4_grow_21 ?_
  refine lv_lload_n hx hb dX4_grow_22 rfl (lv_at hl 1 rfl) ?_
  refine lv_bipush (v := (12 : Int32)) hx hb dX4_grow_23 (by decide) ?_
  refine lv_lshl hx hb dX4_grow_25 rfl ?_
  refine lv_ldc2 hx hb C.1.2.2.2.1 (C.1.2.2.2.2 _ g_975) dX4_grow_26 ?_
  refine lv_land hx hb dX4_grow_29 ?_
  refine lv_lor hx hb dX4_grow_30 ?_
  refine lv_lload_n hx hb dX4_grow_31 rfl (lv_at hl 0 rfl) ?_
  refine lv_ldc2 hx hb C.1.2.2.2.1 (C.1.2.2.2.2 _ g_976) dX4_grow_32 ?_
  refine lv_land hx hb dX4_grow_35 ?_
  refine lv_bipush (v := (36 : Int32)) hx hb dX4_grow_36 (by decide) ?_
  refine lv_lshl hx hb dX4_grow_38 rfl ?_
  refine lv_lor hx hb dX4_grow_39 ?_
  refine ppJ C hP hS (k := k0) (j := 0) (ty := .long) (ps_lt hk0) ((ps_d hk0) _ _) rfl iw_4 tyX4 tyX4_ok nmX4 (Nat.le_of_ble_eq_true rfl) g_60 rfl rfl (by decide +kernel) rfl rfl (Nat.le_of_ble_eq_true rfl) (xu_ps_0 hk0 _ _ _) dX4_grow_40 (fun M6 H locs eM6 hP hS => ?_)
  replace hf := lt_c eM6 hf
  refine lv_aload_n hx hb dX4_grow_43 rfl (lv_at hl 2 rfl) ?_
  refine lv_lload_n hx hb dX4_grow_44 rfl (lv_at hl 0 rfl) ?_
  refine lv_lload_n hx hb dX4_grow_45 rfl (lv_at hl 0 rfl) ?_
  obtain ⟨r7, M8, h9, hf⟩ := bnd_s hf
  refine pcSl (As := [.long v2]) C hP hS (c4_besideInRows  h9) y4_besideInRows_w g_970 rfl rfl rfl ⟨Nat.le_of_ble_eq_true rfl, Nat.le_of_ble_eq_true rfl⟩ hl.1 rfl (Nat.le_of_ble_eq_true rfl) dX4_grow_46 ⟨Nat.le_of_ble_eq_true rfl, Nat.le_of_ble_eq_true rfl⟩ (fun H locs hP hS => ?_)
  refine lv_lor hx hb dX4_grow_49 ?_
  refine lv_lload_n hx hb dX4_grow_50 rfl (lv_at hl 0 rfl) ?_
  refine lv_bipush (v := (12 : Int32)) hx hb dX4_grow_51 (by decide) ?_
  refine lv_lushr hx hb dX4_grow_53 rfl ?_
  refine lv_lor hx hb dX4_grow_54 ?_
  refine lv_lload_n hx hb dX4_grow_55 rfl (lv_at hl 0 rfl) ?_
  refine lv_bipush (v := (12 : Int32)) hx hb dX4_grow_56 (by decide) ?_
  refine lv_lshl hx hb dX4_grow_58 rfl ?_
  refine lv_ldc2 hx hb C.1.2.2.2.1 (C.1.2.2.2.2 _ g_975) dX4_grow_59 ?_
  refine lv_land hx hb dX4_grow_62 ?_
  refine lv_lor hx hb dX4_grow_63 ?_
  refine lv_lload_n hx hb dX4_grow_64 rfl (lv_at hl 1 rfl) ?_
  refine lv_bipush (v := (36 : Int32)) hx hb dX4_grow_65 (by decide) ?_
  refine lv_lushr hx hb dX4_grow_67 rfl ?_
  refine lv_lor hx hb dX4_grow_68 ?_
  refine ppJ C hP hS (k := k0) (j := 1) (ty := .long) (ps_lt hk0) ((ps_d hk0) _ _) rfl iw_4 tyX4 tyX4_ok nmX4 (Nat.le_of_ble_eq_true rfl) g_61 rfl rfl (by decide +kernel) rfl rfl (Nat.le_of_ble_eq_true rfl) (xu_ps_1 hk0 _ _ _) dX4_grow_69 (fun M10 H locs eM10 hP hS => ?_)
  replace hf := lt_c eM10 hf
  exact prV C hr hk hP hS hf dX4_grow_72
theorem c4_grow {l : Launch} {z : Zt} {b n : Nat} {k0 : Nat} (hk0 : isPS k0 = true)  {M M' : Mem} {r : Unit} (hf : f4_grow n k0  M = some (r, M')) : CV l z (xd z b) 339 b yX4_grow cX4_grow 5 none rm4_grow [.ref (b + k0)] M M' :=
  CV.ofW (lv := [(0, .ref (b + k0))]) (by decide) (Nat.le_of_ble_eq_true rfl) rfl (fun p e s m args below meth c ls C hr hk hP hS hl => w4_grow_0 (n := n) hk0 C hr hk  hf hP hS hl)

-- BronzeKing$Hunt.trapThief()V
theorem dX1_trapThief_0 : decode cX1_trapThief 0 = .ok (.iconst 0, 1) := by decide +kernel
theorem dX1_trapThief_1 : decode cX1_trapThief 1 = .ok (.istore_n 1, 1) := by decide +kernel
theorem dX1_trapThief_2 : decode cX1_trapThief 2 = .ok (.iload_n 1, 1) := by decide +kernel
theorem dX1_trapThief_3 : decode cX1_trapThief 3 = .ok (.bipush 96, 2) := by decide +kernel
theorem dX1_trapThief_5 : decode cX1_trapThief 5 = .ok (.if_icmp .ge 57, 3) := by decide +kernel
theorem dX1_trapThief_8 : decode cX1_trapThief 8 = .ok (.aload_n 0, 1) := by decide +kernel
theorem dX1_trapThief_9 : decode cX1_trapThief 9 = .ok (.getfield 17, 3) := by decide +kernel
theorem dX1_trapThief_12 : decode cX1_trapThief 12 = .ok (.iload_n 1, 1) := by decide +kernel
theorem dX1_trapThief_13 : decode cX1_trapThief 13 = .ok (.aaload, 1) := by decide +kernel
theorem dX1_trapThief_14 : decode cX1_trapThief 14 = .ok (.astore_n 2, 1) := by decide +kernel
theorem dX1_trapThief_15 : decode cX1_trapThief 15 = .ok (.aload_n 2, 1) := by decide +kernel
theorem dX1_trapThief_16 : decode cX1_trapThief 16 = .ok (.aload_n 0, 1) := by decide +kernel
theorem dX1_trapThief_17 : decode cX1_trapThief 17 = .ok (.getfield 11, 3) := by decide +kernel
theorem dX1_trapThief_20 : decode cX1_trapThief 20 = .ok (.iload_n 1, 1) := by decide +kernel
theorem dX1_trapThief_21 : decode cX1_trapThief 21 = .ok (.aaload, 1) := by decide +kernel
theorem dX1_trapThief_22 : decode cX1_trapThief 22 = .ok (.invokevirtual 43, 3) := by decide +kernel
theorem dX1_trapThief_25 : decode cX1_trapThief 25 = .ok (.aload_n 2, 1) := by decide +kernel
theorem dX1_trapThief_26 : decode cX1_trapThief 26 = .ok (.aload_n 0, 1) := by decide +kernel
theorem dX1_trapThief_27 : decode cX1_trapThief 27 = .ok (.getfield 20, 3) := by decide +kernel
theorem dX1_trapThief_30 : decode cX1_trapThief 30 = .ok (.getfield 47, 3) := by decide +kernel
theorem dX1_trapThief_33 : decode cX1_trapThief 33 = .ok (.invokevirtual 53, 3) := by decide +kernel
theorem dX1_trapThief_36 : decode cX1_trapThief 36 = .ok (.aload_n 2, 1) := by decide +kernel
theorem dX1_trapThief_37 : decode cX1_trapThief 37 = .ok (.invokevirtual 56, 3) := by decide +kernel
theorem dX1_trapThief_40 : decode cX1_trapThief 40 = .ok (.aload_n 2, 1) := by decide +kernel
theorem dX1_trapThief_41 : decode cX1_trapThief 41 = .ok (.aload_n 0, 1) := by decide +kernel
theorem dX1_trapThief_42 : decode cX1_trapThief 42 = .ok (.getfield 20, 3) := by decide +kernel
theorem dX1_trapThief_45 : decode cX1_trapThief 45 = .ok (.getfield 47, 3) := by decide +kernel
theorem dX1_trapThief_48 : decode cX1_trapThief 48 = .ok (.invokevirtual 53, 3) := by decide +kernel
theorem dX1_trapThief_51 : decode cX1_trapThief 51 = .ok (.aload_n 2, 1) := by decide +kernel
theorem dX1_trapThief_52 : decode cX1_trapThief 52 = .ok (.iload_n 1, 1) := by decide +kernel
theorem dX1_trapThief_53 : decode cX1_trapThief 53 = .ok (.invokevirtual 28, 3) := by decide +kernel
theorem dX1_trapThief_56 : decode cX1_trapThief 56 = .ok (.iinc 1 1, 3) := by decide +kernel
theorem dX1_trapThief_59 : decode cX1_trapThief 59 = .ok (.goto (-57), 3) := by decide +kernel
theorem dX1_trapThief_62 : decode cX1_trapThief 62 = .ok (.return_, 1) := by decide +kernel
def b1_trapThief_2 (rc : Nat → List Int32 → List Int64 → Mem → Option (Unit × Mem)) (n : Nat) (i1 : Int32) (M : Mem) : Option (Unit × Mem) :=
  (if (96 : Int32) ≤ i1 then (
   some ((), M))
  else (
   chk (inb i1 96) <|
   chk (inb i1 96) <|
   bnd (f4_take n (135 + 2 * i1.toNatClampNeg) (134 + 2 * i1.toNatClampNeg) M) fun r4 M5 =>
   bnd (f4_turnWithin n (135 + 2 * i1.toNatClampNeg) 10 M5) fun r7 M8 =>
   bnd (f4_grow n (135 + 2 * i1.toNatClampNeg) M8) fun r10 M11 =>
   bnd (f4_turnWithin n (135 + 2 * i1.toNatClampNeg) 10 M11) fun r13 M14 =>
   bnd (f4_add n (135 + 2 * i1.toNatClampNeg) i1 M14) fun r16 M17 =>
   lt (i1 + (1 : Int32)) fun v19 =>
   rc 2 [v19] [] M17))
def b1_trapThief_0 (rc : Nat → List Int32 → List Int64 → Mem → Option (Unit × Mem)) (n : Nat) (M : Mem) : Option (Unit × Mem) :=
  b1_trapThief_2  rc n (0 : Int32) M
def r1_trapThief : Nat → Nat → List Int32 → List Int64 → Mem → Option (Unit × Mem)
  | 0 => fun _ _ _ _ => none
  | n + 1 => fun pc li lj M =>
    if pc = 2 then (match li, lj with | [i1], [] => b1_trapThief_2  (r1_trapThief  n) n i1 M | _, _ => none) else
    none
theorem e1_trapThief_2  (n : Nat) (i1 : Int32) (M : Mem) : r1_trapThief  (n + 1) 2 [i1] [] M = b1_trapThief_2  (r1_trapThief  n) n i1 M := by
  rw [r1_trapThief]
  simp
def f1_trapThief (n : Nat)  (M : Mem) : Option (Unit × Mem) := b1_trapThief_0 (r1_trapThief n) n M
abbrev rm1_trapThief : Room := { frames := 2, cells := 0, slots := 0, locals := 45 }
theorem y1_trapThief_w : yV RX1 yX1_trapThief cX1_trapThief 3 none 0 := ⟨g_955, gp 32 rfl rfl, g_11, g_956, rfl, by decide, by decide, by decide +kernel⟩
set_option maxHeartbeats 4000000 in
set_option maxRecDepth 100000 in
theorem w1_trapThief_2 {p : Program} {l : Launch} {e : Env} {s : State} {m : MethodId} {args : Array Value} {below : List Frame} {meth : Method} {c : Code} {z : Zt} {b : Nat}  (C : Cx p s m args c cX1_trapThief 3 RX1 z 339 b) (hr : meth.sig.returnType = none) (hk : meth.locks = false) {r : Unit} {M' : Mem} {rc : Nat → List Int32 → List Int64 → Mem → Option (Unit × Mem)} {n : Nat} (q2 : ∀ (i1 : Int32) (M : Mem) (H : Heap) (locs : List Loc) (ls : Array Slot), rc 2 [i1] [] M = some (r, M') → va_P z.1 vwCl (pw (xd z b) 339 b M) H → va_S (pA 339 b) s.heap H locs → lv_has ls 3 [(0, .ref (b + 131)), (1, .int i1)] → W p l e rm1_trapThief s m args below meth c H locs 0 0 (MQ below (va_Qv (fun (M2 : Mem) => M2 = M') (fun M2 t => va_P z.1 vwCl (pw (xd z b) 339 b M2) t.heap) (pA 339 b)) args s 0 0 (pA 339 b)) (F0 m 2 ls [])) {i1 : Int32} {M : Mem} {H : Heap} {locs : List Loc} {ls : Array Slot} (hf : b1_trapThief_2  rc n i1 M = some (r, M')) (hP : va_P z.1 vwCl (pw (xd z b) 339 b M) H) (hS : va_S (pA 339 b) s.heap H locs) (hl : lv_has ls 3 [(0, .ref (b + 131)), (1, .int i1)]) : W p l e rm1_trapThief s m args below meth c H locs 0 0 (MQ below (va_Qv (fun (M2 : Mem) => M2 = M') (fun M2 t => va_P z.1 vwCl (pw (xd z b) 339 b M2) t.heap) (pA 339 b)) args s 0 0 (pA 339 b)) (F0 m 2 ls []) := by
  have hx := C.1.1
  have hb := C.1.2.1
  unfold b1_trapThief_2 at hf
  refine lv_iload_n hx hb dX1_trapThief_2 rfl (lv_at hl 1 rfl) ?_
  refine lv_bipush (v := (96 : Int32)) hx hb dX1_trapThief_3 (by decide) ?_
  refine lv_icmp_ge (tgt := 62) hx hb dX1_trapThief_5 (by decide) (fun c1 => ?_) (fun c1 => ?_)
  · replace hf := ite_t c1 hf
    exact prV C hr hk hP hS hf dX1_trapThief_62
  · replace hf := ite_f c1 hf
    refine lv_aload_n hx hb dX1_trapThief_8 rfl (lv_at hl 0 rfl) ?_
    refine pg C hP (k := 131) (j := 2) (Nat.le_of_ble_eq_true rfl) (xd_131 _ _) rfl iw_1 (Nat.le_of_ble_eq_true rfl) g_309 rfl rfl dX1_trapThief_9 ?_
    refine lv_iload_n hx hb dX1_trapThief_12 rfl (lv_at hl 1 rfl) ?_
    have h2 := chk_1 hf
    replace hf := chk_2 hf
    refine paO C hP (k := 133) (k2 := 135 + 2 * i1.toNatClampNeg) (Nat.le_of_ble_eq_true rfl) (xd_133 _ _) h2 rfl dX1_trapThief_13 ?_
    refine lv_astore_n (lv' := [(2, .ref (b + (135 + 2 * i1.toNatClampNeg))), (0, .ref (b + 131)), (1, .int i1)]) hx hb dX1_trapThief_14 rfl hl (by decide) rfl (fun ls hl => ?_)
    refine lv_aload_n hx hb dX1_trapThief_15 rfl (lv_at hl 0 rfl) ?_
    refine lv_aload_n hx hb dX1_trapThief_16 rfl (lv_at hl 1 rfl) ?_
    refine pg C hP (k := 131) (j := 1) (Nat.le_of_ble_eq_true rfl) (xd_131 _ _) rfl iw_1 (Nat.le_of_ble_eq_true rfl) g_308 rfl rfl dX1_trapThief_17 ?_
    refine lv_iload_n hx hb dX1_trapThief_20 rfl (lv_at hl 2 rfl) ?_
    have h3 := chk_1 hf
    replace hf := chk_2 hf
    refine paO C hP (k := 132) (k2 := 134 + 2 * i1.toNatClampNeg) (Nat.le_of_ble_eq_true rfl) (xd_132 _ _) h3 rfl dX1_trapThief_21 ?_
    obtain ⟨r4, M5, h6, hf⟩ := bnd_s hf
    refine pcVv (As := [.ref (b + (134 + 2 * i1.toNatClampNeg))]) C hP hS (k := 135 + 2 * i1.toNatClampNeg) (ps_lt (ps_trapped h2)) ((ps_d (ps_trapped h2)) _ _) rfl (c4_take (ps_trapped h2) (ps_caught h3) h6) y4_take_w g_957 rfl rfl rfl ⟨Nat.le_of_ble_eq_true rfl, Nat.le_of_ble_eq_true rfl⟩ hl.1 rfl (Nat.le_of_ble_eq_true rfl) dX1_trapThief_22 ⟨Nat.le_of_ble_eq_true rfl, Nat.le_of_ble_eq_true rfl⟩ (fun H locs hP hS => ?_)
    refine lv_aload_n hx hb dX1_trapThief_25 rfl (lv_at hl 0 rfl) ?_
    refine lv_aload_n hx hb dX1_trapThief_26 rfl (lv_at hl 1 rfl) ?_
    refine pg C hP (k := 131) (j := 0) (Nat.le_of_ble_eq_true rfl) (xd_131 _ _) rfl iw_1 (Nat.le_of_ble_eq_true rfl) g_307 rfl rfl dX1_trapThief_27 ?_
    refine pgN C hP (k := 3) (j := 6) (Nat.le_of_ble_eq_true rfl) (xd_3 _ _) rfl iw_8 (Nat.le_of_ble_eq_true rfl) g_85 rfl rfl dX1_trapThief_30 ?_
    obtain ⟨r7, M8, h9, hf⟩ := bnd_s hf
    refine pcVv (As := [.ref (b + 10)]) C hP hS (k := 135 + 2 * i1.toNatClampNeg) (ps_lt (ps_trapped h2)) ((ps_d (ps_trapped h2)) _ _) rfl (c4_turnWithin (ps_trapped h2) ps_10 h9) y4_turnWithin_w g_961 rfl rfl rfl ⟨Nat.le_of_ble_eq_true rfl, Nat.le_of_ble_eq_true rfl⟩ hl.1 rfl (Nat.le_of_ble_eq_true rfl) dX1_trapThief_33 ⟨Nat.le_of_ble_eq_true rfl, Nat.le_of_ble_eq_true rfl⟩ (fun H locs hP hS => ?_)
    refine lv_aload_n hx hb dX1_trapThief_36 rfl (lv_at hl 0 rfl) ?_
    obtain ⟨r10, M11, h12, hf⟩ := bnd_s hf
    refine pcVv (As := []) C hP hS (k := 135 + 2 * i1.toNatClampNeg) (ps_lt (ps_trapped h2)) ((ps_d (ps_trapped h2)) _ _) rfl (c4_grow (ps_trapped h2) h12) y4_grow_w g_966 rfl rfl rfl ⟨Nat.le_of_ble_eq_true rfl, Nat.le_of_ble_eq_true rfl⟩ hl.1 rfl (Nat.le_of_ble_eq_true rfl) dX1_trapThief_37 ⟨Nat.le_of_ble_eq_true rfl, Nat.le_of_ble_eq_true rfl⟩ (fun H locs hP hS => ?_)
    refine lv_aload_n hx hb dX1_trapThief_40 rfl (lv_at hl 0 rfl) ?_
    refine lv_aload_n hx hb dX1_trapThief_41 rfl (lv_at hl 1 rfl) ?_
    refine pg C hP (k := 131) (j := 0) (Nat.le_of_ble_eq_true rfl) (xd_131 _ _) rfl iw_1 (Nat.le_of_ble_eq_true rfl) g_307 rfl rfl dX1_trapThief_42 ?_
    refine pgN C hP (k := 3) (j := 6) (Nat.le_of_ble_eq_true rfl) (xd_3 _ _) rfl iw_8 (Nat.le_of_ble_eq_true rfl) g_85 rfl rfl dX1_trapThief_45 ?_
    obtain ⟨r13, M14, h15, hf⟩ := bnd_s hf
    refine pcVv (As := [.ref (b + 10)]) C hP hS (k := 135 + 2 * i1.toNatClampNeg) (ps_lt (ps_trapped h2)) ((ps_d (ps_trapped h2)) _ _) rfl (c4_turnWithin (ps_trapped h2) ps_10 h15) y4_turnWithin_w g_961 rfl rfl rfl ⟨Nat.le_of_ble_eq_true rfl, Nat.le_of_ble_eq_true rfl⟩ hl.1 rfl (Nat.le_of_ble_eq_true rfl) dX1_trapThief_48 ⟨Nat.le_of_ble_eq_true rfl, Nat.le_of_ble_eq_true rfl⟩ (fun H locs hP hS => ?_)
    refine lv_aload_n hx hb dX1_trapThief_51 rfl (lv_at hl 0 rfl) ?_
    refine lv_iload_n hx hb dX1_trapThief_52 rfl (lv_at hl 2 rfl) ?_
    obtain ⟨r16, M17, h18, hf⟩ := bnd_s hf
    refine pcVv (As := [.int i1]) C hP hS (k := 135 + 2 * i1.toNatClampNeg) (ps_lt (ps_trapped h2)) ((ps_d (ps_trapped h2)) _ _) rfl (c4_add (ps_trapped h2) h18) y4_add_w g_948 rfl rfl rfl ⟨Nat.le_of_ble_eq_true rfl, Nat.le_of_ble_eq_true rfl⟩ hl.1 rfl (Nat.le_of_ble_eq_true rfl) dX1_trapThief_53 ⟨Nat.le_of_ble_eq_true rfl, Nat.le_of_ble_eq_true rfl⟩ (fun H locs hP hS => ?_)
    obtain ⟨v19, ev19⟩ : ∃ v : Int32, v = i1 + (1 : Int32) := ⟨_, rfl⟩
    replace hf := lt_c ev19 hf
    refine lv_iinc (v := v19) (lv' := [(1, .int v19), (2, .ref (b + (135 + 2 * i1.toNatClampNeg))), (0, .ref (b + 131))]) hx hb dX1_trapThief_56 hl (k := 2) rfl (by rw [ev19]; rfl) (by decide) rfl (fun ls hl => ?_)
    refine lv_goto (tgt := 2) hx hb dX1_trapThief_59 (by decide) ?_
    exact q2 v19 M17 _ _ _ hf hP hS (lv_sub hl [2, 0] rfl)
set_option maxHeartbeats 4000000 in
set_option maxRecDepth 100000 in
theorem w1_trapThief_0 {p : Program} {l : Launch} {e : Env} {s : State} {m : MethodId} {args : Array Value} {below : List Frame} {meth : Method} {c : Code} {z : Zt} {b : Nat}  (C : Cx p s m args c cX1_trapThief 3 RX1 z 339 b) (hr : meth.sig.returnType = none) (hk : meth.locks = false) {r : Unit} {M' : Mem} {rc : Nat → List Int32 → List Int64 → Mem → Option (Unit × Mem)} {n : Nat} (q2 : ∀ (i1 : Int32) (M : Mem) (H : Heap) (locs : List Loc) (ls : Array Slot), rc 2 [i1] [] M = some (r, M') → va_P z.1 vwCl (pw (xd z b) 339 b M) H → va_S (pA 339 b) s.heap H locs → lv_has ls 3 [(0, .ref (b + 131)), (1, .int i1)] → W p l e rm1_trapThief s m args below meth c H locs 0 0 (MQ below (va_Qv (fun (M2 : Mem) => M2 = M') (fun M2 t => va_P z.1 vwCl (pw (xd z b) 339 b M2) t.heap) (pA 339 b)) args s 0 0 (pA 339 b)) (F0 m 2 ls []))  {M : Mem} {H : Heap} {locs : List Loc} {ls : Array Slot} (hf : b1_trapThief_0  rc n  M = some (r, M')) (hP : va_P z.1 vwCl (pw (xd z b) 339 b M) H) (hS : va_S (pA 339 b) s.heap H locs) (hl : lv_has ls 3 [(0, .ref (b + 131))]) : W p l e rm1_trapThief s m args below meth c H locs 0 0 (MQ below (va_Qv (fun (M2 : Mem) => M2 = M') (fun M2 t => va_P z.1 vwCl (pw (xd z b) 339 b M2) t.heap) (pA 339 b)) args s 0 0 (pA 339 b)) (F0 m 0 ls []) := by
  have hx := C.1.1
  have hb := C.1.2.1
  unfold b1_trapThief_0 at hf
  refine lv_iconst (v := (0 : Int32)) hx hb dX1_trapThief_0 (by decide) ?_
  refine lv_istore_n (lv' := [(1, .int (0 : Int32)), (0, .ref (b + 131))]) hx hb dX1_trapThief_1 rfl hl (by decide) rfl (fun ls hl => ?_)
  exact w1_trapThief_2 (n := n)  C hr hk q2 hf hP hS (lv_sub hl [1, 0] rfl)
set_option maxHeartbeats 4000000 in
set_option maxRecDepth 100000 in
theorem l1_trapThief {p : Program} {l : Launch} {e : Env} {s : State} {m : MethodId} {args : Array Value} {below : List Frame} {meth : Method} {c : Code} {z : Zt} {b : Nat}  (C : Cx p s m args c cX1_trapThief 3 RX1 z 339 b) (hr : meth.sig.returnType = none) (hk : meth.locks = false) {r : Unit} {M' : Mem} (n : Nat) : (∀ (i1 : Int32) (M : Mem) (H : Heap) (locs : List Loc) (ls : Array Slot), (r1_trapThief  n) 2 [i1] [] M = some (r, M') → va_P z.1 vwCl (pw (xd z b) 339 b M) H → va_S (pA 339 b) s.heap H locs → lv_has ls 3 [(0, .ref (b + 131)), (1, .int i1)] → W p l e rm1_trapThief s m args below meth c H locs 0 0 (MQ below (va_Qv (fun (M2 : Mem) => M2 = M') (fun M2 t => va_P z.1 vwCl (pw (xd z b) 339 b M2) t.heap) (pA 339 b)) args s 0 0 (pA 339 b)) (F0 m 2 ls [])) := by
  induction n with
  | zero => exact fun _ _ _ _ _ hf => (by cases hf)
  | succ n ih => exact fun _ _ _ _ _ hf hP hS hl => w1_trapThief_2 (n := n)  C hr hk ih ((e1_trapThief_2  n _ _).symm.trans hf) hP hS hl
theorem c1_trapThief {l : Launch} {z : Zt} {b n : Nat}   {M M' : Mem} {r : Unit} (hf : f1_trapThief n   M = some (r, M')) : CV l z (xd z b) 339 b yX1_trapThief cX1_trapThief 3 none rm1_trapThief [.ref (b + 131)] M M' :=
  CV.ofW (lv := [(0, .ref (b + 131))]) (by decide) (Nat.le_of_ble_eq_true rfl) rfl (fun p e s m args below meth c ls C hr hk hP hS hl => w1_trapThief_0 (n := n)  C hr hk (l1_trapThief  C hr hk n) hf hP hS hl)

-- BronzeKing$Town.kindOf(I)I
theorem dX8_kindOf_0 : decode cX8_kindOf 0 = .ok (.iload_n 1, 1) := by decide +kernel
theorem dX8_kindOf_1 : decode cX8_kindOf 1 = .ok (.ifCond .lt 9, 3) := by decide +kernel
theorem dX8_kindOf_4 : decode cX8_kindOf 4 = .ok (.iload_n 1, 1) := by decide +kernel
theorem dX8_kindOf_5 : decode cX8_kindOf 5 = .ok (.bipush 96, 2) := by decide +kernel
theorem dX8_kindOf_7 : decode cX8_kindOf 7 = .ok (.if_icmp .lt 5, 3) := by decide +kernel
theorem dX8_kindOf_10 : decode cX8_kindOf 10 = .ok (.iconst 0, 1) := by decide +kernel
theorem dX8_kindOf_11 : decode cX8_kindOf 11 = .ok (.ireturn, 1) := by decide +kernel
theorem dX8_kindOf_12 : decode cX8_kindOf 12 = .ok (.iload_n 1, 1) := by decide +kernel
theorem dX8_kindOf_13 : decode cX8_kindOf 13 = .ok (.aload_n 0, 1) := by decide +kernel
theorem dX8_kindOf_14 : decode cX8_kindOf 14 = .ok (.getfield 37, 3) := by decide +kernel
theorem dX8_kindOf_17 : decode cX8_kindOf 17 = .ok (.if_icmp .ne 7, 3) := by decide +kernel
theorem dX8_kindOf_20 : decode cX8_kindOf 20 = .ok (.iconst 2, 1) := by decide +kernel
theorem dX8_kindOf_21 : decode cX8_kindOf 21 = .ok (.goto 9, 3) := by decide +kernel
theorem dX8_kindOf_24 : decode cX8_kindOf 24 = .ok (.aload_n 0, 1) := by decide +kernel
theorem dX8_kindOf_25 : decode cX8_kindOf 25 = .ok (.getfield 9, 3) := by decide +kernel
theorem dX8_kindOf_28 : decode cX8_kindOf 28 = .ok (.iload_n 1, 1) := by decide +kernel
theorem dX8_kindOf_29 : decode cX8_kindOf 29 = .ok (.iaload, 1) := by decide +kernel
theorem dX8_kindOf_30 : decode cX8_kindOf 30 = .ok (.ireturn, 1) := by decide +kernel
def b8_kindOf_10 (rc : Nat → List Int32 → List Int64 → Mem → Option (Int32 × Mem)) (n : Nat) (M : Mem) : Option (Int32 × Mem) :=
  some ((0 : Int32), M)
def b8_kindOf_0 (rc : Nat → List Int32 → List Int64 → Mem → Option (Int32 × Mem)) (n : Nat) (a1 : Int32) (M : Mem) : Option (Int32 × Mem) :=
  (if a1 < 0 then (
   b8_kindOf_10  rc n  M)
  else (
   (if a1 < (96 : Int32) then (
    (if a1 = (M.1 3 7) then (
     some ((2 : Int32), M))
    else (
     chk (inb a1 96) <|
     some ((M.1 4 a1.toNatClampNeg), M))))
   else (
    b8_kindOf_10  rc n  M))))
def f8_kindOf (n : Nat) (a1 : Int32) (M : Mem) : Option (Int32 × Mem) := b8_kindOf_0 (fun _ _ _ _ => none) n a1 M
abbrev rm8_kindOf : Room := { frames := 0, cells := 0, slots := 0, locals := 0 }
theorem y8_kindOf_w : yV RX8 yX8_kindOf cX8_kindOf 2 (some .int) 1 := ⟨g_406, g_407, g_3, g_408, rfl, by decide, by decide, by decide +kernel⟩
set_option maxHeartbeats 4000000 in
set_option maxRecDepth 100000 in
theorem w8_kindOf_10 {p : Program} {l : Launch} {e : Env} {s : State} {m : MethodId} {args : Array Value} {below : List Frame} {meth : Method} {c : Code} {z : Zt} {b : Nat}  (C : Cx p s m args c cX8_kindOf 2 RX8 z 339 b) (hr : meth.sig.returnType = (some .int)) (hk : meth.locks = false) {r : Int32} {M' : Mem} {rc : Nat → List Int32 → List Int64 → Mem → Option (Int32 × Mem)} {n : Nat}   {M : Mem} {H : Heap} {locs : List Loc} {ls : Array Slot} (hf : b8_kindOf_10  rc n  M = some (r, M')) (hP : va_P z.1 vwCl (pw (xd z b) 339 b M) H) (hS : va_S (pA 339 b) s.heap H locs) (hl : lv_has ls 2 []) : W p l e rm8_kindOf s m args below meth c H locs 0 0 (MQ below (va_Qi (fun (r' : Int32) (M2 : Mem) => r' = r ∧ M2 = M') (fun M2 t => va_P z.1 vwCl (pw (xd z b) 339 b M2) t.heap) (pA 339 b)) args s 0 0 (pA 339 b)) (F0 m 10 ls []) := by
  have hx := C.1.1
  have hb := C.1.2.1
  unfold b8_kindOf_10 at hf
  refine lv_iconst (v := (0 : Int32)) hx hb dX8_kindOf_10 (by decide) ?_
  exact prI C hr hk hP hS hf dX8_kindOf_11
set_option maxHeartbeats 4000000 in
set_option maxRecDepth 100000 in
theorem w8_kindOf_0 {p : Program} {l : Launch} {e : Env} {s : State} {m : MethodId} {args : Array Value} {below : List Frame} {meth : Method} {c : Code} {z : Zt} {b : Nat}  (C : Cx p s m args c cX8_kindOf 2 RX8 z 339 b) (hr : meth.sig.returnType = (some .int)) (hk : meth.locks = false) {r : Int32} {M' : Mem} {rc : Nat → List Int32 → List Int64 → Mem → Option (Int32 × Mem)} {n : Nat}  {a1 : Int32} {M : Mem} {H : Heap} {locs : List Loc} {ls : Array Slot} (hf : b8_kindOf_0  rc n a1 M = some (r, M')) (hP : va_P z.1 vwCl (pw (xd z b) 339 b M) H) (hS : va_S (pA 339 b) s.heap H locs) (hl : lv_has ls 2 [(0, .ref (b + 3)), (1, .int a1)]) : W p l e rm8_kindOf s m args below meth c H locs 0 0 (MQ below (va_Qi (fun (r' : Int32) (M2 : Mem) => r' = r ∧ M2 = M') (fun M2 t => va_P z.1 vwCl (pw (xd z b) 339 b M2) t.heap) (pA 339 b)) args s 0 0 (pA 339 b)) (F0 m 0 ls []) := by
  have hx := C.1.1
  have hb := C.1.2.1
  unfold b8_kindOf_0 at hf
  refine lv_iload_n hx hb dX8_kindOf_0 rfl (lv_at hl 1 rfl) ?_
  refine lv_if_lt (tgt := 10) hx hb dX8_kindOf_1 (by decide) (fun c1 => ?_) (fun c1 => ?_)
  · replace hf := ite_t c1 hf
    exact w8_kindOf_10 (n := n)  C hr hk  hf hP hS (lv_sub hl [] rfl)
  · replace hf := ite_f c1 hf
    refine lv_iload_n hx hb dX8_kindOf_4 rfl (lv_at hl 1 rfl) ?_
    refine lv_bipush (v := (96 : Int32)) hx hb dX8_kindOf_5 (by decide) ?_
    refine lv_icmp_lt (tgt := 12) hx hb dX8_kindOf_7 (by decide) (fun c2 => ?_) (fun c2 => ?_)
    · replace hf := ite_t c2 hf
      refine lv_iload_n hx hb dX8_kindOf_12 rfl (lv_at hl 1 rfl) ?_
      refine lv_aload_n hx hb dX8_kindOf_13 rfl (lv_at hl 0 rfl) ?_
      refine pg C hP (k := 3) (j := 7) (Nat.le_of_ble_eq_true rfl) (xd_3 _ _) rfl iw_8 (Nat.le_of_ble_eq_true rfl) g_88 rfl rfl dX8_kindOf_14 ?_
      refine lv_icmp_ne (tgt := 24) hx hb dX8_kindOf_17 (by decide) (fun c3 => ?_) (fun c3 => ?_)
      · replace hf := ite_f c3 hf
        refine lv_aload_n hx hb dX8_kindOf_24 rfl (lv_at hl 0 rfl) ?_
        refine pg C hP (k := 3) (j := 0) (Nat.le_of_ble_eq_true rfl) (xd_3 _ _) rfl iw_8 (Nat.le_of_ble_eq_true rfl) g_70 rfl rfl dX8_kindOf_25 ?_
        refine lv_iload_n hx hb dX8_kindOf_28 rfl (lv_at hl 1 rfl) ?_
        have h4 := chk_1 hf
        replace hf := chk_2 hf
        refine paI C hP (k := 4) (Nat.le_of_ble_eq_true rfl) (xd_4 _ _) h4 dX8_kindOf_29 ?_
        exact prI C hr hk hP hS hf dX8_kindOf_30
      · replace hf := ite_t c3 hf
        refine lv_iconst (v := (2 : Int32)) hx hb dX8_kindOf_20 (by decide) ?_
        refine lv_goto (tgt := 30) hx hb dX8_kindOf_21 (by decide) ?_
        exact prI C hr hk hP hS hf dX8_kindOf_30
    · replace hf := ite_f c2 hf
      exact w8_kindOf_10 (n := n)  C hr hk  hf hP hS (lv_sub hl [] rfl)
theorem c8_kindOf {l : Launch} {z : Zt} {b n : Nat}  {a1 : Int32} {M M' : Mem} {r : Int32} (hf : f8_kindOf n  a1 M = some (r, M')) : CI l z (xd z b) 339 b yX8_kindOf cX8_kindOf 2 (some .int) rm8_kindOf [.ref (b + 3), .int a1] M M' r :=
  CI.ofW (lv := [(0, .ref (b + 3)), (1, .int a1)]) (by decide) (Nat.le_of_ble_eq_true rfl) rfl (fun p e s m args below meth c ls C hr hk hP hS hl => w8_kindOf_0 (n := n)  C hr hk  hf hP hS hl)

-- BronzeKing$Town.isOpen(I)Z
theorem dX8_isOpen_0 : decode cX8_isOpen 0 = .ok (.aload_n 0, 1) := by decide +kernel
theorem dX8_isOpen_1 : decode cX8_isOpen 1 = .ok (.iload_n 1, 1) := by decide +kernel
theorem dX8_isOpen_2 : decode cX8_isOpen 2 = .ok (.invokevirtual 68, 3) := by decide +kernel
theorem dX8_isOpen_5 : decode cX8_isOpen 5 = .ok (.iconst 2, 1) := by decide +kernel
theorem dX8_isOpen_6 : decode cX8_isOpen 6 = .ok (.if_icmp .ne 7, 3) := by decide +kernel
theorem dX8_isOpen_9 : decode cX8_isOpen 9 = .ok (.iconst 1, 1) := by decide +kernel
theorem dX8_isOpen_10 : decode cX8_isOpen 10 = .ok (.goto 4, 3) := by decide +kernel
theorem dX8_isOpen_13 : decode cX8_isOpen 13 = .ok (.iconst 0, 1) := by decide +kernel
theorem dX8_isOpen_14 : decode cX8_isOpen 14 = .ok (.ireturn, 1) := by decide +kernel
def b8_isOpen_0 (rc : Nat → List Int32 → List Int64 → Mem → Option (Int32 × Mem)) (n : Nat) (a1 : Int32) (M : Mem) : Option (Int32 × Mem) :=
  bnd (f8_kindOf n a1 M) fun r1 M2 =>
  (if r1 = (2 : Int32) then (
   some ((1 : Int32), M2))
  else (
   some ((0 : Int32), M2)))
def f8_isOpen (n : Nat) (a1 : Int32) (M : Mem) : Option (Int32 × Mem) := b8_isOpen_0 (fun _ _ _ _ => none) n a1 M
abbrev rm8_isOpen : Room := { frames := 1, cells := 0, slots := 0, locals := 21 }
theorem y8_isOpen_w : yV RX8 yX8_isOpen cX8_isOpen 2 (some .boolean) 1 := ⟨g_402, g_403, g_3, g_404, rfl, by decide, by decide, by decide +kernel⟩
set_option maxHeartbeats 4000000 in
set_option maxRecDepth 100000 in
theorem w8_isOpen_0 {p : Program} {l : Launch} {e : Env} {s : State} {m : MethodId} {args : Array Value} {below : List Frame} {meth : Method} {c : Code} {z : Zt} {b : Nat}  (C : Cx p s m args c cX8_isOpen 2 RX8 z 339 b) (hr : meth.sig.returnType = (some .boolean)) (hk : meth.locks = false) {r : Int32} {M' : Mem} {rc : Nat → List Int32 → List Int64 → Mem → Option (Int32 × Mem)} {n : Nat}  {a1 : Int32} {M : Mem} {H : Heap} {locs : List Loc} {ls : Array Slot} (hf : b8_isOpen_0  rc n a1 M = some (r, M')) (hP : va_P z.1 vwCl (pw (xd z b) 339 b M) H) (hS : va_S (pA 339 b) s.heap H locs) (hl : lv_has ls 2 [(0, .ref (b + 3)), (1, .int a1)]) : W p l e rm8_isOpen s m args below meth c H locs 0 0 (MQ below (va_Qi (fun (r' : Int32) (M2 : Mem) => r' = r ∧ M2 = M') (fun M2 t => va_P z.1 vwCl (pw (xd z b) 339 b M2) t.heap) (pA 339 b)) args s 0 0 (pA 339 b)) (F0 m 0 ls []) := by
  have hx := C.1.1
  have hb := C.1.2.1
  unfold b8_isOpen_0 at hf
  refine lv_aload_n hx hb dX8_isOpen_0 rfl (lv_at hl 0 rfl) ?_
  refine lv_iload_n hx hb dX8_isOpen_1 rfl (lv_at hl 1 rfl) ?_
  obtain ⟨r1, M2, h3, hf⟩ := bnd_s hf
  refine pcVi (As := [.int a1]) C hP hS (k := 3) (Nat.le_of_ble_eq_true rfl) (xd_3 _ _) rfl (c8_kindOf  h3) y8_kindOf_w g_405 rfl rfl rfl ⟨Nat.le_of_ble_eq_true rfl, Nat.le_of_ble_eq_true rfl⟩ hl.1 rfl (Nat.le_of_ble_eq_true rfl) dX8_isOpen_2 ⟨Nat.le_of_ble_eq_true rfl, Nat.le_of_ble_eq_true rfl⟩ (fun H locs hP hS => ?_)
  refine lv_iconst (v := (2 : Int32)) hx hb dX8_isOpen_5 (by decide) ?_
  refine lv_icmp_ne (tgt := 13) hx hb dX8_isOpen_6 (by decide) (fun c4 => ?_) (fun c4 => ?_)
  · replace hf := ite_f c4 hf
    refine lv_iconst (v := (0 : Int32)) hx hb dX8_isOpen_13 (by decide) ?_
    exact prZ C hr hk hP hS hf rfl dX8_isOpen_14
  · replace hf := ite_t c4 hf
    refine lv_iconst (v := (1 : Int32)) hx hb dX8_isOpen_9 (by decide) ?_
    refine lv_goto (tgt := 14) hx hb dX8_isOpen_10 (by decide) ?_
    exact prZ C hr hk hP hS hf rfl dX8_isOpen_14
theorem c8_isOpen {l : Launch} {z : Zt} {b n : Nat}  {a1 : Int32} {M M' : Mem} {r : Int32} (hf : f8_isOpen n  a1 M = some (r, M')) : CI l z (xd z b) 339 b yX8_isOpen cX8_isOpen 2 (some .boolean) rm8_isOpen [.ref (b + 3), .int a1] M M' r :=
  CI.ofW (lv := [(0, .ref (b + 3)), (1, .int a1)]) (by decide) (Nat.le_of_ble_eq_true rfl) rfl (fun p e s m args below meth c ls C hr hk hP hS hl => w8_isOpen_0 (n := n)  C hr hk  hf hP hS hl)

-- java/lang/Long.bitCount(J)I
theorem dJ13_bitCount_95d88_0 : decode cJ13_bitCount_95d88 0 = .ok (.lload_n 0, 1) := by decide +kernel
theorem dJ13_bitCount_95d88_1 : decode cJ13_bitCount_95d88 1 = .ok (.lload_n 0, 1) := by decide +kernel
theorem dJ13_bitCount_95d88_2 : decode cJ13_bitCount_95d88 2 = .ok (.iconst 1, 1) := by decide +kernel
theorem dJ13_bitCount_95d88_3 : decode cJ13_bitCount_95d88 3 = .ok (.lushr, 1) := by decide +kernel
theorem dJ13_bitCount_95d88_4 : decode cJ13_bitCount_95d88 4 = .ok (.ldc2_w 314, 3) := by decide +kernel
theorem dJ13_bitCount_95d88_7 : decode cJ13_bitCount_95d88 7 = .ok (.land, 1) := by decide +kernel
theorem dJ13_bitCount_95d88_8 : decode cJ13_bitCount_95d88 8 = .ok (.lsub, 1) := by decide +kernel
theorem dJ13_bitCount_95d88_9 : decode cJ13_bitCount_95d88 9 = .ok (.lstore_n 0, 1) := by decide +kernel
theorem dJ13_bitCount_95d88_10 : decode cJ13_bitCount_95d88 10 = .ok (.lload_n 0, 1) := by decide +kernel
theorem dJ13_bitCount_95d88_11 : decode cJ13_bitCount_95d88 11 = .ok (.ldc2_w 316, 3) := by decide +kernel
theorem dJ13_bitCount_95d88_14 : decode cJ13_bitCount_95d88 14 = .ok (.land, 1) := by decide +kernel
theorem dJ13_bitCount_95d88_15 : decode cJ13_bitCount_95d88 15 = .ok (.lload_n 0, 1) := by decide +kernel
theorem dJ13_bitCount_95d88_16 : decode cJ13_bitCount_95d88 16 = .ok (.iconst 2, 1) := by decide +kernel
theorem dJ13_bitCount_95d88_17 : decode cJ13_bitCount_95d88 17 = .ok (.lushr, 1) := by decide +kernel
theorem dJ13_bitCount_95d88_18 : decode cJ13_bitCount_95d88 18 = .ok (.ldc2_w 316, 3) := by decide +kernel
theorem dJ13_bitCount_95d88_21 : decode cJ13_bitCount_95d88 21 = .ok (.land, 1) := by decide +kernel
theorem dJ13_bitCount_95d88_22 : decode cJ13_bitCount_95d88 22 = .ok (.ladd, 1) := by decide +kernel
theorem dJ13_bitCount_95d88_23 : decode cJ13_bitCount_95d88 23 = .ok (.lstore_n 0, 1) := by decide +kernel
theorem dJ13_bitCount_95d88_24 : decode cJ13_bitCount_95d88 24 = .ok (.lload_n 0, 1) := by decide +kernel
theorem dJ13_bitCount_95d88_25 : decode cJ13_bitCount_95d88 25 = .ok (.lload_n 0, 1) := by decide +kernel
theorem dJ13_bitCount_95d88_26 : decode cJ13_bitCount_95d88 26 = .ok (.iconst 4, 1) := by decide +kernel
theorem dJ13_bitCount_95d88_27 : decode cJ13_bitCount_95d88 27 = .ok (.lushr, 1) := by decide +kernel
theorem dJ13_bitCount_95d88_28 : decode cJ13_bitCount_95d88 28 = .ok (.ladd, 1) := by decide +kernel
theorem dJ13_bitCount_95d88_29 : decode cJ13_bitCount_95d88 29 = .ok (.ldc2_w 318, 3) := by decide +kernel
theorem dJ13_bitCount_95d88_32 : decode cJ13_bitCount_95d88 32 = .ok (.land, 1) := by decide +kernel
theorem dJ13_bitCount_95d88_33 : decode cJ13_bitCount_95d88 33 = .ok (.lstore_n 0, 1) := by decide +kernel
theorem dJ13_bitCount_95d88_34 : decode cJ13_bitCount_95d88 34 = .ok (.lload_n 0, 1) := by decide +kernel
theorem dJ13_bitCount_95d88_35 : decode cJ13_bitCount_95d88 35 = .ok (.lload_n 0, 1) := by decide +kernel
theorem dJ13_bitCount_95d88_36 : decode cJ13_bitCount_95d88 36 = .ok (.bipush 8, 2) := by decide +kernel
theorem dJ13_bitCount_95d88_38 : decode cJ13_bitCount_95d88 38 = .ok (.lushr, 1) := by decide +kernel
theorem dJ13_bitCount_95d88_39 : decode cJ13_bitCount_95d88 39 = .ok (.ladd, 1) := by decide +kernel
theorem dJ13_bitCount_95d88_40 : decode cJ13_bitCount_95d88 40 = .ok (.lstore_n 0, 1) := by decide +kernel
theorem dJ13_bitCount_95d88_41 : decode cJ13_bitCount_95d88 41 = .ok (.lload_n 0, 1) := by decide +kernel
theorem dJ13_bitCount_95d88_42 : decode cJ13_bitCount_95d88 42 = .ok (.lload_n 0, 1) := by decide +kernel
theorem dJ13_bitCount_95d88_43 : decode cJ13_bitCount_95d88 43 = .ok (.bipush 16, 2) := by decide +kernel
theorem dJ13_bitCount_95d88_45 : decode cJ13_bitCount_95d88 45 = .ok (.lushr, 1) := by decide +kernel
theorem dJ13_bitCount_95d88_46 : decode cJ13_bitCount_95d88 46 = .ok (.ladd, 1) := by decide +kernel
theorem dJ13_bitCount_95d88_47 : decode cJ13_bitCount_95d88 47 = .ok (.lstore_n 0, 1) := by decide +kernel
theorem dJ13_bitCount_95d88_48 : decode cJ13_bitCount_95d88 48 = .ok (.lload_n 0, 1) := by decide +kernel
theorem dJ13_bitCount_95d88_49 : decode cJ13_bitCount_95d88 49 = .ok (.lload_n 0, 1) := by decide +kernel
theorem dJ13_bitCount_95d88_50 : decode cJ13_bitCount_95d88 50 = .ok (.bipush 32, 2) := by decide +kernel
theorem dJ13_bitCount_95d88_52 : decode cJ13_bitCount_95d88 52 = .ok (.lushr, 1) := by decide +kernel
theorem dJ13_bitCount_95d88_53 : decode cJ13_bitCount_95d88 53 = .ok (.ladd, 1) := by decide +kernel
theorem dJ13_bitCount_95d88_54 : decode cJ13_bitCount_95d88 54 = .ok (.lstore_n 0, 1) := by decide +kernel
theorem dJ13_bitCount_95d88_55 : decode cJ13_bitCount_95d88 55 = .ok (.lload_n 0, 1) := by decide +kernel
theorem dJ13_bitCount_95d88_56 : decode cJ13_bitCount_95d88 56 = .ok (.l2i, 1) := by decide +kernel
theorem dJ13_bitCount_95d88_57 : decode cJ13_bitCount_95d88 57 = .ok (.bipush 127, 2) := by decide +kernel
theorem dJ13_bitCount_95d88_59 : decode cJ13_bitCount_95d88 59 = .ok (.iand, 1) := by decide +kernel
theorem dJ13_bitCount_95d88_60 : decode cJ13_bitCount_95d88 60 = .ok (.ireturn, 1) := by decide +kernel
def bZJ13_bitCount_95d88_0 (rc : Nat → List Int32 → List Int64 → Mem → Option (Int32 × Mem)) (n : Nat) (a0 : Int64) (M : Mem) : Option (Int32 × Mem) :=
  lt (a0 - ((a0.toUInt64 >>> ((1 : Int32).toInt64.toUInt64 &&& Int64.toUInt64 63)).toInt64 &&& (6148914691236517205 : Int64))) fun v1 =>
  lt ((v1 &&& (3689348814741910323 : Int64)) + ((v1.toUInt64 >>> ((2 : Int32).toInt64.toUInt64 &&& Int64.toUInt64 63)).toInt64 &&& (3689348814741910323 : Int64))) fun v2 =>
  lt ((v2 + (v2.toUInt64 >>> ((4 : Int32).toInt64.toUInt64 &&& Int64.toUInt64 63)).toInt64) &&& (1085102592571150095 : Int64)) fun v3 =>
  lt (v3 + (v3.toUInt64 >>> ((8 : Int32).toInt64.toUInt64 &&& Int64.toUInt64 63)).toInt64) fun v4 =>
  lt (v4 + (v4.toUInt64 >>> ((16 : Int32).toInt64.toUInt64 &&& Int64.toUInt64 63)).toInt64) fun v5 =>
  lt (v5 + (v5.toUInt64 >>> ((32 : Int32).toInt64.toUInt64 &&& Int64.toUInt64 63)).toInt64) fun v6 =>
  some ((v6.toInt32 &&& (127 : Int32)), M)
def fZJ13_bitCount_95d88 (n : Nat) (a0 : Int64) (M : Mem) : Option (Int32 × Mem) := bZJ13_bitCount_95d88_0 (fun _ _ _ _ => none) n a0 M
abbrev rmZJ13_bitCount_95d88 : Room := { frames := 0, cells := 0, slots := 0, locals := 0 }
theorem yZJ13_bitCount_95d88_w : yS yJ13_bitCount_95d88 cJ13_bitCount_95d88 2 (some .int) 1 := ⟨g_987, g_23, g_988, by decide, by decide, by decide +kernel⟩
set_option maxHeartbeats 4000000 in
set_option maxRecDepth 100000 in
theorem wZJ13_bitCount_95d88_0 {p : Program} {l : Launch} {e : Env} {s : State} {m : MethodId} {args : Array Value} {below : List Frame} {meth : Method} {c : Code} {z : Zt} {b : Nat}  (C : Cx p s m args c cJ13_bitCount_95d88 2 RJ13 z 339 b) (hr : meth.sig.returnType = (some .int)) (hk : meth.locks = false) {r : Int32} {M' : Mem} {rc : Nat → List Int32 → List Int64 → Mem → Option (Int32 × Mem)} {n : Nat}  {a0 : Int64} {M : Mem} {H : Heap} {locs : List Loc} {ls : Array Slot} (hf : bZJ13_bitCount_95d88_0  rc n a0 M = some (r, M')) (hP : va_P z.1 vwCl (pw (xd z b) 339 b M) H) (hS : va_S (pA 339 b) s.heap H locs) (hl : lv_has ls 2 [(0, .long a0)]) : W p l e rmZJ13_bitCount_95d88 s m args below meth c H locs 0 0 (MQ below (va_Qi (fun (r' : Int32) (M2 : Mem) => r' = r ∧ M2 = M') (fun M2 t => va_P z.1 vwCl (pw (xd z b) 339 b M2) t.heap) (pA 339 b)) args s 0 0 (pA 339 b)) (F0 m 0 ls []) := by
  have hx := C.1.1
  have hb := C.1.2.1
  unfold bZJ13_bitCount_95d88_0 at hf
  refine lv_lload_n hx hb dJ13_bitCount_95d88_0 rfl (lv_at hl 0 rfl) ?_
  refine lv_lload_n hx hb dJ13_bitCount_95d88_1 rfl (lv_at hl 0 rfl) ?_
  refine lv_iconst (v := (1 : Int32)) hx hb dJ13_bitCount_95d88_2 (by decide) ?_
  refine lv_lushr hx hb dJ13_bitCount_95d88_3 rfl ?_
  refine lv_ldc2 hx hb C.1.2.2.2.1 (C.1.2.2.2.2 _ g_989) dJ13_bitCount_95d88_4 ?_
  refine lv_land hx hb dJ13_bitCount_95d88_7 ?_
  refine lv_lsub hx hb dJ13_bitCount_95d88_8 ?_
  refine lv_topl (fun v1 ev1 => ?_)
  replace hf := lt_c ev1 hf
  refine lv_lstore_n (lv' := [(0, .long v1)]) hx hb dJ13_bitCount_95d88_9 rfl hl (by decide) rfl (fun ls hl => ?_)
  refine lv_lload_n hx hb dJ13_bitCount_95d88_10 rfl (lv_at hl 0 rfl) ?_
  refine lv_ldc2 hx hb C.1.2.2.2.1 (C.1.2.2.2.2 _ g_990) dJ13_bitCount_95d88_11 ?_
  refine lv_land hx hb dJ13_bitCount_95d88_14 ?_
  refine lv_lload_n hx hb dJ13_bitCount_95d88_15 rfl (lv_at hl 0 rfl) ?_
  refine lv_iconst (v := (2 : Int32)) hx hb dJ13_bitCount_95d88_16 (by decide) ?_
  refine lv_lushr hx hb dJ13_bitCount_95d88_17 rfl ?_
  refine lv_ldc2 hx hb C.1.2.2.2.1 (C.1.2.2.2.2 _ g_990) dJ13_bitCount_95d88_18 ?_
  refine lv_land hx hb dJ13_bitCount_95d88_21 ?_
  refine lv_ladd hx hb dJ13_bitCount_95d88_22 ?_
  refine lv_topl (fun v2 ev2 => ?_)
  replace hf := lt_c ev2 hf
  refine lv_lstore_n (lv' := [(0, .long v2)]) hx hb dJ13_bitCount_95d88_23 rfl hl (by decide) rfl (fun ls hl => ?_)
  refine lv_lload_n hx hb dJ13_bitCount_95d88_24 rfl (lv_at hl 0 rfl) ?_
  refine lv_lload_n hx hb dJ13_bitCount_95d88_25 rfl (lv_at hl 0 rfl) ?_
  refine lv_iconst (v := (4 : Int32)) hx hb dJ13_bitCount_95d88_26 (by decide) ?_
  refine lv_lushr hx hb dJ13_bitCount_95d88_27 rfl ?_
  refine lv_ladd hx hb dJ13_bitCount_95d88_28 ?_
  refine lv_ldc2 hx hb C.1.2.2.2.1 (C.1.2.2.2.2 _ g_991) dJ13_bitCount_95d88_29 ?_
  refine lv_land hx hb dJ13_bitCount_95d88_32 ?_
  refine lv_topl (fun v3 ev3 => ?_)
  replace hf := lt_c ev3 hf
  refine lv_lstore_n (lv' := [(0, .long v3)]) hx hb dJ13_bitCount_95d88_33 rfl hl (by decide) rfl (fun ls hl => ?_)
  refine lv_lload_n hx hb dJ13_bitCount_95d88_34 rfl (lv_at hl 0 rfl) ?_
  refine lv_lload_n hx hb dJ13_bitCount_95d88_35 rfl (lv_at hl 0 rfl) ?_
  refine lv_bipush (v := (8 : Int32)) hx hb dJ13_bitCount_95d88_36 (by decide) ?_
  refine lv_lushr hx hb dJ13_bitCount_95d88_38 rfl ?_
  refine lv_ladd hx hb dJ13_bitCount_95d88_39 ?_
  refine lv_topl (fun v4 ev4 => ?_)
  replace hf := lt_c ev4 hf
  refine lv_lstore_n (lv' := [(0, .long v4)]) hx hb dJ13_bitCount_95d88_40 rfl hl (by decide) rfl (fun ls hl => ?_)
  refine lv_lload_n hx hb dJ13_bitCount_95d88_41 rfl (lv_at hl 0 rfl) ?_
  refine lv_lload_n hx hb dJ13_bitCount_95d88_42 rfl (lv_at hl 0 rfl) ?_
  refine lv_bipush (v := (16 : Int32)) hx hb dJ13_bitCount_95d88_43 (by decide) ?_
  refine lv_lushr hx hb dJ13_bitCount_95d88_45 rfl ?_
  refine lv_ladd hx hb dJ13_bitCount_95d88_46 ?_
  refine lv_topl (fun v5 ev5 => ?_)
  replace hf := lt_c ev5 hf
  refine lv_lstore_n (lv' := [(0, .long v5)]) hx hb dJ13_bitCount_95d88_47 rfl hl (by decide) rfl (fun ls hl => ?_)
  refine lv_lload_n hx hb dJ13_bitCount_95d88_48 rfl (lv_at hl 0 rfl) ?_
  refine lv_lload_n hx hb dJ13_bitCount_95d88_49 rfl (lv_at hl 0 rfl) ?_
  refine lv_bipush (v := (32 : Int32)) hx hb dJ13_bitCount_95d88_50 (by decide) ?_
  refine lv_lushr hx hb dJ13_bitCount_95d88_52 rfl ?_
  refine lv_ladd hx hb dJ13_bitCount_95d88_53 ?_
  refine lv_topl (fun v6 ev6 => ?_)
  replace hf := lt_c ev6 hf
  refine lv_lstore_n (lv' := [(0, .long v6)]) hx hb dJ13_bitCount_95d88_54 rfl hl (by decide) rfl (fun ls hl => ?_)
  refine lv_lload_n hx hb dJ13_bitCount_95d88_55 rfl (lv_at hl 0 rfl) ?_
  refine lv_l2i hx hb dJ13_bitCount_95d88_56 rfl ?_
  refine lv_bipush (v := (127 : Int32)) hx hb dJ13_bitCount_95d88_57 (by decide) ?_
  refine lv_iand hx hb dJ13_bitCount_95d88_59 ?_
  exact prI C hr hk hP hS hf dJ13_bitCount_95d88_60
theorem cZJ13_bitCount_95d88 {l : Launch} {z : Zt} {b n : Nat}  {a0 : Int64} {M M' : Mem} {r : Int32} (hf : fZJ13_bitCount_95d88 n  a0 M = some (r, M')) : CI l z (xd z b) 339 b yJ13_bitCount_95d88 cJ13_bitCount_95d88 2 (some .int) rmZJ13_bitCount_95d88 [.long a0] M M' r :=
  CI.ofW (lv := [(0, .long a0)]) (by decide) (Nat.le_of_ble_eq_true rfl) rfl (fun p e s m args below meth c ls C hr hk hP hS hl => wZJ13_bitCount_95d88_0 (n := n)  C hr hk  hf hP hS hl)

-- BronzeKing$PlaceSet.size()I
theorem dX4_size_0 : decode cX4_size 0 = .ok (.aload_n 0, 1) := by decide +kernel
theorem dX4_size_1 : decode cX4_size 1 = .ok (.getfield 9, 3) := by decide +kernel
theorem dX4_size_4 : decode cX4_size 4 = .ok (.invokestatic 39, 3) := by decide +kernel
theorem dX4_size_7 : decode cX4_size 7 = .ok (.aload_n 0, 1) := by decide +kernel
theorem dX4_size_8 : decode cX4_size 8 = .ok (.getfield 15, 3) := by decide +kernel
theorem dX4_size_11 : decode cX4_size 11 = .ok (.invokestatic 39, 3) := by decide +kernel
theorem dX4_size_14 : decode cX4_size 14 = .ok (.iadd, 1) := by decide +kernel
theorem dX4_size_15 : decode cX4_size 15 = .ok (.ireturn, 1) := by decide +kernel
def b4_size_0 (k0 : Nat) (rc : Nat → List Int32 → List Int64 → Mem → Option (Int32 × Mem)) (n : Nat) (M : Mem) : Option (Int32 × Mem) :=
  bnd (fZJ13_bitCount_95d88 n (M.2 k0 0) M) fun r1 M2 =>
  bnd (fZJ13_bitCount_95d88 n (M2.2 k0 1) M2) fun r4 M5 =>
  some ((r1 + r4), M5)
def f4_size (n : Nat) (k0 : Nat) (M : Mem) : Option (Int32 × Mem) := b4_size_0 k0 (fun _ _ _ _ => none) n M
abbrev rm4_size : Room := { frames := 1, cells := 0, slots := 0, locals := 21 }
theorem y4_size_w : yV RX4 yX4_size cX4_size 1 (some .int) 0 := ⟨g_983, g_984, g_4, g_985, rfl, by decide, by decide, by decide +kernel⟩
set_option maxHeartbeats 4000000 in
set_option maxRecDepth 100000 in
theorem w4_size_0 {p : Program} {l : Launch} {e : Env} {s : State} {m : MethodId} {args : Array Value} {below : List Frame} {meth : Method} {c : Code} {z : Zt} {b : Nat} {k0 : Nat} (hk0 : isPS k0 = true) (C : Cx p s m args c cX4_size 1 RX4 z 339 b) (hr : meth.sig.returnType = (some .int)) (hk : meth.locks = false) {r : Int32} {M' : Mem} {rc : Nat → List Int32 → List Int64 → Mem → Option (Int32 × Mem)} {n : Nat}   {M : Mem} {H : Heap} {locs : List Loc} {ls : Array Slot} (hf : b4_size_0 k0 rc n  M = some (r, M')) (hP : va_P z.1 vwCl (pw (xd z b) 339 b M) H) (hS : va_S (pA 339 b) s.heap H locs) (hl : lv_has ls 1 [(0, .ref (b + k0))]) : W p l e rm4_size s m args below meth c H locs 0 0 (MQ below (va_Qi (fun (r' : Int32) (M2 : Mem) => r' = r ∧ M2 = M') (fun M2 t => va_P z.1 vwCl (pw (xd z b) 339 b M2) t.heap) (pA 339 b)) args s 0 0 (pA 339 b)) (F0 m 0 ls []) := by
  have hx := C.1.1
  have hb := C.1.2.1
  unfold b4_size_0 at hf
  refine lv_aload_n hx hb dX4_size_0 rfl (lv_at hl 0 rfl) ?_
  refine pg C hP (k := k0) (j := 0) (ps_lt hk0) ((ps_d hk0) _ _) rfl iw_4 (Nat.le_of_ble_eq_true rfl) g_60 rfl rfl dX4_size_1 ?_
  obtain ⟨r1, M2, h3, hf⟩ := bnd_s hf
  refine pcSi (As := [.long (M.2 k0 0)]) C hP hS (cZJ13_bitCount_95d88  h3) yZJ13_bitCount_95d88_w g_986 rfl rfl rfl ⟨Nat.le_of_ble_eq_true rfl, Nat.le_of_ble_eq_true rfl⟩ hl.1 rfl (Nat.le_of_ble_eq_true rfl) dX4_size_4 ⟨Nat.le_of_ble_eq_true rfl, Nat.le_of_ble_eq_true rfl⟩ (fun H locs hP hS => ?_)
  refine lv_aload_n hx hb dX4_size_7 rfl (lv_at hl 0 rfl) ?_
  refine pg C hP (k := k0) (j := 1) (ps_lt hk0) ((ps_d hk0) _ _) rfl iw_4 (Nat.le_of_ble_eq_true rfl) g_61 rfl rfl dX4_size_8 ?_
  obtain ⟨r4, M5, h6, hf⟩ := bnd_s hf
  refine pcSi (As := [.long (M2.2 k0 1)]) C hP hS (cZJ13_bitCount_95d88  h6) yZJ13_bitCount_95d88_w g_986 rfl rfl rfl ⟨Nat.le_of_ble_eq_true rfl, Nat.le_of_ble_eq_true rfl⟩ hl.1 rfl (Nat.le_of_ble_eq_true rfl) dX4_size_11 ⟨Nat.le_of_ble_eq_true rfl, Nat.le_of_ble_eq_true rfl⟩ (fun H locs hP hS => ?_)
  refine lv_iadd hx hb dX4_size_14 ?_
  exact prI C hr hk hP hS hf dX4_size_15
theorem c4_size {l : Launch} {z : Zt} {b n : Nat} {k0 : Nat} (hk0 : isPS k0 = true)  {M M' : Mem} {r : Int32} (hf : f4_size n k0  M = some (r, M')) : CI l z (xd z b) 339 b yX4_size cX4_size 1 (some .int) rm4_size [.ref (b + k0)] M M' r :=
  CI.ofW (lv := [(0, .ref (b + k0))]) (by decide) (Nat.le_of_ble_eq_true rfl) rfl (fun p e s m args below meth c ls C hr hk hP hS hl => w4_size_0 (n := n) hk0 C hr hk  hf hP hS hl)

-- BronzeKing$PlaceSet.join(LBronzeKing$PlaceSet;)V
theorem dX4_join_0 : decode cX4_join 0 = .ok (.aload_n 0, 1) := by decide +kernel
theorem dX4_join_1 : decode cX4_join 1 = .ok (.dup, 1) := by decide +kernel
theorem dX4_join_2 : decode cX4_join 2 = .ok (.getfield 9, 3) := by decide +kernel
theorem dX4_join_5 : decode cX4_join 5 = .ok (.aload_n 1, 1) := by decide +kernel
theorem dX4_join_6 : decode cX4_join 6 = .ok (.getfield 9, 3) := by decide +kernel
theorem dX4_join_9 : decode cX4_join 9 = .ok (.lor, 1) := by decide +kernel
theorem dX4_join_10 : decode cX4_join 10 = .ok (.putfield 9, 3) := by decide +kernel
theorem dX4_join_13 : decode cX4_join 13 = .ok (.aload_n 0, 1) := by decide +kernel
theorem dX4_join_14 : decode cX4_join 14 = .ok (.dup, 1) := by decide +kernel
theorem dX4_join_15 : decode cX4_join 15 = .ok (.getfield 15, 3) := by decide +kernel
theorem dX4_join_18 : decode cX4_join 18 = .ok (.aload_n 1, 1) := by decide +kernel
theorem dX4_join_19 : decode cX4_join 19 = .ok (.getfield 15, 3) := by decide +kernel
theorem dX4_join_22 : decode cX4_join 22 = .ok (.lor, 1) := by decide +kernel
theorem dX4_join_23 : decode cX4_join 23 = .ok (.putfield 15, 3) := by decide +kernel
theorem dX4_join_26 : decode cX4_join 26 = .ok (.return_, 1) := by decide +kernel
def b4_join_0 (k0 : Nat) (k1 : Nat) (rc : Nat → List Int32 → List Int64 → Mem → Option (Unit × Mem)) (n : Nat) (M : Mem) : Option (Unit × Mem) :=
  lt (wJ M k0 0 ((M.2 k0 0) ||| (M.2 k1 0))) fun M1 =>
  lt (wJ M1 k0 1 ((M1.2 k0 1) ||| (M1.2 k1 1))) fun M2 =>
  some ((), M2)
def f4_join (n : Nat) (k0 : Nat) (k1 : Nat) (M : Mem) : Option (Unit × Mem) := b4_join_0 k0 k1 (fun _ _ _ _ => none) n M
abbrev rm4_join : Room := { frames := 0, cells := 0, slots := 0, locals := 0 }
theorem y4_join_w : yV RX4 yX4_join cX4_join 2 none 1 := ⟨g_993, g_994, g_4, g_995, rfl, by decide, by decide, by decide +kernel⟩
set_option maxHeartbeats 4000000 in
set_option maxRecDepth 100000 in
theorem w4_join_0 {p : Program} {l : Launch} {e : Env} {s : State} {m : MethodId} {args : Array Value} {below : List Frame} {meth : Method} {c : Code} {z : Zt} {b : Nat} {k0 : Nat} (hk0 : isPS k0 = true) {k1 : Nat} (hk1 : isPS k1 = true) (C : Cx p s m args c cX4_join 2 RX4 z 339 b) (hr : meth.sig.returnType = none) (hk : meth.locks = false) {r : Unit} {M' : Mem} {rc : Nat → List Int32 → List Int64 → Mem → Option (Unit × Mem)} {n : Nat}   {M : Mem} {H : Heap} {locs : List Loc} {ls : Array Slot} (hf : b4_join_0 k0 k1 rc n  M = some (r, M')) (hP : va_P z.1 vwCl (pw (xd z b) 339 b M) H) (hS : va_S (pA 339 b) s.heap H locs) (hl : lv_has ls 2 [(0, .ref (b + k0)), (1, .ref (b + k1))]) : W p l e rm4_join s m args below meth c H locs 0 0 (MQ below (va_Qv (fun (M2 : Mem) => M2 = M') (fun M2 t => va_P z.1 vwCl (pw (xd z b) 339 b M2) t.heap) (pA 339 b)) args s 0 0 (pA 339 b)) (F0 m 0 ls []) := by
  have hx := C.1.1
  have hb := C.1.2.1
  unfold b4_join_0 at hf
  refine lv_aload_n hx hb dX4_join_0 rfl (lv_at hl 0 rfl) ?_
  refine lv_dup hx hb dX4_join_1 rfl ?_
  refine pg C hP (k := k0) (j := 0) (ps_lt hk0) ((ps_d hk0) _ _) rfl iw_4 (Nat.le_of_ble_eq_true rfl) g_60 rfl rfl dX4_join_2 ?_
  refine lv_aload_n hx hb dX4_join_5 rfl (lv_at hl 1 rfl) ?_
  refine pg C hP (k := k1) (j := 0) (ps_lt hk1) ((ps_d hk1) _ _) rfl iw_4 (Nat.le_of_ble_eq_true rfl) g_60 rfl rfl dX4_join_6 ?_
  refine lv_lor hx hb dX4_join_9 ?_
  refine ppJ C hP hS (k := k0) (j := 0) (ty := .long) (ps_lt hk0) ((ps_d hk0) _ _) rfl iw_4 tyX4 tyX4_ok nmX4 (Nat.le_of_ble_eq_true rfl) g_60 rfl rfl (by decide +kernel) rfl rfl (Nat.le_of_ble_eq_true rfl) (xu_ps_0 hk0 _ _ _) dX4_join_10 (fun M1 H locs eM1 hP hS => ?_)
  replace hf := lt_c eM1 hf
  refine lv_aload_n hx hb dX4_join_13 rfl (lv_at hl 0 rfl) ?_
  refine lv_dup hx hb dX4_join_14 rfl ?_
  refine pg C hP (k := k0) (j := 1) (ps_lt hk0) ((ps_d hk0) _ _) rfl iw_4 (Nat.le_of_ble_eq_true rfl) g_61 rfl rfl dX4_join_15 ?_
  refine lv_aload_n hx hb dX4_join_18 rfl (lv_at hl 1 rfl) ?_
  refine pg C hP (k := k1) (j := 1) (ps_lt hk1) ((ps_d hk1) _ _) rfl iw_4 (Nat.le_of_ble_eq_true rfl) g_61 rfl rfl dX4_join_19 ?_
  refine lv_lor hx hb dX4_join_22 ?_
  refine ppJ C hP hS (k := k0) (j := 1) (ty := .long) (ps_lt hk0) ((ps_d hk0) _ _) rfl iw_4 tyX4 tyX4_ok nmX4 (Nat.le_of_ble_eq_true rfl) g_61 rfl rfl (by decide +kernel) rfl rfl (Nat.le_of_ble_eq_true rfl) (xu_ps_1 hk0 _ _ _) dX4_join_23 (fun M2 H locs eM2 hP hS => ?_)
  replace hf := lt_c eM2 hf
  exact prV C hr hk hP hS hf dX4_join_26
theorem c4_join {l : Launch} {z : Zt} {b n : Nat} {k0 : Nat} (hk0 : isPS k0 = true) {k1 : Nat} (hk1 : isPS k1 = true)  {M M' : Mem} {r : Unit} (hf : f4_join n k0 k1  M = some (r, M')) : CV l z (xd z b) 339 b yX4_join cX4_join 2 none rm4_join [.ref (b + k0), .ref (b + k1)] M M' :=
  CV.ofW (lv := [(0, .ref (b + k0)), (1, .ref (b + k1))]) (by decide) (Nat.le_of_ble_eq_true rfl) rfl (fun p e s m args below meth c ls C hr hk hP hS hl => w4_join_0 (n := n) hk0 hk1 C hr hk  hf hP hS hl)

-- BronzeKing.beside(II)I
theorem dX11_beside_0 : decode cX11_beside 0 = .ok (.iload_n 0, 1) := by decide +kernel
theorem dX11_beside_1 : decode cX11_beside 1 = .ok (.bipush 12, 2) := by decide +kernel
theorem dX11_beside_3 : decode cX11_beside 3 = .ok (.irem, 1) := by decide +kernel
theorem dX11_beside_4 : decode cX11_beside 4 = .ok (.istore_n 2, 1) := by decide +kernel
theorem dX11_beside_5 : decode cX11_beside 5 = .ok (.iload_n 1, 1) := by decide +kernel
theorem dX11_beside_6 : decode cX11_beside 6 = .ok (.tableswitch 70 0 2 #[26, 41, 55], 26) := by decide +kernel
theorem dX11_beside_32 : decode cX11_beside 32 = .ok (.iload_n 0, 1) := by decide +kernel
theorem dX11_beside_33 : decode cX11_beside 33 = .ok (.bipush 12, 2) := by decide +kernel
theorem dX11_beside_35 : decode cX11_beside 35 = .ok (.if_icmp .lt 10, 3) := by decide +kernel
theorem dX11_beside_38 : decode cX11_beside 38 = .ok (.iload_n 0, 1) := by decide +kernel
theorem dX11_beside_39 : decode cX11_beside 39 = .ok (.bipush 12, 2) := by decide +kernel
theorem dX11_beside_41 : decode cX11_beside 41 = .ok (.isub, 1) := by decide +kernel
theorem dX11_beside_42 : decode cX11_beside 42 = .ok (.goto 4, 3) := by decide +kernel
theorem dX11_beside_45 : decode cX11_beside 45 = .ok (.iconst (-1), 1) := by decide +kernel
theorem dX11_beside_46 : decode cX11_beside 46 = .ok (.ireturn, 1) := by decide +kernel
theorem dX11_beside_47 : decode cX11_beside 47 = .ok (.iload_n 2, 1) := by decide +kernel
theorem dX11_beside_48 : decode cX11_beside 48 = .ok (.bipush 11, 2) := by decide +kernel
theorem dX11_beside_50 : decode cX11_beside 50 = .ok (.if_icmp .ge 9, 3) := by decide +kernel
theorem dX11_beside_53 : decode cX11_beside 53 = .ok (.iload_n 0, 1) := by decide +kernel
theorem dX11_beside_54 : decode cX11_beside 54 = .ok (.iconst 1, 1) := by decide +kernel
theorem dX11_beside_55 : decode cX11_beside 55 = .ok (.iadd, 1) := by decide +kernel
theorem dX11_beside_56 : decode cX11_beside 56 = .ok (.goto 4, 3) := by decide +kernel
theorem dX11_beside_59 : decode cX11_beside 59 = .ok (.iconst (-1), 1) := by decide +kernel
theorem dX11_beside_60 : decode cX11_beside 60 = .ok (.ireturn, 1) := by decide +kernel
theorem dX11_beside_61 : decode cX11_beside 61 = .ok (.iload_n 0, 1) := by decide +kernel
theorem dX11_beside_62 : decode cX11_beside 62 = .ok (.bipush 84, 2) := by decide +kernel
theorem dX11_beside_64 : decode cX11_beside 64 = .ok (.if_icmp .ge 10, 3) := by decide +kernel
theorem dX11_beside_67 : decode cX11_beside 67 = .ok (.iload_n 0, 1) := by decide +kernel
theorem dX11_beside_68 : decode cX11_beside 68 = .ok (.bipush 12, 2) := by decide +kernel
theorem dX11_beside_70 : decode cX11_beside 70 = .ok (.iadd, 1) := by decide +kernel
theorem dX11_beside_71 : decode cX11_beside 71 = .ok (.goto 4, 3) := by decide +kernel
theorem dX11_beside_74 : decode cX11_beside 74 = .ok (.iconst (-1), 1) := by decide +kernel
theorem dX11_beside_75 : decode cX11_beside 75 = .ok (.ireturn, 1) := by decide +kernel
theorem dX11_beside_76 : decode cX11_beside 76 = .ok (.iload_n 2, 1) := by decide +kernel
theorem dX11_beside_77 : decode cX11_beside 77 = .ok (.ifCond .le 9, 3) := by decide +kernel
theorem dX11_beside_80 : decode cX11_beside 80 = .ok (.iload_n 0, 1) := by decide +kernel
theorem dX11_beside_81 : decode cX11_beside 81 = .ok (.iconst 1, 1) := by decide +kernel
theorem dX11_beside_82 : decode cX11_beside 82 = .ok (.isub, 1) := by decide +kernel
theorem dX11_beside_83 : decode cX11_beside 83 = .ok (.goto 4, 3) := by decide +kernel
theorem dX11_beside_86 : decode cX11_beside 86 = .ok (.iconst (-1), 1) := by decide +kernel
theorem dX11_beside_87 : decode cX11_beside 87 = .ok (.ireturn, 1) := by decide +kernel
def b11_beside_0 (rc : Nat → List Int32 → List Int64 → Mem → Option (Int32 × Mem)) (n : Nat) (a0 : Int32) (a1 : Int32) (M : Mem) : Option (Int32 × Mem) :=
  lt (a0 - a0 / (12 : Int32) * (12 : Int32)) fun v1 =>
  (if a1 = (0 : Int32) then (
   (if a0 < (12 : Int32) then (
    some ((-1 : Int32), M))
   else (
    some ((a0 - (12 : Int32)), M))))
  else (
   (if a1 = (1 : Int32) then (
    (if (11 : Int32) ≤ v1 then (
     some ((-1 : Int32), M))
    else (
     some ((a0 + (1 : Int32)), M))))
   else (
    (if a1 = (2 : Int32) then (
     (if (84 : Int32) ≤ a0 then (
      some ((-1 : Int32), M))
     else (
      some ((a0 + (12 : Int32)), M))))
    else (
     (if v1 ≤ 0 then (
      some ((-1 : Int32), M))
     else (
      some ((a0 - (1 : Int32)), M)))))))))
def f11_beside (n : Nat) (a0 : Int32) (a1 : Int32) (M : Mem) : Option (Int32 × Mem) := b11_beside_0 (fun _ _ _ _ => none) n a0 a1 M
abbrev rm11_beside : Room := { frames := 0, cells := 0, slots := 0, locals := 0 }
theorem y11_beside_w : yS yX11_beside cX11_beside 3 (some .int) 2 := ⟨g_418, g_1, g_419, by decide, by decide, by decide +kernel⟩
set_option maxHeartbeats 4000000 in
set_option maxRecDepth 100000 in
theorem w11_beside_0 {p : Program} {l : Launch} {e : Env} {s : State} {m : MethodId} {args : Array Value} {below : List Frame} {meth : Method} {c : Code} {z : Zt} {b : Nat}  (C : Cx p s m args c cX11_beside 3 RX11 z 339 b) (hr : meth.sig.returnType = (some .int)) (hk : meth.locks = false) {r : Int32} {M' : Mem} {rc : Nat → List Int32 → List Int64 → Mem → Option (Int32 × Mem)} {n : Nat}  {a0 : Int32} {a1 : Int32} {M : Mem} {H : Heap} {locs : List Loc} {ls : Array Slot} (hf : b11_beside_0  rc n a0 a1 M = some (r, M')) (hP : va_P z.1 vwCl (pw (xd z b) 339 b M) H) (hS : va_S (pA 339 b) s.heap H locs) (hl : lv_has ls 3 [(0, .int a0), (1, .int a1)]) : W p l e rm11_beside s m args below meth c H locs 0 0 (MQ below (va_Qi (fun (r' : Int32) (M2 : Mem) => r' = r ∧ M2 = M') (fun M2 t => va_P z.1 vwCl (pw (xd z b) 339 b M2) t.heap) (pA 339 b)) args s 0 0 (pA 339 b)) (F0 m 0 ls []) := by
  have hx := C.1.1
  have hb := C.1.2.1
  unfold b11_beside_0 at hf
  refine lv_iload_n hx hb dX11_beside_0 rfl (lv_at hl 0 rfl) ?_
  refine lv_bipush (v := (12 : Int32)) hx hb dX11_beside_1 (by decide) ?_
  refine lv_irem hx hb dX11_beside_3 (by decide) ?_
  refine lv_topi (fun v1 ev1 => ?_)
  replace hf := lt_c ev1 hf
  refine lv_istore_n (lv' := [(2, .int v1), (0, .int a0), (1, .int a1)]) hx hb dX11_beside_4 rfl hl (by decide) rfl (fun ls hl => ?_)
  refine lv_iload_n hx hb dX11_beside_5 rfl (lv_at hl 2 rfl) ?_
  by_cases c2 : a1 = (0 : Int32)
  · replace hf := ite_t c2 hf
    refine lv_tableIn (off := 26) (tgt := 32) hx hb dX11_beside_6 (by rw [c2]; decide) (by rw [c2]; decide) (by rw [c2]; rfl) (by decide) ?_
    refine lv_iload_n hx hb dX11_beside_32 rfl (lv_at hl 1 rfl) ?_
    refine lv_bipush (v := (12 : Int32)) hx hb dX11_beside_33 (by decide) ?_
    refine lv_icmp_lt (tgt := 45) hx hb dX11_beside_35 (by decide) (fun c3 => ?_) (fun c3 => ?_)
    · replace hf := ite_t c3 hf
      refine lv_iconst (v := (-1 : Int32)) hx hb dX11_beside_45 (by decide) ?_
      exact prI C hr hk hP hS hf dX11_beside_46
    · replace hf := ite_f c3 hf
      refine lv_iload_n hx hb dX11_beside_38 rfl (lv_at hl 1 rfl) ?_
      refine lv_bipush (v := (12 : Int32)) hx hb dX11_beside_39 (by decide) ?_
      refine lv_isub hx hb dX11_beside_41 ?_
      refine lv_goto (tgt := 46) hx hb dX11_beside_42 (by decide) ?_
      exact prI C hr hk hP hS hf dX11_beside_46
  · replace hf := ite_f c2 hf
    by_cases c4 : a1 = (1 : Int32)
    · replace hf := ite_t c4 hf
      refine lv_tableIn (off := 41) (tgt := 47) hx hb dX11_beside_6 (by rw [c4]; decide) (by rw [c4]; decide) (by rw [c4]; rfl) (by decide) ?_
      refine lv_iload_n hx hb dX11_beside_47 rfl (lv_at hl 0 rfl) ?_
      refine lv_bipush (v := (11 : Int32)) hx hb dX11_beside_48 (by decide) ?_
      refine lv_icmp_ge (tgt := 59) hx hb dX11_beside_50 (by decide) (fun c5 => ?_) (fun c5 => ?_)
      · replace hf := ite_t c5 hf
        refine lv_iconst (v := (-1 : Int32)) hx hb dX11_beside_59 (by decide) ?_
        exact prI C hr hk hP hS hf dX11_beside_60
      · replace hf := ite_f c5 hf
        refine lv_iload_n hx hb dX11_beside_53 rfl (lv_at hl 1 rfl) ?_
        refine lv_iconst (v := (1 : Int32)) hx hb dX11_beside_54 (by decide) ?_
        refine lv_iadd hx hb dX11_beside_55 ?_
        refine lv_goto (tgt := 60) hx hb dX11_beside_56 (by decide) ?_
        exact prI C hr hk hP hS hf dX11_beside_60
    · replace hf := ite_f c4 hf
      by_cases c6 : a1 = (2 : Int32)
      · replace hf := ite_t c6 hf
        refine lv_tableIn (off := 55) (tgt := 61) hx hb dX11_beside_6 (by rw [c6]; decide) (by rw [c6]; decide) (by rw [c6]; rfl) (by decide) ?_
        refine lv_iload_n hx hb dX11_beside_61 rfl (lv_at hl 1 rfl) ?_
        refine lv_bipush (v := (84 : Int32)) hx hb dX11_beside_62 (by decide) ?_
        refine lv_icmp_ge (tgt := 74) hx hb dX11_beside_64 (by decide) (fun c7 => ?_) (fun c7 => ?_)
        · replace hf := ite_t c7 hf
          refine lv_iconst (v := (-1 : Int32)) hx hb dX11_beside_74 (by decide) ?_
          exact prI C hr hk hP hS hf dX11_beside_75
        · replace hf := ite_f c7 hf
          refine lv_iload_n hx hb dX11_beside_67 rfl (lv_at hl 1 rfl) ?_
          refine lv_bipush (v := (12 : Int32)) hx hb dX11_beside_68 (by decide) ?_
          refine lv_iadd hx hb dX11_beside_70 ?_
          refine lv_goto (tgt := 75) hx hb dX11_beside_71 (by decide) ?_
          exact prI C hr hk hP hS hf dX11_beside_75
      · replace hf := ite_f c6 hf
        refine lv_tableOut (tgt := 76) hx hb dX11_beside_6 (by have z0 : ¬ a1.toInt = 0 := tsn c2; have z1 : ¬ a1.toInt = 1 := tsn c4; have z2 : ¬ a1.toInt = 2 := tsn c6; omega) (by decide) ?_
        refine lv_iload_n hx hb dX11_beside_76 rfl (lv_at hl 0 rfl) ?_
        refine lv_if_le (tgt := 86) hx hb dX11_beside_77 (by decide) (fun c8 => ?_) (fun c8 => ?_)
        · replace hf := ite_t c8 hf
          refine lv_iconst (v := (-1 : Int32)) hx hb dX11_beside_86 (by decide) ?_
          exact prI C hr hk hP hS hf dX11_beside_87
        · replace hf := ite_f c8 hf
          refine lv_iload_n hx hb dX11_beside_80 rfl (lv_at hl 1 rfl) ?_
          refine lv_iconst (v := (1 : Int32)) hx hb dX11_beside_81 (by decide) ?_
          refine lv_isub hx hb dX11_beside_82 ?_
          refine lv_goto (tgt := 87) hx hb dX11_beside_83 (by decide) ?_
          exact prI C hr hk hP hS hf dX11_beside_87
theorem c11_beside {l : Launch} {z : Zt} {b n : Nat}  {a0 : Int32} {a1 : Int32} {M M' : Mem} {r : Int32} (hf : f11_beside n  a0 a1 M = some (r, M')) : CI l z (xd z b) 339 b yX11_beside cX11_beside 3 (some .int) rm11_beside [.int a0, .int a1] M M' r :=
  CI.ofW (lv := [(0, .int a0), (1, .int a1)]) (by decide) (Nat.le_of_ble_eq_true rfl) rfl (fun p e s m args below meth c ls C hr hk hP hS hl => w11_beside_0 (n := n)  C hr hk  hf hP hS hl)

-- BronzeKing$Hunt.moveKing()Z
theorem dX1_moveKing_0 : decode cX1_moveKing 0 = .ok (.iconst 0, 1) := by decide +kernel
theorem dX1_moveKing_1 : decode cX1_moveKing 1 = .ok (.istore_n 1, 1) := by decide +kernel
theorem dX1_moveKing_2 : decode cX1_moveKing 2 = .ok (.iconst 0, 1) := by decide +kernel
theorem dX1_moveKing_3 : decode cX1_moveKing 3 = .ok (.istore_n 2, 1) := by decide +kernel
theorem dX1_moveKing_4 : decode cX1_moveKing 4 = .ok (.iload_n 2, 1) := by decide +kernel
theorem dX1_moveKing_5 : decode cX1_moveKing 5 = .ok (.bipush 96, 2) := by decide +kernel
theorem dX1_moveKing_7 : decode cX1_moveKing 7 = .ok (.if_icmp .ge 124, 3) := by decide +kernel
theorem dX1_moveKing_10 : decode cX1_moveKing 10 = .ok (.aload_n 0, 1) := by decide +kernel
theorem dX1_moveKing_11 : decode cX1_moveKing 11 = .ok (.getfield 20, 3) := by decide +kernel
theorem dX1_moveKing_14 : decode cX1_moveKing 14 = .ok (.iload_n 2, 1) := by decide +kernel
theorem dX1_moveKing_15 : decode cX1_moveKing 15 = .ok (.invokevirtual 59, 3) := by decide +kernel
theorem dX1_moveKing_18 : decode cX1_moveKing 18 = .ok (.ifCond .eq 107, 3) := by decide +kernel
theorem dX1_moveKing_21 : decode cX1_moveKing 21 = .ok (.aload_n 0, 1) := by decide +kernel
theorem dX1_moveKing_22 : decode cX1_moveKing 22 = .ok (.getfield 11, 3) := by decide +kernel
theorem dX1_moveKing_25 : decode cX1_moveKing 25 = .ok (.iload_n 2, 1) := by decide +kernel
theorem dX1_moveKing_26 : decode cX1_moveKing 26 = .ok (.aaload, 1) := by decide +kernel
theorem dX1_moveKing_27 : decode cX1_moveKing 27 = .ok (.invokevirtual 62, 3) := by decide +kernel
theorem dX1_moveKing_30 : decode cX1_moveKing 30 = .ok (.istore_n 3, 1) := by decide +kernel
theorem dX1_moveKing_31 : decode cX1_moveKing 31 = .ok (.aload_n 0, 1) := by decide +kernel
theorem dX1_moveKing_32 : decode cX1_moveKing 32 = .ok (.getfield 11, 3) := by decide +kernel
theorem dX1_moveKing_35 : decode cX1_moveKing 35 = .ok (.iload_n 2, 1) := by decide +kernel
theorem dX1_moveKing_36 : decode cX1_moveKing 36 = .ok (.aaload, 1) := by decide +kernel
theorem dX1_moveKing_37 : decode cX1_moveKing 37 = .ok (.aload_n 0, 1) := by decide +kernel
theorem dX1_moveKing_38 : decode cX1_moveKing 38 = .ok (.getfield 17, 3) := by decide +kernel
theorem dX1_moveKing_41 : decode cX1_moveKing 41 = .ok (.iload_n 2, 1) := by decide +kernel
theorem dX1_moveKing_42 : decode cX1_moveKing 42 = .ok (.aaload, 1) := by decide +kernel
theorem dX1_moveKing_43 : decode cX1_moveKing 43 = .ok (.invokevirtual 66, 3) := by decide +kernel
theorem dX1_moveKing_46 : decode cX1_moveKing 46 = .ok (.iconst 0, 1) := by decide +kernel
theorem dX1_moveKing_47 : decode cX1_moveKing 47 = .ok (.istore 4, 2) := by decide +kernel
theorem dX1_moveKing_49 : decode cX1_moveKing 49 = .ok (.iload 4, 2) := by decide +kernel
theorem dX1_moveKing_51 : decode cX1_moveKing 51 = .ok (.iconst 4, 1) := by decide +kernel
theorem dX1_moveKing_52 : decode cX1_moveKing 52 = .ok (.if_icmp .ge 50, 3) := by decide +kernel
theorem dX1_moveKing_55 : decode cX1_moveKing 55 = .ok (.iload_n 2, 1) := by decide +kernel
theorem dX1_moveKing_56 : decode cX1_moveKing 56 = .ok (.iload 4, 2) := by decide +kernel
theorem dX1_moveKing_58 : decode cX1_moveKing 58 = .ok (.invokestatic 69, 3) := by decide +kernel
theorem dX1_moveKing_61 : decode cX1_moveKing 61 = .ok (.istore 5, 2) := by decide +kernel
theorem dX1_moveKing_63 : decode cX1_moveKing 63 = .ok (.iload 5, 2) := by decide +kernel
theorem dX1_moveKing_65 : decode cX1_moveKing 65 = .ok (.ifCond .lt 31, 3) := by decide +kernel
theorem dX1_moveKing_68 : decode cX1_moveKing 68 = .ok (.aload_n 0, 1) := by decide +kernel
theorem dX1_moveKing_69 : decode cX1_moveKing 69 = .ok (.getfield 20, 3) := by decide +kernel
theorem dX1_moveKing_72 : decode cX1_moveKing 72 = .ok (.iload 5, 2) := by decide +kernel
theorem dX1_moveKing_74 : decode cX1_moveKing 74 = .ok (.invokevirtual 59, 3) := by decide +kernel
theorem dX1_moveKing_77 : decode cX1_moveKing 77 = .ok (.ifCond .eq 19, 3) := by decide +kernel
theorem dX1_moveKing_80 : decode cX1_moveKing 80 = .ok (.aload_n 0, 1) := by decide +kernel
theorem dX1_moveKing_81 : decode cX1_moveKing 81 = .ok (.getfield 11, 3) := by decide +kernel
theorem dX1_moveKing_84 : decode cX1_moveKing 84 = .ok (.iload_n 2, 1) := by decide +kernel
theorem dX1_moveKing_85 : decode cX1_moveKing 85 = .ok (.aaload, 1) := by decide +kernel
theorem dX1_moveKing_86 : decode cX1_moveKing 86 = .ok (.aload_n 0, 1) := by decide +kernel
theorem dX1_moveKing_87 : decode cX1_moveKing 87 = .ok (.getfield 17, 3) := by decide +kernel
theorem dX1_moveKing_90 : decode cX1_moveKing 90 = .ok (.iload 5, 2) := by decide +kernel
theorem dX1_moveKing_92 : decode cX1_moveKing 92 = .ok (.aaload, 1) := by decide +kernel
theorem dX1_moveKing_93 : decode cX1_moveKing 93 = .ok (.invokevirtual 66, 3) := by decide +kernel
theorem dX1_moveKing_96 : decode cX1_moveKing 96 = .ok (.iinc 4 1, 3) := by decide +kernel
theorem dX1_moveKing_99 : decode cX1_moveKing 99 = .ok (.goto (-50), 3) := by decide +kernel
theorem dX1_moveKing_102 : decode cX1_moveKing 102 = .ok (.iload_n 1, 1) := by decide +kernel
theorem dX1_moveKing_103 : decode cX1_moveKing 103 = .ok (.ifCond .ne 16, 3) := by decide +kernel
theorem dX1_moveKing_106 : decode cX1_moveKing 106 = .ok (.aload_n 0, 1) := by decide +kernel
theorem dX1_moveKing_107 : decode cX1_moveKing 107 = .ok (.getfield 11, 3) := by decide +kernel
theorem dX1_moveKing_110 : decode cX1_moveKing 110 = .ok (.iload_n 2, 1) := by decide +kernel
theorem dX1_moveKing_111 : decode cX1_moveKing 111 = .ok (.aaload, 1) := by decide +kernel
theorem dX1_moveKing_112 : decode cX1_moveKing 112 = .ok (.invokevirtual 62, 3) := by decide +kernel
theorem dX1_moveKing_115 : decode cX1_moveKing 115 = .ok (.iload_n 3, 1) := by decide +kernel
theorem dX1_moveKing_116 : decode cX1_moveKing 116 = .ok (.if_icmp .le 7, 3) := by decide +kernel
theorem dX1_moveKing_119 : decode cX1_moveKing 119 = .ok (.iconst 1, 1) := by decide +kernel
theorem dX1_moveKing_120 : decode cX1_moveKing 120 = .ok (.goto 4, 3) := by decide +kernel
theorem dX1_moveKing_123 : decode cX1_moveKing 123 = .ok (.iconst 0, 1) := by decide +kernel
theorem dX1_moveKing_124 : decode cX1_moveKing 124 = .ok (.istore_n 1, 1) := by decide +kernel
theorem dX1_moveKing_125 : decode cX1_moveKing 125 = .ok (.iinc 2 1, 3) := by decide +kernel
theorem dX1_moveKing_128 : decode cX1_moveKing 128 = .ok (.goto (-124), 3) := by decide +kernel
theorem dX1_moveKing_131 : decode cX1_moveKing 131 = .ok (.iload_n 1, 1) := by decide +kernel
theorem dX1_moveKing_132 : decode cX1_moveKing 132 = .ok (.ireturn, 1) := by decide +kernel
def b1_moveKing_125 (rc : Nat → List Int32 → List Int64 → Mem → Option (Int32 × Mem)) (n : Nat) (i1 : Int32) (i2 : Int32) (M : Mem) : Option (Int32 × Mem) :=
  lt (i2 + (1 : Int32)) fun v37 =>
  rc 4 [i1, v37] [] M
def b1_moveKing_124 (rc : Nat → List Int32 → List Int64 → Mem → Option (Int32 × Mem)) (n : Nat) (i2 : Int32) (s0 : Int32) (M : Mem) : Option (Int32 × Mem) :=
  b1_moveKing_125  rc n s0 i2 M
def b1_moveKing_119 (rc : Nat → List Int32 → List Int64 → Mem → Option (Int32 × Mem)) (n : Nat) (i2 : Int32) (M : Mem) : Option (Int32 × Mem) :=
  b1_moveKing_124  rc n i2 (1 : Int32) M
def b1_moveKing_96 (rc : Nat → List Int32 → List Int64 → Mem → Option (Int32 × Mem)) (n : Nat) (i1 : Int32) (i2 : Int32) (i3 : Int32) (i4 : Int32) (M : Mem) : Option (Int32 × Mem) :=
  lt (i4 + (1 : Int32)) fun v36 =>
  rc 49 [i1, i2, i3, v36] [] M
def b1_moveKing_49 (rc : Nat → List Int32 → List Int64 → Mem → Option (Int32 × Mem)) (n : Nat) (i1 : Int32) (i2 : Int32) (i3 : Int32) (i4 : Int32) (M : Mem) : Option (Int32 × Mem) :=
  (if (4 : Int32) ≤ i4 then (
   (if i1 = 0 then (
    chk (inb i2 96) <|
    bnd (f4_size n (134 + 2 * i2.toNatClampNeg) M) fun r19 M20 =>
    (if r19 ≤ i3 then (
     b1_moveKing_124  rc n i2 (0 : Int32) M20)
    else (
     b1_moveKing_119  rc n i2 M20)))
   else (
    b1_moveKing_119  rc n i2 M)))
  else (
   bnd (f11_beside n i2 i4 M) fun r23 M24 =>
   (if r23 < 0 then (
    b1_moveKing_96  rc n i1 i2 i3 i4 M24)
   else (
    bnd (f8_isOpen n r23 M24) fun r27 M28 =>
    (if r27 = 0 then (
     b1_moveKing_96  rc n i1 i2 i3 i4 M28)
    else (
     chk (inb i2 96) <|
     chk (inb r23 96) <|
     bnd (f4_join n (134 + 2 * i2.toNatClampNeg) (135 + 2 * r23.toNatClampNeg) M28) fun r33 M34 =>
     b1_moveKing_96  rc n i1 i2 i3 i4 M34))))))
def b1_moveKing_4 (rc : Nat → List Int32 → List Int64 → Mem → Option (Int32 × Mem)) (n : Nat) (i1 : Int32) (i2 : Int32) (M : Mem) : Option (Int32 × Mem) :=
  (if (96 : Int32) ≤ i2 then (
   chk (isb i1) <|
   some (i1, M))
  else (
   bnd (f8_isOpen n i2 M) fun r3 M4 =>
   (if r3 = 0 then (
    b1_moveKing_125  rc n i1 i2 M4)
   else (
    chk (inb i2 96) <|
    bnd (f4_size n (134 + 2 * i2.toNatClampNeg) M4) fun r8 M9 =>
    chk (inb i2 96) <|
    chk (inb i2 96) <|
    bnd (f4_join n (134 + 2 * i2.toNatClampNeg) (135 + 2 * i2.toNatClampNeg) M9) fun r13 M14 =>
    b1_moveKing_49  rc n i1 i2 r8 (0 : Int32) M14))))
def b1_moveKing_0 (rc : Nat → List Int32 → List Int64 → Mem → Option (Int32 × Mem)) (n : Nat) (M : Mem) : Option (Int32 × Mem) :=
  b1_moveKing_4  rc n (0 : Int32) (0 : Int32) M
def r1_moveKing : Nat → Nat → List Int32 → List Int64 → Mem → Option (Int32 × Mem)
  | 0 => fun _ _ _ _ => none
  | n + 1 => fun pc li lj M =>
    if pc = 4 then (match li, lj with | [i1, i2], [] => b1_moveKing_4  (r1_moveKing  n) n i1 i2 M | _, _ => none) else
    if pc = 49 then (match li, lj with | [i1, i2, i3, i4], [] => b1_moveKing_49  (r1_moveKing  n) n i1 i2 i3 i4 M | _, _ => none) else
    none
theorem e1_moveKing_4  (n : Nat) (i1 : Int32) (i2 : Int32) (M : Mem) : r1_moveKing  (n + 1) 4 [i1, i2] [] M = b1_moveKing_4  (r1_moveKing  n) n i1 i2 M := by
  rw [r1_moveKing]
  simp
theorem e1_moveKing_49  (n : Nat) (i1 : Int32) (i2 : Int32) (i3 : Int32) (i4 : Int32) (M : Mem) : r1_moveKing  (n + 1) 49 [i1, i2, i3, i4] [] M = b1_moveKing_49  (r1_moveKing  n) n i1 i2 i3 i4 M := by
  rw [r1_moveKing]
  simp
def f1_moveKing (n : Nat)  (M : Mem) : Option (Int32 × Mem) := b1_moveKing_0 (r1_moveKing n) n M
abbrev rm1_moveKing : Room := { frames := 2, cells := 0, slots := 0, locals := 42 }
theorem y1_moveKing_w : yV RX1 yX1_moveKing cX1_moveKing 6 (some .boolean) 0 := ⟨g_979, gp 33 rfl rfl, g_11, g_980, rfl, by decide, by decide, by decide +kernel⟩
set_option maxHeartbeats 4000000 in
set_option maxRecDepth 100000 in
theorem w1_moveKing_125 {p : Program} {l : Launch} {e : Env} {s : State} {m : MethodId} {args : Array Value} {below : List Frame} {meth : Method} {c : Code} {z : Zt} {b : Nat}  (C : Cx p s m args c cX1_moveKing 6 RX1 z 339 b) (hr : meth.sig.returnType = (some .boolean)) (hk : meth.locks = false) {r : Int32} {M' : Mem} {rc : Nat → List Int32 → List Int64 → Mem → Option (Int32 × Mem)} {n : Nat} (q4 : ∀ (i1 : Int32) (i2 : Int32) (M : Mem) (H : Heap) (locs : List Loc) (ls : Array Slot), rc 4 [i1, i2] [] M = some (r, M') → va_P z.1 vwCl (pw (xd z b) 339 b M) H → va_S (pA 339 b) s.heap H locs → lv_has ls 6 [(0, .ref (b + 131)), (1, .int i1), (2, .int i2)] → W p l e rm1_moveKing s m args below meth c H locs 0 0 (MQ below (va_Qi (fun (r' : Int32) (M2 : Mem) => r' = r ∧ M2 = M') (fun M2 t => va_P z.1 vwCl (pw (xd z b) 339 b M2) t.heap) (pA 339 b)) args s 0 0 (pA 339 b)) (F0 m 4 ls [])) (q49 : ∀ (i1 : Int32) (i2 : Int32) (i3 : Int32) (i4 : Int32) (M : Mem) (H : Heap) (locs : List Loc) (ls : Array Slot), rc 49 [i1, i2, i3, i4] [] M = some (r, M') → va_P z.1 vwCl (pw (xd z b) 339 b M) H → va_S (pA 339 b) s.heap H locs → lv_has ls 6 [(0, .ref (b + 131)), (1, .int i1), (2, .int i2), (3, .int i3), (4, .int i4)] → W p l e rm1_moveKing s m args below meth c H locs 0 0 (MQ below (va_Qi (fun (r' : Int32) (M2 : Mem) => r' = r ∧ M2 = M') (fun M2 t => va_P z.1 vwCl (pw (xd z b) 339 b M2) t.heap) (pA 339 b)) args s 0 0 (pA 339 b)) (F0 m 49 ls [])) {i1 : Int32} {i2 : Int32} {M : Mem} {H : Heap} {locs : List Loc} {ls : Array Slot} (hf : b1_moveKing_125  rc n i1 i2 M = some (r, M')) (hP : va_P z.1 vwCl (pw (xd z b) 339 b M) H) (hS : va_S (pA 339 b) s.heap H locs) (hl : lv_has ls 6 [(0, .ref (b + 131)), (1, .int i1), (2, .int i2)]) : W p l e rm1_moveKing s m args below meth c H locs 0 0 (MQ below (va_Qi (fun (r' : Int32) (M2 : Mem) => r' = r ∧ M2 = M') (fun M2 t => va_P z.1 vwCl (pw (xd z b) 339 b M2) t.heap) (pA 339 b)) args s 0 0 (pA 339 b)) (F0 m 125 ls []) := by
  have hx := C.1.1
  have hb := C.1.2.1
  unfold b1_moveKing_125 at hf
  obtain ⟨v37, ev37⟩ : ∃ v : Int32, v = i2 + (1 : Int32) := ⟨_, rfl⟩
  replace hf := lt_c ev37 hf
  refine lv_iinc (v := v37) (lv' := [(2, .int v37), (0, .ref (b + 131)), (1, .int i1)]) hx hb dX1_moveKing_125 hl (k := 2) rfl (by rw [ev37]; rfl) (by decide) rfl (fun ls hl => ?_)
  refine lv_goto (tgt := 4) hx hb dX1_moveKing_128 (by decide) ?_
  exact q4 i1 v37 M _ _ _ hf hP hS (lv_sub hl [1, 2, 0] rfl)
set_option maxHeartbeats 4000000 in
set_option maxRecDepth 100000 in
theorem w1_moveKing_124 {p : Program} {l : Launch} {e : Env} {s : State} {m : MethodId} {args : Array Value} {below : List Frame} {meth : Method} {c : Code} {z : Zt} {b : Nat}  (C : Cx p s m args c cX1_moveKing 6 RX1 z 339 b) (hr : meth.sig.returnType = (some .boolean)) (hk : meth.locks = false) {r : Int32} {M' : Mem} {rc : Nat → List Int32 → List Int64 → Mem → Option (Int32 × Mem)} {n : Nat} (q4 : ∀ (i1 : Int32) (i2 : Int32) (M : Mem) (H : Heap) (locs : List Loc) (ls : Array Slot), rc 4 [i1, i2] [] M = some (r, M') → va_P z.1 vwCl (pw (xd z b) 339 b M) H → va_S (pA 339 b) s.heap H locs → lv_has ls 6 [(0, .ref (b + 131)), (1, .int i1), (2, .int i2)] → W p l e rm1_moveKing s m args below meth c H locs 0 0 (MQ below (va_Qi (fun (r' : Int32) (M2 : Mem) => r' = r ∧ M2 = M') (fun M2 t => va_P z.1 vwCl (pw (xd z b) 339 b M2) t.heap) (pA 339 b)) args s 0 0 (pA 339 b)) (F0 m 4 ls [])) (q49 : ∀ (i1 : Int32) (i2 : Int32) (i3 : Int32) (i4 : Int32) (M : Mem) (H : Heap) (locs : List Loc) (ls : Array Slot), rc 49 [i1, i2, i3, i4] [] M = some (r, M') → va_P z.1 vwCl (pw (xd z b) 339 b M) H → va_S (pA 339 b) s.heap H locs → lv_has ls 6 [(0, .ref (b + 131)), (1, .int i1), (2, .int i2), (3, .int i3), (4, .int i4)] → W p l e rm1_moveKing s m args below meth c H locs 0 0 (MQ below (va_Qi (fun (r' : Int32) (M2 : Mem) => r' = r ∧ M2 = M') (fun M2 t => va_P z.1 vwCl (pw (xd z b) 339 b M2) t.heap) (pA 339 b)) args s 0 0 (pA 339 b)) (F0 m 49 ls [])) {i2 : Int32} {s0 : Int32} {M : Mem} {H : Heap} {locs : List Loc} {ls : Array Slot} (hf : b1_moveKing_124  rc n i2 s0 M = some (r, M')) (hP : va_P z.1 vwCl (pw (xd z b) 339 b M) H) (hS : va_S (pA 339 b) s.heap H locs) (hl : lv_has ls 6 [(0, .ref (b + 131)), (2, .int i2)]) : W p l e rm1_moveKing s m args below meth c H locs 0 0 (MQ below (va_Qi (fun (r' : Int32) (M2 : Mem) => r' = r ∧ M2 = M') (fun M2 t => va_P z.1 vwCl (pw (xd z b) 339 b M2) t.heap) (pA 339 b)) args s 0 0 (pA 339 b)) (F0 m 124 ls [.int s0]) := by
  have hx := C.1.1
  have hb := C.1.2.1
  unfold b1_moveKing_124 at hf
  refine lv_istore_n (lv' := [(1, .int s0), (0, .ref (b + 131)), (2, .int i2)]) hx hb dX1_moveKing_124 rfl hl (by decide) rfl (fun ls hl => ?_)
  exact w1_moveKing_125 (n := n)  C hr hk q4 q49 hf hP hS (lv_sub hl [1, 0, 2] rfl)
set_option maxHeartbeats 4000000 in
set_option maxRecDepth 100000 in
theorem w1_moveKing_119 {p : Program} {l : Launch} {e : Env} {s : State} {m : MethodId} {args : Array Value} {below : List Frame} {meth : Method} {c : Code} {z : Zt} {b : Nat}  (C : Cx p s m args c cX1_moveKing 6 RX1 z 339 b) (hr : meth.sig.returnType = (some .boolean)) (hk : meth.locks = false) {r : Int32} {M' : Mem} {rc : Nat → List Int32 → List Int64 → Mem → Option (Int32 × Mem)} {n : Nat} (q4 : ∀ (i1 : Int32) (i2 : Int32) (M : Mem) (H : Heap) (locs : List Loc) (ls : Array Slot), rc 4 [i1, i2] [] M = some (r, M') → va_P z.1 vwCl (pw (xd z b) 339 b M) H → va_S (pA 339 b) s.heap H locs → lv_has ls 6 [(0, .ref (b + 131)), (1, .int i1), (2, .int i2)] → W p l e rm1_moveKing s m args below meth c H locs 0 0 (MQ below (va_Qi (fun (r' : Int32) (M2 : Mem) => r' = r ∧ M2 = M') (fun M2 t => va_P z.1 vwCl (pw (xd z b) 339 b M2) t.heap) (pA 339 b)) args s 0 0 (pA 339 b)) (F0 m 4 ls [])) (q49 : ∀ (i1 : Int32) (i2 : Int32) (i3 : Int32) (i4 : Int32) (M : Mem) (H : Heap) (locs : List Loc) (ls : Array Slot), rc 49 [i1, i2, i3, i4] [] M = some (r, M') → va_P z.1 vwCl (pw (xd z b) 339 b M) H → va_S (pA 339 b) s.heap H locs → lv_has ls 6 [(0, .ref (b + 131)), (1, .int i1), (2, .int i2), (3, .int i3), (4, .int i4)] → W p l e rm1_moveKing s m args below meth c H locs 0 0 (MQ below (va_Qi (fun (r' : Int32) (M2 : Mem) => r' = r ∧ M2 = M') (fun M2 t => va_P z.1 vwCl (pw (xd z b) 339 b M2) t.heap) (pA 339 b)) args s 0 0 (pA 339 b)) (F0 m 49 ls [])) {i2 : Int32} {M : Mem} {H : Heap} {locs : List Loc} {ls : Array Slot} (hf : b1_moveKing_119  rc n i2 M = some (r, M')) (hP : va_P z.1 vwCl (pw (xd z b) 339 b M) H) (hS : va_S (pA 339 b) s.heap H locs) (hl : lv_has ls 6 [(0, .ref (b + 131)), (2, .int i2)]) : W p l e rm1_moveKing s m args below meth c H locs 0 0 (MQ below (va_Qi (fun (r' : Int32) (M2 : Mem) => r' = r ∧ M2 = M') (fun M2 t => va_P z.1 vwCl (pw (xd z b) 339 b M2) t.heap) (pA 339 b)) args s 0 0 (pA 339 b)) (F0 m 119 ls []) := by
  have hx := C.1.1
  have hb := C.1.2.1
  unfold b1_moveKing_119 at hf
  refine lv_iconst (v := (1 : Int32)) hx hb dX1_moveKing_119 (by decide) ?_
  refine lv_goto (tgt := 124) hx hb dX1_moveKing_120 (by decide) ?_
  exact w1_moveKing_124 (n := n)  C hr hk q4 q49 hf hP hS (lv_sub hl [0, 1] rfl)
set_option maxHeartbeats 4000000 in
set_option maxRecDepth 100000 in
theorem w1_moveKing_96 {p : Program} {l : Launch} {e : Env} {s : State} {m : MethodId} {args : Array Value} {below : List Frame} {meth : Method} {c : Code} {z : Zt} {b : Nat}  (C : Cx p s m args c cX1_moveKing 6 RX1 z 339 b) (hr : meth.sig.returnType = (some .boolean)) (hk : meth.locks = false) {r : Int32} {M' : Mem} {rc : Nat → List Int32 → List Int64 → Mem → Option (Int32 × Mem)} {n : Nat} (q4 : ∀ (i1 : Int32) (i2 : Int32) (M : Mem) (H : Heap) (locs : List Loc) (ls : Array Slot), rc 4 [i1, i2] [] M = some (r, M') → va_P z.1 vwCl (pw (xd z b) 339 b M) H → va_S (pA 339 b) s.heap H locs → lv_has ls 6 [(0, .ref (b + 131)), (1, .int i1), (2, .int i2)] → W p l e rm1_moveKing s m args below meth c H locs 0 0 (MQ below (va_Qi (fun (r' : Int32) (M2 : Mem) => r' = r ∧ M2 = M') (fun M2 t => va_P z.1 vwCl (pw (xd z b) 339 b M2) t.heap) (pA 339 b)) args s 0 0 (pA 339 b)) (F0 m 4 ls [])) (q49 : ∀ (i1 : Int32) (i2 : Int32) (i3 : Int32) (i4 : Int32) (M : Mem) (H : Heap) (locs : List Loc) (ls : Array Slot), rc 49 [i1, i2, i3, i4] [] M = some (r, M') → va_P z.1 vwCl (pw (xd z b) 339 b M) H → va_S (pA 339 b) s.heap H locs → lv_has ls 6 [(0, .ref (b + 131)), (1, .int i1), (2, .int i2), (3, .int i3), (4, .int i4)] → W p l e rm1_moveKing s m args below meth c H locs 0 0 (MQ below (va_Qi (fun (r' : Int32) (M2 : Mem) => r' = r ∧ M2 = M') (fun M2 t => va_P z.1 vwCl (pw (xd z b) 339 b M2) t.heap) (pA 339 b)) args s 0 0 (pA 339 b)) (F0 m 49 ls [])) {i1 : Int32} {i2 : Int32} {i3 : Int32} {i4 : Int32} {M : Mem} {H : Heap} {locs : List Loc} {ls : Array Slot} (hf : b1_moveKing_96  rc n i1 i2 i3 i4 M = some (r, M')) (hP : va_P z.1 vwCl (pw (xd z b) 339 b M) H) (hS : va_S (pA 339 b) s.heap H locs) (hl : lv_has ls 6 [(0, .ref (b + 131)), (1, .int i1), (2, .int i2), (3, .int i3), (4, .int i4)]) : W p l e rm1_moveKing s m args below meth c H locs 0 0 (MQ below (va_Qi (fun (r' : Int32) (M2 : Mem) => r' = r ∧ M2 = M') (fun M2 t => va_P z.1 vwCl (pw (xd z b) 339 b M2) t.heap) (pA 339 b)) args s 0 0 (pA 339 b)) (F0 m 96 ls []) := by
  have hx := C.1.1
  have hb := C.1.2.1
  unfold b1_moveKing_96 at hf
  obtain ⟨v36, ev36⟩ : ∃ v : Int32, v = i4 + (1 : Int32) := ⟨_, rfl⟩
  replace hf := lt_c ev36 hf
  refine lv_iinc (v := v36) (lv' := [(4, .int v36), (0, .ref (b + 131)), (1, .int i1), (2, .int i2), (3, .int i3)]) hx hb dX1_moveKing_96 hl (k := 4) rfl (by rw [ev36]; rfl) (by decide) rfl (fun ls hl => ?_)
  refine lv_goto (tgt := 49) hx hb dX1_moveKing_99 (by decide) ?_
  exact q49 i1 i2 i3 v36 M _ _ _ hf hP hS (lv_sub hl [1, 2, 3, 4, 0] rfl)
set_option maxHeartbeats 4000000 in
set_option maxRecDepth 100000 in
theorem w1_moveKing_49 {p : Program} {l : Launch} {e : Env} {s : State} {m : MethodId} {args : Array Value} {below : List Frame} {meth : Method} {c : Code} {z : Zt} {b : Nat}  (C : Cx p s m args c cX1_moveKing 6 RX1 z 339 b) (hr : meth.sig.returnType = (some .boolean)) (hk : meth.locks = false) {r : Int32} {M' : Mem} {rc : Nat → List Int32 → List Int64 → Mem → Option (Int32 × Mem)} {n : Nat} (q4 : ∀ (i1 : Int32) (i2 : Int32) (M : Mem) (H : Heap) (locs : List Loc) (ls : Array Slot), rc 4 [i1, i2] [] M = some (r, M') → va_P z.1 vwCl (pw (xd z b) 339 b M) H → va_S (pA 339 b) s.heap H locs → lv_has ls 6 [(0, .ref (b + 131)), (1, .int i1), (2, .int i2)] → W p l e rm1_moveKing s m args below meth c H locs 0 0 (MQ below (va_Qi (fun (r' : Int32) (M2 : Mem) => r' = r ∧ M2 = M') (fun M2 t => va_P z.1 vwCl (pw (xd z b) 339 b M2) t.heap) (pA 339 b)) args s 0 0 (pA 339 b)) (F0 m 4 ls [])) (q49 : ∀ (i1 : Int32) (i2 : Int32) (i3 : Int32) (i4 : Int32) (M : Mem) (H : Heap) (locs : List Loc) (ls : Array Slot), rc 49 [i1, i2, i3, i4] [] M = some (r, M') → va_P z.1 vwCl (pw (xd z b) 339 b M) H → va_S (pA 339 b) s.heap H locs → lv_has ls 6 [(0, .ref (b + 131)), (1, .int i1), (2, .int i2), (3, .int i3), (4, .int i4)] → W p l e rm1_moveKing s m args below meth c H locs 0 0 (MQ below (va_Qi (fun (r' : Int32) (M2 : Mem) => r' = r ∧ M2 = M') (fun M2 t => va_P z.1 vwCl (pw (xd z b) 339 b M2) t.heap) (pA 339 b)) args s 0 0 (pA 339 b)) (F0 m 49 ls [])) {i1 : Int32} {i2 : Int32} {i3 : Int32} {i4 : Int32} {M : Mem} {H : Heap} {locs : List Loc} {ls : Array Slot} (hf : b1_moveKing_49  rc n i1 i2 i3 i4 M = some (r, M')) (hP : va_P z.1 vwCl (pw (xd z b) 339 b M) H) (hS : va_S (pA 339 b) s.heap H locs) (hl : lv_has ls 6 [(0, .ref (b + 131)), (1, .int i1), (2, .int i2), (3, .int i3), (4, .int i4)]) : W p l e rm1_moveKing s m args below meth c H locs 0 0 (MQ below (va_Qi (fun (r' : Int32) (M2 : Mem) => r' = r ∧ M2 = M') (fun M2 t => va_P z.1 vwCl (pw (xd z b) 339 b M2) t.heap) (pA 339 b)) args s 0 0 (pA 339 b)) (F0 m 49 ls []) := by
  have hx := C.1.1
  have hb := C.1.2.1
  unfold b1_moveKing_49 at hf
  refine lv_iload hx hb dX1_moveKing_49 (lv_at hl 4 rfl) ?_
  refine lv_iconst (v := (4 : Int32)) hx hb dX1_moveKing_51 (by decide) ?_
  refine lv_icmp_ge (tgt := 102) hx hb dX1_moveKing_52 (by decide) (fun c16 => ?_) (fun c16 => ?_)
  · replace hf := ite_t c16 hf
    refine lv_iload_n hx hb dX1_moveKing_102 rfl (lv_at hl 1 rfl) ?_
    refine lv_if_ne (tgt := 119) hx hb dX1_moveKing_103 (by decide) (fun c17 => ?_) (fun c17 => ?_)
    · replace hf := ite_f c17 hf
      exact w1_moveKing_119 (n := n)  C hr hk q4 q49 hf hP hS (lv_sub hl [0, 2] rfl)
    · replace hf := ite_t c17 hf
      refine lv_aload_n hx hb dX1_moveKing_106 rfl (lv_at hl 0 rfl) ?_
      refine pg C hP (k := 131) (j := 1) (Nat.le_of_ble_eq_true rfl) (xd_131 _ _) rfl iw_1 (Nat.le_of_ble_eq_true rfl) g_308 rfl rfl dX1_moveKing_107 ?_
      refine lv_iload_n hx hb dX1_moveKing_110 rfl (lv_at hl 2 rfl) ?_
      have h18 := chk_1 hf
      replace hf := chk_2 hf
      refine paO C hP (k := 132) (k2 := 134 + 2 * i2.toNatClampNeg) (Nat.le_of_ble_eq_true rfl) (xd_132 _ _) h18 rfl dX1_moveKing_111 ?_
      obtain ⟨r19, M20, h21, hf⟩ := bnd_s hf
      refine pcVi (As := []) C hP hS (k := 134 + 2 * i2.toNatClampNeg) (ps_lt (ps_caught h18)) ((ps_d (ps_caught h18)) _ _) rfl (c4_size (ps_caught h18) h21) y4_size_w g_982 rfl rfl rfl ⟨Nat.le_of_ble_eq_true rfl, Nat.le_of_ble_eq_true rfl⟩ hl.1 rfl (Nat.le_of_ble_eq_true rfl) dX1_moveKing_112 ⟨Nat.le_of_ble_eq_true rfl, Nat.le_of_ble_eq_true rfl⟩ (fun H locs hP hS => ?_)
      refine lv_iload_n hx hb dX1_moveKing_115 rfl (lv_at hl 3 rfl) ?_
      refine lv_icmp_le (tgt := 123) hx hb dX1_moveKing_116 (by decide) (fun c22 => ?_) (fun c22 => ?_)
      · replace hf := ite_t c22 hf
        refine lv_iconst (v := (0 : Int32)) hx hb dX1_moveKing_123 (by decide) ?_
        exact w1_moveKing_124 (n := n)  C hr hk q4 q49 hf hP hS (lv_sub hl [0, 2] rfl)
      · replace hf := ite_f c22 hf
        exact w1_moveKing_119 (n := n)  C hr hk q4 q49 hf hP hS (lv_sub hl [0, 2] rfl)
  · replace hf := ite_f c16 hf
    refine lv_iload_n hx hb dX1_moveKing_55 rfl (lv_at hl 2 rfl) ?_
    refine lv_iload hx hb dX1_moveKing_56 (lv_at hl 4 rfl) ?_
    obtain ⟨r23, M24, h25, hf⟩ := bnd_s hf
    refine pcTi (As := [.int i2, .int i4]) C hP hS (c11_beside  h25) y11_beside_w g_996 rfl rfl rfl ⟨Nat.le_of_ble_eq_true rfl, Nat.le_of_ble_eq_true rfl⟩ hl.1 rfl (Nat.le_of_ble_eq_true rfl) dX1_moveKing_58 ⟨Nat.le_of_ble_eq_true rfl, Nat.le_of_ble_eq_true rfl⟩ (fun H locs hP hS => ?_)
    refine lv_istore (lv' := [(5, .int r23), (0, .ref (b + 131)), (1, .int i1), (2, .int i2), (3, .int i3), (4, .int i4)]) hx hb dX1_moveKing_61 hl (by decide) rfl (fun ls hl => ?_)
    refine lv_iload hx hb dX1_moveKing_63 (lv_at hl 0 rfl) ?_
    refine lv_if_lt (tgt := 96) hx hb dX1_moveKing_65 (by decide) (fun c26 => ?_) (fun c26 => ?_)
    · replace hf := ite_t c26 hf
      exact w1_moveKing_96 (n := n)  C hr hk q4 q49 hf hP hS (lv_sub hl [1, 2, 3, 4, 5] rfl)
    · replace hf := ite_f c26 hf
      refine lv_aload_n hx hb dX1_moveKing_68 rfl (lv_at hl 1 rfl) ?_
      refine pg C hP (k := 131) (j := 0) (Nat.le_of_ble_eq_true rfl) (xd_131 _ _) rfl iw_1 (Nat.le_of_ble_eq_true rfl) g_307 rfl rfl dX1_moveKing_69 ?_
      refine lv_iload hx hb dX1_moveKing_72 (lv_at hl 0 rfl) ?_
      obtain ⟨r27, M28, h29, hf⟩ := bnd_s hf
      refine pcVi (As := [.int r23]) C hP hS (k := 3) (Nat.le_of_ble_eq_true rfl) (xd_3 _ _) rfl (c8_isOpen  h29) y8_isOpen_w g_981 rfl rfl rfl ⟨Nat.le_of_ble_eq_true rfl, Nat.le_of_ble_eq_true rfl⟩ hl.1 rfl (Nat.le_of_ble_eq_true rfl) dX1_moveKing_74 ⟨Nat.le_of_ble_eq_true rfl, Nat.le_of_ble_eq_true rfl⟩ (fun H locs hP hS => ?_)
      refine lv_if_eq (tgt := 96) hx hb dX1_moveKing_77 (by decide) (fun c30 => ?_) (fun c30 => ?_)
      · replace hf := ite_t c30 hf
        exact w1_moveKing_96 (n := n)  C hr hk q4 q49 hf hP hS (lv_sub hl [1, 2, 3, 4, 5] rfl)
      · replace hf := ite_f c30 hf
        refine lv_aload_n hx hb dX1_moveKing_80 rfl (lv_at hl 1 rfl) ?_
        refine pg C hP (k := 131) (j := 1) (Nat.le_of_ble_eq_true rfl) (xd_131 _ _) rfl iw_1 (Nat.le_of_ble_eq_true rfl) g_308 rfl rfl dX1_moveKing_81 ?_
        refine lv_iload_n hx hb dX1_moveKing_84 rfl (lv_at hl 3 rfl) ?_
        have h31 := chk_1 hf
        replace hf := chk_2 hf
        refine paO C hP (k := 132) (k2 := 134 + 2 * i2.toNatClampNeg) (Nat.le_of_ble_eq_true rfl) (xd_132 _ _) h31 rfl dX1_moveKing_85 ?_
        refine lv_aload_n hx hb dX1_moveKing_86 rfl (lv_at hl 1 rfl) ?_
        refine pg C hP (k := 131) (j := 2) (Nat.le_of_ble_eq_true rfl) (xd_131 _ _) rfl iw_1 (Nat.le_of_ble_eq_true rfl) g_309 rfl rfl dX1_moveKing_87 ?_
        refine lv_iload hx hb dX1_moveKing_90 (lv_at hl 0 rfl) ?_
        have h32 := chk_1 hf
        replace hf := chk_2 hf
        refine paO C hP (k := 133) (k2 := 135 + 2 * r23.toNatClampNeg) (Nat.le_of_ble_eq_true rfl) (xd_133 _ _) h32 rfl dX1_moveKing_92 ?_
        obtain ⟨r33, M34, h35, hf⟩ := bnd_s hf
        refine pcVv (As := [.ref (b + (135 + 2 * r23.toNatClampNeg))]) C hP hS (k := 134 + 2 * i2.toNatClampNeg) (ps_lt (ps_caught h31)) ((ps_d (ps_caught h31)) _ _) rfl (c4_join (ps_caught h31) (ps_trapped h32) h35) y4_join_w g_992 rfl rfl rfl ⟨Nat.le_of_ble_eq_true rfl, Nat.le_of_ble_eq_true rfl⟩ hl.1 rfl (Nat.le_of_ble_eq_true rfl) dX1_moveKing_93 ⟨Nat.le_of_ble_eq_true rfl, Nat.le_of_ble_eq_true rfl⟩ (fun H locs hP hS => ?_)
        exact w1_moveKing_96 (n := n)  C hr hk q4 q49 hf hP hS (lv_sub hl [1, 2, 3, 4, 5] rfl)
set_option maxHeartbeats 4000000 in
set_option maxRecDepth 100000 in
theorem w1_moveKing_4 {p : Program} {l : Launch} {e : Env} {s : State} {m : MethodId} {args : Array Value} {below : List Frame} {meth : Method} {c : Code} {z : Zt} {b : Nat}  (C : Cx p s m args c cX1_moveKing 6 RX1 z 339 b) (hr : meth.sig.returnType = (some .boolean)) (hk : meth.locks = false) {r : Int32} {M' : Mem} {rc : Nat → List Int32 → List Int64 → Mem → Option (Int32 × Mem)} {n : Nat} (q4 : ∀ (i1 : Int32) (i2 : Int32) (M : Mem) (H : Heap) (locs : List Loc) (ls : Array Slot), rc 4 [i1, i2] [] M = some (r, M') → va_P z.1 vwCl (pw (xd z b) 339 b M) H → va_S (pA 339 b) s.heap H locs → lv_has ls 6 [(0, .ref (b + 131)), (1, .int i1), (2, .int i2)] → W p l e rm1_moveKing s m args below meth c H locs 0 0 (MQ below (va_Qi (fun (r' : Int32) (M2 : Mem) => r' = r ∧ M2 = M') (fun M2 t => va_P z.1 vwCl (pw (xd z b) 339 b M2) t.heap) (pA 339 b)) args s 0 0 (pA 339 b)) (F0 m 4 ls [])) (q49 : ∀ (i1 : Int32) (i2 : Int32) (i3 : Int32) (i4 : Int32) (M : Mem) (H : Heap) (locs : List Loc) (ls : Array Slot), rc 49 [i1, i2, i3, i4] [] M = some (r, M') → va_P z.1 vwCl (pw (xd z b) 339 b M) H → va_S (pA 339 b) s.heap H locs → lv_has ls 6 [(0, .ref (b + 131)), (1, .int i1), (2, .int i2), (3, .int i3), (4, .int i4)] → W p l e rm1_moveKing s m args below meth c H locs 0 0 (MQ below (va_Qi (fun (r' : Int32) (M2 : Mem) => r' = r ∧ M2 = M') (fun M2 t => va_P z.1 vwCl (pw (xd z b) 339 b M2) t.heap) (pA 339 b)) args s 0 0 (pA 339 b)) (F0 m 49 ls [])) {i1 : Int32} {i2 : Int32} {M : Mem} {H : Heap} {locs : List Loc} {ls : Array Slot} (hf : b1_moveKing_4  rc n i1 i2 M = some (r, M')) (hP : va_P z.1 vwCl (pw (xd z b) 339 b M) H) (hS : va_S (pA 339 b) s.heap H locs) (hl : lv_has ls 6 [(0, .ref (b + 131)), (1, .int i1), (2, .int i2)]) : W p l e rm1_moveKing s m args below meth c H locs 0 0 (MQ below (va_Qi (fun (r' : Int32) (M2 : Mem) => r' = r ∧ M2 = M') (fun M2 t => va_P z.1 vwCl (pw (xd z b) 339 b M2) t.heap) (pA 339 b)) args s 0 0 (pA 339 b)) (F0 m 4 ls []) := by
  have hx := C.1.1
  have hb := C.1.2.1
  unfold b1_moveKing_4 at hf
  refine lv_iload_n hx hb dX1_moveKing_4 rfl (lv_at hl 2 rfl) ?_
  refine lv_bipush (v := (96 : Int32)) hx hb dX1_moveKing_5 (by decide) ?_
  refine lv_icmp_ge (tgt := 131) hx hb dX1_moveKing_7 (by decide) (fun c1 => ?_) (fun c1 => ?_)
  · replace hf := ite_t c1 hf
    refine lv_iload_n hx hb dX1_moveKing_131 rfl (lv_at hl 1 rfl) ?_
    have h2 := chk_1 hf
    replace hf := chk_2 hf
    exact prZ C hr hk hP hS hf (isb_n h2) dX1_moveKing_132
  · replace hf := ite_f c1 hf
    refine lv_aload_n hx hb dX1_moveKing_10 rfl (lv_at hl 0 rfl) ?_
    refine pg C hP (k := 131) (j := 0) (Nat.le_of_ble_eq_true rfl) (xd_131 _ _) rfl iw_1 (Nat.le_of_ble_eq_true rfl) g_307 rfl rfl dX1_moveKing_11 ?_
    refine lv_iload_n hx hb dX1_moveKing_14 rfl (lv_at hl 2 rfl) ?_
    obtain ⟨r3, M4, h5, hf⟩ := bnd_s hf
    refine pcVi (As := [.int i2]) C hP hS (k := 3) (Nat.le_of_ble_eq_true rfl) (xd_3 _ _) rfl (c8_isOpen  h5) y8_isOpen_w g_981 rfl rfl rfl ⟨Nat.le_of_ble_eq_true rfl, Nat.le_of_ble_eq_true rfl⟩ hl.1 rfl (Nat.le_of_ble_eq_true rfl) dX1_moveKing_15 ⟨Nat.le_of_ble_eq_true rfl, Nat.le_of_ble_eq_true rfl⟩ (fun H locs hP hS => ?_)
    refine lv_if_eq (tgt := 125) hx hb dX1_moveKing_18 (by decide) (fun c6 => ?_) (fun c6 => ?_)
    · replace hf := ite_t c6 hf
      exact w1_moveKing_125 (n := n)  C hr hk q4 q49 hf hP hS (lv_sub hl [0, 1, 2] rfl)
    · replace hf := ite_f c6 hf
      refine lv_aload_n hx hb dX1_moveKing_21 rfl (lv_at hl 0 rfl) ?_
      refine pg C hP (k := 131) (j := 1) (Nat.le_of_ble_eq_true rfl) (xd_131 _ _) rfl iw_1 (Nat.le_of_ble_eq_true rfl) g_308 rfl rfl dX1_moveKing_22 ?_
      refine lv_iload_n hx hb dX1_moveKing_25 rfl (lv_at hl 2 rfl) ?_
      have h7 := chk_1 hf
      replace hf := chk_2 hf
      refine paO C hP (k := 132) (k2 := 134 + 2 * i2.toNatClampNeg) (Nat.le_of_ble_eq_true rfl) (xd_132 _ _) h7 rfl dX1_moveKing_26 ?_
      obtain ⟨r8, M9, h10, hf⟩ := bnd_s hf
      refine pcVi (As := []) C hP hS (k := 134 + 2 * i2.toNatClampNeg) (ps_lt (ps_caught h7)) ((ps_d (ps_caught h7)) _ _) rfl (c4_size (ps_caught h7) h10) y4_size_w g_982 rfl rfl rfl ⟨Nat.le_of_ble_eq_true rfl, Nat.le_of_ble_eq_true rfl⟩ hl.1 rfl (Nat.le_of_ble_eq_true rfl) dX1_moveKing_27 ⟨Nat.le_of_ble_eq_true rfl, Nat.le_of_ble_eq_true rfl⟩ (fun H locs hP hS => ?_)
      refine lv_istore_n (lv' := [(3, .int r8), (0, .ref (b + 131)), (1, .int i1), (2, .int i2)]) hx hb dX1_moveKing_30 rfl hl (by decide) rfl (fun ls hl => ?_)
      refine lv_aload_n hx hb dX1_moveKing_31 rfl (lv_at hl 1 rfl) ?_
      refine pg C hP (k := 131) (j := 1) (Nat.le_of_ble_eq_true rfl) (xd_131 _ _) rfl iw_1 (Nat.le_of_ble_eq_true rfl) g_308 rfl rfl dX1_moveKing_32 ?_
      refine lv_iload_n hx hb dX1_moveKing_35 rfl (lv_at hl 3 rfl) ?_
      have h11 := chk_1 hf
      replace hf := chk_2 hf
      refine paO C hP (k := 132) (k2 := 134 + 2 * i2.toNatClampNeg) (Nat.le_of_ble_eq_true rfl) (xd_132 _ _) h11 rfl dX1_moveKing_36 ?_
      refine lv_aload_n hx hb dX1_moveKing_37 rfl (lv_at hl 1 rfl) ?_
      refine pg C hP (k := 131) (j := 2) (Nat.le_of_ble_eq_true rfl) (xd_131 _ _) rfl iw_1 (Nat.le_of_ble_eq_true rfl) g_309 rfl rfl dX1_moveKing_38 ?_
      refine lv_iload_n hx hb dX1_moveKing_41 rfl (lv_at hl 3 rfl) ?_
      have h12 := chk_1 hf
      replace hf := chk_2 hf
      refine paO C hP (k := 133) (k2 := 135 + 2 * i2.toNatClampNeg) (Nat.le_of_ble_eq_true rfl) (xd_133 _ _) h12 rfl dX1_moveKing_42 ?_
      obtain ⟨r13, M14, h15, hf⟩ := bnd_s hf
      refine pcVv (As := [.ref (b + (135 + 2 * i2.toNatClampNeg))]) C hP hS (k := 134 + 2 * i2.toNatClampNeg) (ps_lt (ps_caught h11)) ((ps_d (ps_caught h11)) _ _) rfl (c4_join (ps_caught h11) (ps_trapped h12) h15) y4_join_w g_992 rfl rfl rfl ⟨Nat.le_of_ble_eq_true rfl, Nat.le_of_ble_eq_true rfl⟩ hl.1 rfl (Nat.le_of_ble_eq_true rfl) dX1_moveKing_43 ⟨Nat.le_of_ble_eq_true rfl, Nat.le_of_ble_eq_true rfl⟩ (fun H locs hP hS => ?_)
      refine lv_iconst (v := (0 : Int32)) hx hb dX1_moveKing_46 (by decide) ?_
      refine lv_istore (lv' := [(4, .int (0 : Int32)), (3, .int r8), (0, .ref (b + 131)), (1, .int i1), (2, .int i2)]) hx hb dX1_moveKing_47 hl (by decide) rfl (fun ls hl => ?_)
      exact w1_moveKing_49 (n := n)  C hr hk q4 q49 hf hP hS (lv_sub hl [2, 3, 4, 1, 0] rfl)
set_option maxHeartbeats 4000000 in
set_option maxRecDepth 100000 in
theorem w1_moveKing_0 {p : Program} {l : Launch} {e : Env} {s : State} {m : MethodId} {args : Array Value} {below : List Frame} {meth : Method} {c : Code} {z : Zt} {b : Nat}  (C : Cx p s m args c cX1_moveKing 6 RX1 z 339 b) (hr : meth.sig.returnType = (some .boolean)) (hk : meth.locks = false) {r : Int32} {M' : Mem} {rc : Nat → List Int32 → List Int64 → Mem → Option (Int32 × Mem)} {n : Nat} (q4 : ∀ (i1 : Int32) (i2 : Int32) (M : Mem) (H : Heap) (locs : List Loc) (ls : Array Slot), rc 4 [i1, i2] [] M = some (r, M') → va_P z.1 vwCl (pw (xd z b) 339 b M) H → va_S (pA 339 b) s.heap H locs → lv_has ls 6 [(0, .ref (b + 131)), (1, .int i1), (2, .int i2)] → W p l e rm1_moveKing s m args below meth c H locs 0 0 (MQ below (va_Qi (fun (r' : Int32) (M2 : Mem) => r' = r ∧ M2 = M') (fun M2 t => va_P z.1 vwCl (pw (xd z b) 339 b M2) t.heap) (pA 339 b)) args s 0 0 (pA 339 b)) (F0 m 4 ls [])) (q49 : ∀ (i1 : Int32) (i2 : Int32) (i3 : Int32) (i4 : Int32) (M : Mem) (H : Heap) (locs : List Loc) (ls : Array Slot), rc 49 [i1, i2, i3, i4] [] M = some (r, M') → va_P z.1 vwCl (pw (xd z b) 339 b M) H → va_S (pA 339 b) s.heap H locs → lv_has ls 6 [(0, .ref (b + 131)), (1, .int i1), (2, .int i2), (3, .int i3), (4, .int i4)] → W p l e rm1_moveKing s m args below meth c H locs 0 0 (MQ below (va_Qi (fun (r' : Int32) (M2 : Mem) => r' = r ∧ M2 = M') (fun M2 t => va_P z.1 vwCl (pw (xd z b) 339 b M2) t.heap) (pA 339 b)) args s 0 0 (pA 339 b)) (F0 m 49 ls []))  {M : Mem} {H : Heap} {locs : List Loc} {ls : Array Slot} (hf : b1_moveKing_0  rc n  M = some (r, M')) (hP : va_P z.1 vwCl (pw (xd z b) 339 b M) H) (hS : va_S (pA 339 b) s.heap H locs) (hl : lv_has ls 6 [(0, .ref (b + 131))]) : W p l e rm1_moveKing s m args below meth c H locs 0 0 (MQ below (va_Qi (fun (r' : Int32) (M2 : Mem) => r' = r ∧ M2 = M') (fun M2 t => va_P z.1 vwCl (pw (xd z b) 339 b M2) t.heap) (pA 339 b)) args s 0 0 (pA 339 b)) (F0 m 0 ls []) := by
  have hx := C.1.1
  have hb := C.1.2.1
  unfold b1_moveKing_0 at hf
  refine lv_iconst (v := (0 : Int32)) hx hb dX1_moveKing_0 (by decide) ?_
  refine lv_istore_n (lv' := [(1, .int (0 : Int32)), (0, .ref (b + 131))]) hx hb dX1_moveKing_1 rfl hl (by decide) rfl (fun ls hl => ?_)
  refine lv_iconst (v := (0 : Int32)) hx hb dX1_moveKing_2 (by decide) ?_
  refine lv_istore_n (lv' := [(2, .int (0 : Int32)), (1, .int (0 : Int32)), (0, .ref (b + 131))]) hx hb dX1_moveKing_3 rfl hl (by decide) rfl (fun ls hl => ?_)
  exact w1_moveKing_4 (n := n)  C hr hk q4 q49 hf hP hS (lv_sub hl [2, 1, 0] rfl)
set_option maxHeartbeats 4000000 in
set_option maxRecDepth 100000 in
theorem l1_moveKing {p : Program} {l : Launch} {e : Env} {s : State} {m : MethodId} {args : Array Value} {below : List Frame} {meth : Method} {c : Code} {z : Zt} {b : Nat}  (C : Cx p s m args c cX1_moveKing 6 RX1 z 339 b) (hr : meth.sig.returnType = (some .boolean)) (hk : meth.locks = false) {r : Int32} {M' : Mem} (n : Nat) : (∀ (i1 : Int32) (i2 : Int32) (M : Mem) (H : Heap) (locs : List Loc) (ls : Array Slot), (r1_moveKing  n) 4 [i1, i2] [] M = some (r, M') → va_P z.1 vwCl (pw (xd z b) 339 b M) H → va_S (pA 339 b) s.heap H locs → lv_has ls 6 [(0, .ref (b + 131)), (1, .int i1), (2, .int i2)] → W p l e rm1_moveKing s m args below meth c H locs 0 0 (MQ below (va_Qi (fun (r' : Int32) (M2 : Mem) => r' = r ∧ M2 = M') (fun M2 t => va_P z.1 vwCl (pw (xd z b) 339 b M2) t.heap) (pA 339 b)) args s 0 0 (pA 339 b)) (F0 m 4 ls [])) ∧ (∀ (i1 : Int32) (i2 : Int32) (i3 : Int32) (i4 : Int32) (M : Mem) (H : Heap) (locs : List Loc) (ls : Array Slot), (r1_moveKing  n) 49 [i1, i2, i3, i4] [] M = some (r, M') → va_P z.1 vwCl (pw (xd z b) 339 b M) H → va_S (pA 339 b) s.heap H locs → lv_has ls 6 [(0, .ref (b + 131)), (1, .int i1), (2, .int i2), (3, .int i3), (4, .int i4)] → W p l e rm1_moveKing s m args below meth c H locs 0 0 (MQ below (va_Qi (fun (r' : Int32) (M2 : Mem) => r' = r ∧ M2 = M') (fun M2 t => va_P z.1 vwCl (pw (xd z b) 339 b M2) t.heap) (pA 339 b)) args s 0 0 (pA 339 b)) (F0 m 49 ls [])) := by
  induction n with
  | zero => exact ⟨fun _ _ _ _ _ _ hf => (by cases hf), fun _ _ _ _ _ _ _ _ hf => (by cases hf)⟩
  | succ n ih => exact ⟨fun _ _ _ _ _ _ hf hP hS hl => w1_moveKing_4 (n := n)  C hr hk ih.1 ih.2 ((e1_moveKing_4  n _ _ _).symm.trans hf) hP hS hl, fun _ _ _ _ _ _ _ _ hf hP hS hl => w1_moveKing_49 (n := n)  C hr hk ih.1 ih.2 ((e1_moveKing_49  n _ _ _ _ _).symm.trans hf) hP hS hl⟩
theorem c1_moveKing {l : Launch} {z : Zt} {b n : Nat}   {M M' : Mem} {r : Int32} (hf : f1_moveKing n   M = some (r, M')) : CI l z (xd z b) 339 b yX1_moveKing cX1_moveKing 6 (some .boolean) rm1_moveKing [.ref (b + 131)] M M' r :=
  CI.ofW (lv := [(0, .ref (b + 131))]) (by decide) (Nat.le_of_ble_eq_true rfl) rfl (fun p e s m args below meth c ls C hr hk hP hS hl => w1_moveKing_0 (n := n)  C hr hk (l1_moveKing  C hr hk n).1 (l1_moveKing  C hr hk n).2 hf hP hS hl)
