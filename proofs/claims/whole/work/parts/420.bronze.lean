theorem arrV_ext {cA : ClassId} {n : Nat} {f g : Nat → Value} (h : ∀ j, j < n → f j = g j) : arrV cA n f = arrV cA n g := by
  unfold arrV
  congr 1
  apply Array.ext
  · simp
  · intro i h1 h2
    simp at h1
    simp [h i h1]
theorem dX11_init_0 : decode cX11_init 0 = .ok (.aload_n 0, 1) := by decide +kernel
theorem dX11_init_1 : decode cX11_init 1 = .ok (.invokespecial 1, 3) := by decide +kernel
theorem dX11_init_4 : decode cX11_init 4 = .ok (.aload_n 0, 1) := by decide +kernel
theorem dX11_init_5 : decode cX11_init 5 = .ok (.new 7, 3) := by decide +kernel
theorem dX11_init_8 : decode cX11_init 8 = .ok (.dup, 1) := by decide +kernel
theorem dX11_init_9 : decode cX11_init 9 = .ok (.invokespecial 9, 3) := by decide +kernel
theorem dX11_init_12 : decode cX11_init 12 = .ok (.putfield 10, 3) := by decide +kernel
theorem dX11_init_15 : decode cX11_init 15 = .ok (.aload_n 0, 1) := by decide +kernel
theorem dX11_init_16 : decode cX11_init 16 = .ok (.new 16, 3) := by decide +kernel
theorem dX11_init_19 : decode cX11_init 19 = .ok (.dup, 1) := by decide +kernel
theorem dX11_init_20 : decode cX11_init 20 = .ok (.invokespecial 18, 3) := by decide +kernel
theorem dX11_init_23 : decode cX11_init 23 = .ok (.putfield 19, 3) := by decide +kernel
theorem dX11_init_26 : decode cX11_init 26 = .ok (.aload_n 0, 1) := by decide +kernel
theorem dX11_init_27 : decode cX11_init 27 = .ok (.new 23, 3) := by decide +kernel
theorem dX11_init_30 : decode cX11_init 30 = .ok (.dup, 1) := by decide +kernel
theorem dX11_init_31 : decode cX11_init 31 = .ok (.invokespecial 25, 3) := by decide +kernel
theorem dX11_init_34 : decode cX11_init 34 = .ok (.putfield 26, 3) := by decide +kernel
theorem dX11_init_37 : decode cX11_init 37 = .ok (.aload_n 0, 1) := by decide +kernel
theorem dX11_init_38 : decode cX11_init 38 = .ok (.new 30, 3) := by decide +kernel
theorem dX11_init_41 : decode cX11_init 41 = .ok (.dup, 1) := by decide +kernel
theorem dX11_init_42 : decode cX11_init 42 = .ok (.invokespecial 32, 3) := by decide +kernel
theorem dX11_init_45 : decode cX11_init 45 = .ok (.putfield 33, 3) := by decide +kernel
theorem dX11_init_48 : decode cX11_init 48 = .ok (.aload_n 0, 1) := by decide +kernel
theorem dX11_init_49 : decode cX11_init 49 = .ok (.new 37, 3) := by decide +kernel
theorem dX11_init_52 : decode cX11_init 52 = .ok (.dup, 1) := by decide +kernel
theorem dX11_init_53 : decode cX11_init 53 = .ok (.aload_n 0, 1) := by decide +kernel
theorem dX11_init_54 : decode cX11_init 54 = .ok (.getfield 19, 3) := by decide +kernel
theorem dX11_init_57 : decode cX11_init 57 = .ok (.aload_n 0, 1) := by decide +kernel
theorem dX11_init_58 : decode cX11_init 58 = .ok (.getfield 26, 3) := by decide +kernel
theorem dX11_init_61 : decode cX11_init 61 = .ok (.invokespecial 39, 3) := by decide +kernel
theorem dX11_init_64 : decode cX11_init 64 = .ok (.putfield 42, 3) := by decide +kernel
theorem dX11_init_67 : decode cX11_init 67 = .ok (.aload_n 0, 1) := by decide +kernel
theorem dX11_init_68 : decode cX11_init 68 = .ok (.new 46, 3) := by decide +kernel
theorem dX11_init_71 : decode cX11_init 71 = .ok (.dup, 1) := by decide +kernel
theorem dX11_init_72 : decode cX11_init 72 = .ok (.aload_n 0, 1) := by decide +kernel
theorem dX11_init_73 : decode cX11_init 73 = .ok (.getfield 26, 3) := by decide +kernel
theorem dX11_init_76 : decode cX11_init 76 = .ok (.invokespecial 48, 3) := by decide +kernel
theorem dX11_init_79 : decode cX11_init 79 = .ok (.putfield 51, 3) := by decide +kernel
theorem dX11_init_82 : decode cX11_init 82 = .ok (.aload_n 0, 1) := by decide +kernel
theorem dX11_init_83 : decode cX11_init 83 = .ok (.new 55, 3) := by decide +kernel
theorem dX11_init_86 : decode cX11_init 86 = .ok (.dup, 1) := by decide +kernel
theorem dX11_init_87 : decode cX11_init 87 = .ok (.aload_n 0, 1) := by decide +kernel
theorem dX11_init_88 : decode cX11_init 88 = .ok (.getfield 19, 3) := by decide +kernel
theorem dX11_init_91 : decode cX11_init 91 = .ok (.invokespecial 57, 3) := by decide +kernel
theorem dX11_init_94 : decode cX11_init 94 = .ok (.putfield 60, 3) := by decide +kernel
theorem dX11_init_97 : decode cX11_init 97 = .ok (.aload_n 0, 1) := by decide +kernel
theorem dX11_init_98 : decode cX11_init 98 = .ok (.new 64, 3) := by decide +kernel
theorem dX11_init_101 : decode cX11_init 101 = .ok (.dup, 1) := by decide +kernel
theorem dX11_init_102 : decode cX11_init 102 = .ok (.aload_n 0, 1) := by decide +kernel
theorem dX11_init_103 : decode cX11_init 103 = .ok (.getfield 19, 3) := by decide +kernel
theorem dX11_init_106 : decode cX11_init 106 = .ok (.invokespecial 66, 3) := by decide +kernel
theorem dX11_init_109 : decode cX11_init 109 = .ok (.putfield 67, 3) := by decide +kernel
theorem dX11_init_112 : decode cX11_init 112 = .ok (.aload_n 0, 1) := by decide +kernel
theorem dX11_init_113 : decode cX11_init 113 = .ok (.new 71, 3) := by decide +kernel
theorem dX11_init_116 : decode cX11_init 116 = .ok (.dup, 1) := by decide +kernel
theorem dX11_init_117 : decode cX11_init 117 = .ok (.aload_n 0, 1) := by decide +kernel
theorem dX11_init_118 : decode cX11_init 118 = .ok (.getfield 19, 3) := by decide +kernel
theorem dX11_init_121 : decode cX11_init 121 = .ok (.invokespecial 73, 3) := by decide +kernel
theorem dX11_init_124 : decode cX11_init 124 = .ok (.putfield 74, 3) := by decide +kernel
theorem dX11_init_127 : decode cX11_init 127 = .ok (.aload_n 0, 1) := by decide +kernel
theorem dX11_init_128 : decode cX11_init 128 = .ok (.new 78, 3) := by decide +kernel
theorem dX11_init_131 : decode cX11_init 131 = .ok (.dup, 1) := by decide +kernel
theorem dX11_init_132 : decode cX11_init 132 = .ok (.invokespecial 80, 3) := by decide +kernel
theorem dX11_init_135 : decode cX11_init 135 = .ok (.putfield 81, 3) := by decide +kernel
theorem dX11_init_138 : decode cX11_init 138 = .ok (.aload_n 0, 1) := by decide +kernel
theorem dX11_init_139 : decode cX11_init 139 = .ok (.new 78, 3) := by decide +kernel
theorem dX11_init_142 : decode cX11_init 142 = .ok (.dup, 1) := by decide +kernel
theorem dX11_init_143 : decode cX11_init 143 = .ok (.invokespecial 80, 3) := by decide +kernel
theorem dX11_init_146 : decode cX11_init 146 = .ok (.putfield 85, 3) := by decide +kernel
theorem dX11_init_149 : decode cX11_init 149 = .ok (.aload_n 0, 1) := by decide +kernel
theorem dX11_init_150 : decode cX11_init 150 = .ok (.new 78, 3) := by decide +kernel
theorem dX11_init_153 : decode cX11_init 153 = .ok (.dup, 1) := by decide +kernel
theorem dX11_init_154 : decode cX11_init 154 = .ok (.invokespecial 80, 3) := by decide +kernel
theorem dX11_init_157 : decode cX11_init 157 = .ok (.putfield 88, 3) := by decide +kernel
theorem dX11_init_160 : decode cX11_init 160 = .ok (.aload_n 0, 1) := by decide +kernel
theorem dX11_init_161 : decode cX11_init 161 = .ok (.iconst 0, 1) := by decide +kernel
theorem dX11_init_162 : decode cX11_init 162 = .ok (.putfield 91, 3) := by decide +kernel
theorem dX11_init_165 : decode cX11_init 165 = .ok (.aload_n 0, 1) := by decide +kernel
theorem dX11_init_166 : decode cX11_init 166 = .ok (.getfield 19, 3) := by decide +kernel
theorem dX11_init_169 : decode cX11_init 169 = .ok (.invokevirtual 95, 3) := by decide +kernel
theorem dX11_init_172 : decode cX11_init 172 = .ok (.return_, 1) := by decide +kernel
theorem y11_init_w : yI yX11_init cX11_init 1 0 := ⟨g_27, g_1, g_28, rfl, by decide, by decide, by decide +kernel⟩
set_option maxHeartbeats 4000000 in
set_option maxRecDepth 100000 in
theorem toX {z : Zt} {b : Nat} {M : Mem} {Rl : Rm} {H : Heap} (hP : va_P z.1 vwCl (pw (dR (xc z) Rl) 339 b M) H) (h_0_0 : Rl 0 0 = some (b + 1)) (h_0_1 : Rl 0 1 = some (b + 3)) (h_0_2 : Rl 0 2 = some (b + 11)) (h_0_3 : Rl 0 3 = some (b + 17)) (h_0_4 : Rl 0 4 = some (b + 23)) (h_0_5 : Rl 0 5 = some (b + 25)) (h_0_6 : Rl 0 6 = some (b + 27)) (h_0_7 : Rl 0 7 = some (b + 131)) (h_0_8 : Rl 0 8 = some (b + 326)) (h_0_9 : Rl 0 9 = some (b + 330)) (h_0_10 : Rl 0 10 = some (b + 333)) (h_0_11 : Rl 0 11 = some (b + 336)) (h_1_0 : Rl 1 0 = some (b + 2)) (h_3_0 : Rl 3 0 = some (b + 4)) (h_3_1 : Rl 3 1 = some (b + 5)) (h_3_2 : Rl 3 2 = some (b + 6)) (h_3_3 : Rl 3 3 = some (b + 7)) (h_3_4 : Rl 3 4 = some (b + 8)) (h_3_5 : Rl 3 5 = some (b + 9)) (h_3_6 : Rl 3 6 = some (b + 10)) (h_11_0 : Rl 11 0 = some (b + 12)) (h_11_1 : Rl 11 1 = some (b + 13)) (h_11_2 : Rl 11 2 = some (b + 14)) (h_11_4 : Rl 11 4 = some (b + 15)) (h_11_5 : Rl 11 5 = some (b + 16)) (h_17_0 : Rl 17 0 = some (b + 18)) (h_17_1 : Rl 17 1 = some (b + 19)) (h_17_2 : Rl 17 2 = some (b + 20)) (h_17_3 : Rl 17 3 = some (b + 21)) (h_17_4 : Rl 17 4 = some (b + 22)) (h_23_0 : Rl 23 0 = some (b + 3)) (h_23_1 : Rl 23 1 = some (b + 11)) (h_23_2 : Rl 23 2 = some (b + 24)) (h_25_0 : Rl 25 0 = some (b + 11)) (h_25_1 : Rl 25 1 = some (b + 26)) (h_27_0 : Rl 27 0 = some (b + 3)) (h_27_1 : Rl 27 1 = some (b + 28)) (h_27_2 : Rl 27 2 = some (b + 29)) (h_27_3 : Rl 27 3 = some (b + 30)) (h_27_4 : Rl 27 4 = some (b + 31)) (h_27_5 : Rl 27 5 = some (b + 32)) (h_27_6 : Rl 27 6 = some (b + 33)) (h_27_7 : Rl 27 7 = some (b + 34)) (h_131_0 : Rl 131 0 = some (b + 3)) (h_131_1 : Rl 131 1 = some (b + 132)) (h_131_2 : Rl 131 2 = some (b + 133)) (h_326_0 : Rl 326 0 = some (b + 3)) (h_326_1 : Rl 326 1 = some (b + 327)) (h_326_2 : Rl 326 2 = some (b + 328)) (h_326_3 : Rl 326 3 = some (b + 329)) (h_330_0 : Rl 330 0 = some (b + 331)) (h_330_1 : Rl 330 1 = some (b + 332)) (h_333_0 : Rl 333 0 = some (b + 334)) (h_333_1 : Rl 333 1 = some (b + 335)) (h_336_0 : Rl 336 0 = some (b + 337)) (h_336_1 : Rl 336 1 = some (b + 338)) (h_32 : ∀ j, j < 96 → Rl 32 j = some (b + (35 + 1 * j))) (h_132 : ∀ j, j < 96 → Rl 132 j = some (b + (134 + 2 * j))) (h_133 : ∀ j, j < 96 → Rl 133 j = some (b + (135 + 2 * j))) : va_P z.1 vwCl (pw (xd z b) 339 b M) H := by
  intro k q hk
  obtain ⟨hlt, rfl⟩ := pw_at hk
  have h := hP k _ (pw_get hlt)
  by_cases hps : isPS k = true
  · rw [xr_ps hps] at h
    rw [ps_d hps]
    exact h
  · have hkk : k = 0 ∨ k = 1 ∨ k = 2 ∨ k = 3 ∨ k = 4 ∨ k = 5 ∨ k = 6 ∨ k = 7 ∨ k = 8 ∨ k = 9 ∨ k = 11 ∨ k = 12 ∨ k = 13 ∨ k = 14 ∨ k = 15 ∨ k = 16 ∨ k = 17 ∨ k = 18 ∨ k = 19 ∨ k = 20 ∨ k = 21 ∨ k = 22 ∨ k = 23 ∨ k = 24 ∨ k = 25 ∨ k = 26 ∨ k = 27 ∨ k = 28 ∨ k = 29 ∨ k = 30 ∨ k = 31 ∨ k = 32 ∨ k = 131 ∨ k = 132 ∨ k = 133 ∨ k = 326 ∨ k = 327 ∨ k = 328 ∨ k = 329 ∨ k = 330 ∨ k = 331 ∨ k = 332 ∨ k = 333 ∨ k = 334 ∨ k = 335 ∨ k = 336 ∨ k = 337 ∨ k = 338 := by
      simp [isPS] at hps
      omega
    rcases hkk with rfl | rfl | rfl | rfl | rfl | rfl | rfl | rfl | rfl | rfl | rfl | rfl | rfl | rfl | rfl | rfl | rfl | rfl | rfl | rfl | rfl | rfl | rfl | rfl | rfl | rfl | rfl | rfl | rfl | rfl | rfl | rfl | rfl | rfl | rfl | rfl | rfl | rfl | rfl | rfl | rfl | rfl | rfl | rfl | rfl | rfl | rfl | rfl
    · have e : dR (xc z) Rl 0 (M.1 0) (M.2 0) = xd z b 0 (M.1 0) (M.2 0) := by
        rw [xr_0, xd_0, h_0_0, h_0_1, h_0_2, h_0_3, h_0_4, h_0_5, h_0_6, h_0_7, h_0_8, h_0_9, h_0_10, h_0_11]
        rfl
      rw [e] at h
      exact h
    · have e : dR (xc z) Rl 1 (M.1 1) (M.2 1) = xd z b 1 (M.1 1) (M.2 1) := by
        rw [xr_1, xd_1, h_1_0]
        rfl
      rw [e] at h
      exact h
    · exact h
    · have e : dR (xc z) Rl 3 (M.1 3) (M.2 3) = xd z b 3 (M.1 3) (M.2 3) := by
        rw [xr_3, xd_3, h_3_0, h_3_1, h_3_2, h_3_3, h_3_4, h_3_5, h_3_6]
        rfl
      rw [e] at h
      exact h
    · exact h
    · exact h
    · exact h
    · exact h
    · exact h
    · exact h
    · have e : dR (xc z) Rl 11 (M.1 11) (M.2 11) = xd z b 11 (M.1 11) (M.2 11) := by
        rw [xr_11, xd_11, h_11_0, h_11_1, h_11_2, h_11_4, h_11_5]
        rfl
      rw [e] at h
      exact h
    · exact h
    · exact h
    · exact h
    · exact h
    · exact h
    · have e : dR (xc z) Rl 17 (M.1 17) (M.2 17) = xd z b 17 (M.1 17) (M.2 17) := by
        rw [xr_17, xd_17, h_17_0, h_17_1, h_17_2, h_17_3, h_17_4]
        rfl
      rw [e] at h
      exact h
    · exact h
    · exact h
    · exact h
    · exact h
    · exact h
    · have e : dR (xc z) Rl 23 (M.1 23) (M.2 23) = xd z b 23 (M.1 23) (M.2 23) := by
        rw [xr_23, xd_23, h_23_0, h_23_1, h_23_2]
        rfl
      rw [e] at h
      exact h
    · exact h
    · have e : dR (xc z) Rl 25 (M.1 25) (M.2 25) = xd z b 25 (M.1 25) (M.2 25) := by
        rw [xr_25, xd_25, h_25_0, h_25_1]
        rfl
      rw [e] at h
      exact h
    · exact h
    · have e : dR (xc z) Rl 27 (M.1 27) (M.2 27) = xd z b 27 (M.1 27) (M.2 27) := by
        rw [xr_27, xd_27, h_27_0, h_27_1, h_27_2, h_27_3, h_27_4, h_27_5, h_27_6, h_27_7]
        rfl
      rw [e] at h
      exact h
    · exact h
    · exact h
    · exact h
    · exact h
    · have e : vp_cell z.2.1.2.2.2.2 (96, .inr (.inr (.inr (.inr (Rl 32))))) = vp_cell z.2.1.2.2.2.2 (96, .inr (.inr (.inr (.inr (fun i => some (b + (35 + i))))))) := by
        rw [vp_cell_q, vp_cell_q]
        exact arrV_ext (fun j hj => by rw [h_32 j hj]; simp)
      exact (show H[b + 32]? = some (vp_cell z.2.1.2.2.2.2 (96, .inr (.inr (.inr (.inr (Rl 32)))))) from h).trans (congrArg some e)
    · have e : dR (xc z) Rl 131 (M.1 131) (M.2 131) = xd z b 131 (M.1 131) (M.2 131) := by
        rw [xr_131, xd_131, h_131_0, h_131_1, h_131_2]
        rfl
      rw [e] at h
      exact h
    · have e : vp_cell z.2.1.2.2.2.2 (96, .inr (.inr (.inr (.inr (Rl 132))))) = vp_cell z.2.1.2.2.2.2 (96, .inr (.inr (.inr (.inr (fun i => some (b + (134 + 2 * i))))))) := by
        rw [vp_cell_q, vp_cell_q]
        exact arrV_ext (fun j hj => by rw [h_132 j hj])
      exact (show H[b + 132]? = some (vp_cell z.2.1.2.2.2.2 (96, .inr (.inr (.inr (.inr (Rl 132)))))) from h).trans (congrArg some e)
    · have e : vp_cell z.2.1.2.2.2.2 (96, .inr (.inr (.inr (.inr (Rl 133))))) = vp_cell z.2.1.2.2.2.2 (96, .inr (.inr (.inr (.inr (fun i => some (b + (135 + 2 * i))))))) := by
        rw [vp_cell_q, vp_cell_q]
        exact arrV_ext (fun j hj => by rw [h_133 j hj])
      exact (show H[b + 133]? = some (vp_cell z.2.1.2.2.2.2 (96, .inr (.inr (.inr (.inr (Rl 133)))))) from h).trans (congrArg some e)
    · have e : dR (xc z) Rl 326 (M.1 326) (M.2 326) = xd z b 326 (M.1 326) (M.2 326) := by
        rw [xr_326, xd_326, h_326_0, h_326_1, h_326_2, h_326_3]
        rfl
      rw [e] at h
      exact h
    · exact h
    · exact h
    · exact h
    · have e : dR (xc z) Rl 330 (M.1 330) (M.2 330) = xd z b 330 (M.1 330) (M.2 330) := by
        rw [xr_330, co_d co_330, h_330_0, h_330_1]
        rfl
      rw [e] at h
      exact h
    · exact h
    · exact h
    · have e : dR (xc z) Rl 333 (M.1 333) (M.2 333) = xd z b 333 (M.1 333) (M.2 333) := by
        rw [xr_333, co_d co_333, h_333_0, h_333_1]
        rfl
      rw [e] at h
      exact h
    · exact h
    · exact h
    · have e : dR (xc z) Rl 336 (M.1 336) (M.2 336) = xd z b 336 (M.1 336) (M.2 336) := by
        rw [xr_336, co_d co_336, h_336_0, h_336_1]
        rfl
      rw [e] at h
      exact h
    · exact h
    · exact h
/-- the memory of a new BronzeKing, before its town is reckoned -/
def XI (M : Mem) : Prop := (∀ j, j < 96 → M.1 4 j = 2) ∧ (∀ j, j < 10 → M.1 6 j = -1) ∧ M.1 3 7 = 0 ∧ M.1 3 8 = 0 ∧ M.1 1 1 = 0 ∧ M.1 11 3 = 0 ∧ M.1 25 2 = 0 ∧ M.1 326 4 = -1 ∧ M.1 3 9 = 0 ∧ (∀ j, M.1 331 j = 0) ∧ M.1 330 2 = 0 ∧ M.1 330 3 = 1 ∧ M.1 330 4 = -2 ∧ M.1 330 5 = 0 ∧ M.1 330 6 = 0 ∧ M.1 330 7 = 0 ∧ M.1 0 12 = 0 ∧ (∀ j, M.1 2 j = 0) ∧ (∀ j, M.1 332 j = 0)
abbrev rmq11_init : Room := { frames := 3, cells := 338, slots := 8703, locals := 72 }
set_option maxHeartbeats 8000000 in
set_option maxRecDepth 100000 in
theorem cq11_init {l : Launch} {z : Zt} {b : Nat} {FU : Nat} (hFU : 1000 ≤ FU) {M : Mem} {Rf : Rm} {Post : Mem → Prop} (hfr : ∀ M, XI M → ∃ M2, f8_refresh FU M = some ((), M2) ∧ Post M2) :
    Met l yX11_init (Cond.code yX11_init cX11_init 1 none :: lw_good) rmq11_init (va_Pc [.ref (b + 0)] (fun U => va_P z.1 vwCl (pw (dR (xc z) Rf) 1 b M) U.heap ∧ U.heap.size = b + 1 ∧ Gx z (Bx b) U ∧ va_AO "BronzeKing$PlaceSet" U)) (va_Qv Post (fun M2 t => va_P z.1 vwCl (pw (xd z b) 339 b M2) t.heap) (Bx b)) 338 8703 (Bx b) := by
  refine Met.ofW (cc := cX11_init) (maxL := 1) (ret := none) (by decide) rfl ?_
  intro p e s m args below meth c s₁ B hml hv
  obtain ⟨rfl, hP, hsz, hG, hAO⟩ := hv
  have hts := atoms_spec (ws := Cond.code yX11_init cX11_init 1 none :: lw_good) B.pre
  have hnm : meth.name = "<init>" := (name_of_methodNamed B.named B.method).1
  rw [lg_entry_eq]
  have C : Cq p s m ([.ref (b + 0)] : List Value).toArray c cX11_init 1 RX11 z b := ⟨⟨B.exec, B.bytes, hml, findClass_of_methodNamed B.named, fun w hw => hts w (List.mem_cons_of_mem _ hw)⟩, hG⟩
  have hr := B.returns
  have hk2 := B.notSynchronized
  have hS : va_S (Bx b) s.heap s.heap [] := va_S.rf
  have hl := lv_entry ([.ref (b + 0)]) (n := 1) (Nat.le_of_ble_eq_true rfl)
  generalize (lg_sl ([.ref (b + 0)]) ++ List.replicate (1 - (lg_sl ([.ref (b + 0)])).length) Slot.unset).toArray = ls at hl ⊢
  have hl : lv_has ls 1 [(0, .ref (b + 0))] := hl
  have hx := C.1.1
  have hb := C.1.2.1
  have hcl : s.heap.size + 0 = b + 1 := by omega
  refine lv_aload_n hx hb dX11_init_0 rfl (lv_at hl 0 rfl) ?_
  refine W.objInit hx hb C.1.2.2.2.1 (C.1.2.2.2.2 _ g_29) (C.1.2.2.2.2 _ g_30) (C.1.2.2.2.2 _ g_31) rfl (by rw [C.1.2.2.1]; exact hl.1) rfl dX11_init_1 (Nat.le_of_ble_eq_true rfl) (Nat.le_of_ble_eq_true rfl) ?_
  refine W.eq (g2 := F0 m 4 ls []) rfl ?_
  refine lv_aload_n hx hb dX11_init_4 rfl (lv_at hl 0 rfl) ?_
  refine qnw C (by omega) hP hS hcl (ci := 7) iw_7 tyX7 tyX7_ok g_32 g_33 g_2 rfl (fs := [.null, .int 0]) (by decide) (Nat.le_of_ble_eq_true rfl) (Nat.le_of_ble_eq_true rfl) rfl dX11_init_5 (fun H hP hS hcl => ?_)
  have hP : va_P z.1 vwCl (pw (dR (xc z) (zR Rf 1)) 2 b (zM M 1)) H := hP
  obtain ⟨M1, eM1⟩ : ∃ X : Mem, X = zM M 1 := ⟨_, rfl⟩
  rw [← eM1] at hP
  obtain ⟨R1, eR1⟩ : ∃ X : Rm, X = zR Rf 1 := ⟨_, rfl⟩
  rw [← eR1] at hP
  refine W.widen (k := 1) (n := 2) (Nat.le_of_ble_eq_true rfl) (Nat.le_of_ble_eq_true rfl) ?_
  have hcl : s.heap.size + 1 = b + 2 := by omega
  refine lv_dup hx hb dX11_init_8 rfl ?_
  refine qcN (As := []) (k := 1) C hAO hP hS hcl (Nat.le_of_ble_eq_true rfl) cq7_init_1 y7_init_w g_34 rfl rfl rfl ⟨Nat.le_of_ble_eq_true rfl, Nat.le_of_ble_eq_true rfl⟩ hl.1 rfl (Nat.le_of_ble_eq_true rfl) dX11_init_9 ⟨Nat.le_of_ble_eq_true rfl, Nat.le_of_ble_eq_true rfl⟩ (fun u H locs hu hP hS => ?_)
  obtain ⟨M2, R2⟩ := u
  have hP : va_P z.1 vwCl (pw (dR (xc z) R2) 3 b M2) H := hP
  obtain ⟨eM2, eR2⟩ := Prod.mk.inj hu
  refine W.widen (k := 2) (n := 262) (Nat.le_of_ble_eq_true rfl) (Nat.le_of_ble_eq_true rfl) ?_
  have hcl : s.heap.size + 2 = b + 3 := by omega
  refine qpR C hnm hP hS (k := 0) (j := 0) (v := b + 1) (ty := tyX11 0) (Nat.le_of_ble_eq_true rfl) (xr_0 _ _) rfl iw_11 tyX11 tyX11_ok nmX11 (Nat.le_of_ble_eq_true rfl) g_420 rfl rfl rfl (by decide +kernel) rfl rfl (Nat.le_of_ble_eq_true rfl) rfl dX11_init_12 (fun H locs hP hS => ?_)
  obtain ⟨R3, eR3⟩ : ∃ X : Rm, X = uR R2 0 0 (some (b + 1)) := ⟨_, rfl⟩
  rw [← eR3] at hP
  refine lv_aload_n hx hb dX11_init_15 rfl (lv_at hl 0 rfl) ?_
  refine qnw C (by omega) hP hS hcl (ci := 8) iw_8 tyX8 tyX8_ok g_48 g_49 g_3 rfl (fs := [.null, .null, .null, .null, .null, .null, .null, .int 0, .int 0, .int 0]) (by decide) (Nat.le_of_ble_eq_true rfl) (Nat.le_of_ble_eq_true rfl) rfl dX11_init_16 (fun H hP hS hcl => ?_)
  have hP : va_P z.1 vwCl (pw (dR (xc z) (zR R3 3)) 4 b (zM M2 3)) H := hP
  obtain ⟨M4, eM4⟩ : ∃ X : Mem, X = zM M2 3 := ⟨_, rfl⟩
  rw [← eM4] at hP
  obtain ⟨R4, eR4⟩ : ∃ X : Rm, X = zR R3 3 := ⟨_, rfl⟩
  rw [← eR4] at hP
  refine W.widen (k := 3) (n := 272) (Nat.le_of_ble_eq_true rfl) (Nat.le_of_ble_eq_true rfl) ?_
  have hcl : s.heap.size + 3 = b + 4 := by omega
  refine lv_dup hx hb dX11_init_19 rfl ?_
  refine qcI (As := []) (k := 3) C hAO hP hS hcl (Nat.le_of_ble_eq_true rfl) (cq8_init_3 hFU) y8_init_w g_50 rfl rfl rfl ⟨Nat.le_of_ble_eq_true rfl, Nat.le_of_ble_eq_true rfl⟩ hl.1 rfl (Nat.le_of_ble_eq_true rfl) dX11_init_20 ⟨Nat.le_of_ble_eq_true rfl, Nat.le_of_ble_eq_true rfl⟩ (fun u H locs hu hP hS => ?_)
  obtain ⟨M5, R5⟩ := u
  have hP : va_P z.1 vwCl (pw (dR (xc z) R5) 11 b M5) H := hP
  obtain ⟨eM5, eR5⟩ := Prod.mk.inj hu
  refine W.widen (k := 10) (n := 764) (Nat.le_of_ble_eq_true rfl) (Nat.le_of_ble_eq_true rfl) ?_
  have hcl : s.heap.size + 10 = b + 11 := by omega
  refine qpR C hnm hP hS (k := 0) (j := 1) (v := b + 3) (ty := tyX11 1) (Nat.le_of_ble_eq_true rfl) (xr_0 _ _) rfl iw_11 tyX11 tyX11_ok nmX11 (Nat.le_of_ble_eq_true rfl) g_421 rfl rfl rfl (by decide +kernel) rfl rfl (Nat.le_of_ble_eq_true rfl) rfl dX11_init_23 (fun H locs hP hS => ?_)
  obtain ⟨R6, eR6⟩ : ∃ X : Rm, X = uR R5 0 1 (some (b + 3)) := ⟨_, rfl⟩
  rw [← eR6] at hP
  refine lv_aload_n hx hb dX11_init_26 rfl (lv_at hl 0 rfl) ?_
  refine qnw C (by omega) hP hS hcl (ci := 2) iw_2 tyX2 tyX2_ok g_119 g_120 g_6 rfl (fs := [.null, .null, .null, .int 0, .null, .null]) (by decide) (Nat.le_of_ble_eq_true rfl) (Nat.le_of_ble_eq_true rfl) rfl dX11_init_27 (fun H hP hS hcl => ?_)
  have hP : va_P z.1 vwCl (pw (dR (xc z) (zR R6 11)) 12 b (zM M5 11)) H := hP
  obtain ⟨M7, eM7⟩ : ∃ X : Mem, X = zM M5 11 := ⟨_, rfl⟩
  rw [← eM7] at hP
  obtain ⟨R7, eR7⟩ : ∃ X : Rm, X = zR R6 11 := ⟨_, rfl⟩
  rw [← eR7] at hP
  refine W.widen (k := 11) (n := 770) (Nat.le_of_ble_eq_true rfl) (Nat.le_of_ble_eq_true rfl) ?_
  have hcl : s.heap.size + 11 = b + 12 := by omega
  refine lv_dup hx hb dX11_init_30 rfl ?_
  refine qcN (As := []) (k := 11) C hAO hP hS hcl (Nat.le_of_ble_eq_true rfl) cq2_init_11 y2_init_w g_121 rfl rfl rfl ⟨Nat.le_of_ble_eq_true rfl, Nat.le_of_ble_eq_true rfl⟩ hl.1 rfl (Nat.le_of_ble_eq_true rfl) dX11_init_31 ⟨Nat.le_of_ble_eq_true rfl, Nat.le_of_ble_eq_true rfl⟩ (fun u H locs hu hP hS => ?_)
  obtain ⟨M8, R8⟩ := u
  have hP : va_P z.1 vwCl (pw (dR (xc z) R8) 17 b M8) H := hP
  obtain ⟨eM8, eR8⟩ := Prod.mk.inj hu
  refine W.widen (k := 16) (n := 1132) (Nat.le_of_ble_eq_true rfl) (Nat.le_of_ble_eq_true rfl) ?_
  have hcl : s.heap.size + 16 = b + 17 := by omega
  refine qpR C hnm hP hS (k := 0) (j := 2) (v := b + 11) (ty := tyX11 2) (Nat.le_of_ble_eq_true rfl) (xr_0 _ _) rfl iw_11 tyX11 tyX11_ok nmX11 (Nat.le_of_ble_eq_true rfl) g_422 rfl rfl rfl (by decide +kernel) rfl rfl (Nat.le_of_ble_eq_true rfl) rfl dX11_init_34 (fun H locs hP hS => ?_)
  obtain ⟨R9, eR9⟩ : ∃ X : Rm, X = uR R8 0 2 (some (b + 11)) := ⟨_, rfl⟩
  rw [← eR9] at hP
  refine lv_aload_n hx hb dX11_init_37 rfl (lv_at hl 0 rfl) ?_
  refine qnw C (by omega) hP hS hcl (ci := 3) iw_3 tyX3 tyX3_ok g_145 g_146 g_7 rfl (fs := [.null, .null, .null, .null, .null, .int 0, .int 0, .int 0, .int 0, .int 0, .int 0, .int 0]) (by decide) (Nat.le_of_ble_eq_true rfl) (Nat.le_of_ble_eq_true rfl) rfl dX11_init_38 (fun H hP hS hcl => ?_)
  have hP : va_P z.1 vwCl (pw (dR (xc z) (zR R9 17)) 18 b (zM M8 17)) H := hP
  obtain ⟨M10, eM10⟩ : ∃ X : Mem, X = zM M8 17 := ⟨_, rfl⟩
  rw [← eM10] at hP
  obtain ⟨R10, eR10⟩ : ∃ X : Rm, X = zR R9 17 := ⟨_, rfl⟩
  rw [← eR10] at hP
  refine W.widen (k := 17) (n := 1144) (Nat.le_of_ble_eq_true rfl) (Nat.le_of_ble_eq_true rfl) ?_
  have hcl : s.heap.size + 17 = b + 18 := by omega
  refine lv_dup hx hb dX11_init_41 rfl ?_
  refine qcN (As := []) (k := 17) C hAO hP hS hcl (Nat.le_of_ble_eq_true rfl) cq3_init_17 y3_init_w g_147 rfl rfl rfl ⟨Nat.le_of_ble_eq_true rfl, Nat.le_of_ble_eq_true rfl⟩ hl.1 rfl (Nat.le_of_ble_eq_true rfl) dX11_init_42 ⟨Nat.le_of_ble_eq_true rfl, Nat.le_of_ble_eq_true rfl⟩ (fun u H locs hu hP hS => ?_)
  obtain ⟨M11, R11⟩ := u
  have hP : va_P z.1 vwCl (pw (dR (xc z) R11) 23 b M11) H := hP
  obtain ⟨eM11, eR11⟩ := Prod.mk.inj hu
  refine W.widen (k := 22) (n := 1561) (Nat.le_of_ble_eq_true rfl) (Nat.le_of_ble_eq_true rfl) ?_
  have hcl : s.heap.size + 22 = b + 23 := by omega
  refine qpR C hnm hP hS (k := 0) (j := 3) (v := b + 17) (ty := tyX11 3) (Nat.le_of_ble_eq_true rfl) (xr_0 _ _) rfl iw_11 tyX11 tyX11_ok nmX11 (Nat.le_of_ble_eq_true rfl) g_423 rfl rfl rfl (by decide +kernel) rfl rfl (Nat.le_of_ble_eq_true rfl) rfl dX11_init_45 (fun H locs hP hS => ?_)
  obtain ⟨R12, eR12⟩ : ∃ X : Rm, X = uR R11 0 3 (some (b + 17)) := ⟨_, rfl⟩
  rw [← eR12] at hP
  refine lv_aload_n hx hb dX11_init_48 rfl (lv_at hl 0 rfl) ?_
  refine qnw C (by omega) hP hS hcl (ci := 10) iw_10 tyX10 tyX10_ok g_192 g_193 g_8 rfl (fs := [.null, .null, .null]) (by decide) (Nat.le_of_ble_eq_true rfl) (Nat.le_of_ble_eq_true rfl) rfl dX11_init_49 (fun H hP hS hcl => ?_)
  have hP : va_P z.1 vwCl (pw (dR (xc z) (zR R12 23)) 24 b (zM M11 23)) H := hP
  obtain ⟨M13, eM13⟩ : ∃ X : Mem, X = zM M11 23 := ⟨_, rfl⟩
  rw [← eM13] at hP
  obtain ⟨R13, eR13⟩ : ∃ X : Rm, X = zR R12 23 := ⟨_, rfl⟩
  rw [← eR13] at hP
  refine W.widen (k := 23) (n := 1564) (Nat.le_of_ble_eq_true rfl) (Nat.le_of_ble_eq_true rfl) ?_
  have hcl : s.heap.size + 23 = b + 24 := by omega
  refine lv_dup hx hb dX11_init_52 rfl ?_
  refine lv_aload_n hx hb dX11_init_53 rfl (lv_at hl 0 rfl) ?_
  have hgv : (R13 0 1 : Option Nat) = some (b + 3) := by simp [eR1, eR2, eR3, eR4, eR5, eR6, eR7, eR8, eR9, eR10, eR11, eR12, eR13, uR, zR]
  refine qg C hP (k := 0) (j := 1) (v := .ref (b + 3)) (Nat.le_of_ble_eq_true rfl) (xr_0 _ _) rfl iw_11 (Nat.le_of_ble_eq_true rfl) g_421 rfl (by rw [hgv]; rfl) dX11_init_54 ?_
  refine lv_aload_n hx hb dX11_init_57 rfl (lv_at hl 0 rfl) ?_
  have hgv : (R13 0 2 : Option Nat) = some (b + 11) := by simp [eR1, eR2, eR3, eR4, eR5, eR6, eR7, eR8, eR9, eR10, eR11, eR12, eR13, uR, zR]
  refine qg C hP (k := 0) (j := 2) (v := .ref (b + 11)) (Nat.le_of_ble_eq_true rfl) (xr_0 _ _) rfl iw_11 (Nat.le_of_ble_eq_true rfl) g_422 rfl (by rw [hgv]; rfl) dX11_init_58 ?_
  refine qcI (As := [.ref (b + 3), .ref (b + 11)]) (k := 23) C hAO hP hS hcl (Nat.le_of_ble_eq_true rfl) cq10_init_23 y10_init_w g_194 rfl rfl rfl ⟨Nat.le_of_ble_eq_true rfl, Nat.le_of_ble_eq_true rfl⟩ hl.1 rfl (Nat.le_of_ble_eq_true rfl) dX11_init_61 ⟨Nat.le_of_ble_eq_true rfl, Nat.le_of_ble_eq_true rfl⟩ (fun u H locs hu hP hS => ?_)
  obtain ⟨M14, R14⟩ := u
  have hP : va_P z.1 vwCl (pw (dR (xc z) R14) 25 b M14) H := hP
  obtain ⟨eM14, eR14⟩ := Prod.mk.inj hu
  refine W.widen (k := 24) (n := 1588) (Nat.le_of_ble_eq_true rfl) (Nat.le_of_ble_eq_true rfl) ?_
  have hcl : s.heap.size + 24 = b + 25 := by omega
  refine qpR C hnm hP hS (k := 0) (j := 4) (v := b + 23) (ty := tyX11 4) (Nat.le_of_ble_eq_true rfl) (xr_0 _ _) rfl iw_11 tyX11 tyX11_ok nmX11 (Nat.le_of_ble_eq_true rfl) g_424 rfl rfl rfl (by decide +kernel) rfl rfl (Nat.le_of_ble_eq_true rfl) rfl dX11_init_64 (fun H locs hP hS => ?_)
  obtain ⟨R15, eR15⟩ : ∃ X : Rm, X = uR R14 0 4 (some (b + 23)) := ⟨_, rfl⟩
  rw [← eR15] at hP
  refine lv_aload_n hx hb dX11_init_67 rfl (lv_at hl 0 rfl) ?_
  refine qnw C (by omega) hP hS hcl (ci := 9) iw_9 tyX9 tyX9_ok g_208 g_209 g_9 rfl (fs := [.null, .null, .int 0, .int 0, .int 0, .int 0, .int 0, .int 0]) (by decide) (Nat.le_of_ble_eq_true rfl) (Nat.le_of_ble_eq_true rfl) rfl dX11_init_68 (fun H hP hS hcl => ?_)
  have hP : va_P z.1 vwCl (pw (dR (xc z) (zR R15 25)) 26 b (zM M14 25)) H := hP
  obtain ⟨M16, eM16⟩ : ∃ X : Mem, X = zM M14 25 := ⟨_, rfl⟩
  rw [← eM16] at hP
  obtain ⟨R16, eR16⟩ : ∃ X : Rm, X = zR R15 25 := ⟨_, rfl⟩
  rw [← eR16] at hP
  refine W.widen (k := 25) (n := 1596) (Nat.le_of_ble_eq_true rfl) (Nat.le_of_ble_eq_true rfl) ?_
  have hcl : s.heap.size + 25 = b + 26 := by omega
  refine lv_dup hx hb dX11_init_71 rfl ?_
  refine lv_aload_n hx hb dX11_init_72 rfl (lv_at hl 0 rfl) ?_
  have hgv : (R16 0 2 : Option Nat) = some (b + 11) := by simp [eR1, eR2, eR3, eR4, eR5, eR6, eR7, eR8, eR9, eR10, eR11, eR12, eR13, eR14, eR15, eR16, uR, zR]
  refine qg C hP (k := 0) (j := 2) (v := .ref (b + 11)) (Nat.le_of_ble_eq_true rfl) (xr_0 _ _) rfl iw_11 (Nat.le_of_ble_eq_true rfl) g_422 rfl (by rw [hgv]; rfl) dX11_init_73 ?_
  refine qcI (As := [.ref (b + 11)]) (k := 25) C hAO hP hS hcl (Nat.le_of_ble_eq_true rfl) cq9_init_25 y9_init_w g_210 rfl rfl rfl ⟨Nat.le_of_ble_eq_true rfl, Nat.le_of_ble_eq_true rfl⟩ hl.1 rfl (Nat.le_of_ble_eq_true rfl) dX11_init_76 ⟨Nat.le_of_ble_eq_true rfl, Nat.le_of_ble_eq_true rfl⟩ (fun u H locs hu hP hS => ?_)
  obtain ⟨M17, R17⟩ := u
  have hP : va_P z.1 vwCl (pw (dR (xc z) R17) 27 b M17) H := hP
  obtain ⟨eM17, eR17⟩ := Prod.mk.inj hu
  refine W.widen (k := 26) (n := 1620) (Nat.le_of_ble_eq_true rfl) (Nat.le_of_ble_eq_true rfl) ?_
  have hcl : s.heap.size + 26 = b + 27 := by omega
  refine qpR C hnm hP hS (k := 0) (j := 5) (v := b + 25) (ty := tyX11 5) (Nat.le_of_ble_eq_true rfl) (xr_0 _ _) rfl iw_11 tyX11 tyX11_ok nmX11 (Nat.le_of_ble_eq_true rfl) g_425 rfl rfl rfl (by decide +kernel) rfl rfl (Nat.le_of_ble_eq_true rfl) rfl dX11_init_79 (fun H locs hP hS => ?_)
  obtain ⟨R18, eR18⟩ : ∃ X : Rm, X = uR R17 0 5 (some (b + 25)) := ⟨_, rfl⟩
  rw [← eR18] at hP
  refine lv_aload_n hx hb dX11_init_82 rfl (lv_at hl 0 rfl) ?_
  refine qnw C (by omega) hP hS hcl (ci := 6) iw_6 tyX6 tyX6_ok g_244 g_245 g_10 rfl (fs := [.null, .null, .null, .null, .null, .null, .null, .null, .int 0, .int 0, .int 0, .int 0, .int 0]) (by decide) (Nat.le_of_ble_eq_true rfl) (Nat.le_of_ble_eq_true rfl) rfl dX11_init_83 (fun H hP hS hcl => ?_)
  have hP : va_P z.1 vwCl (pw (dR (xc z) (zR R18 27)) 28 b (zM M17 27)) H := hP
  obtain ⟨M19, eM19⟩ : ∃ X : Mem, X = zM M17 27 := ⟨_, rfl⟩
  rw [← eM19] at hP
  obtain ⟨R19, eR19⟩ : ∃ X : Rm, X = zR R18 27 := ⟨_, rfl⟩
  rw [← eR19] at hP
  refine W.widen (k := 27) (n := 1633) (Nat.le_of_ble_eq_true rfl) (Nat.le_of_ble_eq_true rfl) ?_
  have hcl : s.heap.size + 27 = b + 28 := by omega
  refine lv_dup hx hb dX11_init_86 rfl ?_
  refine lv_aload_n hx hb dX11_init_87 rfl (lv_at hl 0 rfl) ?_
  have hgv : (R19 0 1 : Option Nat) = some (b + 3) := by simp [eR1, eR2, eR3, eR4, eR5, eR6, eR7, eR8, eR9, eR10, eR11, eR12, eR13, eR14, eR15, eR16, eR17, eR18, eR19, uR, zR]
  refine qg C hP (k := 0) (j := 1) (v := .ref (b + 3)) (Nat.le_of_ble_eq_true rfl) (xr_0 _ _) rfl iw_11 (Nat.le_of_ble_eq_true rfl) g_421 rfl (by rw [hgv]; rfl) dX11_init_88 ?_
  refine qcI (As := [.ref (b + 3)]) (k := 27) C hAO hP hS hcl (Nat.le_of_ble_eq_true rfl) cq6_init_27 y6_init_w g_246 rfl rfl rfl ⟨Nat.le_of_ble_eq_true rfl, Nat.le_of_ble_eq_true rfl⟩ hl.1 rfl (Nat.le_of_ble_eq_true rfl) dX11_init_91 ⟨Nat.le_of_ble_eq_true rfl, Nat.le_of_ble_eq_true rfl⟩ (fun u H locs hu hP hS => ?_)
  obtain ⟨M20, R20⟩ := u
  have hP : va_P z.1 vwCl (pw (dR (xc z) R20) 131 b M20) H := hP
  obtain ⟨hA20, hB20, hC20, hD20⟩ := hu
  dsimp only at hA20 hB20 hC20 hD20
  refine W.widen (k := 130) (n := 2309) (Nat.le_of_ble_eq_true rfl) (Nat.le_of_ble_eq_true rfl) ?_
  have hcl : s.heap.size + 130 = b + 131 := by omega
  refine qpR C hnm hP hS (k := 0) (j := 6) (v := b + 27) (ty := tyX11 6) (Nat.le_of_ble_eq_true rfl) (xr_0 _ _) rfl iw_11 tyX11 tyX11_ok nmX11 (Nat.le_of_ble_eq_true rfl) g_426 rfl rfl rfl (by decide +kernel) rfl rfl (Nat.le_of_ble_eq_true rfl) rfl dX11_init_94 (fun H locs hP hS => ?_)
  obtain ⟨R21, eR21⟩ : ∃ X : Rm, X = uR R20 0 6 (some (b + 27)) := ⟨_, rfl⟩
  rw [← eR21] at hP
  refine lv_aload_n hx hb dX11_init_97 rfl (lv_at hl 0 rfl) ?_
  refine qnw C (by omega) hP hS hcl (ci := 1) iw_1 tyX1 tyX1_ok g_299 g_300 g_11 rfl (fs := [.null, .null, .null]) (by decide) (Nat.le_of_ble_eq_true rfl) (Nat.le_of_ble_eq_true rfl) rfl dX11_init_98 (fun H hP hS hcl => ?_)
  have hP : va_P z.1 vwCl (pw (dR (xc z) (zR R21 131)) 132 b (zM M20 131)) H := hP
  obtain ⟨M22, eM22⟩ : ∃ X : Mem, X = zM M20 131 := ⟨_, rfl⟩
  rw [← eM22] at hP
  obtain ⟨R22, eR22⟩ : ∃ X : Rm, X = zR R21 131 := ⟨_, rfl⟩
  rw [← eR22] at hP
  refine W.widen (k := 131) (n := 2312) (Nat.le_of_ble_eq_true rfl) (Nat.le_of_ble_eq_true rfl) ?_
  have hcl : s.heap.size + 131 = b + 132 := by omega
  refine lv_dup hx hb dX11_init_101 rfl ?_
  refine lv_aload_n hx hb dX11_init_102 rfl (lv_at hl 0 rfl) ?_
  have hgv : (R22 0 1 : Option Nat) = some (b + 3) := by simp [eR1, eR2, eR3, eR4, eR5, eR6, eR7, eR8, eR9, eR10, eR11, eR12, eR13, eR14, eR15, eR16, eR17, eR18, eR19, hC20, hD20, eR21, eR22, uR, zR]
  refine qg C hP (k := 0) (j := 1) (v := .ref (b + 3)) (Nat.le_of_ble_eq_true rfl) (xr_0 _ _) rfl iw_11 (Nat.le_of_ble_eq_true rfl) g_421 rfl (by rw [hgv]; rfl) dX11_init_103 ?_
  refine qcI (As := [.ref (b + 3)]) (k := 131) C hAO hP hS hcl (Nat.le_of_ble_eq_true rfl) cq1_init_131 y1_init_w g_301 rfl rfl rfl ⟨Nat.le_of_ble_eq_true rfl, Nat.le_of_ble_eq_true rfl⟩ hl.1 rfl (Nat.le_of_ble_eq_true rfl) dX11_init_106 ⟨Nat.le_of_ble_eq_true rfl, Nat.le_of_ble_eq_true rfl⟩ (fun u H locs hu hP hS => ?_)
  obtain ⟨M23, R23⟩ := u
  have hP : va_P z.1 vwCl (pw (dR (xc z) R23) 326 b M23) H := hP
  obtain ⟨hA23, hB23, hC23, hD23, hE23⟩ := hu
  dsimp only at hA23 hB23 hC23 hD23 hE23
  refine W.widen (k := 325) (n := 2888) (Nat.le_of_ble_eq_true rfl) (Nat.le_of_ble_eq_true rfl) ?_
  have hcl : s.heap.size + 325 = b + 326 := by omega
  refine qpR C hnm hP hS (k := 0) (j := 7) (v := b + 131) (ty := tyX11 7) (Nat.le_of_ble_eq_true rfl) (xr_0 _ _) rfl iw_11 tyX11 tyX11_ok nmX11 (Nat.le_of_ble_eq_true rfl) g_427 rfl rfl rfl (by decide +kernel) rfl rfl (Nat.le_of_ble_eq_true rfl) rfl dX11_init_109 (fun H locs hP hS => ?_)
  obtain ⟨R24, eR24⟩ : ∃ X : Rm, X = uR R23 0 7 (some (b + 131)) := ⟨_, rfl⟩
  rw [← eR24] at hP
  refine lv_aload_n hx hb dX11_init_112 rfl (lv_at hl 0 rfl) ?_
  refine qnw C (by omega) hP hS hcl (ci := 5) iw_5 tyX5 tyX5_ok g_317 g_318 g_12 rfl (fs := [.null, .null, .null, .null, .int 0, .int 0, .long 0]) (by decide) (Nat.le_of_ble_eq_true rfl) (Nat.le_of_ble_eq_true rfl) rfl dX11_init_113 (fun H hP hS hcl => ?_)
  have hP : va_P z.1 vwCl (pw (dR (xc z) (zR R24 326)) 327 b (zM M23 326)) H := hP
  obtain ⟨M25, eM25⟩ : ∃ X : Mem, X = zM M23 326 := ⟨_, rfl⟩
  rw [← eM25] at hP
  obtain ⟨R25, eR25⟩ : ∃ X : Rm, X = zR R24 326 := ⟨_, rfl⟩
  rw [← eR25] at hP
  refine W.widen (k := 326) (n := 2895) (Nat.le_of_ble_eq_true rfl) (Nat.le_of_ble_eq_true rfl) ?_
  have hcl : s.heap.size + 326 = b + 327 := by omega
  refine lv_dup hx hb dX11_init_116 rfl ?_
  refine lv_aload_n hx hb dX11_init_117 rfl (lv_at hl 0 rfl) ?_
  have hgv : (R25 0 1 : Option Nat) = some (b + 3) := by simp [eR1, eR2, eR3, eR4, eR5, eR6, eR7, eR8, eR9, eR10, eR11, eR12, eR13, eR14, eR15, eR16, eR17, eR18, eR19, hC20, hD20, eR21, eR22, hC23, hD23, hE23, eR24, eR25, uR, zR]
  refine qg C hP (k := 0) (j := 1) (v := .ref (b + 3)) (Nat.le_of_ble_eq_true rfl) (xr_0 _ _) rfl iw_11 (Nat.le_of_ble_eq_true rfl) g_421 rfl (by rw [hgv]; rfl) dX11_init_118 ?_
  refine qcI (As := [.ref (b + 3)]) (k := 326) C hAO hP hS hcl (Nat.le_of_ble_eq_true rfl) cq5_init_326 y5_init_w g_319 rfl rfl rfl ⟨Nat.le_of_ble_eq_true rfl, Nat.le_of_ble_eq_true rfl⟩ hl.1 rfl (Nat.le_of_ble_eq_true rfl) dX11_init_121 ⟨Nat.le_of_ble_eq_true rfl, Nat.le_of_ble_eq_true rfl⟩ (fun u H locs hu hP hS => ?_)
  obtain ⟨M26, R26⟩ := u
  have hP : va_P z.1 vwCl (pw (dR (xc z) R26) 330 b M26) H := hP
  obtain ⟨eM26, eR26⟩ := Prod.mk.inj hu
  refine W.widen (k := 329) (n := 8211) (Nat.le_of_ble_eq_true rfl) (Nat.le_of_ble_eq_true rfl) ?_
  have hcl : s.heap.size + 329 = b + 330 := by omega
  refine qpR C hnm hP hS (k := 0) (j := 8) (v := b + 326) (ty := tyX11 8) (Nat.le_of_ble_eq_true rfl) (xr_0 _ _) rfl iw_11 tyX11 tyX11_ok nmX11 (Nat.le_of_ble_eq_true rfl) g_428 rfl rfl rfl (by decide +kernel) rfl rfl (Nat.le_of_ble_eq_true rfl) rfl dX11_init_124 (fun H locs hP hS => ?_)
  obtain ⟨R27, eR27⟩ : ∃ X : Rm, X = uR R26 0 8 (some (b + 326)) := ⟨_, rfl⟩
  rw [← eR27] at hP
  refine lv_aload_n hx hb dX11_init_127 rfl (lv_at hl 0 rfl) ?_
  refine qnw C (by omega) hP hS hcl (ci := 0) iw_0 tyX0 tyX0_ok g_347 g_348 g_13 rfl (fs := [.null, .null, .int 0, .int 0, .int 0, .int 0, .int 0, .int 0]) (by decide) (Nat.le_of_ble_eq_true rfl) (Nat.le_of_ble_eq_true rfl) rfl dX11_init_128 (fun H hP hS hcl => ?_)
  have hP : va_P z.1 vwCl (pw (dR (xc z) (zR R27 330)) 331 b (zM M26 330)) H := hP
  obtain ⟨M28, eM28⟩ : ∃ X : Mem, X = zM M26 330 := ⟨_, rfl⟩
  rw [← eM28] at hP
  obtain ⟨R28, eR28⟩ : ∃ X : Rm, X = zR R27 330 := ⟨_, rfl⟩
  rw [← eR28] at hP
  refine W.widen (k := 330) (n := 8219) (Nat.le_of_ble_eq_true rfl) (Nat.le_of_ble_eq_true rfl) ?_
  have hcl : s.heap.size + 330 = b + 331 := by omega
  refine lv_dup hx hb dX11_init_131 rfl ?_
  refine qcN (As := []) (k := 330) C hAO hP hS hcl (Nat.le_of_ble_eq_true rfl) cq0_init_330 y0_init_w g_349 rfl rfl rfl ⟨Nat.le_of_ble_eq_true rfl, Nat.le_of_ble_eq_true rfl⟩ hl.1 rfl (Nat.le_of_ble_eq_true rfl) dX11_init_132 ⟨Nat.le_of_ble_eq_true rfl, Nat.le_of_ble_eq_true rfl⟩ (fun u H locs hu hP hS => ?_)
  obtain ⟨M29, R29⟩ := u
  have hP : va_P z.1 vwCl (pw (dR (xc z) R29) 333 b M29) H := hP
  obtain ⟨eM29, eR29⟩ := Prod.mk.inj hu
  refine W.widen (k := 332) (n := 8375) (Nat.le_of_ble_eq_true rfl) (Nat.le_of_ble_eq_true rfl) ?_
  have hcl : s.heap.size + 332 = b + 333 := by omega
  refine qpR C hnm hP hS (k := 0) (j := 9) (v := b + 330) (ty := tyX11 9) (Nat.le_of_ble_eq_true rfl) (xr_0 _ _) rfl iw_11 tyX11 tyX11_ok nmX11 (Nat.le_of_ble_eq_true rfl) g_429 rfl rfl rfl (by decide +kernel) rfl rfl (Nat.le_of_ble_eq_true rfl) rfl dX11_init_135 (fun H locs hP hS => ?_)
  obtain ⟨R30, eR30⟩ : ∃ X : Rm, X = uR R29 0 9 (some (b + 330)) := ⟨_, rfl⟩
  rw [← eR30] at hP
  refine lv_aload_n hx hb dX11_init_138 rfl (lv_at hl 0 rfl) ?_
  refine qnw C (by omega) hP hS hcl (ci := 0) iw_0 tyX0 tyX0_ok g_347 g_348 g_13 rfl (fs := [.null, .null, .int 0, .int 0, .int 0, .int 0, .int 0, .int 0]) (by decide) (Nat.le_of_ble_eq_true rfl) (Nat.le_of_ble_eq_true rfl) rfl dX11_init_139 (fun H hP hS hcl => ?_)
  have hP : va_P z.1 vwCl (pw (dR (xc z) (zR R30 333)) 334 b (zM M29 333)) H := hP
  obtain ⟨M31, eM31⟩ : ∃ X : Mem, X = zM M29 333 := ⟨_, rfl⟩
  rw [← eM31] at hP
  obtain ⟨R31, eR31⟩ : ∃ X : Rm, X = zR R30 333 := ⟨_, rfl⟩
  rw [← eR31] at hP
  refine W.widen (k := 333) (n := 8383) (Nat.le_of_ble_eq_true rfl) (Nat.le_of_ble_eq_true rfl) ?_
  have hcl : s.heap.size + 333 = b + 334 := by omega
  refine lv_dup hx hb dX11_init_142 rfl ?_
  refine qcN (As := []) (k := 333) C hAO hP hS hcl (Nat.le_of_ble_eq_true rfl) cq0_init_333 y0_init_w g_349 rfl rfl rfl ⟨Nat.le_of_ble_eq_true rfl, Nat.le_of_ble_eq_true rfl⟩ hl.1 rfl (Nat.le_of_ble_eq_true rfl) dX11_init_143 ⟨Nat.le_of_ble_eq_true rfl, Nat.le_of_ble_eq_true rfl⟩ (fun u H locs hu hP hS => ?_)
  obtain ⟨M32, R32⟩ := u
  have hP : va_P z.1 vwCl (pw (dR (xc z) R32) 336 b M32) H := hP
  obtain ⟨eM32, eR32⟩ := Prod.mk.inj hu
  refine W.widen (k := 335) (n := 8539) (Nat.le_of_ble_eq_true rfl) (Nat.le_of_ble_eq_true rfl) ?_
  have hcl : s.heap.size + 335 = b + 336 := by omega
  refine qpR C hnm hP hS (k := 0) (j := 10) (v := b + 333) (ty := tyX11 10) (Nat.le_of_ble_eq_true rfl) (xr_0 _ _) rfl iw_11 tyX11 tyX11_ok nmX11 (Nat.le_of_ble_eq_true rfl) g_430 rfl rfl rfl (by decide +kernel) rfl rfl (Nat.le_of_ble_eq_true rfl) rfl dX11_init_146 (fun H locs hP hS => ?_)
  obtain ⟨R33, eR33⟩ : ∃ X : Rm, X = uR R32 0 10 (some (b + 333)) := ⟨_, rfl⟩
  rw [← eR33] at hP
  refine lv_aload_n hx hb dX11_init_149 rfl (lv_at hl 0 rfl) ?_
  refine qnw C (by omega) hP hS hcl (ci := 0) iw_0 tyX0 tyX0_ok g_347 g_348 g_13 rfl (fs := [.null, .null, .int 0, .int 0, .int 0, .int 0, .int 0, .int 0]) (by decide) (Nat.le_of_ble_eq_true rfl) (Nat.le_of_ble_eq_true rfl) rfl dX11_init_150 (fun H hP hS hcl => ?_)
  have hP : va_P z.1 vwCl (pw (dR (xc z) (zR R33 336)) 337 b (zM M32 336)) H := hP
  obtain ⟨M34, eM34⟩ : ∃ X : Mem, X = zM M32 336 := ⟨_, rfl⟩
  rw [← eM34] at hP
  obtain ⟨R34, eR34⟩ : ∃ X : Rm, X = zR R33 336 := ⟨_, rfl⟩
  rw [← eR34] at hP
  refine W.widen (k := 336) (n := 8547) (Nat.le_of_ble_eq_true rfl) (Nat.le_of_ble_eq_true rfl) ?_
  have hcl : s.heap.size + 336 = b + 337 := by omega
  refine lv_dup hx hb dX11_init_153 rfl ?_
  refine qcN (As := []) (k := 336) C hAO hP hS hcl (Nat.le_of_ble_eq_true rfl) cq0_init_336 y0_init_w g_349 rfl rfl rfl ⟨Nat.le_of_ble_eq_true rfl, Nat.le_of_ble_eq_true rfl⟩ hl.1 rfl (Nat.le_of_ble_eq_true rfl) dX11_init_154 ⟨Nat.le_of_ble_eq_true rfl, Nat.le_of_ble_eq_true rfl⟩ (fun u H locs hu hP hS => ?_)
  obtain ⟨M35, R35⟩ := u
  have hP : va_P z.1 vwCl (pw (dR (xc z) R35) 339 b M35) H := hP
  obtain ⟨eM35, eR35⟩ := Prod.mk.inj hu
  refine W.widen (k := 338) (n := 8703) (Nat.le_of_ble_eq_true rfl) (Nat.le_of_ble_eq_true rfl) ?_
  have hcl : s.heap.size + 338 = b + 339 := by omega
  refine qpR C hnm hP hS (k := 0) (j := 11) (v := b + 336) (ty := tyX11 11) (Nat.le_of_ble_eq_true rfl) (xr_0 _ _) rfl iw_11 tyX11 tyX11_ok nmX11 (Nat.le_of_ble_eq_true rfl) g_431 rfl rfl rfl (by decide +kernel) rfl rfl (Nat.le_of_ble_eq_true rfl) rfl dX11_init_157 (fun H locs hP hS => ?_)
  obtain ⟨R36, eR36⟩ : ∃ X : Rm, X = uR R35 0 11 (some (b + 336)) := ⟨_, rfl⟩
  rw [← eR36] at hP
  refine lv_aload_n hx hb dX11_init_160 rfl (lv_at hl 0 rfl) ?_
  refine lv_iconst (v := (0 : Int32)) hx hb dX11_init_161 (by decide) ?_
  refine qpI C hP hS (k := 0) (j := 12) (ty := .boolean) (Nat.le_of_ble_eq_true rfl) (xr_0 _ _) rfl iw_11 tyX11 tyX11_ok nmX11 (Nat.le_of_ble_eq_true rfl) g_432 rfl rfl (by decide +kernel) rfl rfl (Nat.le_of_ble_eq_true rfl) rfl dX11_init_162 (fun H locs hP hS => ?_)
  obtain ⟨M37, eM37⟩ : ∃ X : Mem, X = wI M35 0 12 (0 : Int32) := ⟨_, rfl⟩
  rw [← eM37] at hP
  have h_0_0 : R36 0 0 = some (b + 1) := by simp [eR1, eR2, eR3, eR4, eR5, eR6, eR7, eR8, eR9, eR10, eR11, eR12, eR13, eR14, eR15, eR16, eR17, eR18, eR19, hC20, hD20, eR21, eR22, hC23, hD23, hE23, eR24, eR25, eR26, eR27, eR28, eR29, eR30, eR31, eR32, eR33, eR34, eR35, eR36, uR, zR]
  have h_0_1 : R36 0 1 = some (b + 3) := by simp [eR1, eR2, eR3, eR4, eR5, eR6, eR7, eR8, eR9, eR10, eR11, eR12, eR13, eR14, eR15, eR16, eR17, eR18, eR19, hC20, hD20, eR21, eR22, hC23, hD23, hE23, eR24, eR25, eR26, eR27, eR28, eR29, eR30, eR31, eR32, eR33, eR34, eR35, eR36, uR, zR]
  have h_0_2 : R36 0 2 = some (b + 11) := by simp [eR1, eR2, eR3, eR4, eR5, eR6, eR7, eR8, eR9, eR10, eR11, eR12, eR13, eR14, eR15, eR16, eR17, eR18, eR19, hC20, hD20, eR21, eR22, hC23, hD23, hE23, eR24, eR25, eR26, eR27, eR28, eR29, eR30, eR31, eR32, eR33, eR34, eR35, eR36, uR, zR]
  have h_0_3 : R36 0 3 = some (b + 17) := by simp [eR1, eR2, eR3, eR4, eR5, eR6, eR7, eR8, eR9, eR10, eR11, eR12, eR13, eR14, eR15, eR16, eR17, eR18, eR19, hC20, hD20, eR21, eR22, hC23, hD23, hE23, eR24, eR25, eR26, eR27, eR28, eR29, eR30, eR31, eR32, eR33, eR34, eR35, eR36, uR, zR]
  have h_0_4 : R36 0 4 = some (b + 23) := by simp [eR1, eR2, eR3, eR4, eR5, eR6, eR7, eR8, eR9, eR10, eR11, eR12, eR13, eR14, eR15, eR16, eR17, eR18, eR19, hC20, hD20, eR21, eR22, hC23, hD23, hE23, eR24, eR25, eR26, eR27, eR28, eR29, eR30, eR31, eR32, eR33, eR34, eR35, eR36, uR, zR]
  have h_0_5 : R36 0 5 = some (b + 25) := by simp [eR1, eR2, eR3, eR4, eR5, eR6, eR7, eR8, eR9, eR10, eR11, eR12, eR13, eR14, eR15, eR16, eR17, eR18, eR19, hC20, hD20, eR21, eR22, hC23, hD23, hE23, eR24, eR25, eR26, eR27, eR28, eR29, eR30, eR31, eR32, eR33, eR34, eR35, eR36, uR, zR]
  have h_0_6 : R36 0 6 = some (b + 27) := by simp [eR1, eR2, eR3, eR4, eR5, eR6, eR7, eR8, eR9, eR10, eR11, eR12, eR13, eR14, eR15, eR16, eR17, eR18, eR19, hC20, hD20, eR21, eR22, hC23, hD23, hE23, eR24, eR25, eR26, eR27, eR28, eR29, eR30, eR31, eR32, eR33, eR34, eR35, eR36, uR, zR]
  have h_0_7 : R36 0 7 = some (b + 131) := by simp [eR1, eR2, eR3, eR4, eR5, eR6, eR7, eR8, eR9, eR10, eR11, eR12, eR13, eR14, eR15, eR16, eR17, eR18, eR19, hC20, hD20, eR21, eR22, hC23, hD23, hE23, eR24, eR25, eR26, eR27, eR28, eR29, eR30, eR31, eR32, eR33, eR34, eR35, eR36, uR, zR]
  have h_0_8 : R36 0 8 = some (b + 326) := by simp [eR1, eR2, eR3, eR4, eR5, eR6, eR7, eR8, eR9, eR10, eR11, eR12, eR13, eR14, eR15, eR16, eR17, eR18, eR19, hC20, hD20, eR21, eR22, hC23, hD23, hE23, eR24, eR25, eR26, eR27, eR28, eR29, eR30, eR31, eR32, eR33, eR34, eR35, eR36, uR, zR]
  have h_0_9 : R36 0 9 = some (b + 330) := by simp [eR1, eR2, eR3, eR4, eR5, eR6, eR7, eR8, eR9, eR10, eR11, eR12, eR13, eR14, eR15, eR16, eR17, eR18, eR19, hC20, hD20, eR21, eR22, hC23, hD23, hE23, eR24, eR25, eR26, eR27, eR28, eR29, eR30, eR31, eR32, eR33, eR34, eR35, eR36, uR, zR]
  have h_0_10 : R36 0 10 = some (b + 333) := by simp [eR1, eR2, eR3, eR4, eR5, eR6, eR7, eR8, eR9, eR10, eR11, eR12, eR13, eR14, eR15, eR16, eR17, eR18, eR19, hC20, hD20, eR21, eR22, hC23, hD23, hE23, eR24, eR25, eR26, eR27, eR28, eR29, eR30, eR31, eR32, eR33, eR34, eR35, eR36, uR, zR]
  have h_0_11 : R36 0 11 = some (b + 336) := by simp [eR1, eR2, eR3, eR4, eR5, eR6, eR7, eR8, eR9, eR10, eR11, eR12, eR13, eR14, eR15, eR16, eR17, eR18, eR19, hC20, hD20, eR21, eR22, hC23, hD23, hE23, eR24, eR25, eR26, eR27, eR28, eR29, eR30, eR31, eR32, eR33, eR34, eR35, eR36, uR, zR]
  have h_1_0 : R36 1 0 = some (b + 2) := by simp [eR1, eR2, eR3, eR4, eR5, eR6, eR7, eR8, eR9, eR10, eR11, eR12, eR13, eR14, eR15, eR16, eR17, eR18, eR19, hC20, hD20, eR21, eR22, hC23, hD23, hE23, eR24, eR25, eR26, eR27, eR28, eR29, eR30, eR31, eR32, eR33, eR34, eR35, eR36, uR, zR]
  have h_3_0 : R36 3 0 = some (b + 4) := by simp [eR1, eR2, eR3, eR4, eR5, eR6, eR7, eR8, eR9, eR10, eR11, eR12, eR13, eR14, eR15, eR16, eR17, eR18, eR19, hC20, hD20, eR21, eR22, hC23, hD23, hE23, eR24, eR25, eR26, eR27, eR28, eR29, eR30, eR31, eR32, eR33, eR34, eR35, eR36, uR, zR]
  have h_3_1 : R36 3 1 = some (b + 5) := by simp [eR1, eR2, eR3, eR4, eR5, eR6, eR7, eR8, eR9, eR10, eR11, eR12, eR13, eR14, eR15, eR16, eR17, eR18, eR19, hC20, hD20, eR21, eR22, hC23, hD23, hE23, eR24, eR25, eR26, eR27, eR28, eR29, eR30, eR31, eR32, eR33, eR34, eR35, eR36, uR, zR]
  have h_3_2 : R36 3 2 = some (b + 6) := by simp [eR1, eR2, eR3, eR4, eR5, eR6, eR7, eR8, eR9, eR10, eR11, eR12, eR13, eR14, eR15, eR16, eR17, eR18, eR19, hC20, hD20, eR21, eR22, hC23, hD23, hE23, eR24, eR25, eR26, eR27, eR28, eR29, eR30, eR31, eR32, eR33, eR34, eR35, eR36, uR, zR]
  have h_3_3 : R36 3 3 = some (b + 7) := by simp [eR1, eR2, eR3, eR4, eR5, eR6, eR7, eR8, eR9, eR10, eR11, eR12, eR13, eR14, eR15, eR16, eR17, eR18, eR19, hC20, hD20, eR21, eR22, hC23, hD23, hE23, eR24, eR25, eR26, eR27, eR28, eR29, eR30, eR31, eR32, eR33, eR34, eR35, eR36, uR, zR]
  have h_3_4 : R36 3 4 = some (b + 8) := by simp [eR1, eR2, eR3, eR4, eR5, eR6, eR7, eR8, eR9, eR10, eR11, eR12, eR13, eR14, eR15, eR16, eR17, eR18, eR19, hC20, hD20, eR21, eR22, hC23, hD23, hE23, eR24, eR25, eR26, eR27, eR28, eR29, eR30, eR31, eR32, eR33, eR34, eR35, eR36, uR, zR]
  have h_3_5 : R36 3 5 = some (b + 9) := by simp [eR1, eR2, eR3, eR4, eR5, eR6, eR7, eR8, eR9, eR10, eR11, eR12, eR13, eR14, eR15, eR16, eR17, eR18, eR19, hC20, hD20, eR21, eR22, hC23, hD23, hE23, eR24, eR25, eR26, eR27, eR28, eR29, eR30, eR31, eR32, eR33, eR34, eR35, eR36, uR, zR]
  have h_3_6 : R36 3 6 = some (b + 10) := by simp [eR1, eR2, eR3, eR4, eR5, eR6, eR7, eR8, eR9, eR10, eR11, eR12, eR13, eR14, eR15, eR16, eR17, eR18, eR19, hC20, hD20, eR21, eR22, hC23, hD23, hE23, eR24, eR25, eR26, eR27, eR28, eR29, eR30, eR31, eR32, eR33, eR34, eR35, eR36, uR, zR]
  have h_11_0 : R36 11 0 = some (b + 12) := by simp [eR1, eR2, eR3, eR4, eR5, eR6, eR7, eR8, eR9, eR10, eR11, eR12, eR13, eR14, eR15, eR16, eR17, eR18, eR19, hC20, hD20, eR21, eR22, hC23, hD23, hE23, eR24, eR25, eR26, eR27, eR28, eR29, eR30, eR31, eR32, eR33, eR34, eR35, eR36, uR, zR]
  have h_11_1 : R36 11 1 = some (b + 13) := by simp [eR1, eR2, eR3, eR4, eR5, eR6, eR7, eR8, eR9, eR10, eR11, eR12, eR13, eR14, eR15, eR16, eR17, eR18, eR19, hC20, hD20, eR21, eR22, hC23, hD23, hE23, eR24, eR25, eR26, eR27, eR28, eR29, eR30, eR31, eR32, eR33, eR34, eR35, eR36, uR, zR]
  have h_11_2 : R36 11 2 = some (b + 14) := by simp [eR1, eR2, eR3, eR4, eR5, eR6, eR7, eR8, eR9, eR10, eR11, eR12, eR13, eR14, eR15, eR16, eR17, eR18, eR19, hC20, hD20, eR21, eR22, hC23, hD23, hE23, eR24, eR25, eR26, eR27, eR28, eR29, eR30, eR31, eR32, eR33, eR34, eR35, eR36, uR, zR]
  have h_11_4 : R36 11 4 = some (b + 15) := by simp [eR1, eR2, eR3, eR4, eR5, eR6, eR7, eR8, eR9, eR10, eR11, eR12, eR13, eR14, eR15, eR16, eR17, eR18, eR19, hC20, hD20, eR21, eR22, hC23, hD23, hE23, eR24, eR25, eR26, eR27, eR28, eR29, eR30, eR31, eR32, eR33, eR34, eR35, eR36, uR, zR]
  have h_11_5 : R36 11 5 = some (b + 16) := by simp [eR1, eR2, eR3, eR4, eR5, eR6, eR7, eR8, eR9, eR10, eR11, eR12, eR13, eR14, eR15, eR16, eR17, eR18, eR19, hC20, hD20, eR21, eR22, hC23, hD23, hE23, eR24, eR25, eR26, eR27, eR28, eR29, eR30, eR31, eR32, eR33, eR34, eR35, eR36, uR, zR]
  have h_17_0 : R36 17 0 = some (b + 18) := by simp [eR1, eR2, eR3, eR4, eR5, eR6, eR7, eR8, eR9, eR10, eR11, eR12, eR13, eR14, eR15, eR16, eR17, eR18, eR19, hC20, hD20, eR21, eR22, hC23, hD23, hE23, eR24, eR25, eR26, eR27, eR28, eR29, eR30, eR31, eR32, eR33, eR34, eR35, eR36, uR, zR]
  have h_17_1 : R36 17 1 = some (b + 19) := by simp [eR1, eR2, eR3, eR4, eR5, eR6, eR7, eR8, eR9, eR10, eR11, eR12, eR13, eR14, eR15, eR16, eR17, eR18, eR19, hC20, hD20, eR21, eR22, hC23, hD23, hE23, eR24, eR25, eR26, eR27, eR28, eR29, eR30, eR31, eR32, eR33, eR34, eR35, eR36, uR, zR]
  have h_17_2 : R36 17 2 = some (b + 20) := by simp [eR1, eR2, eR3, eR4, eR5, eR6, eR7, eR8, eR9, eR10, eR11, eR12, eR13, eR14, eR15, eR16, eR17, eR18, eR19, hC20, hD20, eR21, eR22, hC23, hD23, hE23, eR24, eR25, eR26, eR27, eR28, eR29, eR30, eR31, eR32, eR33, eR34, eR35, eR36, uR, zR]
  have h_17_3 : R36 17 3 = some (b + 21) := by simp [eR1, eR2, eR3, eR4, eR5, eR6, eR7, eR8, eR9, eR10, eR11, eR12, eR13, eR14, eR15, eR16, eR17, eR18, eR19, hC20, hD20, eR21, eR22, hC23, hD23, hE23, eR24, eR25, eR26, eR27, eR28, eR29, eR30, eR31, eR32, eR33, eR34, eR35, eR36, uR, zR]
  have h_17_4 : R36 17 4 = some (b + 22) := by simp [eR1, eR2, eR3, eR4, eR5, eR6, eR7, eR8, eR9, eR10, eR11, eR12, eR13, eR14, eR15, eR16, eR17, eR18, eR19, hC20, hD20, eR21, eR22, hC23, hD23, hE23, eR24, eR25, eR26, eR27, eR28, eR29, eR30, eR31, eR32, eR33, eR34, eR35, eR36, uR, zR]
  have h_23_0 : R36 23 0 = some (b + 3) := by simp [eR1, eR2, eR3, eR4, eR5, eR6, eR7, eR8, eR9, eR10, eR11, eR12, eR13, eR14, eR15, eR16, eR17, eR18, eR19, hC20, hD20, eR21, eR22, hC23, hD23, hE23, eR24, eR25, eR26, eR27, eR28, eR29, eR30, eR31, eR32, eR33, eR34, eR35, eR36, uR, zR]
  have h_23_1 : R36 23 1 = some (b + 11) := by simp [eR1, eR2, eR3, eR4, eR5, eR6, eR7, eR8, eR9, eR10, eR11, eR12, eR13, eR14, eR15, eR16, eR17, eR18, eR19, hC20, hD20, eR21, eR22, hC23, hD23, hE23, eR24, eR25, eR26, eR27, eR28, eR29, eR30, eR31, eR32, eR33, eR34, eR35, eR36, uR, zR]
  have h_23_2 : R36 23 2 = some (b + 24) := by simp [eR1, eR2, eR3, eR4, eR5, eR6, eR7, eR8, eR9, eR10, eR11, eR12, eR13, eR14, eR15, eR16, eR17, eR18, eR19, hC20, hD20, eR21, eR22, hC23, hD23, hE23, eR24, eR25, eR26, eR27, eR28, eR29, eR30, eR31, eR32, eR33, eR34, eR35, eR36, uR, zR]
  have h_25_0 : R36 25 0 = some (b + 11) := by simp [eR1, eR2, eR3, eR4, eR5, eR6, eR7, eR8, eR9, eR10, eR11, eR12, eR13, eR14, eR15, eR16, eR17, eR18, eR19, hC20, hD20, eR21, eR22, hC23, hD23, hE23, eR24, eR25, eR26, eR27, eR28, eR29, eR30, eR31, eR32, eR33, eR34, eR35, eR36, uR, zR]
  have h_25_1 : R36 25 1 = some (b + 26) := by simp [eR1, eR2, eR3, eR4, eR5, eR6, eR7, eR8, eR9, eR10, eR11, eR12, eR13, eR14, eR15, eR16, eR17, eR18, eR19, hC20, hD20, eR21, eR22, hC23, hD23, hE23, eR24, eR25, eR26, eR27, eR28, eR29, eR30, eR31, eR32, eR33, eR34, eR35, eR36, uR, zR]
  have h_27_0 : R36 27 0 = some (b + 3) := by simp [eR1, eR2, eR3, eR4, eR5, eR6, eR7, eR8, eR9, eR10, eR11, eR12, eR13, eR14, eR15, eR16, eR17, eR18, eR19, hC20, hD20, eR21, eR22, hC23, hD23, hE23, eR24, eR25, eR26, eR27, eR28, eR29, eR30, eR31, eR32, eR33, eR34, eR35, eR36, uR, zR]
  have h_27_1 : R36 27 1 = some (b + 28) := by simp [eR1, eR2, eR3, eR4, eR5, eR6, eR7, eR8, eR9, eR10, eR11, eR12, eR13, eR14, eR15, eR16, eR17, eR18, eR19, hC20, hD20, eR21, eR22, hC23, hD23, hE23, eR24, eR25, eR26, eR27, eR28, eR29, eR30, eR31, eR32, eR33, eR34, eR35, eR36, uR, zR]
  have h_27_2 : R36 27 2 = some (b + 29) := by simp [eR1, eR2, eR3, eR4, eR5, eR6, eR7, eR8, eR9, eR10, eR11, eR12, eR13, eR14, eR15, eR16, eR17, eR18, eR19, hC20, hD20, eR21, eR22, hC23, hD23, hE23, eR24, eR25, eR26, eR27, eR28, eR29, eR30, eR31, eR32, eR33, eR34, eR35, eR36, uR, zR]
  have h_27_3 : R36 27 3 = some (b + 30) := by simp [eR1, eR2, eR3, eR4, eR5, eR6, eR7, eR8, eR9, eR10, eR11, eR12, eR13, eR14, eR15, eR16, eR17, eR18, eR19, hC20, hD20, eR21, eR22, hC23, hD23, hE23, eR24, eR25, eR26, eR27, eR28, eR29, eR30, eR31, eR32, eR33, eR34, eR35, eR36, uR, zR]
  have h_27_4 : R36 27 4 = some (b + 31) := by simp [eR1, eR2, eR3, eR4, eR5, eR6, eR7, eR8, eR9, eR10, eR11, eR12, eR13, eR14, eR15, eR16, eR17, eR18, eR19, hC20, hD20, eR21, eR22, hC23, hD23, hE23, eR24, eR25, eR26, eR27, eR28, eR29, eR30, eR31, eR32, eR33, eR34, eR35, eR36, uR, zR]
  have h_27_5 : R36 27 5 = some (b + 32) := by simp [eR1, eR2, eR3, eR4, eR5, eR6, eR7, eR8, eR9, eR10, eR11, eR12, eR13, eR14, eR15, eR16, eR17, eR18, eR19, hC20, hD20, eR21, eR22, hC23, hD23, hE23, eR24, eR25, eR26, eR27, eR28, eR29, eR30, eR31, eR32, eR33, eR34, eR35, eR36, uR, zR]
  have h_27_6 : R36 27 6 = some (b + 33) := by simp [eR1, eR2, eR3, eR4, eR5, eR6, eR7, eR8, eR9, eR10, eR11, eR12, eR13, eR14, eR15, eR16, eR17, eR18, eR19, hC20, hD20, eR21, eR22, hC23, hD23, hE23, eR24, eR25, eR26, eR27, eR28, eR29, eR30, eR31, eR32, eR33, eR34, eR35, eR36, uR, zR]
  have h_27_7 : R36 27 7 = some (b + 34) := by simp [eR1, eR2, eR3, eR4, eR5, eR6, eR7, eR8, eR9, eR10, eR11, eR12, eR13, eR14, eR15, eR16, eR17, eR18, eR19, hC20, hD20, eR21, eR22, hC23, hD23, hE23, eR24, eR25, eR26, eR27, eR28, eR29, eR30, eR31, eR32, eR33, eR34, eR35, eR36, uR, zR]
  have h_131_0 : R36 131 0 = some (b + 3) := by simp [eR1, eR2, eR3, eR4, eR5, eR6, eR7, eR8, eR9, eR10, eR11, eR12, eR13, eR14, eR15, eR16, eR17, eR18, eR19, hC20, hD20, eR21, eR22, hC23, hD23, hE23, eR24, eR25, eR26, eR27, eR28, eR29, eR30, eR31, eR32, eR33, eR34, eR35, eR36, uR, zR]
  have h_131_1 : R36 131 1 = some (b + 132) := by simp [eR1, eR2, eR3, eR4, eR5, eR6, eR7, eR8, eR9, eR10, eR11, eR12, eR13, eR14, eR15, eR16, eR17, eR18, eR19, hC20, hD20, eR21, eR22, hC23, hD23, hE23, eR24, eR25, eR26, eR27, eR28, eR29, eR30, eR31, eR32, eR33, eR34, eR35, eR36, uR, zR]
  have h_131_2 : R36 131 2 = some (b + 133) := by simp [eR1, eR2, eR3, eR4, eR5, eR6, eR7, eR8, eR9, eR10, eR11, eR12, eR13, eR14, eR15, eR16, eR17, eR18, eR19, hC20, hD20, eR21, eR22, hC23, hD23, hE23, eR24, eR25, eR26, eR27, eR28, eR29, eR30, eR31, eR32, eR33, eR34, eR35, eR36, uR, zR]
  have h_326_0 : R36 326 0 = some (b + 3) := by simp [eR1, eR2, eR3, eR4, eR5, eR6, eR7, eR8, eR9, eR10, eR11, eR12, eR13, eR14, eR15, eR16, eR17, eR18, eR19, hC20, hD20, eR21, eR22, hC23, hD23, hE23, eR24, eR25, eR26, eR27, eR28, eR29, eR30, eR31, eR32, eR33, eR34, eR35, eR36, uR, zR]
  have h_326_1 : R36 326 1 = some (b + 327) := by simp [eR1, eR2, eR3, eR4, eR5, eR6, eR7, eR8, eR9, eR10, eR11, eR12, eR13, eR14, eR15, eR16, eR17, eR18, eR19, hC20, hD20, eR21, eR22, hC23, hD23, hE23, eR24, eR25, eR26, eR27, eR28, eR29, eR30, eR31, eR32, eR33, eR34, eR35, eR36, uR, zR]
  have h_326_2 : R36 326 2 = some (b + 328) := by simp [eR1, eR2, eR3, eR4, eR5, eR6, eR7, eR8, eR9, eR10, eR11, eR12, eR13, eR14, eR15, eR16, eR17, eR18, eR19, hC20, hD20, eR21, eR22, hC23, hD23, hE23, eR24, eR25, eR26, eR27, eR28, eR29, eR30, eR31, eR32, eR33, eR34, eR35, eR36, uR, zR]
  have h_326_3 : R36 326 3 = some (b + 329) := by simp [eR1, eR2, eR3, eR4, eR5, eR6, eR7, eR8, eR9, eR10, eR11, eR12, eR13, eR14, eR15, eR16, eR17, eR18, eR19, hC20, hD20, eR21, eR22, hC23, hD23, hE23, eR24, eR25, eR26, eR27, eR28, eR29, eR30, eR31, eR32, eR33, eR34, eR35, eR36, uR, zR]
  have h_330_0 : R36 330 0 = some (b + 331) := by simp [eR1, eR2, eR3, eR4, eR5, eR6, eR7, eR8, eR9, eR10, eR11, eR12, eR13, eR14, eR15, eR16, eR17, eR18, eR19, hC20, hD20, eR21, eR22, hC23, hD23, hE23, eR24, eR25, eR26, eR27, eR28, eR29, eR30, eR31, eR32, eR33, eR34, eR35, eR36, uR, zR]
  have h_330_1 : R36 330 1 = some (b + 332) := by simp [eR1, eR2, eR3, eR4, eR5, eR6, eR7, eR8, eR9, eR10, eR11, eR12, eR13, eR14, eR15, eR16, eR17, eR18, eR19, hC20, hD20, eR21, eR22, hC23, hD23, hE23, eR24, eR25, eR26, eR27, eR28, eR29, eR30, eR31, eR32, eR33, eR34, eR35, eR36, uR, zR]
  have h_333_0 : R36 333 0 = some (b + 334) := by simp [eR1, eR2, eR3, eR4, eR5, eR6, eR7, eR8, eR9, eR10, eR11, eR12, eR13, eR14, eR15, eR16, eR17, eR18, eR19, hC20, hD20, eR21, eR22, hC23, hD23, hE23, eR24, eR25, eR26, eR27, eR28, eR29, eR30, eR31, eR32, eR33, eR34, eR35, eR36, uR, zR]
  have h_333_1 : R36 333 1 = some (b + 335) := by simp [eR1, eR2, eR3, eR4, eR5, eR6, eR7, eR8, eR9, eR10, eR11, eR12, eR13, eR14, eR15, eR16, eR17, eR18, eR19, hC20, hD20, eR21, eR22, hC23, hD23, hE23, eR24, eR25, eR26, eR27, eR28, eR29, eR30, eR31, eR32, eR33, eR34, eR35, eR36, uR, zR]
  have h_336_0 : R36 336 0 = some (b + 337) := by simp [eR1, eR2, eR3, eR4, eR5, eR6, eR7, eR8, eR9, eR10, eR11, eR12, eR13, eR14, eR15, eR16, eR17, eR18, eR19, hC20, hD20, eR21, eR22, hC23, hD23, hE23, eR24, eR25, eR26, eR27, eR28, eR29, eR30, eR31, eR32, eR33, eR34, eR35, eR36, uR, zR]
  have h_336_1 : R36 336 1 = some (b + 338) := by simp [eR1, eR2, eR3, eR4, eR5, eR6, eR7, eR8, eR9, eR10, eR11, eR12, eR13, eR14, eR15, eR16, eR17, eR18, eR19, hC20, hD20, eR21, eR22, hC23, hD23, hE23, eR24, eR25, eR26, eR27, eR28, eR29, eR30, eR31, eR32, eR33, eR34, eR35, eR36, uR, zR]
  have h_32 : ∀ j, j < 96 → R36 32 j = some (b + (35 + 1 * j)) := by intro j hj; simp [eR1, eR2, eR3, eR4, eR5, eR6, eR7, eR8, eR9, eR10, eR11, eR12, eR13, eR14, eR15, eR16, eR17, eR18, eR19, hC20, hD20, eR21, eR22, hC23, hD23, hE23, eR24, eR25, eR26, eR27, eR28, eR29, eR30, eR31, eR32, eR33, eR34, eR35, eR36, uR, zR, hj]
  have h_132 : ∀ j, j < 96 → R36 132 j = some (b + (134 + 2 * j)) := by intro j hj; simp [eR1, eR2, eR3, eR4, eR5, eR6, eR7, eR8, eR9, eR10, eR11, eR12, eR13, eR14, eR15, eR16, eR17, eR18, eR19, hC20, hD20, eR21, eR22, hC23, hD23, hE23, eR24, eR25, eR26, eR27, eR28, eR29, eR30, eR31, eR32, eR33, eR34, eR35, eR36, uR, zR, hj]
  have h_133 : ∀ j, j < 96 → R36 133 j = some (b + (135 + 2 * j)) := by intro j hj; simp [eR1, eR2, eR3, eR4, eR5, eR6, eR7, eR8, eR9, eR10, eR11, eR12, eR13, eR14, eR15, eR16, eR17, eR18, eR19, hC20, hD20, eR21, eR22, hC23, hD23, hE23, eR24, eR25, eR26, eR27, eR28, eR29, eR30, eR31, eR32, eR33, eR34, eR35, eR36, uR, zR, hj]
  have f_0 : ∀ j, j < 96 → M37.1 4 j = 2 := by
    intro j hj
    rw [show M37.1 4 j = M35.1 4 j from (by rw [eM37]; simp [wI, wJ, wR, zM])]
    rw [show M35.1 4 j = M34.1 4 j from (by rw [eM35]; simp [wI, wJ, wR, zM])]
    rw [show M34.1 4 j = M32.1 4 j from (by rw [eM34]; simp [wI, wJ, wR, zM])]
    rw [show M32.1 4 j = M31.1 4 j from (by rw [eM32]; simp [wI, wJ, wR, zM])]
    rw [show M31.1 4 j = M29.1 4 j from (by rw [eM31]; simp [wI, wJ, wR, zM])]
    rw [show M29.1 4 j = M28.1 4 j from (by rw [eM29]; simp [wI, wJ, wR, zM])]
    rw [show M28.1 4 j = M26.1 4 j from (by rw [eM28]; simp [wI, wJ, wR, zM])]
    rw [show M26.1 4 j = M25.1 4 j from (by rw [eM26]; simp [wI, wJ, wR, zM])]
    rw [show M25.1 4 j = M23.1 4 j from (by rw [eM25]; simp [wI, wJ, wR, zM])]
    rw [show M23.1 4 j = M22.1 4 j from (by rw [hA23 4 j (by decide)]; simp [wI, wJ, wR, zM])]
    rw [show M22.1 4 j = M20.1 4 j from (by rw [eM22]; simp [wI, wJ, wR, zM])]
    rw [show M20.1 4 j = M19.1 4 j from (by rw [hA20 4 j (by decide)]; simp [wI, wJ, wR, zM])]
    rw [show M19.1 4 j = M17.1 4 j from (by rw [eM19]; simp [wI, wJ, wR, zM])]
    rw [show M17.1 4 j = M16.1 4 j from (by rw [eM17]; simp [wI, wJ, wR, zM])]
    rw [show M16.1 4 j = M14.1 4 j from (by rw [eM16]; simp [wI, wJ, wR, zM])]
    rw [show M14.1 4 j = M13.1 4 j from (by rw [eM14]; simp [wI, wJ, wR, zM])]
    rw [show M13.1 4 j = M11.1 4 j from (by rw [eM13]; simp [wI, wJ, wR, zM])]
    rw [show M11.1 4 j = M10.1 4 j from (by rw [eM11]; simp [wI, wJ, wR, zM])]
    rw [show M10.1 4 j = M8.1 4 j from (by rw [eM10]; simp [wI, wJ, wR, zM])]
    rw [show M8.1 4 j = M7.1 4 j from (by rw [eM8]; simp [wI, wJ, wR, zM])]
    rw [show M7.1 4 j = M5.1 4 j from (by rw [eM7]; simp [wI, wJ, wR, zM])]
    rw [eM5]
    simp [wI, wJ, wR, zM, hj]
  have f_1 : ∀ j, j < 10 → M37.1 6 j = -1 := by
    intro j hj
    rw [show M37.1 6 j = M35.1 6 j from (by rw [eM37]; simp [wI, wJ, wR, zM])]
    rw [show M35.1 6 j = M34.1 6 j from (by rw [eM35]; simp [wI, wJ, wR, zM])]
    rw [show M34.1 6 j = M32.1 6 j from (by rw [eM34]; simp [wI, wJ, wR, zM])]
    rw [show M32.1 6 j = M31.1 6 j from (by rw [eM32]; simp [wI, wJ, wR, zM])]
    rw [show M31.1 6 j = M29.1 6 j from (by rw [eM31]; simp [wI, wJ, wR, zM])]
    rw [show M29.1 6 j = M28.1 6 j from (by rw [eM29]; simp [wI, wJ, wR, zM])]
    rw [show M28.1 6 j = M26.1 6 j from (by rw [eM28]; simp [wI, wJ, wR, zM])]
    rw [show M26.1 6 j = M25.1 6 j from (by rw [eM26]; simp [wI, wJ, wR, zM])]
    rw [show M25.1 6 j = M23.1 6 j from (by rw [eM25]; simp [wI, wJ, wR, zM])]
    rw [show M23.1 6 j = M22.1 6 j from (by rw [hA23 6 j (by decide)]; simp [wI, wJ, wR, zM])]
    rw [show M22.1 6 j = M20.1 6 j from (by rw [eM22]; simp [wI, wJ, wR, zM])]
    rw [show M20.1 6 j = M19.1 6 j from (by rw [hA20 6 j (by decide)]; simp [wI, wJ, wR, zM])]
    rw [show M19.1 6 j = M17.1 6 j from (by rw [eM19]; simp [wI, wJ, wR, zM])]
    rw [show M17.1 6 j = M16.1 6 j from (by rw [eM17]; simp [wI, wJ, wR, zM])]
    rw [show M16.1 6 j = M14.1 6 j from (by rw [eM16]; simp [wI, wJ, wR, zM])]
    rw [show M14.1 6 j = M13.1 6 j from (by rw [eM14]; simp [wI, wJ, wR, zM])]
    rw [show M13.1 6 j = M11.1 6 j from (by rw [eM13]; simp [wI, wJ, wR, zM])]
    rw [show M11.1 6 j = M10.1 6 j from (by rw [eM11]; simp [wI, wJ, wR, zM])]
    rw [show M10.1 6 j = M8.1 6 j from (by rw [eM10]; simp [wI, wJ, wR, zM])]
    rw [show M8.1 6 j = M7.1 6 j from (by rw [eM8]; simp [wI, wJ, wR, zM])]
    rw [show M7.1 6 j = M5.1 6 j from (by rw [eM7]; simp [wI, wJ, wR, zM])]
    rw [eM5]
    simp [wI, wJ, wR, zM, hj]
  have f_2 : M37.1 3 7 = 0 := by
    rw [show M37.1 3 7 = M35.1 3 7 from (by rw [eM37]; simp [wI, wJ, wR, zM])]
    rw [show M35.1 3 7 = M34.1 3 7 from (by rw [eM35]; simp [wI, wJ, wR, zM])]
    rw [show M34.1 3 7 = M32.1 3 7 from (by rw [eM34]; simp [wI, wJ, wR, zM])]
    rw [show M32.1 3 7 = M31.1 3 7 from (by rw [eM32]; simp [wI, wJ, wR, zM])]
    rw [show M31.1 3 7 = M29.1 3 7 from (by rw [eM31]; simp [wI, wJ, wR, zM])]
    rw [show M29.1 3 7 = M28.1 3 7 from (by rw [eM29]; simp [wI, wJ, wR, zM])]
    rw [show M28.1 3 7 = M26.1 3 7 from (by rw [eM28]; simp [wI, wJ, wR, zM])]
    rw [show M26.1 3 7 = M25.1 3 7 from (by rw [eM26]; simp [wI, wJ, wR, zM])]
    rw [show M25.1 3 7 = M23.1 3 7 from (by rw [eM25]; simp [wI, wJ, wR, zM])]
    rw [show M23.1 3 7 = M22.1 3 7 from (by rw [hA23 3 7 (by decide)]; simp [wI, wJ, wR, zM])]
    rw [show M22.1 3 7 = M20.1 3 7 from (by rw [eM22]; simp [wI, wJ, wR, zM])]
    rw [show M20.1 3 7 = M19.1 3 7 from (by rw [hA20 3 7 (by decide)]; simp [wI, wJ, wR, zM])]
    rw [show M19.1 3 7 = M17.1 3 7 from (by rw [eM19]; simp [wI, wJ, wR, zM])]
    rw [show M17.1 3 7 = M16.1 3 7 from (by rw [eM17]; simp [wI, wJ, wR, zM])]
    rw [show M16.1 3 7 = M14.1 3 7 from (by rw [eM16]; simp [wI, wJ, wR, zM])]
    rw [show M14.1 3 7 = M13.1 3 7 from (by rw [eM14]; simp [wI, wJ, wR, zM])]
    rw [show M13.1 3 7 = M11.1 3 7 from (by rw [eM13]; simp [wI, wJ, wR, zM])]
    rw [show M11.1 3 7 = M10.1 3 7 from (by rw [eM11]; simp [wI, wJ, wR, zM])]
    rw [show M10.1 3 7 = M8.1 3 7 from (by rw [eM10]; simp [wI, wJ, wR, zM])]
    rw [show M8.1 3 7 = M7.1 3 7 from (by rw [eM8]; simp [wI, wJ, wR, zM])]
    rw [show M7.1 3 7 = M5.1 3 7 from (by rw [eM7]; simp [wI, wJ, wR, zM])]
    rw [eM5]
    simp [wI, wJ, wR, zM]
  have f_3 : M37.1 3 8 = 0 := by
    rw [show M37.1 3 8 = M35.1 3 8 from (by rw [eM37]; simp [wI, wJ, wR, zM])]
    rw [show M35.1 3 8 = M34.1 3 8 from (by rw [eM35]; simp [wI, wJ, wR, zM])]
    rw [show M34.1 3 8 = M32.1 3 8 from (by rw [eM34]; simp [wI, wJ, wR, zM])]
    rw [show M32.1 3 8 = M31.1 3 8 from (by rw [eM32]; simp [wI, wJ, wR, zM])]
    rw [show M31.1 3 8 = M29.1 3 8 from (by rw [eM31]; simp [wI, wJ, wR, zM])]
    rw [show M29.1 3 8 = M28.1 3 8 from (by rw [eM29]; simp [wI, wJ, wR, zM])]
    rw [show M28.1 3 8 = M26.1 3 8 from (by rw [eM28]; simp [wI, wJ, wR, zM])]
    rw [show M26.1 3 8 = M25.1 3 8 from (by rw [eM26]; simp [wI, wJ, wR, zM])]
    rw [show M25.1 3 8 = M23.1 3 8 from (by rw [eM25]; simp [wI, wJ, wR, zM])]
    rw [show M23.1 3 8 = M22.1 3 8 from (by rw [hA23 3 8 (by decide)]; simp [wI, wJ, wR, zM])]
    rw [show M22.1 3 8 = M20.1 3 8 from (by rw [eM22]; simp [wI, wJ, wR, zM])]
    rw [show M20.1 3 8 = M19.1 3 8 from (by rw [hA20 3 8 (by decide)]; simp [wI, wJ, wR, zM])]
    rw [show M19.1 3 8 = M17.1 3 8 from (by rw [eM19]; simp [wI, wJ, wR, zM])]
    rw [show M17.1 3 8 = M16.1 3 8 from (by rw [eM17]; simp [wI, wJ, wR, zM])]
    rw [show M16.1 3 8 = M14.1 3 8 from (by rw [eM16]; simp [wI, wJ, wR, zM])]
    rw [show M14.1 3 8 = M13.1 3 8 from (by rw [eM14]; simp [wI, wJ, wR, zM])]
    rw [show M13.1 3 8 = M11.1 3 8 from (by rw [eM13]; simp [wI, wJ, wR, zM])]
    rw [show M11.1 3 8 = M10.1 3 8 from (by rw [eM11]; simp [wI, wJ, wR, zM])]
    rw [show M10.1 3 8 = M8.1 3 8 from (by rw [eM10]; simp [wI, wJ, wR, zM])]
    rw [show M8.1 3 8 = M7.1 3 8 from (by rw [eM8]; simp [wI, wJ, wR, zM])]
    rw [show M7.1 3 8 = M5.1 3 8 from (by rw [eM7]; simp [wI, wJ, wR, zM])]
    rw [eM5]
    simp [wI, wJ, wR, zM]
  have f_4 : M37.1 1 1 = 0 := by
    rw [show M37.1 1 1 = M35.1 1 1 from (by rw [eM37]; simp [wI, wJ, wR, zM])]
    rw [show M35.1 1 1 = M34.1 1 1 from (by rw [eM35]; simp [wI, wJ, wR, zM])]
    rw [show M34.1 1 1 = M32.1 1 1 from (by rw [eM34]; simp [wI, wJ, wR, zM])]
    rw [show M32.1 1 1 = M31.1 1 1 from (by rw [eM32]; simp [wI, wJ, wR, zM])]
    rw [show M31.1 1 1 = M29.1 1 1 from (by rw [eM31]; simp [wI, wJ, wR, zM])]
    rw [show M29.1 1 1 = M28.1 1 1 from (by rw [eM29]; simp [wI, wJ, wR, zM])]
    rw [show M28.1 1 1 = M26.1 1 1 from (by rw [eM28]; simp [wI, wJ, wR, zM])]
    rw [show M26.1 1 1 = M25.1 1 1 from (by rw [eM26]; simp [wI, wJ, wR, zM])]
    rw [show M25.1 1 1 = M23.1 1 1 from (by rw [eM25]; simp [wI, wJ, wR, zM])]
    rw [show M23.1 1 1 = M22.1 1 1 from (by rw [hA23 1 1 (by decide)]; simp [wI, wJ, wR, zM])]
    rw [show M22.1 1 1 = M20.1 1 1 from (by rw [eM22]; simp [wI, wJ, wR, zM])]
    rw [show M20.1 1 1 = M19.1 1 1 from (by rw [hA20 1 1 (by decide)]; simp [wI, wJ, wR, zM])]
    rw [show M19.1 1 1 = M17.1 1 1 from (by rw [eM19]; simp [wI, wJ, wR, zM])]
    rw [show M17.1 1 1 = M16.1 1 1 from (by rw [eM17]; simp [wI, wJ, wR, zM])]
    rw [show M16.1 1 1 = M14.1 1 1 from (by rw [eM16]; simp [wI, wJ, wR, zM])]
    rw [show M14.1 1 1 = M13.1 1 1 from (by rw [eM14]; simp [wI, wJ, wR, zM])]
    rw [show M13.1 1 1 = M11.1 1 1 from (by rw [eM13]; simp [wI, wJ, wR, zM])]
    rw [show M11.1 1 1 = M10.1 1 1 from (by rw [eM11]; simp [wI, wJ, wR, zM])]
    rw [show M10.1 1 1 = M8.1 1 1 from (by rw [eM10]; simp [wI, wJ, wR, zM])]
    rw [show M8.1 1 1 = M7.1 1 1 from (by rw [eM8]; simp [wI, wJ, wR, zM])]
    rw [show M7.1 1 1 = M5.1 1 1 from (by rw [eM7]; simp [wI, wJ, wR, zM])]
    rw [show M5.1 1 1 = M4.1 1 1 from (by rw [eM5]; simp [wI, wJ, wR, zM])]
    rw [show M4.1 1 1 = M2.1 1 1 from (by rw [eM4]; simp [wI, wJ, wR, zM])]
    rw [eM2]
    simp [wI, wJ, wR, zM]
  have f_5 : M37.1 11 3 = 0 := by
    rw [show M37.1 11 3 = M35.1 11 3 from (by rw [eM37]; simp [wI, wJ, wR, zM])]
    rw [show M35.1 11 3 = M34.1 11 3 from (by rw [eM35]; simp [wI, wJ, wR, zM])]
    rw [show M34.1 11 3 = M32.1 11 3 from (by rw [eM34]; simp [wI, wJ, wR, zM])]
    rw [show M32.1 11 3 = M31.1 11 3 from (by rw [eM32]; simp [wI, wJ, wR, zM])]
    rw [show M31.1 11 3 = M29.1 11 3 from (by rw [eM31]; simp [wI, wJ, wR, zM])]
    rw [show M29.1 11 3 = M28.1 11 3 from (by rw [eM29]; simp [wI, wJ, wR, zM])]
    rw [show M28.1 11 3 = M26.1 11 3 from (by rw [eM28]; simp [wI, wJ, wR, zM])]
    rw [show M26.1 11 3 = M25.1 11 3 from (by rw [eM26]; simp [wI, wJ, wR, zM])]
    rw [show M25.1 11 3 = M23.1 11 3 from (by rw [eM25]; simp [wI, wJ, wR, zM])]
    rw [show M23.1 11 3 = M22.1 11 3 from (by rw [hA23 11 3 (by decide)]; simp [wI, wJ, wR, zM])]
    rw [show M22.1 11 3 = M20.1 11 3 from (by rw [eM22]; simp [wI, wJ, wR, zM])]
    rw [show M20.1 11 3 = M19.1 11 3 from (by rw [hA20 11 3 (by decide)]; simp [wI, wJ, wR, zM])]
    rw [show M19.1 11 3 = M17.1 11 3 from (by rw [eM19]; simp [wI, wJ, wR, zM])]
    rw [show M17.1 11 3 = M16.1 11 3 from (by rw [eM17]; simp [wI, wJ, wR, zM])]
    rw [show M16.1 11 3 = M14.1 11 3 from (by rw [eM16]; simp [wI, wJ, wR, zM])]
    rw [show M14.1 11 3 = M13.1 11 3 from (by rw [eM14]; simp [wI, wJ, wR, zM])]
    rw [show M13.1 11 3 = M11.1 11 3 from (by rw [eM13]; simp [wI, wJ, wR, zM])]
    rw [show M11.1 11 3 = M10.1 11 3 from (by rw [eM11]; simp [wI, wJ, wR, zM])]
    rw [show M10.1 11 3 = M8.1 11 3 from (by rw [eM10]; simp [wI, wJ, wR, zM])]
    rw [eM8]
    simp [wI, wJ, wR, zM]
  have f_6 : M37.1 25 2 = 0 := by
    rw [show M37.1 25 2 = M35.1 25 2 from (by rw [eM37]; simp [wI, wJ, wR, zM])]
    rw [show M35.1 25 2 = M34.1 25 2 from (by rw [eM35]; simp [wI, wJ, wR, zM])]
    rw [show M34.1 25 2 = M32.1 25 2 from (by rw [eM34]; simp [wI, wJ, wR, zM])]
    rw [show M32.1 25 2 = M31.1 25 2 from (by rw [eM32]; simp [wI, wJ, wR, zM])]
    rw [show M31.1 25 2 = M29.1 25 2 from (by rw [eM31]; simp [wI, wJ, wR, zM])]
    rw [show M29.1 25 2 = M28.1 25 2 from (by rw [eM29]; simp [wI, wJ, wR, zM])]
    rw [show M28.1 25 2 = M26.1 25 2 from (by rw [eM28]; simp [wI, wJ, wR, zM])]
    rw [show M26.1 25 2 = M25.1 25 2 from (by rw [eM26]; simp [wI, wJ, wR, zM])]
    rw [show M25.1 25 2 = M23.1 25 2 from (by rw [eM25]; simp [wI, wJ, wR, zM])]
    rw [show M23.1 25 2 = M22.1 25 2 from (by rw [hA23 25 2 (by decide)]; simp [wI, wJ, wR, zM])]
    rw [show M22.1 25 2 = M20.1 25 2 from (by rw [eM22]; simp [wI, wJ, wR, zM])]
    rw [show M20.1 25 2 = M19.1 25 2 from (by rw [hA20 25 2 (by decide)]; simp [wI, wJ, wR, zM])]
    rw [show M19.1 25 2 = M17.1 25 2 from (by rw [eM19]; simp [wI, wJ, wR, zM])]
    rw [eM17]
    simp [wI, wJ, wR, zM]
  have f_7 : M37.1 326 4 = -1 := by
    rw [show M37.1 326 4 = M35.1 326 4 from (by rw [eM37]; simp [wI, wJ, wR, zM])]
    rw [show M35.1 326 4 = M34.1 326 4 from (by rw [eM35]; simp [wI, wJ, wR, zM])]
    rw [show M34.1 326 4 = M32.1 326 4 from (by rw [eM34]; simp [wI, wJ, wR, zM])]
    rw [show M32.1 326 4 = M31.1 326 4 from (by rw [eM32]; simp [wI, wJ, wR, zM])]
    rw [show M31.1 326 4 = M29.1 326 4 from (by rw [eM31]; simp [wI, wJ, wR, zM])]
    rw [show M29.1 326 4 = M28.1 326 4 from (by rw [eM29]; simp [wI, wJ, wR, zM])]
    rw [show M28.1 326 4 = M26.1 326 4 from (by rw [eM28]; simp [wI, wJ, wR, zM])]
    rw [eM26]
    simp [wI, wJ, wR, zM]
  have f_8 : M37.1 3 9 = 0 := by
    rw [show M37.1 3 9 = M35.1 3 9 from (by rw [eM37]; simp [wI, wJ, wR, zM])]
    rw [show M35.1 3 9 = M34.1 3 9 from (by rw [eM35]; simp [wI, wJ, wR, zM])]
    rw [show M34.1 3 9 = M32.1 3 9 from (by rw [eM34]; simp [wI, wJ, wR, zM])]
    rw [show M32.1 3 9 = M31.1 3 9 from (by rw [eM32]; simp [wI, wJ, wR, zM])]
    rw [show M31.1 3 9 = M29.1 3 9 from (by rw [eM31]; simp [wI, wJ, wR, zM])]
    rw [show M29.1 3 9 = M28.1 3 9 from (by rw [eM29]; simp [wI, wJ, wR, zM])]
    rw [show M28.1 3 9 = M26.1 3 9 from (by rw [eM28]; simp [wI, wJ, wR, zM])]
    rw [show M26.1 3 9 = M25.1 3 9 from (by rw [eM26]; simp [wI, wJ, wR, zM])]
    rw [show M25.1 3 9 = M23.1 3 9 from (by rw [eM25]; simp [wI, wJ, wR, zM])]
    rw [show M23.1 3 9 = M22.1 3 9 from (by rw [hA23 3 9 (by decide)]; simp [wI, wJ, wR, zM])]
    rw [show M22.1 3 9 = M20.1 3 9 from (by rw [eM22]; simp [wI, wJ, wR, zM])]
    rw [show M20.1 3 9 = M19.1 3 9 from (by rw [hA20 3 9 (by decide)]; simp [wI, wJ, wR, zM])]
    rw [show M19.1 3 9 = M17.1 3 9 from (by rw [eM19]; simp [wI, wJ, wR, zM])]
    rw [show M17.1 3 9 = M16.1 3 9 from (by rw [eM17]; simp [wI, wJ, wR, zM])]
    rw [show M16.1 3 9 = M14.1 3 9 from (by rw [eM16]; simp [wI, wJ, wR, zM])]
    rw [show M14.1 3 9 = M13.1 3 9 from (by rw [eM14]; simp [wI, wJ, wR, zM])]
    rw [show M13.1 3 9 = M11.1 3 9 from (by rw [eM13]; simp [wI, wJ, wR, zM])]
    rw [show M11.1 3 9 = M10.1 3 9 from (by rw [eM11]; simp [wI, wJ, wR, zM])]
    rw [show M10.1 3 9 = M8.1 3 9 from (by rw [eM10]; simp [wI, wJ, wR, zM])]
    rw [show M8.1 3 9 = M7.1 3 9 from (by rw [eM8]; simp [wI, wJ, wR, zM])]
    rw [show M7.1 3 9 = M5.1 3 9 from (by rw [eM7]; simp [wI, wJ, wR, zM])]
    rw [eM5]
    simp [wI, wJ, wR, zM]
  have f_9 : ∀ j, M37.1 331 j = 0 := by
    intro j
    rw [show M37.1 331 j = M35.1 331 j from (by rw [eM37]; simp [wI, wJ, wR, zM])]
    rw [show M35.1 331 j = M34.1 331 j from (by rw [eM35]; simp [wI, wJ, wR, zM])]
    rw [show M34.1 331 j = M32.1 331 j from (by rw [eM34]; simp [wI, wJ, wR, zM])]
    rw [show M32.1 331 j = M31.1 331 j from (by rw [eM32]; simp [wI, wJ, wR, zM])]
    rw [show M31.1 331 j = M29.1 331 j from (by rw [eM31]; simp [wI, wJ, wR, zM])]
    rw [eM29]
    simp [wI, wJ, wR, zM]
  have f_10 : M37.1 330 2 = 0 := by
    rw [show M37.1 330 2 = M35.1 330 2 from (by rw [eM37]; simp [wI, wJ, wR, zM])]
    rw [show M35.1 330 2 = M34.1 330 2 from (by rw [eM35]; simp [wI, wJ, wR, zM])]
    rw [show M34.1 330 2 = M32.1 330 2 from (by rw [eM34]; simp [wI, wJ, wR, zM])]
    rw [show M32.1 330 2 = M31.1 330 2 from (by rw [eM32]; simp [wI, wJ, wR, zM])]
    rw [show M31.1 330 2 = M29.1 330 2 from (by rw [eM31]; simp [wI, wJ, wR, zM])]
    rw [eM29]
    simp [wI, wJ, wR, zM]
  have f_11 : M37.1 330 3 = 1 := by
    rw [show M37.1 330 3 = M35.1 330 3 from (by rw [eM37]; simp [wI, wJ, wR, zM])]
    rw [show M35.1 330 3 = M34.1 330 3 from (by rw [eM35]; simp [wI, wJ, wR, zM])]
    rw [show M34.1 330 3 = M32.1 330 3 from (by rw [eM34]; simp [wI, wJ, wR, zM])]
    rw [show M32.1 330 3 = M31.1 330 3 from (by rw [eM32]; simp [wI, wJ, wR, zM])]
    rw [show M31.1 330 3 = M29.1 330 3 from (by rw [eM31]; simp [wI, wJ, wR, zM])]
    rw [eM29]
    simp [wI, wJ, wR, zM]
  have f_12 : M37.1 330 4 = -2 := by
    rw [show M37.1 330 4 = M35.1 330 4 from (by rw [eM37]; simp [wI, wJ, wR, zM])]
    rw [show M35.1 330 4 = M34.1 330 4 from (by rw [eM35]; simp [wI, wJ, wR, zM])]
    rw [show M34.1 330 4 = M32.1 330 4 from (by rw [eM34]; simp [wI, wJ, wR, zM])]
    rw [show M32.1 330 4 = M31.1 330 4 from (by rw [eM32]; simp [wI, wJ, wR, zM])]
    rw [show M31.1 330 4 = M29.1 330 4 from (by rw [eM31]; simp [wI, wJ, wR, zM])]
    rw [eM29]
    simp [wI, wJ, wR, zM]
  have f_13 : M37.1 330 5 = 0 := by
    rw [show M37.1 330 5 = M35.1 330 5 from (by rw [eM37]; simp [wI, wJ, wR, zM])]
    rw [show M35.1 330 5 = M34.1 330 5 from (by rw [eM35]; simp [wI, wJ, wR, zM])]
    rw [show M34.1 330 5 = M32.1 330 5 from (by rw [eM34]; simp [wI, wJ, wR, zM])]
    rw [show M32.1 330 5 = M31.1 330 5 from (by rw [eM32]; simp [wI, wJ, wR, zM])]
    rw [show M31.1 330 5 = M29.1 330 5 from (by rw [eM31]; simp [wI, wJ, wR, zM])]
    rw [eM29]
    simp [wI, wJ, wR, zM]
  have f_14 : M37.1 330 6 = 0 := by
    rw [show M37.1 330 6 = M35.1 330 6 from (by rw [eM37]; simp [wI, wJ, wR, zM])]
    rw [show M35.1 330 6 = M34.1 330 6 from (by rw [eM35]; simp [wI, wJ, wR, zM])]
    rw [show M34.1 330 6 = M32.1 330 6 from (by rw [eM34]; simp [wI, wJ, wR, zM])]
    rw [show M32.1 330 6 = M31.1 330 6 from (by rw [eM32]; simp [wI, wJ, wR, zM])]
    rw [show M31.1 330 6 = M29.1 330 6 from (by rw [eM31]; simp [wI, wJ, wR, zM])]
    rw [eM29]
    simp [wI, wJ, wR, zM]
  have f_15 : M37.1 330 7 = 0 := by
    rw [show M37.1 330 7 = M35.1 330 7 from (by rw [eM37]; simp [wI, wJ, wR, zM])]
    rw [show M35.1 330 7 = M34.1 330 7 from (by rw [eM35]; simp [wI, wJ, wR, zM])]
    rw [show M34.1 330 7 = M32.1 330 7 from (by rw [eM34]; simp [wI, wJ, wR, zM])]
    rw [show M32.1 330 7 = M31.1 330 7 from (by rw [eM32]; simp [wI, wJ, wR, zM])]
    rw [show M31.1 330 7 = M29.1 330 7 from (by rw [eM31]; simp [wI, wJ, wR, zM])]
    rw [eM29]
    simp [wI, wJ, wR, zM]
  have f_16 : M37.1 0 12 = 0 := by
    rw [eM37]
    simp [wI, wJ, wR, zM]
  have f_17 : ∀ j, M37.1 2 j = 0 := by
    intro j
    rw [show M37.1 2 j = M35.1 2 j from (by rw [eM37]; simp [wI, wJ, wR, zM])]
    rw [show M35.1 2 j = M34.1 2 j from (by rw [eM35]; simp [wI, wJ, wR, zM])]
    rw [show M34.1 2 j = M32.1 2 j from (by rw [eM34]; simp [wI, wJ, wR, zM])]
    rw [show M32.1 2 j = M31.1 2 j from (by rw [eM32]; simp [wI, wJ, wR, zM])]
    rw [show M31.1 2 j = M29.1 2 j from (by rw [eM31]; simp [wI, wJ, wR, zM])]
    rw [show M29.1 2 j = M28.1 2 j from (by rw [eM29]; simp [wI, wJ, wR, zM])]
    rw [show M28.1 2 j = M26.1 2 j from (by rw [eM28]; simp [wI, wJ, wR, zM])]
    rw [show M26.1 2 j = M25.1 2 j from (by rw [eM26]; simp [wI, wJ, wR, zM])]
    rw [show M25.1 2 j = M23.1 2 j from (by rw [eM25]; simp [wI, wJ, wR, zM])]
    rw [show M23.1 2 j = M22.1 2 j from (by rw [hA23 2 j (by decide)]; simp [wI, wJ, wR, zM])]
    rw [show M22.1 2 j = M20.1 2 j from (by rw [eM22]; simp [wI, wJ, wR, zM])]
    rw [show M20.1 2 j = M19.1 2 j from (by rw [hA20 2 j (by decide)]; simp [wI, wJ, wR, zM])]
    rw [show M19.1 2 j = M17.1 2 j from (by rw [eM19]; simp [wI, wJ, wR, zM])]
    rw [show M17.1 2 j = M16.1 2 j from (by rw [eM17]; simp [wI, wJ, wR, zM])]
    rw [show M16.1 2 j = M14.1 2 j from (by rw [eM16]; simp [wI, wJ, wR, zM])]
    rw [show M14.1 2 j = M13.1 2 j from (by rw [eM14]; simp [wI, wJ, wR, zM])]
    rw [show M13.1 2 j = M11.1 2 j from (by rw [eM13]; simp [wI, wJ, wR, zM])]
    rw [show M11.1 2 j = M10.1 2 j from (by rw [eM11]; simp [wI, wJ, wR, zM])]
    rw [show M10.1 2 j = M8.1 2 j from (by rw [eM10]; simp [wI, wJ, wR, zM])]
    rw [show M8.1 2 j = M7.1 2 j from (by rw [eM8]; simp [wI, wJ, wR, zM])]
    rw [show M7.1 2 j = M5.1 2 j from (by rw [eM7]; simp [wI, wJ, wR, zM])]
    rw [show M5.1 2 j = M4.1 2 j from (by rw [eM5]; simp [wI, wJ, wR, zM])]
    rw [show M4.1 2 j = M2.1 2 j from (by rw [eM4]; simp [wI, wJ, wR, zM])]
    rw [eM2]
    simp [wI, wJ, wR, zM]
  have f_18 : ∀ j, M37.1 332 j = 0 := by
    intro j
    rw [show M37.1 332 j = M35.1 332 j from (by rw [eM37]; simp [wI, wJ, wR, zM])]
    rw [show M35.1 332 j = M34.1 332 j from (by rw [eM35]; simp [wI, wJ, wR, zM])]
    rw [show M34.1 332 j = M32.1 332 j from (by rw [eM34]; simp [wI, wJ, wR, zM])]
    rw [show M32.1 332 j = M31.1 332 j from (by rw [eM32]; simp [wI, wJ, wR, zM])]
    rw [show M31.1 332 j = M29.1 332 j from (by rw [eM31]; simp [wI, wJ, wR, zM])]
    rw [eM29]
    simp [wI, wJ, wR, zM]
  have hP := toX hP h_0_0 h_0_1 h_0_2 h_0_3 h_0_4 h_0_5 h_0_6 h_0_7 h_0_8 h_0_9 h_0_10 h_0_11 h_1_0 h_3_0 h_3_1 h_3_2 h_3_3 h_3_4 h_3_5 h_3_6 h_11_0 h_11_1 h_11_2 h_11_4 h_11_5 h_17_0 h_17_1 h_17_2 h_17_3 h_17_4 h_23_0 h_23_1 h_23_2 h_25_0 h_25_1 h_27_0 h_27_1 h_27_2 h_27_3 h_27_4 h_27_5 h_27_6 h_27_7 h_131_0 h_131_1 h_131_2 h_326_0 h_326_1 h_326_2 h_326_3 h_330_0 h_330_1 h_333_0 h_333_1 h_336_0 h_336_1 h_32 h_132 h_133
  obtain ⟨M2, hf, hpost⟩ := hfr M37 ⟨f_0, f_1, f_2, f_3, f_4, f_5, f_6, f_7, f_8, f_9, f_10, f_11, f_12, f_13, f_14, f_15, f_16, f_17, f_18⟩
  refine lv_aload_n hx hb dX11_init_165 rfl (lv_at hl 0 rfl) ?_
  refine va_get C.1.1 C.1.2.1 C.1.2.2.2.2 iw_11 C.1.2.2.2.1 C.2.1.1 hP 0 (by rw [pw_get (by decide), xd_0]) rfl 1 (by decide) (C.1.2.2.2.2 _ g_421) (fun x h => h) (v := .ref (b + 3)) rfl dX11_init_166 ?_
  refine qcV (As := []) C hP hS (k := 3) (Nat.le_of_ble_eq_true rfl) (xd_3 _ _) rfl (c8_refresh hf) y8_refresh_w g_393 rfl rfl rfl ⟨Nat.le_of_ble_eq_true rfl, Nat.le_of_ble_eq_true rfl⟩ hl.1 rfl (Nat.le_of_ble_eq_true rfl) dX11_init_169 ⟨Nat.le_of_ble_eq_true rfl, Nat.le_of_ble_eq_true rfl⟩ (fun H locs hP hS => ?_)
  exact W.vret C.1.1 C.1.2.1 hr (fun t ht hW => ⟨⟨M2, rfl, hpost, by show va_P _ _ _ t.heap; rw [ht]; exact hP⟩, hS.F ht⟩) hS.2.2 dX11_init_172
