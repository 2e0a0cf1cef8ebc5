theorem dX12_init_0 : decode cX12_init 0 = .ok (.aload_n 0, 1) := by decide +kernel
theorem dX12_init_1 : decode cX12_init 1 = .ok (.invokespecial 1, 3) := by decide +kernel
theorem dX12_init_4 : decode cX12_init 4 = .ok (.aload_n 0, 1) := by decide +kernel
theorem dX12_init_5 : decode cX12_init 5 = .ok (.sipush 162, 3) := by decide +kernel
theorem dX12_init_8 : decode cX12_init 8 = .ok (.newarray .int, 2) := by decide +kernel
theorem dX12_init_10 : decode cX12_init 10 = .ok (.putfield 7, 3) := by decide +kernel
theorem dX12_init_13 : decode cX12_init 13 = .ok (.aload_n 0, 1) := by decide +kernel
theorem dX12_init_14 : decode cX12_init 14 = .ok (.sipush 162, 3) := by decide +kernel
theorem dX12_init_17 : decode cX12_init 17 = .ok (.newarray .int, 2) := by decide +kernel
theorem dX12_init_19 : decode cX12_init 19 = .ok (.putfield 13, 3) := by decide +kernel
theorem dX12_init_22 : decode cX12_init 22 = .ok (.aload_n 0, 1) := by decide +kernel
theorem dX12_init_23 : decode cX12_init 23 = .ok (.sipush 162, 3) := by decide +kernel
theorem dX12_init_26 : decode cX12_init 26 = .ok (.newarray .int, 2) := by decide +kernel
theorem dX12_init_28 : decode cX12_init 28 = .ok (.putfield 16, 3) := by decide +kernel
theorem dX12_init_31 : decode cX12_init 31 = .ok (.aload_n 0, 1) := by decide +kernel
theorem dX12_init_32 : decode cX12_init 32 = .ok (.bipush 96, 2) := by decide +kernel
theorem dX12_init_34 : decode cX12_init 34 = .ok (.newarray .int, 2) := by decide +kernel
theorem dX12_init_36 : decode cX12_init 36 = .ok (.putfield 19, 3) := by decide +kernel
theorem dX12_init_39 : decode cX12_init 39 = .ok (.aload_n 0, 1) := by decide +kernel
theorem dX12_init_40 : decode cX12_init 40 = .ok (.bipush 10, 2) := by decide +kernel
theorem dX12_init_42 : decode cX12_init 42 = .ok (.newarray .int, 2) := by decide +kernel
theorem dX12_init_44 : decode cX12_init 44 = .ok (.putfield 22, 3) := by decide +kernel
theorem dX12_init_47 : decode cX12_init 47 = .ok (.aload_n 0, 1) := by decide +kernel
theorem dX12_init_48 : decode cX12_init 48 = .ok (.sipush 9216, 3) := by decide +kernel
theorem dX12_init_51 : decode cX12_init 51 = .ok (.newarray .byte, 2) := by decide +kernel
theorem dX12_init_53 : decode cX12_init 53 = .ok (.putfield 25, 3) := by decide +kernel
theorem dX12_init_56 : decode cX12_init 56 = .ok (.aload_n 0, 1) := by decide +kernel
theorem dX12_init_57 : decode cX12_init 57 = .ok (.bipush 96, 2) := by decide +kernel
theorem dX12_init_59 : decode cX12_init 59 = .ok (.newarray .int, 2) := by decide +kernel
theorem dX12_init_61 : decode cX12_init 61 = .ok (.putfield 29, 3) := by decide +kernel
theorem dX12_init_64 : decode cX12_init 64 = .ok (.aload_n 0, 1) := by decide +kernel
theorem dX12_init_65 : decode cX12_init 65 = .ok (.sipush 260, 3) := by decide +kernel
theorem dX12_init_68 : decode cX12_init 68 = .ok (.newarray .byte, 2) := by decide +kernel
theorem dX12_init_70 : decode cX12_init 70 = .ok (.putfield 32, 3) := by decide +kernel
theorem dX12_init_73 : decode cX12_init 73 = .ok (.aload_n 0, 1) := by decide +kernel
theorem dX12_init_74 : decode cX12_init 74 = .ok (.sipush 260, 3) := by decide +kernel
theorem dX12_init_77 : decode cX12_init 77 = .ok (.newarray .int, 2) := by decide +kernel
theorem dX12_init_79 : decode cX12_init 79 = .ok (.putfield 35, 3) := by decide +kernel
theorem dX12_init_82 : decode cX12_init 82 = .ok (.aload_n 0, 1) := by decide +kernel
theorem dX12_init_83 : decode cX12_init 83 = .ok (.sipush 260, 3) := by decide +kernel
theorem dX12_init_86 : decode cX12_init 86 = .ok (.newarray .int, 2) := by decide +kernel
theorem dX12_init_88 : decode cX12_init 88 = .ok (.putfield 38, 3) := by decide +kernel
theorem dX12_init_91 : decode cX12_init 91 = .ok (.aload_n 0, 1) := by decide +kernel
theorem dX12_init_92 : decode cX12_init 92 = .ok (.bipush 16, 2) := by decide +kernel
theorem dX12_init_94 : decode cX12_init 94 = .ok (.newarray .int, 2) := by decide +kernel
theorem dX12_init_96 : decode cX12_init 96 = .ok (.putfield 41, 3) := by decide +kernel
theorem dX12_init_99 : decode cX12_init 99 = .ok (.aload_n 0, 1) := by decide +kernel
theorem dX12_init_100 : decode cX12_init 100 = .ok (.bipush 16, 2) := by decide +kernel
theorem dX12_init_102 : decode cX12_init 102 = .ok (.newarray .int, 2) := by decide +kernel
theorem dX12_init_104 : decode cX12_init 104 = .ok (.putfield 44, 3) := by decide +kernel
theorem dX12_init_107 : decode cX12_init 107 = .ok (.aload_n 0, 1) := by decide +kernel
theorem dX12_init_108 : decode cX12_init 108 = .ok (.bipush 16, 2) := by decide +kernel
theorem dX12_init_110 : decode cX12_init 110 = .ok (.newarray .int, 2) := by decide +kernel
theorem dX12_init_112 : decode cX12_init 112 = .ok (.putfield 47, 3) := by decide +kernel
theorem dX12_init_115 : decode cX12_init 115 = .ok (.aload_n 0, 1) := by decide +kernel
theorem dX12_init_116 : decode cX12_init 116 = .ok (.bipush 16, 2) := by decide +kernel
theorem dX12_init_118 : decode cX12_init 118 = .ok (.newarray .int, 2) := by decide +kernel
theorem dX12_init_120 : decode cX12_init 120 = .ok (.putfield 50, 3) := by decide +kernel
theorem dX12_init_123 : decode cX12_init 123 = .ok (.aload_n 0, 1) := by decide +kernel
theorem dX12_init_124 : decode cX12_init 124 = .ok (.sipush 260, 3) := by decide +kernel
theorem dX12_init_127 : decode cX12_init 127 = .ok (.newarray .int, 2) := by decide +kernel
theorem dX12_init_129 : decode cX12_init 129 = .ok (.putfield 53, 3) := by decide +kernel
theorem dX12_init_132 : decode cX12_init 132 = .ok (.aload_n 0, 1) := by decide +kernel
theorem dX12_init_133 : decode cX12_init 133 = .ok (.bipush 16, 2) := by decide +kernel
theorem dX12_init_135 : decode cX12_init 135 = .ok (.newarray .int, 2) := by decide +kernel
theorem dX12_init_137 : decode cX12_init 137 = .ok (.putfield 56, 3) := by decide +kernel
theorem dX12_init_140 : decode cX12_init 140 = .ok (.aload_n 0, 1) := by decide +kernel
theorem dX12_init_141 : decode cX12_init 141 = .ok (.bipush 16, 2) := by decide +kernel
theorem dX12_init_143 : decode cX12_init 143 = .ok (.newarray .int, 2) := by decide +kernel
theorem dX12_init_145 : decode cX12_init 145 = .ok (.putfield 59, 3) := by decide +kernel
theorem dX12_init_148 : decode cX12_init 148 = .ok (.aload_n 0, 1) := by decide +kernel
theorem dX12_init_149 : decode cX12_init 149 = .ok (.bipush 16, 2) := by decide +kernel
theorem dX12_init_151 : decode cX12_init 151 = .ok (.newarray .int, 2) := by decide +kernel
theorem dX12_init_153 : decode cX12_init 153 = .ok (.putfield 62, 3) := by decide +kernel
theorem dX12_init_156 : decode cX12_init 156 = .ok (.aload_n 0, 1) := by decide +kernel
theorem dX12_init_157 : decode cX12_init 157 = .ok (.bipush 16, 2) := by decide +kernel
theorem dX12_init_159 : decode cX12_init 159 = .ok (.newarray .int, 2) := by decide +kernel
theorem dX12_init_161 : decode cX12_init 161 = .ok (.putfield 65, 3) := by decide +kernel
theorem dX12_init_164 : decode cX12_init 164 = .ok (.aload_n 0, 1) := by decide +kernel
theorem dX12_init_165 : decode cX12_init 165 = .ok (.sipush 260, 3) := by decide +kernel
theorem dX12_init_168 : decode cX12_init 168 = .ok (.newarray .int, 2) := by decide +kernel
theorem dX12_init_170 : decode cX12_init 170 = .ok (.putfield 68, 3) := by decide +kernel
theorem dX12_init_173 : decode cX12_init 173 = .ok (.aload_n 0, 1) := by decide +kernel
theorem dX12_init_174 : decode cX12_init 174 = .ok (.bipush 9, 2) := by decide +kernel
theorem dX12_init_176 : decode cX12_init 176 = .ok (.newarray .int, 2) := by decide +kernel
theorem dX12_init_178 : decode cX12_init 178 = .ok (.putfield 71, 3) := by decide +kernel
theorem dX12_init_181 : decode cX12_init 181 = .ok (.aload_n 0, 1) := by decide +kernel
theorem dX12_init_182 : decode cX12_init 182 = .ok (.bipush 96, 2) := by decide +kernel
theorem dX12_init_184 : decode cX12_init 184 = .ok (.newarray .int, 2) := by decide +kernel
theorem dX12_init_186 : decode cX12_init 186 = .ok (.putfield 74, 3) := by decide +kernel
theorem dX12_init_189 : decode cX12_init 189 = .ok (.aload_n 0, 1) := by decide +kernel
theorem dX12_init_190 : decode cX12_init 190 = .ok (.bipush 24, 2) := by decide +kernel
theorem dX12_init_192 : decode cX12_init 192 = .ok (.newarray .int, 2) := by decide +kernel
theorem dX12_init_194 : decode cX12_init 194 = .ok (.putfield 77, 3) := by decide +kernel
theorem dX12_init_197 : decode cX12_init 197 = .ok (.aload_n 0, 1) := by decide +kernel
theorem dX12_init_198 : decode cX12_init 198 = .ok (.sipush 4608, 3) := by decide +kernel
theorem dX12_init_201 : decode cX12_init 201 = .ok (.newarray .int, 2) := by decide +kernel
theorem dX12_init_203 : decode cX12_init 203 = .ok (.putfield 80, 3) := by decide +kernel
theorem dX12_init_206 : decode cX12_init 206 = .ok (.aload_n 0, 1) := by decide +kernel
theorem dX12_init_207 : decode cX12_init 207 = .ok (.bipush 9, 2) := by decide +kernel
theorem dX12_init_209 : decode cX12_init 209 = .ok (.newarray .int, 2) := by decide +kernel
theorem dX12_init_211 : decode cX12_init 211 = .ok (.putfield 83, 3) := by decide +kernel
theorem dX12_init_214 : decode cX12_init 214 = .ok (.aload_n 0, 1) := by decide +kernel
theorem dX12_init_215 : decode cX12_init 215 = .ok (.bipush 96, 2) := by decide +kernel
theorem dX12_init_217 : decode cX12_init 217 = .ok (.newarray .int, 2) := by decide +kernel
theorem dX12_init_219 : decode cX12_init 219 = .ok (.putfield 86, 3) := by decide +kernel
theorem dX12_init_222 : decode cX12_init 222 = .ok (.aload_n 0, 1) := by decide +kernel
theorem dX12_init_223 : decode cX12_init 223 = .ok (.sipush 9216, 3) := by decide +kernel
theorem dX12_init_226 : decode cX12_init 226 = .ok (.newarray .byte, 2) := by decide +kernel
theorem dX12_init_228 : decode cX12_init 228 = .ok (.putfield 89, 3) := by decide +kernel
theorem dX12_init_231 : decode cX12_init 231 = .ok (.aload_n 0, 1) := by decide +kernel
theorem dX12_init_232 : decode cX12_init 232 = .ok (.sipush 9216, 3) := by decide +kernel
theorem dX12_init_235 : decode cX12_init 235 = .ok (.newarray .boolean, 2) := by decide +kernel
theorem dX12_init_237 : decode cX12_init 237 = .ok (.putfield 92, 3) := by decide +kernel
theorem dX12_init_240 : decode cX12_init 240 = .ok (.aload_n 0, 1) := by decide +kernel
theorem dX12_init_241 : decode cX12_init 241 = .ok (.bipush 96, 2) := by decide +kernel
theorem dX12_init_243 : decode cX12_init 243 = .ok (.newarray .long, 2) := by decide +kernel
theorem dX12_init_245 : decode cX12_init 245 = .ok (.putfield 96, 3) := by decide +kernel
theorem dX12_init_248 : decode cX12_init 248 = .ok (.aload_n 0, 1) := by decide +kernel
theorem dX12_init_249 : decode cX12_init 249 = .ok (.bipush 96, 2) := by decide +kernel
theorem dX12_init_251 : decode cX12_init 251 = .ok (.newarray .long, 2) := by decide +kernel
theorem dX12_init_253 : decode cX12_init 253 = .ok (.putfield 100, 3) := by decide +kernel
theorem dX12_init_256 : decode cX12_init 256 = .ok (.aload_n 0, 1) := by decide +kernel
theorem dX12_init_257 : decode cX12_init 257 = .ok (.bipush 96, 2) := by decide +kernel
theorem dX12_init_259 : decode cX12_init 259 = .ok (.newarray .boolean, 2) := by decide +kernel
theorem dX12_init_261 : decode cX12_init 261 = .ok (.putfield 103, 3) := by decide +kernel
theorem dX12_init_264 : decode cX12_init 264 = .ok (.aload_n 0, 1) := by decide +kernel
theorem dX12_init_265 : decode cX12_init 265 = .ok (.getfield 7, 3) := by decide +kernel
theorem dX12_init_268 : decode cX12_init 268 = .ok (.sipush 161, 3) := by decide +kernel
theorem dX12_init_271 : decode cX12_init 271 = .ok (.iconst 1, 1) := by decide +kernel
theorem dX12_init_272 : decode cX12_init 272 = .ok (.iastore, 1) := by decide +kernel
theorem dX12_init_273 : decode cX12_init 273 = .ok (.aload_n 0, 1) := by decide +kernel
theorem dX12_init_274 : decode cX12_init 274 = .ok (.getfield 7, 3) := by decide +kernel
theorem dX12_init_277 : decode cX12_init 277 = .ok (.sipush 156, 3) := by decide +kernel
theorem dX12_init_280 : decode cX12_init 280 = .ok (.bipush (-2), 2) := by decide +kernel
theorem dX12_init_282 : decode cX12_init 282 = .ok (.iastore, 1) := by decide +kernel
theorem dX12_init_283 : decode cX12_init 283 = .ok (.iconst 0, 1) := by decide +kernel
theorem dX12_init_284 : decode cX12_init 284 = .ok (.istore_n 1, 1) := by decide +kernel
theorem dX12_init_285 : decode cX12_init 285 = .ok (.iload_n 1, 1) := by decide +kernel
theorem dX12_init_286 : decode cX12_init 286 = .ok (.bipush 96, 2) := by decide +kernel
theorem dX12_init_288 : decode cX12_init 288 = .ok (.if_icmp .ge 16, 3) := by decide +kernel
theorem dX12_init_291 : decode cX12_init 291 = .ok (.aload_n 0, 1) := by decide +kernel
theorem dX12_init_292 : decode cX12_init 292 = .ok (.getfield 19, 3) := by decide +kernel
theorem dX12_init_295 : decode cX12_init 295 = .ok (.iload_n 1, 1) := by decide +kernel
theorem dX12_init_296 : decode cX12_init 296 = .ok (.iconst 2, 1) := by decide +kernel
theorem dX12_init_297 : decode cX12_init 297 = .ok (.iastore, 1) := by decide +kernel
theorem dX12_init_298 : decode cX12_init 298 = .ok (.iinc 1 1, 3) := by decide +kernel
theorem dX12_init_301 : decode cX12_init 301 = .ok (.goto (-16), 3) := by decide +kernel
theorem dX12_init_304 : decode cX12_init 304 = .ok (.iconst 0, 1) := by decide +kernel
theorem dX12_init_305 : decode cX12_init 305 = .ok (.istore_n 1, 1) := by decide +kernel
theorem dX12_init_306 : decode cX12_init 306 = .ok (.iload_n 1, 1) := by decide +kernel
theorem dX12_init_307 : decode cX12_init 307 = .ok (.bipush 9, 2) := by decide +kernel
theorem dX12_init_309 : decode cX12_init 309 = .ok (.if_icmp .gt 16, 3) := by decide +kernel
theorem dX12_init_312 : decode cX12_init 312 = .ok (.aload_n 0, 1) := by decide +kernel
theorem dX12_init_313 : decode cX12_init 313 = .ok (.getfield 22, 3) := by decide +kernel
theorem dX12_init_316 : decode cX12_init 316 = .ok (.iload_n 1, 1) := by decide +kernel
theorem dX12_init_317 : decode cX12_init 317 = .ok (.iconst (-1), 1) := by decide +kernel
theorem dX12_init_318 : decode cX12_init 318 = .ok (.iastore, 1) := by decide +kernel
theorem dX12_init_319 : decode cX12_init 319 = .ok (.iinc 1 1, 3) := by decide +kernel
theorem dX12_init_322 : decode cX12_init 322 = .ok (.goto (-16), 3) := by decide +kernel
theorem dX12_init_325 : decode cX12_init 325 = .ok (.return_, 1) := by decide +kernel
theorem y12_init_w : yI yX12_init cX12_init 2 0 := ⟨g_1132, g_14, g_1133, rfl, by decide, by decide, by decide +kernel⟩
set_option maxHeartbeats 4000000 in
set_option maxRecDepth 100000 in
theorem toY {z : Zt} {b : Nat} {M : Mem} {Rl : Rm} {H : Heap} (hP : va_P z.1 vwCl (pw (dR (yc z) Rl) 32 b M) H) (h_0 : Rl 0 0 = some (b + 1)) (h_1 : Rl 0 1 = some (b + 2)) (h_2 : Rl 0 2 = some (b + 3)) (h_3 : Rl 0 3 = some (b + 4)) (h_4 : Rl 0 4 = some (b + 5)) (h_7 : Rl 0 7 = some (b + 6)) (h_8 : Rl 0 8 = some (b + 7)) (h_10 : Rl 0 10 = some (b + 8)) (h_21 : Rl 0 21 = some (b + 9)) (h_22 : Rl 0 22 = some (b + 10)) (h_23 : Rl 0 23 = some (b + 11)) (h_24 : Rl 0 24 = some (b + 12)) (h_25 : Rl 0 25 = some (b + 13)) (h_26 : Rl 0 26 = some (b + 14)) (h_27 : Rl 0 27 = some (b + 15)) (h_28 : Rl 0 28 = some (b + 16)) (h_29 : Rl 0 29 = some (b + 17)) (h_30 : Rl 0 30 = some (b + 18)) (h_31 : Rl 0 31 = some (b + 19)) (h_32 : Rl 0 32 = some (b + 20)) (h_33 : Rl 0 33 = some (b + 21)) (h_34 : Rl 0 34 = some (b + 22)) (h_40 : Rl 0 40 = some (b + 23)) (h_43 : Rl 0 43 = some (b + 24)) (h_44 : Rl 0 44 = some (b + 25)) (h_47 : Rl 0 47 = some (b + 26)) (h_48 : Rl 0 48 = some (b + 27)) (h_49 : Rl 0 49 = some (b + 28)) (h_50 : Rl 0 50 = some (b + 29)) (h_51 : Rl 0 51 = some (b + 30)) (h_52 : Rl 0 52 = some (b + 31)) : va_P z.1 vwCl (pw (yd z b) 32 b M) H := by
  intro k q hk
  obtain ⟨hlt, rfl⟩ := pw_at hk
  have h := hP k _ (pw_get hlt)
  have hkk : k = 0 ∨ k = 1 ∨ k = 2 ∨ k = 3 ∨ k = 4 ∨ k = 5 ∨ k = 6 ∨ k = 7 ∨ k = 8 ∨ k = 9 ∨ k = 10 ∨ k = 11 ∨ k = 12 ∨ k = 13 ∨ k = 14 ∨ k = 15 ∨ k = 16 ∨ k = 17 ∨ k = 18 ∨ k = 19 ∨ k = 20 ∨ k = 21 ∨ k = 22 ∨ k = 23 ∨ k = 24 ∨ k = 25 ∨ k = 26 ∨ k = 27 ∨ k = 28 ∨ k = 29 ∨ k = 30 ∨ k = 31 := by omega
  rcases hkk with rfl | rfl | rfl | rfl | rfl | rfl | rfl | rfl | rfl | rfl | rfl | rfl | rfl | rfl | rfl | rfl | rfl | rfl | rfl | rfl | rfl | rfl | rfl | rfl | rfl | rfl | rfl | rfl | rfl | rfl | rfl | rfl
  · have e : dR (yc z) Rl 0 (M.1 0) (M.2 0) = yd z b 0 (M.1 0) (M.2 0) := by
      rw [yr_0, yd_0, h_0, h_1, h_2, h_3, h_4, h_7, h_8, h_10, h_21, h_22, h_23, h_24, h_25, h_26, h_27, h_28, h_29, h_30, h_31, h_32, h_33, h_34, h_40, h_43, h_44, h_47, h_48, h_49, h_50, h_51, h_52]
      rfl
    rw [e] at h
    exact h
  · exact h
  · exact h
  · exact h
  · exact h
  · exact h
  · exact h
  · exact h
  · exact h
  · exact h
  · exact h
  · exact h
  · exact h
  · exact h
  · exact h
  · exact h
  · exact h
  · exact h
  · exact h
  · exact h
  · exact h
  · exact h
  · exact h
  · exact h
  · exact h
  · exact h
  · exact h
  · exact h
  · exact h
  · exact h
  · exact h
  · exact h
/-- the memory of a new reference -/
def YI (M : Mem) : Prop := (∀ j, j ≠ 161 → j ≠ 156 → M.1 1 j = 0) ∧ M.1 1 161 = 1 ∧ M.1 1 156 = -2 ∧ (∀ j, j < 96 → M.1 4 j = 2) ∧ (∀ j, j < 10 → M.1 5 j = -1) ∧ (∀ j, M.1 0 j = 0) ∧ (∀ j, M.1 8 j = 0)
abbrev rmq12_init : Room := { frames := 1, cells := 31, slots := 34894, locals := 12 }
set_option maxHeartbeats 4000000 in
set_option maxRecDepth 100000 in
theorem lq12_init_a {p : Program} {l : Launch} {e : Env} {s : State} {m : MethodId} {args : Array Value} {below : List Frame} {meth : Method} {c : Code} {z : Zt} {b : Nat} {cells slots : Nat} {Q : State → Prop} (C : Cq p s m args c cX12_init 2 RX12 z b) {M0 : Mem} {Rf : Rm} (hR : Rf 0 3 = some (b + 4)) (kk : ∀ (M : Mem) (H : Heap) (locs : List Loc) (ls : Array Slot), (∀ j, j < 96 → M.1 4 j = (2 : Int32)) → (∀ k j, k ≠ 4 → M.1 k j = M0.1 k j) → va_P z.1 vwCl (pw (dR (yc z) Rf) 32 b M) H → va_S (Bx b) s.heap H locs → lv_has ls 2 [(0, .ref (b + 0))] → W p l e rmq12_init s m args below meth c H locs cells slots Q (F0 m 304 ls [])) (n : Nat) : ∀ (i : Nat) (M : Mem) (H : Heap) (locs : List Loc) (ls : Array Slot), i + n = 96 → (∀ j, j < i → M.1 4 j = (2 : Int32)) → (∀ k j, k ≠ 4 → M.1 k j = M0.1 k j) → va_P z.1 vwCl (pw (dR (yc z) Rf) 32 b M) H → va_S (Bx b) s.heap H locs → lv_has ls 2 [(0, .ref (b + 0)), (1, .int (nI i))] → W p l e rmq12_init s m args below meth c H locs cells slots Q (F0 m 285 ls []) := by
  have hx := C.1.1
  have hb := C.1.2.1
  induction n with
  | zero =>
    intro i M H locs ls hi h1 h2 hP hS hl
    have hi : i = 96 := by omega
    subst hi
    refine lv_iload_n hx hb dX12_init_285 rfl (lv_at hl 1 rfl) ?_
    refine lv_bipush (v := (96 : Int32)) hx hb dX12_init_286 (by decide) ?_
    refine lv_icmp_ge (tgt := 304) hx hb dX12_init_288 (by decide) (fun _ => ?_) (fun h => absurd (by decide) h)
    exact kk M H locs ls h1 h2 hP hS (lv_sub hl [0] rfl)
  | succ n ih =>
    intro i M H locs ls hi h1 h2 hP hS hl
    refine lv_iload_n hx hb dX12_init_285 rfl (lv_at hl 1 rfl) ?_
    refine lv_bipush (v := (96 : Int32)) hx hb dX12_init_286 (by decide) ?_
    refine lv_icmp_ge (tgt := 304) hx hb dX12_init_288 (by decide) (fun h => absurd h (nI_ge (b := 96) (by omega) (by decide))) (fun _ => ?_)
    refine lv_aload_n hx hb dX12_init_291 rfl (lv_at hl 0 rfl) ?_
    refine qg C hP (k := 0) (j := 3) (v := .ref (b + 4)) (by decide) (yr_0 _ _) rfl iw_12 (Nat.le_of_ble_eq_true rfl) g_1138 rfl (by rw [hR]; rfl) dX12_init_292 ?_
    refine lv_iload_n hx hb dX12_init_295 rfl (lv_at hl 1 rfl) ?_
    refine lv_iconst (v := (2 : Int32)) hx hb dX12_init_296 (by decide) ?_
    refine qsI C hP hS (k := 4) (n := 96) (by decide) (fun _ _ => rfl) (vp_in_nI (by omega) (by decide)) dX12_init_297 (fun H locs hP hS => ?_)
    rw [nI_clamp (by omega)] at hP
    obtain ⟨v9, ev9⟩ : ∃ v : Int32, v = nI i + (1 : Int32) := ⟨_, rfl⟩
    refine lv_iinc (v := v9) (lv' := [(1, .int v9), (0, .ref (b + 0))]) hx hb dX12_init_298 hl (k := 1) rfl (by rw [ev9]; rfl) (by decide) rfl (fun ls hl => ?_)
    refine lv_goto (tgt := 285) hx hb dX12_init_301 (by decide) ?_
    rw [nI_1] at ev9
    subst ev9
    refine ih (i + 1) _ H locs ls (by omega) (fun j hj => ?_) (fun k j hk => ?_) hP hS (lv_sub hl [1, 0] rfl)
    · rw [wI_at]
      by_cases h : j = i
      · simp [h]
      · simp [h, h1 j (by omega)]
    · rw [wI_at, if_neg hk]
      exact h2 k j hk
set_option maxHeartbeats 4000000 in
set_option maxRecDepth 100000 in
theorem lq12_init_b {p : Program} {l : Launch} {e : Env} {s : State} {m : MethodId} {args : Array Value} {below : List Frame} {meth : Method} {c : Code} {z : Zt} {b : Nat} {cells slots : Nat} {Q : State → Prop} (C : Cq p s m args c cX12_init 2 RX12 z b) {M0 : Mem} {Rf : Rm} (hR : Rf 0 4 = some (b + 5)) (kk : ∀ (M : Mem) (H : Heap) (locs : List Loc) (ls : Array Slot), (∀ j, j < 10 → M.1 5 j = (-1 : Int32)) → (∀ k j, k ≠ 5 → M.1 k j = M0.1 k j) → va_P z.1 vwCl (pw (dR (yc z) Rf) 32 b M) H → va_S (Bx b) s.heap H locs → lv_has ls 2 [(0, .ref (b + 0))] → W p l e rmq12_init s m args below meth c H locs cells slots Q (F0 m 325 ls [])) (n : Nat) : ∀ (i : Nat) (M : Mem) (H : Heap) (locs : List Loc) (ls : Array Slot), i + n = 10 → (∀ j, j < i → M.1 5 j = (-1 : Int32)) → (∀ k j, k ≠ 5 → M.1 k j = M0.1 k j) → va_P z.1 vwCl (pw (dR (yc z) Rf) 32 b M) H → va_S (Bx b) s.heap H locs → lv_has ls 2 [(0, .ref (b + 0)), (1, .int (nI i))] → W p l e rmq12_init s m args below meth c H locs cells slots Q (F0 m 306 ls []) := by
  have hx := C.1.1
  have hb := C.1.2.1
  induction n with
  | zero =>
    intro i M H locs ls hi h1 h2 hP hS hl
    have hi : i = 10 := by omega
    subst hi
    refine lv_iload_n hx hb dX12_init_306 rfl (lv_at hl 1 rfl) ?_
    refine lv_bipush (v := (9 : Int32)) hx hb dX12_init_307 (by decide) ?_
    refine lv_icmp_gt (tgt := 325) hx hb dX12_init_309 (by decide) (fun _ => ?_) (fun h => absurd (by decide) h)
    exact kk M H locs ls h1 h2 hP hS (lv_sub hl [0] rfl)
  | succ n ih =>
    intro i M H locs ls hi h1 h2 hP hS hl
    refine lv_iload_n hx hb dX12_init_306 rfl (lv_at hl 1 rfl) ?_
    refine lv_bipush (v := (9 : Int32)) hx hb dX12_init_307 (by decide) ?_
    refine lv_icmp_gt (tgt := 325) hx hb dX12_init_309 (by decide) (fun h => absurd h (nI_nlt (a := 9) (by omega) (by decide))) (fun _ => ?_)
    refine lv_aload_n hx hb dX12_init_312 rfl (lv_at hl 0 rfl) ?_
    refine qg C hP (k := 0) (j := 4) (v := .ref (b + 5)) (by decide) (yr_0 _ _) rfl iw_12 (Nat.le_of_ble_eq_true rfl) g_1139 rfl (by rw [hR]; rfl) dX12_init_313 ?_
    refine lv_iload_n hx hb dX12_init_316 rfl (lv_at hl 1 rfl) ?_
    refine lv_iconst (v := (-1 : Int32)) hx hb dX12_init_317 (by decide) ?_
    refine qsI C hP hS (k := 5) (n := 10) (by decide) (fun _ _ => rfl) (vp_in_nI (by omega) (by decide)) dX12_init_318 (fun H locs hP hS => ?_)
    rw [nI_clamp (by omega)] at hP
    obtain ⟨v9, ev9⟩ : ∃ v : Int32, v = nI i + (1 : Int32) := ⟨_, rfl⟩
    refine lv_iinc (v := v9) (lv' := [(1, .int v9), (0, .ref (b + 0))]) hx hb dX12_init_319 hl (k := 1) rfl (by rw [ev9]; rfl) (by decide) rfl (fun ls hl => ?_)
    refine lv_goto (tgt := 306) hx hb dX12_init_322 (by decide) ?_
    rw [nI_1] at ev9
    subst ev9
    refine ih (i + 1) _ H locs ls (by omega) (fun j hj => ?_) (fun k j hk => ?_) hP hS (lv_sub hl [1, 0] rfl)
    · rw [wI_at]
      by_cases h : j = i
      · simp [h]
      · simp [h, h1 j (by omega)]
    · rw [wI_at, if_neg hk]
      exact h2 k j hk
set_option maxHeartbeats 8000000 in
set_option maxRecDepth 100000 in
theorem cq12_init {l : Launch} {z : Zt} {b : Nat} {M : Mem} {Rf : Rm} (hz0 : ∀ j, M.1 0 j = 0) :
    Met l yX12_init (Cond.code yX12_init cX12_init 2 none :: lw_good) rmq12_init (va_Pc [.ref (b + 0)] (fun U => va_P z.1 vwCl (pw (dR (yc z) Rf) 1 b M) U.heap ∧ U.heap.size = b + 1 ∧ Gx z (Bx b) U ∧ va_AO "BronzeKing$PlaceSet" U)) (va_Qv YI (fun M2 t => va_P z.1 vwCl (pw (yd z b) 32 b M2) t.heap) (Bx b)) 31 34894 (Bx b) := by
  refine Met.ofW (cc := cX12_init) (maxL := 2) (ret := none) (by decide) rfl ?_
  intro p e s m args below meth c s₁ B hml hv
  obtain ⟨rfl, hP, hsz, hG, hAO⟩ := hv
  have hts := atoms_spec (ws := Cond.code yX12_init cX12_init 2 none :: lw_good) B.pre
  have hnm : meth.name = "<init>" := (name_of_methodNamed B.named B.method).1
  rw [lg_entry_eq]
  have C : Cq p s m ([.ref (b + 0)] : List Value).toArray c cX12_init 2 RX12 z b := ⟨⟨B.exec, B.bytes, hml, findClass_of_methodNamed B.named, fun w hw => hts w (List.mem_cons_of_mem _ hw)⟩, hG⟩
  have hr := B.returns
  have hk2 := B.notSynchronized
  have hS : va_S (Bx b) s.heap s.heap [] := va_S.rf
  have hl := lv_entry ([.ref (b + 0)]) (n := 2) (Nat.le_of_ble_eq_true rfl)
  generalize (lg_sl ([.ref (b + 0)]) ++ List.replicate (2 - (lg_sl ([.ref (b + 0)])).length) Slot.unset).toArray = ls at hl ⊢
  have hl : lv_has ls 2 [(0, .ref (b + 0))] := hl
  have hx := C.1.1
  have hb := C.1.2.1
  have hcl : s.heap.size + 0 = b + 1 := by omega
  refine lv_aload_n hx hb dX12_init_0 rfl (lv_at hl 0 rfl) ?_
  refine W.objInit hx hb C.1.2.2.2.1 (C.1.2.2.2.2 _ g_1134) (C.1.2.2.2.2 _ g_30) (C.1.2.2.2.2 _ g_31) rfl (by rw [C.1.2.2.1]; exact hl.1) rfl dX12_init_1 (Nat.le_of_ble_eq_true rfl) (Nat.le_of_ble_eq_true rfl) ?_
  refine W.eq (g2 := F0 m 4 ls []) rfl ?_
  refine lv_aload_n hx hb dX12_init_4 rfl (lv_at hl 0 rfl) ?_
  refine lv_sipush (v := (162 : Int32)) hx hb dX12_init_5 (by decide) ?_
  refine qna (atype := .int) C (by omega) (by omega) hP hS hcl g_47 rfl (a0 := (162, .inl (fun _ => 0))) (N' := 162) (t0 := 0) rfl pr_int (fun _ => rfl) (by decide) (by decide) (Nat.le_of_ble_eq_true rfl) (Nat.le_of_ble_eq_true rfl) (Nat.le_of_ble_eq_true rfl) rfl dX12_init_8 (fun H hP hS hcl => ?_)
  have hP : va_P z.1 vwCl (pw (dR (yc z) (zR Rf 1)) 2 b (zM M 1)) H := hP
  obtain ⟨M1, eM1⟩ : ∃ X : Mem, X = zM M 1 := ⟨_, rfl⟩
  rw [← eM1] at hP
  obtain ⟨R1, eR1⟩ : ∃ X : Rm, X = zR Rf 1 := ⟨_, rfl⟩
  rw [← eR1] at hP
  refine W.widen (k := 1) (n := 162) (Nat.le_of_ble_eq_true rfl) (Nat.le_of_ble_eq_true rfl) ?_
  have hcl : s.heap.size + 1 = b + 2 := by omega
  refine qpR C hnm hP hS (k := 0) (j := 0) (v := b + 1) (ty := tyX12 0) (Nat.le_of_ble_eq_true rfl) (yr_0 _ _) rfl iw_12 tyX12 tyX12_ok nmX12 (Nat.le_of_ble_eq_true rfl) g_1135 rfl rfl rfl (by decide +kernel) rfl rfl (Nat.le_of_ble_eq_true rfl) rfl dX12_init_10 (fun H locs hP hS => ?_)
  obtain ⟨R2, eR2⟩ : ∃ X : Rm, X = uR R1 0 0 (some (b + 1)) := ⟨_, rfl⟩
  rw [← eR2] at hP
  refine lv_aload_n hx hb dX12_init_13 rfl (lv_at hl 0 rfl) ?_
  refine lv_sipush (v := (162 : Int32)) hx hb dX12_init_14 (by decide) ?_
  refine qna (atype := .int) C (by omega) (by omega) hP hS hcl g_47 rfl (a0 := (162, .inl (fun _ => 0))) (N' := 162) (t0 := 0) rfl pr_int (fun _ => rfl) (by decide) (by decide) (Nat.le_of_ble_eq_true rfl) (Nat.le_of_ble_eq_true rfl) (Nat.le_of_ble_eq_true rfl) rfl dX12_init_17 (fun H hP hS hcl => ?_)
  have hP : va_P z.1 vwCl (pw (dR (yc z) (zR R2 2)) 3 b (zM M1 2)) H := hP
  obtain ⟨M3, eM3⟩ : ∃ X : Mem, X = zM M1 2 := ⟨_, rfl⟩
  rw [← eM3] at hP
  obtain ⟨R3, eR3⟩ : ∃ X : Rm, X = zR R2 2 := ⟨_, rfl⟩
  rw [← eR3] at hP
  refine W.widen (k := 2) (n := 324) (Nat.le_of_ble_eq_true rfl) (Nat.le_of_ble_eq_true rfl) ?_
  have hcl : s.heap.size + 2 = b + 3 := by omega
  refine qpR C hnm hP hS (k := 0) (j := 1) (v := b + 2) (ty := tyX12 1) (Nat.le_of_ble_eq_true rfl) (yr_0 _ _) rfl iw_12 tyX12 tyX12_ok nmX12 (Nat.le_of_ble_eq_true rfl) g_1136 rfl rfl rfl (by decide +kernel) rfl rfl (Nat.le_of_ble_eq_true rfl) rfl dX12_init_19 (fun H locs hP hS => ?_)
  obtain ⟨R4, eR4⟩ : ∃ X : Rm, X = uR R3 0 1 (some (b + 2)) := ⟨_, rfl⟩
  rw [← eR4] at hP
  refine lv_aload_n hx hb dX12_init_22 rfl (lv_at hl 0 rfl) ?_
  refine lv_sipush (v := (162 : Int32)) hx hb dX12_init_23 (by decide) ?_
  refine qna (atype := .int) C (by omega) (by omega) hP hS hcl g_47 rfl (a0 := (162, .inl (fun _ => 0))) (N' := 162) (t0 := 0) rfl pr_int (fun _ => rfl) (by decide) (by decide) (Nat.le_of_ble_eq_true rfl) (Nat.le_of_ble_eq_true rfl) (Nat.le_of_ble_eq_true rfl) rfl dX12_init_26 (fun H hP hS hcl => ?_)
  have hP : va_P z.1 vwCl (pw (dR (yc z) (zR R4 3)) 4 b (zM M3 3)) H := hP
  obtain ⟨M5, eM5⟩ : ∃ X : Mem, X = zM M3 3 := ⟨_, rfl⟩
  rw [← eM5] at hP
  obtain ⟨R5, eR5⟩ : ∃ X : Rm, X = zR R4 3 := ⟨_, rfl⟩
  rw [← eR5] at hP
  refine W.widen (k := 3) (n := 486) (Nat.le_of_ble_eq_true rfl) (Nat.le_of_ble_eq_true rfl) ?_
  have hcl : s.heap.size + 3 = b + 4 := by omega
  refine qpR C hnm hP hS (k := 0) (j := 2) (v := b + 3) (ty := tyX12 2) (Nat.le_of_ble_eq_true rfl) (yr_0 _ _) rfl iw_12 tyX12 tyX12_ok nmX12 (Nat.le_of_ble_eq_true rfl) g_1137 rfl rfl rfl (by decide +kernel) rfl rfl (Nat.le_of_ble_eq_true rfl) rfl dX12_init_28 (fun H locs hP hS => ?_)
  obtain ⟨R6, eR6⟩ : ∃ X : Rm, X = uR R5 0 2 (some (b + 3)) := ⟨_, rfl⟩
  rw [← eR6] at hP
  refine lv_aload_n hx hb dX12_init_31 rfl (lv_at hl 0 rfl) ?_
  refine lv_bipush (v := (96 : Int32)) hx hb dX12_init_32 (by decide) ?_
  refine qna (atype := .int) C (by omega) (by omega) hP hS hcl g_47 rfl (a0 := (96, .inl (fun _ => 0))) (N' := 96) (t0 := 0) rfl pr_int (fun _ => rfl) (by decide) (by decide) (Nat.le_of_ble_eq_true rfl) (Nat.le_of_ble_eq_true rfl) (Nat.le_of_ble_eq_true rfl) rfl dX12_init_34 (fun H hP hS hcl => ?_)
  have hP : va_P z.1 vwCl (pw (dR (yc z) (zR R6 4)) 5 b (zM M5 4)) H := hP
  obtain ⟨M7, eM7⟩ : ∃ X : Mem, X = zM M5 4 := ⟨_, rfl⟩
  rw [← eM7] at hP
  obtain ⟨R7, eR7⟩ : ∃ X : Rm, X = zR R6 4 := ⟨_, rfl⟩
  rw [← eR7] at hP
  refine W.widen (k := 4) (n := 582) (Nat.le_of_ble_eq_true rfl) (Nat.le_of_ble_eq_true rfl) ?_
  have hcl : s.heap.size + 4 = b + 5 := by omega
  refine qpR C hnm hP hS (k := 0) (j := 3) (v := b + 4) (ty := tyX12 3) (Nat.le_of_ble_eq_true rfl) (yr_0 _ _) rfl iw_12 tyX12 tyX12_ok nmX12 (Nat.le_of_ble_eq_true rfl) g_1138 rfl rfl rfl (by decide +kernel) rfl rfl (Nat.le_of_ble_eq_true rfl) rfl dX12_init_36 (fun H locs hP hS => ?_)
  obtain ⟨R8, eR8⟩ : ∃ X : Rm, X = uR R7 0 3 (some (b + 4)) := ⟨_, rfl⟩
  rw [← eR8] at hP
  refine lv_aload_n hx hb dX12_init_39 rfl (lv_at hl 0 rfl) ?_
  refine lv_bipush (v := (10 : Int32)) hx hb dX12_init_40 (by decide) ?_
  refine qna (atype := .int) C (by omega) (by omega) hP hS hcl g_47 rfl (a0 := (10, .inl (fun _ => 0))) (N' := 10) (t0 := 0) rfl pr_int (fun _ => rfl) (by decide) (by decide) (Nat.le_of_ble_eq_true rfl) (Nat.le_of_ble_eq_true rfl) (Nat.le_of_ble_eq_true rfl) rfl dX12_init_42 (fun H hP hS hcl => ?_)
  have hP : va_P z.1 vwCl (pw (dR (yc z) (zR R8 5)) 6 b (zM M7 5)) H := hP
  obtain ⟨M9, eM9⟩ : ∃ X : Mem, X = zM M7 5 := ⟨_, rfl⟩
  rw [← eM9] at hP
  obtain ⟨R9, eR9⟩ : ∃ X : Rm, X = zR R8 5 := ⟨_, rfl⟩
  rw [← eR9] at hP
  refine W.widen (k := 5) (n := 592) (Nat.le_of_ble_eq_true rfl) (Nat.le_of_ble_eq_true rfl) ?_
  have hcl : s.heap.size + 5 = b + 6 := by omega
  refine qpR C hnm hP hS (k := 0) (j := 4) (v := b + 5) (ty := tyX12 4) (Nat.le_of_ble_eq_true rfl) (yr_0 _ _) rfl iw_12 tyX12 tyX12_ok nmX12 (Nat.le_of_ble_eq_true rfl) g_1139 rfl rfl rfl (by decide +kernel) rfl rfl (Nat.le_of_ble_eq_true rfl) rfl dX12_init_44 (fun H locs hP hS => ?_)
  obtain ⟨R10, eR10⟩ : ∃ X : Rm, X = uR R9 0 4 (some (b + 5)) := ⟨_, rfl⟩
  rw [← eR10] at hP
  refine lv_aload_n hx hb dX12_init_47 rfl (lv_at hl 0 rfl) ?_
  refine lv_sipush (v := (9216 : Int32)) hx hb dX12_init_48 (by decide) ?_
  refine qna (atype := .byte) C (by omega) (by omega) hP hS hcl g_674 rfl (a0 := (9216, .inl (fun _ => 0))) (N' := 9216) (t0 := 2) rfl pr_byte (fun _ => rfl) (by decide) (by decide) (Nat.le_of_ble_eq_true rfl) (Nat.le_of_ble_eq_true rfl) (Nat.le_of_ble_eq_true rfl) rfl dX12_init_51 (fun H hP hS hcl => ?_)
  have hP : va_P z.1 vwCl (pw (dR (yc z) (zR R10 6)) 7 b (zM M9 6)) H := hP
  obtain ⟨M11, eM11⟩ : ∃ X : Mem, X = zM M9 6 := ⟨_, rfl⟩
  rw [← eM11] at hP
  obtain ⟨R11, eR11⟩ : ∃ X : Rm, X = zR R10 6 := ⟨_, rfl⟩
  rw [← eR11] at hP
  refine W.widen (k := 6) (n := 9808) (Nat.le_of_ble_eq_true rfl) (Nat.le_of_ble_eq_true rfl) ?_
  have hcl : s.heap.size + 6 = b + 7 := by omega
  refine qpR C hnm hP hS (k := 0) (j := 7) (v := b + 6) (ty := tyX12 7) (Nat.le_of_ble_eq_true rfl) (yr_0 _ _) rfl iw_12 tyX12 tyX12_ok nmX12 (Nat.le_of_ble_eq_true rfl) g_1142 rfl rfl rfl (by decide +kernel) rfl rfl (Nat.le_of_ble_eq_true rfl) rfl dX12_init_53 (fun H locs hP hS => ?_)
  obtain ⟨R12, eR12⟩ : ∃ X : Rm, X = uR R11 0 7 (some (b + 6)) := ⟨_, rfl⟩
  rw [← eR12] at hP
  refine lv_aload_n hx hb dX12_init_56 rfl (lv_at hl 0 rfl) ?_
  refine lv_bipush (v := (96 : Int32)) hx hb dX12_init_57 (by decide) ?_
  refine qna (atype := .int) C (by omega) (by omega) hP hS hcl g_47 rfl (a0 := (96, .inl (fun _ => 0))) (N' := 96) (t0 := 0) rfl pr_int (fun _ => rfl) (by decide) (by decide) (Nat.le_of_ble_eq_true rfl) (Nat.le_of_ble_eq_true rfl) (Nat.le_of_ble_eq_true rfl) rfl dX12_init_59 (fun H hP hS hcl => ?_)
  have hP : va_P z.1 vwCl (pw (dR (yc z) (zR R12 7)) 8 b (zM M11 7)) H := hP
  obtain ⟨M13, eM13⟩ : ∃ X : Mem, X = zM M11 7 := ⟨_, rfl⟩
  rw [← eM13] at hP
  obtain ⟨R13, eR13⟩ : ∃ X : Rm, X = zR R12 7 := ⟨_, rfl⟩
  rw [← eR13] at hP
  refine W.widen (k := 7) (n := 9904) (Nat.le_of_ble_eq_true rfl) (Nat.le_of_ble_eq_true rfl) ?_
  have hcl : s.heap.size + 7 = b + 8 := by omega
  refine qpR C hnm hP hS (k := 0) (j := 8) (v := b + 7) (ty := tyX12 8) (Nat.le_of_ble_eq_true rfl) (yr_0 _ _) rfl iw_12 tyX12 tyX12_ok nmX12 (Nat.le_of_ble_eq_true rfl) g_1143 rfl rfl rfl (by decide +kernel) rfl rfl (Nat.le_of_ble_eq_true rfl) rfl dX12_init_61 (fun H locs hP hS => ?_)
  obtain ⟨R14, eR14⟩ : ∃ X : Rm, X = uR R13 0 8 (some (b + 7)) := ⟨_, rfl⟩
  rw [← eR14] at hP
  refine lv_aload_n hx hb dX12_init_64 rfl (lv_at hl 0 rfl) ?_
  refine lv_sipush (v := (260 : Int32)) hx hb dX12_init_65 (by decide) ?_
  refine qna (atype := .byte) C (by omega) (by omega) hP hS hcl g_674 rfl (a0 := (260, .inl (fun _ => 0))) (N' := 260) (t0 := 2) rfl pr_byte (fun _ => rfl) (by decide) (by decide) (Nat.le_of_ble_eq_true rfl) (Nat.le_of_ble_eq_true rfl) (Nat.le_of_ble_eq_true rfl) rfl dX12_init_68 (fun H hP hS hcl => ?_)
  have hP : va_P z.1 vwCl (pw (dR (yc z) (zR R14 8)) 9 b (zM M13 8)) H := hP
  obtain ⟨M15, eM15⟩ : ∃ X : Mem, X = zM M13 8 := ⟨_, rfl⟩
  rw [← eM15] at hP
  obtain ⟨R15, eR15⟩ : ∃ X : Rm, X = zR R14 8 := ⟨_, rfl⟩
  rw [← eR15] at hP
  refine W.widen (k := 8) (n := 10164) (Nat.le_of_ble_eq_true rfl) (Nat.le_of_ble_eq_true rfl) ?_
  have hcl : s.heap.size + 8 = b + 9 := by omega
  refine qpR C hnm hP hS (k := 0) (j := 10) (v := b + 8) (ty := tyX12 10) (Nat.le_of_ble_eq_true rfl) (yr_0 _ _) rfl iw_12 tyX12 tyX12_ok nmX12 (Nat.le_of_ble_eq_true rfl) g_1145 rfl rfl rfl (by decide +kernel) rfl rfl (Nat.le_of_ble_eq_true rfl) rfl dX12_init_70 (fun H locs hP hS => ?_)
  obtain ⟨R16, eR16⟩ : ∃ X : Rm, X = uR R15 0 10 (some (b + 8)) := ⟨_, rfl⟩
  rw [← eR16] at hP
  refine lv_aload_n hx hb dX12_init_73 rfl (lv_at hl 0 rfl) ?_
  refine lv_sipush (v := (260 : Int32)) hx hb dX12_init_74 (by decide) ?_
  refine qna (atype := .int) C (by omega) (by omega) hP hS hcl g_47 rfl (a0 := (260, .inl (fun _ => 0))) (N' := 260) (t0 := 0) rfl pr_int (fun _ => rfl) (by decide) (by decide) (Nat.le_of_ble_eq_true rfl) (Nat.le_of_ble_eq_true rfl) (Nat.le_of_ble_eq_true rfl) rfl dX12_init_77 (fun H hP hS hcl => ?_)
  have hP : va_P z.1 vwCl (pw (dR (yc z) (zR R16 9)) 10 b (zM M15 9)) H := hP
  obtain ⟨M17, eM17⟩ : ∃ X : Mem, X = zM M15 9 := ⟨_, rfl⟩
  rw [← eM17] at hP
  obtain ⟨R17, eR17⟩ : ∃ X : Rm, X = zR R16 9 := ⟨_, rfl⟩
  rw [← eR17] at hP
  refine W.widen (k := 9) (n := 10424) (Nat.le_of_ble_eq_true rfl) (Nat.le_of_ble_eq_true rfl) ?_
  have hcl : s.heap.size + 9 = b + 10 := by omega
  refine qpR C hnm hP hS (k := 0) (j := 21) (v := b + 9) (ty := tyX12 21) (Nat.le_of_ble_eq_true rfl) (yr_0 _ _) rfl iw_12 tyX12 tyX12_ok nmX12 (Nat.le_of_ble_eq_true rfl) g_1156 rfl rfl rfl (by decide +kernel) rfl rfl (Nat.le_of_ble_eq_true rfl) rfl dX12_init_79 (fun H locs hP hS => ?_)
  obtain ⟨R18, eR18⟩ : ∃ X : Rm, X = uR R17 0 21 (some (b + 9)) := ⟨_, rfl⟩
  rw [← eR18] at hP
  refine lv_aload_n hx hb dX12_init_82 rfl (lv_at hl 0 rfl) ?_
  refine lv_sipush (v := (260 : Int32)) hx hb dX12_init_83 (by decide) ?_
  refine qna (atype := .int) C (by omega) (by omega) hP hS hcl g_47 rfl (a0 := (260, .inl (fun _ => 0))) (N' := 260) (t0 := 0) rfl pr_int (fun _ => rfl) (by decide) (by decide) (Nat.le_of_ble_eq_true rfl) (Nat.le_of_ble_eq_true rfl) (Nat.le_of_ble_eq_true rfl) rfl dX12_init_86 (fun H hP hS hcl => ?_)
  have hP : va_P z.1 vwCl (pw (dR (yc z) (zR R18 10)) 11 b (zM M17 10)) H := hP
  obtain ⟨M19, eM19⟩ : ∃ X : Mem, X = zM M17 10 := ⟨_, rfl⟩
  rw [← eM19] at hP
  obtain ⟨R19, eR19⟩ : ∃ X : Rm, X = zR R18 10 := ⟨_, rfl⟩
  rw [← eR19] at hP
  refine W.widen (k := 10) (n := 10684) (Nat.le_of_ble_eq_true rfl) (Nat.le_of_ble_eq_true rfl) ?_
  have hcl : s.heap.size + 10 = b + 11 := by omega
  refine qpR C hnm hP hS (k := 0) (j := 22) (v := b + 10) (ty := tyX12 22) (Nat.le_of_ble_eq_true rfl) (yr_0 _ _) rfl iw_12 tyX12 tyX12_ok nmX12 (Nat.le_of_ble_eq_true rfl) g_1157 rfl rfl rfl (by decide +kernel) rfl rfl (Nat.le_of_ble_eq_true rfl) rfl dX12_init_88 (fun H locs hP hS => ?_)
  obtain ⟨R20, eR20⟩ : ∃ X : Rm, X = uR R19 0 22 (some (b + 10)) := ⟨_, rfl⟩
  rw [← eR20] at hP
  refine lv_aload_n hx hb dX12_init_91 rfl (lv_at hl 0 rfl) ?_
  refine lv_bipush (v := (16 : Int32)) hx hb dX12_init_92 (by decide) ?_
  refine qna (atype := .int) C (by omega) (by omega) hP hS hcl g_47 rfl (a0 := (16, .inl (fun _ => 0))) (N' := 16) (t0 := 0) rfl pr_int (fun _ => rfl) (by decide) (by decide) (Nat.le_of_ble_eq_true rfl) (Nat.le_of_ble_eq_true rfl) (Nat.le_of_ble_eq_true rfl) rfl dX12_init_94 (fun H hP hS hcl => ?_)
  have hP : va_P z.1 vwCl (pw (dR (yc z) (zR R20 11)) 12 b (zM M19 11)) H := hP
  obtain ⟨M21, eM21⟩ : ∃ X : Mem, X = zM M19 11 := ⟨_, rfl⟩
  rw [← eM21] at hP
  obtain ⟨R21, eR21⟩ : ∃ X : Rm, X = zR R20 11 := ⟨_, rfl⟩
  rw [← eR21] at hP
  refine W.widen (k := 11) (n := 10700) (Nat.le_of_ble_eq_true rfl) (Nat.le_of_ble_eq_true rfl) ?_
  have hcl : s.heap.size + 11 = b + 12 := by omega
  refine qpR C hnm hP hS (k := 0) (j := 23) (v := b + 11) (ty := tyX12 23) (Nat.le_of_ble_eq_true rfl) (yr_0 _ _) rfl iw_12 tyX12 tyX12_ok nmX12 (Nat.le_of_ble_eq_true rfl) g_1158 rfl rfl rfl (by decide +kernel) rfl rfl (Nat.le_of_ble_eq_true rfl) rfl dX12_init_96 (fun H locs hP hS => ?_)
  obtain ⟨R22, eR22⟩ : ∃ X : Rm, X = uR R21 0 23 (some (b + 11)) := ⟨_, rfl⟩
  rw [← eR22] at hP
  refine lv_aload_n hx hb dX12_init_99 rfl (lv_at hl 0 rfl) ?_
  refine lv_bipush (v := (16 : Int32)) hx hb dX12_init_100 (by decide) ?_
  refine qna (atype := .int) C (by omega) (by omega) hP hS hcl g_47 rfl (a0 := (16, .inl (fun _ => 0))) (N' := 16) (t0 := 0) rfl pr_int (fun _ => rfl) (by decide) (by decide) (Nat.le_of_ble_eq_true rfl) (Nat.le_of_ble_eq_true rfl) (Nat.le_of_ble_eq_true rfl) rfl dX12_init_102 (fun H hP hS hcl => ?_)
  have hP : va_P z.1 vwCl (pw (dR (yc z) (zR R22 12)) 13 b (zM M21 12)) H := hP
  obtain ⟨M23, eM23⟩ : ∃ X : Mem, X = zM M21 12 := ⟨_, rfl⟩
  rw [← eM23] at hP
  obtain ⟨R23, eR23⟩ : ∃ X : Rm, X = zR R22 12 := ⟨_, rfl⟩
  rw [← eR23] at hP
  refine W.widen (k := 12) (n := 10716) (Nat.le_of_ble_eq_true rfl) (Nat.le_of_ble_eq_true rfl) ?_
  have hcl : s.heap.size + 12 = b + 13 := by omega
  refine qpR C hnm hP hS (k := 0) (j := 24) (v := b + 12) (ty := tyX12 24) (Nat.le_of_ble_eq_true rfl) (yr_0 _ _) rfl iw_12 tyX12 tyX12_ok nmX12 (Nat.le_of_ble_eq_true rfl) g_1159 rfl rfl rfl (by decide +kernel) rfl rfl (Nat.le_of_ble_eq_true rfl) rfl dX12_init_104 (fun H locs hP hS => ?_)
  obtain ⟨R24, eR24⟩ : ∃ X : Rm, X = uR R23 0 24 (some (b + 12)) := ⟨_, rfl⟩
  rw [← eR24] at hP
  refine lv_aload_n hx hb dX12_init_107 rfl (lv_at hl 0 rfl) ?_
  refine lv_bipush (v := (16 : Int32)) hx hb dX12_init_108 (by decide) ?_
  refine qna (atype := .int) C (by omega) (by omega) hP hS hcl g_47 rfl (a0 := (16, .inl (fun _ => 0))) (N' := 16) (t0 := 0) rfl pr_int (fun _ => rfl) (by decide) (by decide) (Nat.le_of_ble_eq_true rfl) (Nat.le_of_ble_eq_true rfl) (Nat.le_of_ble_eq_true rfl) rfl dX12_init_110 (fun H hP hS hcl => ?_)
  have hP : va_P z.1 vwCl (pw (dR (yc z) (zR R24 13)) 14 b (zM M23 13)) H := hP
  obtain ⟨M25, eM25⟩ : ∃ X : Mem, X = zM M23 13 := ⟨_, rfl⟩
  rw [← eM25] at hP
  obtain ⟨R25, eR25⟩ : ∃ X : Rm, X = zR R24 13 := ⟨_, rfl⟩
  rw [← eR25] at hP
  refine W.widen (k := 13) (n := 10732) (Nat.le_of_ble_eq_true rfl) (Nat.le_of_ble_eq_true rfl) ?_
  have hcl : s.heap.size + 13 = b + 14 := by omega
  refine qpR C hnm hP hS (k := 0) (j := 25) (v := b + 13) (ty := tyX12 25) (Nat.le_of_ble_eq_true rfl) (yr_0 _ _) rfl iw_12 tyX12 tyX12_ok nmX12 (Nat.le_of_ble_eq_true rfl) g_1160 rfl rfl rfl (by decide +kernel) rfl rfl (Nat.le_of_ble_eq_true rfl) rfl dX12_init_112 (fun H locs hP hS => ?_)
  obtain ⟨R26, eR26⟩ : ∃ X : Rm, X = uR R25 0 25 (some (b + 13)) := ⟨_, rfl⟩
  rw [← eR26] at hP
  refine lv_aload_n hx hb dX12_init_115 rfl (lv_at hl 0 rfl) ?_
  refine lv_bipush (v := (16 : Int32)) hx hb dX12_init_116 (by decide) ?_
  refine qna (atype := .int) C (by omega) (by omega) hP hS hcl g_47 rfl (a0 := (16, .inl (fun _ => 0))) (N' := 16) (t0 := 0) rfl pr_int (fun _ => rfl) (by decide) (by decide) (Nat.le_of_ble_eq_true rfl) (Nat.le_of_ble_eq_true rfl) (Nat.le_of_ble_eq_true rfl) rfl dX12_init_118 (fun H hP hS hcl => ?_)
  have hP : va_P z.1 vwCl (pw (dR (yc z) (zR R26 14)) 15 b (zM M25 14)) H := hP
  obtain ⟨M27, eM27⟩ : ∃ X : Mem, X = zM M25 14 := ⟨_, rfl⟩
  rw [← eM27] at hP
  obtain ⟨R27, eR27⟩ : ∃ X : Rm, X = zR R26 14 := ⟨_, rfl⟩
  rw [← eR27] at hP
  refine W.widen (k := 14) (n := 10748) (Nat.le_of_ble_eq_true rfl) (Nat.le_of_ble_eq_true rfl) ?_
  have hcl : s.heap.size + 14 = b + 15 := by omega
  refine qpR C hnm hP hS (k := 0) (j := 26) (v := b + 14) (ty := tyX12 26) (Nat.le_of_ble_eq_true rfl) (yr_0 _ _) rfl iw_12 tyX12 tyX12_ok nmX12 (Nat.le_of_ble_eq_true rfl) g_1161 rfl rfl rfl (by decide +kernel) rfl rfl (Nat.le_of_ble_eq_true rfl) rfl dX12_init_120 (fun H locs hP hS => ?_)
  obtain ⟨R28, eR28⟩ : ∃ X : Rm, X = uR R27 0 26 (some (b + 14)) := ⟨_, rfl⟩
  rw [← eR28] at hP
  refine lv_aload_n hx hb dX12_init_123 rfl (lv_at hl 0 rfl) ?_
  refine lv_sipush (v := (260 : Int32)) hx hb dX12_init_124 (by decide) ?_
  refine qna (atype := .int) C (by omega) (by omega) hP hS hcl g_47 rfl (a0 := (260, .inl (fun _ => 0))) (N' := 260) (t0 := 0) rfl pr_int (fun _ => rfl) (by decide) (by decide) (Nat.le_of_ble_eq_true rfl) (Nat.le_of_ble_eq_true rfl) (Nat.le_of_ble_eq_true rfl) rfl dX12_init_127 (fun H hP hS hcl => ?_)
  have hP : va_P z.1 vwCl (pw (dR (yc z) (zR R28 15)) 16 b (zM M27 15)) H := hP
  obtain ⟨M29, eM29⟩ : ∃ X : Mem, X = zM M27 15 := ⟨_, rfl⟩
  rw [← eM29] at hP
  obtain ⟨R29, eR29⟩ : ∃ X : Rm, X = zR R28 15 := ⟨_, rfl⟩
  rw [← eR29] at hP
  refine W.widen (k := 15) (n := 11008) (Nat.le_of_ble_eq_true rfl) (Nat.le_of_ble_eq_true rfl) ?_
  have hcl : s.heap.size + 15 = b + 16 := by omega
  refine qpR C hnm hP hS (k := 0) (j := 27) (v := b + 15) (ty := tyX12 27) (Nat.le_of_ble_eq_true rfl) (yr_0 _ _) rfl iw_12 tyX12 tyX12_ok nmX12 (Nat.le_of_ble_eq_true rfl) g_1162 rfl rfl rfl (by decide +kernel) rfl rfl (Nat.le_of_ble_eq_true rfl) rfl dX12_init_129 (fun H locs hP hS => ?_)
  obtain ⟨R30, eR30⟩ : ∃ X : Rm, X = uR R29 0 27 (some (b + 15)) := ⟨_, rfl⟩
  rw [← eR30] at hP
  refine lv_aload_n hx hb dX12_init_132 rfl (lv_at hl 0 rfl) ?_
  refine lv_bipush (v := (16 : Int32)) hx hb dX12_init_133 (by decide) ?_
  refine qna (atype := .int) C (by omega) (by omega) hP hS hcl g_47 rfl (a0 := (16, .inl (fun _ => 0))) (N' := 16) (t0 := 0) rfl pr_int (fun _ => rfl) (by decide) (by decide) (Nat.le_of_ble_eq_true rfl) (Nat.le_of_ble_eq_true rfl) (Nat.le_of_ble_eq_true rfl) rfl dX12_init_135 (fun H hP hS hcl => ?_)
  have hP : va_P z.1 vwCl (pw (dR (yc z) (zR R30 16)) 17 b (zM M29 16)) H := hP
  obtain ⟨M31, eM31⟩ : ∃ X : Mem, X = zM M29 16 := ⟨_, rfl⟩
  rw [← eM31] at hP
  obtain ⟨R31, eR31⟩ : ∃ X : Rm, X = zR R30 16 := ⟨_, rfl⟩
  rw [← eR31] at hP
  refine W.widen (k := 16) (n := 11024) (Nat.le_of_ble_eq_true rfl) (Nat.le_of_ble_eq_true rfl) ?_
  have hcl : s.heap.size + 16 = b + 17 := by omega
  refine qpR C hnm hP hS (k := 0) (j := 28) (v := b + 16) (ty := tyX12 28) (Nat.le_of_ble_eq_true rfl) (yr_0 _ _) rfl iw_12 tyX12 tyX12_ok nmX12 (Nat.le_of_ble_eq_true rfl) g_1163 rfl rfl rfl (by decide +kernel) rfl rfl (Nat.le_of_ble_eq_true rfl) rfl dX12_init_137 (fun H locs hP hS => ?_)
  obtain ⟨R32, eR32⟩ : ∃ X : Rm, X = uR R31 0 28 (some (b + 16)) := ⟨_, rfl⟩
  rw [← eR32] at hP
  refine lv_aload_n hx hb dX12_init_140 rfl (lv_at hl 0 rfl) ?_
  refine lv_bipush (v := (16 : Int32)) hx hb dX12_init_141 (by decide) ?_
  refine qna (atype := .int) C (by omega) (by omega) hP hS hcl g_47 rfl (a0 := (16, .inl (fun _ => 0))) (N' := 16) (t0 := 0) rfl pr_int (fun _ => rfl) (by decide) (by decide) (Nat.le_of_ble_eq_true rfl) (Nat.le_of_ble_eq_true rfl) (Nat.le_of_ble_eq_true rfl) rfl dX12_init_143 (fun H hP hS hcl => ?_)
  have hP : va_P z.1 vwCl (pw (dR (yc z) (zR R32 17)) 18 b (zM M31 17)) H := hP
  obtain ⟨M33, eM33⟩ : ∃ X : Mem, X = zM M31 17 := ⟨_, rfl⟩
  rw [← eM33] at hP
  obtain ⟨R33, eR33⟩ : ∃ X : Rm, X = zR R32 17 := ⟨_, rfl⟩
  rw [← eR33] at hP
  refine W.widen (k := 17) (n := 11040) (Nat.le_of_ble_eq_true rfl) (Nat.le_of_ble_eq_true rfl) ?_
  have hcl : s.heap.size + 17 = b + 18 := by omega
  refine qpR C hnm hP hS (k := 0) (j := 29) (v := b + 17) (ty := tyX12 29) (Nat.le_of_ble_eq_true rfl) (yr_0 _ _) rfl iw_12 tyX12 tyX12_ok nmX12 (Nat.le_of_ble_eq_true rfl) g_1164 rfl rfl rfl (by decide +kernel) rfl rfl (Nat.le_of_ble_eq_true rfl) rfl dX12_init_145 (fun H locs hP hS => ?_)
  obtain ⟨R34, eR34⟩ : ∃ X : Rm, X = uR R33 0 29 (some (b + 17)) := ⟨_, rfl⟩
  rw [← eR34] at hP
  refine lv_aload_n hx hb dX12_init_148 rfl (lv_at hl 0 rfl) ?_
  refine lv_bipush (v := (16 : Int32)) hx hb dX12_init_149 (by decide) ?_
  refine qna (atype := .int) C (by omega) (by omega) hP hS hcl g_47 rfl (a0 := (16, .inl (fun _ => 0))) (N' := 16) (t0 := 0) rfl pr_int (fun _ => rfl) (by decide) (by decide) (Nat.le_of_ble_eq_true rfl) (Nat.le_of_ble_eq_true rfl) (Nat.le_of_ble_eq_true rfl) rfl dX12_init_151 (fun H hP hS hcl => ?_)
  have hP : va_P z.1 vwCl (pw (dR (yc z) (zR R34 18)) 19 b (zM M33 18)) H := hP
  obtain ⟨M35, eM35⟩ : ∃ X : Mem, X = zM M33 18 := ⟨_, rfl⟩
  rw [← eM35] at hP
  obtain ⟨R35, eR35⟩ : ∃ X : Rm, X = zR R34 18 := ⟨_, rfl⟩
  rw [← eR35] at hP
  refine W.widen (k := 18) (n := 11056) (Nat.le_of_ble_eq_true rfl) (Nat.le_of_ble_eq_true rfl) ?_
  have hcl : s.heap.size + 18 = b + 19 := by omega
  refine qpR C hnm hP hS (k := 0) (j := 30) (v := b + 18) (ty := tyX12 30) (Nat.le_of_ble_eq_true rfl) (yr_0 _ _) rfl iw_12 tyX12 tyX12_ok nmX12 (Nat.le_of_ble_eq_true rfl) g_1165 rfl rfl rfl (by decide +kernel) rfl rfl (Nat.le_of_ble_eq_true rfl) rfl dX12_init_153 (fun H locs hP hS => ?_)
  obtain ⟨R36, eR36⟩ : ∃ X : Rm, X = uR R35 0 30 (some (b + 18)) := ⟨_, rfl⟩
  rw [← eR36] at hP
  refine lv_aload_n hx hb dX12_init_156 rfl (lv_at hl 0 rfl) ?_
  refine lv_bipush (v := (16 : Int32)) hx hb dX12_init_157 (by decide) ?_
  refine qna (atype := .int) C (by omega) (by omega) hP hS hcl g_47 rfl (a0 := (16, .inl (fun _ => 0))) (N' := 16) (t0 := 0) rfl pr_int (fun _ => rfl) (by decide) (by decide) (Nat.le_of_ble_eq_true rfl) (Nat.le_of_ble_eq_true rfl) (Nat.le_of_ble_eq_true rfl) rfl dX12_init_159 (fun H hP hS hcl => ?_)
  have hP : va_P z.1 vwCl (pw (dR (yc z) (zR R36 19)) 20 b (zM M35 19)) H := hP
  obtain ⟨M37, eM37⟩ : ∃ X : Mem, X = zM M35 19 := ⟨_, rfl⟩
  rw [← eM37] at hP
  obtain ⟨R37, eR37⟩ : ∃ X : Rm, X = zR R36 19 := ⟨_, rfl⟩
  rw [← eR37] at hP
  refine W.widen (k := 19) (n := 11072) (Nat.le_of_ble_eq_true rfl) (Nat.le_of_ble_eq_true rfl) ?_
  have hcl : s.heap.size + 19 = b + 20 := by omega
  refine qpR C hnm hP hS (k := 0) (j := 31) (v := b + 19) (ty := tyX12 31) (Nat.le_of_ble_eq_true rfl) (yr_0 _ _) rfl iw_12 tyX12 tyX12_ok nmX12 (Nat.le_of_ble_eq_true rfl) g_1166 rfl rfl rfl (by decide +kernel) rfl rfl (Nat.le_of_ble_eq_true rfl) rfl dX12_init_161 (fun H locs hP hS => ?_)
  obtain ⟨R38, eR38⟩ : ∃ X : Rm, X = uR R37 0 31 (some (b + 19)) := ⟨_, rfl⟩
  rw [← eR38] at hP
  refine lv_aload_n hx hb dX12_init_164 rfl (lv_at hl 0 rfl) ?_
  refine lv_sipush (v := (260 : Int32)) hx hb dX12_init_165 (by decide) ?_
  refine qna (atype := .int) C (by omega) (by omega) hP hS hcl g_47 rfl (a0 := (260, .inl (fun _ => 0))) (N' := 260) (t0 := 0) rfl pr_int (fun _ => rfl) (by decide) (by decide) (Nat.le_of_ble_eq_true rfl) (Nat.le_of_ble_eq_true rfl) (Nat.le_of_ble_eq_true rfl) rfl dX12_init_168 (fun H hP hS hcl => ?_)
  have hP : va_P z.1 vwCl (pw (dR (yc z) (zR R38 20)) 21 b (zM M37 20)) H := hP
  obtain ⟨M39, eM39⟩ : ∃ X : Mem, X = zM M37 20 := ⟨_, rfl⟩
  rw [← eM39] at hP
  obtain ⟨R39, eR39⟩ : ∃ X : Rm, X = zR R38 20 := ⟨_, rfl⟩
  rw [← eR39] at hP
  refine W.widen (k := 20) (n := 11332) (Nat.le_of_ble_eq_true rfl) (Nat.le_of_ble_eq_true rfl) ?_
  have hcl : s.heap.size + 20 = b + 21 := by omega
  refine qpR C hnm hP hS (k := 0) (j := 32) (v := b + 20) (ty := tyX12 32) (Nat.le_of_ble_eq_true rfl) (yr_0 _ _) rfl iw_12 tyX12 tyX12_ok nmX12 (Nat.le_of_ble_eq_true rfl) g_1167 rfl rfl rfl (by decide +kernel) rfl rfl (Nat.le_of_ble_eq_true rfl) rfl dX12_init_170 (fun H locs hP hS => ?_)
  obtain ⟨R40, eR40⟩ : ∃ X : Rm, X = uR R39 0 32 (some (b + 20)) := ⟨_, rfl⟩
  rw [← eR40] at hP
  refine lv_aload_n hx hb dX12_init_173 rfl (lv_at hl 0 rfl) ?_
  refine lv_bipush (v := (9 : Int32)) hx hb dX12_init_174 (by decide) ?_
  refine qna (atype := .int) C (by omega) (by omega) hP hS hcl g_47 rfl (a0 := (9, .inl (fun _ => 0))) (N' := 9) (t0 := 0) rfl pr_int (fun _ => rfl) (by decide) (by decide) (Nat.le_of_ble_eq_true rfl) (Nat.le_of_ble_eq_true rfl) (Nat.le_of_ble_eq_true rfl) rfl dX12_init_176 (fun H hP hS hcl => ?_)
  have hP : va_P z.1 vwCl (pw (dR (yc z) (zR R40 21)) 22 b (zM M39 21)) H := hP
  obtain ⟨M41, eM41⟩ : ∃ X : Mem, X = zM M39 21 := ⟨_, rfl⟩
  rw [← eM41] at hP
  obtain ⟨R41, eR41⟩ : ∃ X : Rm, X = zR R40 21 := ⟨_, rfl⟩
  rw [← eR41] at hP
  refine W.widen (k := 21) (n := 11341) (Nat.le_of_ble_eq_true rfl) (Nat.le_of_ble_eq_true rfl) ?_
  have hcl : s.heap.size + 21 = b + 22 := by omega
  refine qpR C hnm hP hS (k := 0) (j := 33) (v := b + 21) (ty := tyX12 33) (Nat.le_of_ble_eq_true rfl) (yr_0 _ _) rfl iw_12 tyX12 tyX12_ok nmX12 (Nat.le_of_ble_eq_true rfl) g_1168 rfl rfl rfl (by decide +kernel) rfl rfl (Nat.le_of_ble_eq_true rfl) rfl dX12_init_178 (fun H locs hP hS => ?_)
  obtain ⟨R42, eR42⟩ : ∃ X : Rm, X = uR R41 0 33 (some (b + 21)) := ⟨_, rfl⟩
  rw [← eR42] at hP
  refine lv_aload_n hx hb dX12_init_181 rfl (lv_at hl 0 rfl) ?_
  refine lv_bipush (v := (96 : Int32)) hx hb dX12_init_182 (by decide) ?_
  refine qna (atype := .int) C (by omega) (by omega) hP hS hcl g_47 rfl (a0 := (96, .inl (fun _ => 0))) (N' := 96) (t0 := 0) rfl pr_int (fun _ => rfl) (by decide) (by decide) (Nat.le_of_ble_eq_true rfl) (Nat.le_of_ble_eq_true rfl) (Nat.le_of_ble_eq_true rfl) rfl dX12_init_184 (fun H hP hS hcl => ?_)
  have hP : va_P z.1 vwCl (pw (dR (yc z) (zR R42 22)) 23 b (zM M41 22)) H := hP
  obtain ⟨M43, eM43⟩ : ∃ X : Mem, X = zM M41 22 := ⟨_, rfl⟩
  rw [← eM43] at hP
  obtain ⟨R43, eR43⟩ : ∃ X : Rm, X = zR R42 22 := ⟨_, rfl⟩
  rw [← eR43] at hP
  refine W.widen (k := 22) (n := 11437) (Nat.le_of_ble_eq_true rfl) (Nat.le_of_ble_eq_true rfl) ?_
  have hcl : s.heap.size + 22 = b + 23 := by omega
  refine qpR C hnm hP hS (k := 0) (j := 34) (v := b + 22) (ty := tyX12 34) (Nat.le_of_ble_eq_true rfl) (yr_0 _ _) rfl iw_12 tyX12 tyX12_ok nmX12 (Nat.le_of_ble_eq_true rfl) g_1169 rfl rfl rfl (by decide +kernel) rfl rfl (Nat.le_of_ble_eq_true rfl) rfl dX12_init_186 (fun H locs hP hS => ?_)
  obtain ⟨R44, eR44⟩ : ∃ X : Rm, X = uR R43 0 34 (some (b + 22)) := ⟨_, rfl⟩
  rw [← eR44] at hP
  refine lv_aload_n hx hb dX12_init_189 rfl (lv_at hl 0 rfl) ?_
  refine lv_bipush (v := (24 : Int32)) hx hb dX12_init_190 (by decide) ?_
  refine qna (atype := .int) C (by omega) (by omega) hP hS hcl g_47 rfl (a0 := (24, .inl (fun _ => 0))) (N' := 24) (t0 := 0) rfl pr_int (fun _ => rfl) (by decide) (by decide) (Nat.le_of_ble_eq_true rfl) (Nat.le_of_ble_eq_true rfl) (Nat.le_of_ble_eq_true rfl) rfl dX12_init_192 (fun H hP hS hcl => ?_)
  have hP : va_P z.1 vwCl (pw (dR (yc z) (zR R44 23)) 24 b (zM M43 23)) H := hP
  obtain ⟨M45, eM45⟩ : ∃ X : Mem, X = zM M43 23 := ⟨_, rfl⟩
  rw [← eM45] at hP
  obtain ⟨R45, eR45⟩ : ∃ X : Rm, X = zR R44 23 := ⟨_, rfl⟩
  rw [← eR45] at hP
  refine W.widen (k := 23) (n := 11461) (Nat.le_of_ble_eq_true rfl) (Nat.le_of_ble_eq_true rfl) ?_
  have hcl : s.heap.size + 23 = b + 24 := by omega
  refine qpR C hnm hP hS (k := 0) (j := 40) (v := b + 23) (ty := tyX12 40) (Nat.le_of_ble_eq_true rfl) (yr_0 _ _) rfl iw_12 tyX12 tyX12_ok nmX12 (Nat.le_of_ble_eq_true rfl) g_1175 rfl rfl rfl (by decide +kernel) rfl rfl (Nat.le_of_ble_eq_true rfl) rfl dX12_init_194 (fun H locs hP hS => ?_)
  obtain ⟨R46, eR46⟩ : ∃ X : Rm, X = uR R45 0 40 (some (b + 23)) := ⟨_, rfl⟩
  rw [← eR46] at hP
  refine lv_aload_n hx hb dX12_init_197 rfl (lv_at hl 0 rfl) ?_
  refine lv_sipush (v := (4608 : Int32)) hx hb dX12_init_198 (by decide) ?_
  refine qna (atype := .int) C (by omega) (by omega) hP hS hcl g_47 rfl (a0 := (4608, .inl (fun _ => 0))) (N' := 4608) (t0 := 0) rfl pr_int (fun _ => rfl) (by decide) (by decide) (Nat.le_of_ble_eq_true rfl) (Nat.le_of_ble_eq_true rfl) (Nat.le_of_ble_eq_true rfl) rfl dX12_init_201 (fun H hP hS hcl => ?_)
  have hP : va_P z.1 vwCl (pw (dR (yc z) (zR R46 24)) 25 b (zM M45 24)) H := hP
  obtain ⟨M47, eM47⟩ : ∃ X : Mem, X = zM M45 24 := ⟨_, rfl⟩
  rw [← eM47] at hP
  obtain ⟨R47, eR47⟩ : ∃ X : Rm, X = zR R46 24 := ⟨_, rfl⟩
  rw [← eR47] at hP
  refine W.widen (k := 24) (n := 16069) (Nat.le_of_ble_eq_true rfl) (Nat.le_of_ble_eq_true rfl) ?_
  have hcl : s.heap.size + 24 = b + 25 := by omega
  refine qpR C hnm hP hS (k := 0) (j := 43) (v := b + 24) (ty := tyX12 43) (Nat.le_of_ble_eq_true rfl) (yr_0 _ _) rfl iw_12 tyX12 tyX12_ok nmX12 (Nat.le_of_ble_eq_true rfl) g_1178 rfl rfl rfl (by decide +kernel) rfl rfl (Nat.le_of_ble_eq_true rfl) rfl dX12_init_203 (fun H locs hP hS => ?_)
  obtain ⟨R48, eR48⟩ : ∃ X : Rm, X = uR R47 0 43 (some (b + 24)) := ⟨_, rfl⟩
  rw [← eR48] at hP
  refine lv_aload_n hx hb dX12_init_206 rfl (lv_at hl 0 rfl) ?_
  refine lv_bipush (v := (9 : Int32)) hx hb dX12_init_207 (by decide) ?_
  refine qna (atype := .int) C (by omega) (by omega) hP hS hcl g_47 rfl (a0 := (9, .inl (fun _ => 0))) (N' := 9) (t0 := 0) rfl pr_int (fun _ => rfl) (by decide) (by decide) (Nat.le_of_ble_eq_true rfl) (Nat.le_of_ble_eq_true rfl) (Nat.le_of_ble_eq_true rfl) rfl dX12_init_209 (fun H hP hS hcl => ?_)
  have hP : va_P z.1 vwCl (pw (dR (yc z) (zR R48 25)) 26 b (zM M47 25)) H := hP
  obtain ⟨M49, eM49⟩ : ∃ X : Mem, X = zM M47 25 := ⟨_, rfl⟩
  rw [← eM49] at hP
  obtain ⟨R49, eR49⟩ : ∃ X : Rm, X = zR R48 25 := ⟨_, rfl⟩
  rw [← eR49] at hP
  refine W.widen (k := 25) (n := 16078) (Nat.le_of_ble_eq_true rfl) (Nat.le_of_ble_eq_true rfl) ?_
  have hcl : s.heap.size + 25 = b + 26 := by omega
  refine qpR C hnm hP hS (k := 0) (j := 44) (v := b + 25) (ty := tyX12 44) (Nat.le_of_ble_eq_true rfl) (yr_0 _ _) rfl iw_12 tyX12 tyX12_ok nmX12 (Nat.le_of_ble_eq_true rfl) g_1179 rfl rfl rfl (by decide +kernel) rfl rfl (Nat.le_of_ble_eq_true rfl) rfl dX12_init_211 (fun H locs hP hS => ?_)
  obtain ⟨R50, eR50⟩ : ∃ X : Rm, X = uR R49 0 44 (some (b + 25)) := ⟨_, rfl⟩
  rw [← eR50] at hP
  refine lv_aload_n hx hb dX12_init_214 rfl (lv_at hl 0 rfl) ?_
  refine lv_bipush (v := (96 : Int32)) hx hb dX12_init_215 (by decide) ?_
  refine qna (atype := .int) C (by omega) (by omega) hP hS hcl g_47 rfl (a0 := (96, .inl (fun _ => 0))) (N' := 96) (t0 := 0) rfl pr_int (fun _ => rfl) (by decide) (by decide) (Nat.le_of_ble_eq_true rfl) (Nat.le_of_ble_eq_true rfl) (Nat.le_of_ble_eq_true rfl) rfl dX12_init_217 (fun H hP hS hcl => ?_)
  have hP : va_P z.1 vwCl (pw (dR (yc z) (zR R50 26)) 27 b (zM M49 26)) H := hP
  obtain ⟨M51, eM51⟩ : ∃ X : Mem, X = zM M49 26 := ⟨_, rfl⟩
  rw [← eM51] at hP
  obtain ⟨R51, eR51⟩ : ∃ X : Rm, X = zR R50 26 := ⟨_, rfl⟩
  rw [← eR51] at hP
  refine W.widen (k := 26) (n := 16174) (Nat.le_of_ble_eq_true rfl) (Nat.le_of_ble_eq_true rfl) ?_
  have hcl : s.heap.size + 26 = b + 27 := by omega
  refine qpR C hnm hP hS (k := 0) (j := 47) (v := b + 26) (ty := tyX12 47) (Nat.le_of_ble_eq_true rfl) (yr_0 _ _) rfl iw_12 tyX12 tyX12_ok nmX12 (Nat.le_of_ble_eq_true rfl) g_1182 rfl rfl rfl (by decide +kernel) rfl rfl (Nat.le_of_ble_eq_true rfl) rfl dX12_init_219 (fun H locs hP hS => ?_)
  obtain ⟨R52, eR52⟩ : ∃ X : Rm, X = uR R51 0 47 (some (b + 26)) := ⟨_, rfl⟩
  rw [← eR52] at hP
  refine lv_aload_n hx hb dX12_init_222 rfl (lv_at hl 0 rfl) ?_
  refine lv_sipush (v := (9216 : Int32)) hx hb dX12_init_223 (by decide) ?_
  refine qna (atype := .byte) C (by omega) (by omega) hP hS hcl g_674 rfl (a0 := (9216, .inl (fun _ => 0))) (N' := 9216) (t0 := 2) rfl pr_byte (fun _ => rfl) (by decide) (by decide) (Nat.le_of_ble_eq_true rfl) (Nat.le_of_ble_eq_true rfl) (Nat.le_of_ble_eq_true rfl) rfl dX12_init_226 (fun H hP hS hcl => ?_)
  have hP : va_P z.1 vwCl (pw (dR (yc z) (zR R52 27)) 28 b (zM M51 27)) H := hP
  obtain ⟨M53, eM53⟩ : ∃ X : Mem, X = zM M51 27 := ⟨_, rfl⟩
  rw [← eM53] at hP
  obtain ⟨R53, eR53⟩ : ∃ X : Rm, X = zR R52 27 := ⟨_, rfl⟩
  rw [← eR53] at hP
  refine W.widen (k := 27) (n := 25390) (Nat.le_of_ble_eq_true rfl) (Nat.le_of_ble_eq_true rfl) ?_
  have hcl : s.heap.size + 27 = b + 28 := by omega
  refine qpR C hnm hP hS (k := 0) (j := 48) (v := b + 27) (ty := tyX12 48) (Nat.le_of_ble_eq_true rfl) (yr_0 _ _) rfl iw_12 tyX12 tyX12_ok nmX12 (Nat.le_of_ble_eq_true rfl) g_1183 rfl rfl rfl (by decide +kernel) rfl rfl (Nat.le_of_ble_eq_true rfl) rfl dX12_init_228 (fun H locs hP hS => ?_)
  obtain ⟨R54, eR54⟩ : ∃ X : Rm, X = uR R53 0 48 (some (b + 27)) := ⟨_, rfl⟩
  rw [← eR54] at hP
  refine lv_aload_n hx hb dX12_init_231 rfl (lv_at hl 0 rfl) ?_
  refine lv_sipush (v := (9216 : Int32)) hx hb dX12_init_232 (by decide) ?_
  refine qna (atype := .boolean) C (by omega) (by omega) hP hS hcl g_1298 rfl (a0 := (9216, .inl (fun _ => 0))) (N' := 9216) (t0 := 3) rfl pr_boolean (fun _ => rfl) (by decide) (by decide) (Nat.le_of_ble_eq_true rfl) (Nat.le_of_ble_eq_true rfl) (Nat.le_of_ble_eq_true rfl) rfl dX12_init_235 (fun H hP hS hcl => ?_)
  have hP : va_P z.1 vwCl (pw (dR (yc z) (zR R54 28)) 29 b (zM M53 28)) H := hP
  obtain ⟨M55, eM55⟩ : ∃ X : Mem, X = zM M53 28 := ⟨_, rfl⟩
  rw [← eM55] at hP
  obtain ⟨R55, eR55⟩ : ∃ X : Rm, X = zR R54 28 := ⟨_, rfl⟩
  rw [← eR55] at hP
  refine W.widen (k := 28) (n := 34606) (Nat.le_of_ble_eq_true rfl) (Nat.le_of_ble_eq_true rfl) ?_
  have hcl : s.heap.size + 28 = b + 29 := by omega
  refine qpR C hnm hP hS (k := 0) (j := 49) (v := b + 28) (ty := tyX12 49) (Nat.le_of_ble_eq_true rfl) (yr_0 _ _) rfl iw_12 tyX12 tyX12_ok nmX12 (Nat.le_of_ble_eq_true rfl) g_1184 rfl rfl rfl (by decide +kernel) rfl rfl (Nat.le_of_ble_eq_true rfl) rfl dX12_init_237 (fun H locs hP hS => ?_)
  obtain ⟨R56, eR56⟩ : ∃ X : Rm, X = uR R55 0 49 (some (b + 28)) := ⟨_, rfl⟩
  rw [← eR56] at hP
  refine lv_aload_n hx hb dX12_init_240 rfl (lv_at hl 0 rfl) ?_
  refine lv_bipush (v := (96 : Int32)) hx hb dX12_init_241 (by decide) ?_
  refine qna (atype := .long) C (by omega) (by omega) hP hS hcl g_346 rfl (a0 := (96, .inr (.inl (fun _ => 0)))) (N' := 96) (t0 := 1) rfl pr_long (fun _ => rfl) (by decide) (by decide) (Nat.le_of_ble_eq_true rfl) (Nat.le_of_ble_eq_true rfl) (Nat.le_of_ble_eq_true rfl) rfl dX12_init_243 (fun H hP hS hcl => ?_)
  have hP : va_P z.1 vwCl (pw (dR (yc z) (zR R56 29)) 30 b (zM M55 29)) H := hP
  obtain ⟨M57, eM57⟩ : ∃ X : Mem, X = zM M55 29 := ⟨_, rfl⟩
  rw [← eM57] at hP
  obtain ⟨R57, eR57⟩ : ∃ X : Rm, X = zR R56 29 := ⟨_, rfl⟩
  rw [← eR57] at hP
  refine W.widen (k := 29) (n := 34702) (Nat.le_of_ble_eq_true rfl) (Nat.le_of_ble_eq_true rfl) ?_
  have hcl : s.heap.size + 29 = b + 30 := by omega
  refine qpR C hnm hP hS (k := 0) (j := 50) (v := b + 29) (ty := tyX12 50) (Nat.le_of_ble_eq_true rfl) (yr_0 _ _) rfl iw_12 tyX12 tyX12_ok nmX12 (Nat.le_of_ble_eq_true rfl) g_1185 rfl rfl rfl (by decide +kernel) rfl rfl (Nat.le_of_ble_eq_true rfl) rfl dX12_init_245 (fun H locs hP hS => ?_)
  obtain ⟨R58, eR58⟩ : ∃ X : Rm, X = uR R57 0 50 (some (b + 29)) := ⟨_, rfl⟩
  rw [← eR58] at hP
  refine lv_aload_n hx hb dX12_init_248 rfl (lv_at hl 0 rfl) ?_
  refine lv_bipush (v := (96 : Int32)) hx hb dX12_init_249 (by decide) ?_
  refine qna (atype := .long) C (by omega) (by omega) hP hS hcl g_346 rfl (a0 := (96, .inr (.inl (fun _ => 0)))) (N' := 96) (t0 := 1) rfl pr_long (fun _ => rfl) (by decide) (by decide) (Nat.le_of_ble_eq_true rfl) (Nat.le_of_ble_eq_true rfl) (Nat.le_of_ble_eq_true rfl) rfl dX12_init_251 (fun H hP hS hcl => ?_)
  have hP : va_P z.1 vwCl (pw (dR (yc z) (zR R58 30)) 31 b (zM M57 30)) H := hP
  obtain ⟨M59, eM59⟩ : ∃ X : Mem, X = zM M57 30 := ⟨_, rfl⟩
  rw [← eM59] at hP
  obtain ⟨R59, eR59⟩ : ∃ X : Rm, X = zR R58 30 := ⟨_, rfl⟩
  rw [← eR59] at hP
  refine W.widen (k := 30) (n := 34798) (Nat.le_of_ble_eq_true rfl) (Nat.le_of_ble_eq_true rfl) ?_
  have hcl : s.heap.size + 30 = b + 31 := by omega
  refine qpR C hnm hP hS (k := 0) (j := 51) (v := b + 30) (ty := tyX12 51) (Nat.le_of_ble_eq_true rfl) (yr_0 _ _) rfl iw_12 tyX12 tyX12_ok nmX12 (Nat.le_of_ble_eq_true rfl) g_1186 rfl rfl rfl (by decide +kernel) rfl rfl (Nat.le_of_ble_eq_true rfl) rfl dX12_init_253 (fun H locs hP hS => ?_)
  obtain ⟨R60, eR60⟩ : ∃ X : Rm, X = uR R59 0 51 (some (b + 30)) := ⟨_, rfl⟩
  rw [← eR60] at hP
  refine lv_aload_n hx hb dX12_init_256 rfl (lv_at hl 0 rfl) ?_
  refine lv_bipush (v := (96 : Int32)) hx hb dX12_init_257 (by decide) ?_
  refine qna (atype := .boolean) C (by omega) (by omega) hP hS hcl g_1298 rfl (a0 := (96, .inl (fun _ => 0))) (N' := 96) (t0 := 3) rfl pr_boolean (fun _ => rfl) (by decide) (by decide) (Nat.le_of_ble_eq_true rfl) (Nat.le_of_ble_eq_true rfl) (Nat.le_of_ble_eq_true rfl) rfl dX12_init_259 (fun H hP hS hcl => ?_)
  have hP : va_P z.1 vwCl (pw (dR (yc z) (zR R60 31)) 32 b (zM M59 31)) H := hP
  obtain ⟨M61, eM61⟩ : ∃ X : Mem, X = zM M59 31 := ⟨_, rfl⟩
  rw [← eM61] at hP
  obtain ⟨R61, eR61⟩ : ∃ X : Rm, X = zR R60 31 := ⟨_, rfl⟩
  rw [← eR61] at hP
  refine W.widen (k := 31) (n := 34894) (Nat.le_of_ble_eq_true rfl) (Nat.le_of_ble_eq_true rfl) ?_
  have hcl : s.heap.size + 31 = b + 32 := by omega
  refine qpR C hnm hP hS (k := 0) (j := 52) (v := b + 31) (ty := tyX12 52) (Nat.le_of_ble_eq_true rfl) (yr_0 _ _) rfl iw_12 tyX12 tyX12_ok nmX12 (Nat.le_of_ble_eq_true rfl) g_1187 rfl rfl rfl (by decide +kernel) rfl rfl (Nat.le_of_ble_eq_true rfl) rfl dX12_init_261 (fun H locs hP hS => ?_)
  obtain ⟨R62, eR62⟩ : ∃ X : Rm, X = uR R61 0 52 (some (b + 31)) := ⟨_, rfl⟩
  rw [← eR62] at hP
  have h_0 : R62 0 0 = some (b + 1) := by simp [eR1, eR2, eR3, eR4, eR5, eR6, eR7, eR8, eR9, eR10, eR11, eR12, eR13, eR14, eR15, eR16, eR17, eR18, eR19, eR20, eR21, eR22, eR23, eR24, eR25, eR26, eR27, eR28, eR29, eR30, eR31, eR32, eR33, eR34, eR35, eR36, eR37, eR38, eR39, eR40, eR41, eR42, eR43, eR44, eR45, eR46, eR47, eR48, eR49, eR50, eR51, eR52, eR53, eR54, eR55, eR56, eR57, eR58, eR59, eR60, eR61, eR62, uR, zR]
  have h_1 : R62 0 1 = some (b + 2) := by simp [eR1, eR2, eR3, eR4, eR5, eR6, eR7, eR8, eR9, eR10, eR11, eR12, eR13, eR14, eR15, eR16, eR17, eR18, eR19, eR20, eR21, eR22, eR23, eR24, eR25, eR26, eR27, eR28, eR29, eR30, eR31, eR32, eR33, eR34, eR35, eR36, eR37, eR38, eR39, eR40, eR41, eR42, eR43, eR44, eR45, eR46, eR47, eR48, eR49, eR50, eR51, eR52, eR53, eR54, eR55, eR56, eR57, eR58, eR59, eR60, eR61, eR62, uR, zR]
  have h_2 : R62 0 2 = some (b + 3) := by simp [eR1, eR2, eR3, eR4, eR5, eR6, eR7, eR8, eR9, eR10, eR11, eR12, eR13, eR14, eR15, eR16, eR17, eR18, eR19, eR20, eR21, eR22, eR23, eR24, eR25, eR26, eR27, eR28, eR29, eR30, eR31, eR32, eR33, eR34, eR35, eR36, eR37, eR38, eR39, eR40, eR41, eR42, eR43, eR44, eR45, eR46, eR47, eR48, eR49, eR50, eR51, eR52, eR53, eR54, eR55, eR56, eR57, eR58, eR59, eR60, eR61, eR62, uR, zR]
  have h_3 : R62 0 3 = some (b + 4) := by simp [eR1, eR2, eR3, eR4, eR5, eR6, eR7, eR8, eR9, eR10, eR11, eR12, eR13, eR14, eR15, eR16, eR17, eR18, eR19, eR20, eR21, eR22, eR23, eR24, eR25, eR26, eR27, eR28, eR29, eR30, eR31, eR32, eR33, eR34, eR35, eR36, eR37, eR38, eR39, eR40, eR41, eR42, eR43, eR44, eR45, eR46, eR47, eR48, eR49, eR50, eR51, eR52, eR53, eR54, eR55, eR56, eR57, eR58, eR59, eR60, eR61, eR62, uR, zR]
  have h_4 : R62 0 4 = some (b + 5) := by simp [eR1, eR2, eR3, eR4, eR5, eR6, eR7, eR8, eR9, eR10, eR11, eR12, eR13, eR14, eR15, eR16, eR17, eR18, eR19, eR20, eR21, eR22, eR23, eR24, eR25, eR26, eR27, eR28, eR29, eR30, eR31, eR32, eR33, eR34, eR35, eR36, eR37, eR38, eR39, eR40, eR41, eR42, eR43, eR44, eR45, eR46, eR47, eR48, eR49, eR50, eR51, eR52, eR53, eR54, eR55, eR56, eR57, eR58, eR59, eR60, eR61, eR62, uR, zR]
  have h_7 : R62 0 7 = some (b + 6) := by simp [eR1, eR2, eR3, eR4, eR5, eR6, eR7, eR8, eR9, eR10, eR11, eR12, eR13, eR14, eR15, eR16, eR17, eR18, eR19, eR20, eR21, eR22, eR23, eR24, eR25, eR26, eR27, eR28, eR29, eR30, eR31, eR32, eR33, eR34, eR35, eR36, eR37, eR38, eR39, eR40, eR41, eR42, eR43, eR44, eR45, eR46, eR47, eR48, eR49, eR50, eR51, eR52, eR53, eR54, eR55, eR56, eR57, eR58, eR59, eR60, eR61, eR62, uR, zR]
  have h_8 : R62 0 8 = some (b + 7) := by simp [eR1, eR2, eR3, eR4, eR5, eR6, eR7, eR8, eR9, eR10, eR11, eR12, eR13, eR14, eR15, eR16, eR17, eR18, eR19, eR20, eR21, eR22, eR23, eR24, eR25, eR26, eR27, eR28, eR29, eR30, eR31, eR32, eR33, eR34, eR35, eR36, eR37, eR38, eR39, eR40, eR41, eR42, eR43, eR44, eR45, eR46, eR47, eR48, eR49, eR50, eR51, eR52, eR53, eR54, eR55, eR56, eR57, eR58, eR59, eR60, eR61, eR62, uR, zR]
  have h_10 : R62 0 10 = some (b + 8) := by simp [eR1, eR2, eR3, eR4, eR5, eR6, eR7, eR8, eR9, eR10, eR11, eR12, eR13, eR14, eR15, eR16, eR17, eR18, eR19, eR20, eR21, eR22, eR23, eR24, eR25, eR26, eR27, eR28, eR29, eR30, eR31, eR32, eR33, eR34, eR35, eR36, eR37, eR38, eR39, eR40, eR41, eR42, eR43, eR44, eR45, eR46, eR47, eR48, eR49, eR50, eR51, eR52, eR53, eR54, eR55, eR56, eR57, eR58, eR59, eR60, eR61, eR62, uR, zR]
  have h_21 : R62 0 21 = some (b + 9) := by simp [eR1, eR2, eR3, eR4, eR5, eR6, eR7, eR8, eR9, eR10, eR11, eR12, eR13, eR14, eR15, eR16, eR17, eR18, eR19, eR20, eR21, eR22, eR23, eR24, eR25, eR26, eR27, eR28, eR29, eR30, eR31, eR32, eR33, eR34, eR35, eR36, eR37, eR38, eR39, eR40, eR41, eR42, eR43, eR44, eR45, eR46, eR47, eR48, eR49, eR50, eR51, eR52, eR53, eR54, eR55, eR56, eR57, eR58, eR59, eR60, eR61, eR62, uR, zR]
  have h_22 : R62 0 22 = some (b + 10) := by simp [eR1, eR2, eR3, eR4, eR5, eR6, eR7, eR8, eR9, eR10, eR11, eR12, eR13, eR14, eR15, eR16, eR17, eR18, eR19, eR20, eR21, eR22, eR23, eR24, eR25, eR26, eR27, eR28, eR29, eR30, eR31, eR32, eR33, eR34, eR35, eR36, eR37, eR38, eR39, eR40, eR41, eR42, eR43, eR44, eR45, eR46, eR47, eR48, eR49, eR50, eR51, eR52, eR53, eR54, eR55, eR56, eR57, eR58, eR59, eR60, eR61, eR62, uR, zR]
  have h_23 : R62 0 23 = some (b + 11) := by simp [eR1, eR2, eR3, eR4, eR5, eR6, eR7, eR8, eR9, eR10, eR11, eR12, eR13, eR14, eR15, eR16, eR17, eR18, eR19, eR20, eR21, eR22, eR23, eR24, eR25, eR26, eR27, eR28, eR29, eR30, eR31, eR32, eR33, eR34, eR35, eR36, eR37, eR38, eR39, eR40, eR41, eR42, eR43, eR44, eR45, eR46, eR47, eR48, eR49, eR50, eR51, eR52, eR53, eR54, eR55, eR56, eR57, eR58, eR59, eR60, eR61, eR62, uR, zR]
  have h_24 : R62 0 24 = some (b + 12) := by simp [eR1, eR2, eR3, eR4, eR5, eR6, eR7, eR8, eR9, eR10, eR11, eR12, eR13, eR14, eR15, eR16, eR17, eR18, eR19, eR20, eR21, eR22, eR23, eR24, eR25, eR26, eR27, eR28, eR29, eR30, eR31, eR32, eR33, eR34, eR35, eR36, eR37, eR38, eR39, eR40, eR41, eR42, eR43, eR44, eR45, eR46, eR47, eR48, eR49, eR50, eR51, eR52, eR53, eR54, eR55, eR56, eR57, eR58, eR59, eR60, eR61, eR62, uR, zR]
  have h_25 : R62 0 25 = some (b + 13) := by simp [eR1, eR2, eR3, eR4, eR5, eR6, eR7, eR8, eR9, eR10, eR11, eR12, eR13, eR14, eR15, eR16, eR17, eR18, eR19, eR20, eR21, eR22, eR23, eR24, eR25, eR26, eR27, eR28, eR29, eR30, eR31, eR32, eR33, eR34, eR35, eR36, eR37, eR38, eR39, eR40, eR41, eR42, eR43, eR44, eR45, eR46, eR47, eR48, eR49, eR50, eR51, eR52, eR53, eR54, eR55, eR56, eR57, eR58, eR59, eR60, eR61, eR62, uR, zR]
  have h_26 : R62 0 26 = some (b + 14) := by simp [eR1, eR2, eR3, eR4, eR5, eR6, eR7, eR8, eR9, eR10, eR11, eR12, eR13, eR14, eR15, eR16, eR17, eR18, eR19, eR20, eR21, eR22, eR23, eR24, eR25, eR26, eR27, eR28, eR29, eR30, eR31, eR32, eR33, eR34, eR35, eR36, eR37, eR38, eR39, eR40, eR41, eR42, eR43, eR44, eR45, eR46, eR47, eR48, eR49, eR50, eR51, eR52, eR53, eR54, eR55, eR56, eR57, eR58, eR59, eR60, eR61, eR62, uR, zR]
  have h_27 : R62 0 27 = some (b + 15) := by simp [eR1, eR2, eR3, eR4, eR5, eR6, eR7, eR8, eR9, eR10, eR11, eR12, eR13, eR14, eR15, eR16, eR17, eR18, eR19, eR20, eR21, eR22, eR23, eR24, eR25, eR26, eR27, eR28, eR29, eR30, eR31, eR32, eR33, eR34, eR35, eR36, eR37, eR38, eR39, eR40, eR41, eR42, eR43, eR44, eR45, eR46, eR47, eR48, eR49, eR50, eR51, eR52, eR53, eR54, eR55, eR56, eR57, eR58, eR59, eR60, eR61, eR62, uR, zR]
  have h_28 : R62 0 28 = some (b + 16) := by simp [eR1, eR2, eR3, eR4, eR5, eR6, eR7, eR8, eR9, eR10, eR11, eR12, eR13, eR14, eR15, eR16, eR17, eR18, eR19, eR20, eR21, eR22, eR23, eR24, eR25, eR26, eR27, eR28, eR29, eR30, eR31, eR32, eR33, eR34, eR35, eR36, eR37, eR38, eR39, eR40, eR41, eR42, eR43, eR44, eR45, eR46, eR47, eR48, eR49, eR50, eR51, eR52, eR53, eR54, eR55, eR56, eR57, eR58, eR59, eR60, eR61, eR62, uR, zR]
  have h_29 : R62 0 29 = some (b + 17) := by simp [eR1, eR2, eR3, eR4, eR5, eR6, eR7, eR8, eR9, eR10, eR11, eR12, eR13, eR14, eR15, eR16, eR17, eR18, eR19, eR20, eR21, eR22, eR23, eR24, eR25, eR26, eR27, eR28, eR29, eR30, eR31, eR32, eR33, eR34, eR35, eR36, eR37, eR38, eR39, eR40, eR41, eR42, eR43, eR44, eR45, eR46, eR47, eR48, eR49, eR50, eR51, eR52, eR53, eR54, eR55, eR56, eR57, eR58, eR59, eR60, eR61, eR62, uR, zR]
  have h_30 : R62 0 30 = some (b + 18) := by simp [eR1, eR2, eR3, eR4, eR5, eR6, eR7, eR8, eR9, eR10, eR11, eR12, eR13, eR14, eR15, eR16, eR17, eR18, eR19, eR20, eR21, eR22, eR23, eR24, eR25, eR26, eR27, eR28, eR29, eR30, eR31, eR32, eR33, eR34, eR35, eR36, eR37, eR38, eR39, eR40, eR41, eR42, eR43, eR44, eR45, eR46, eR47, eR48, eR49, eR50, eR51, eR52, eR53, eR54, eR55, eR56, eR57, eR58, eR59, eR60, eR61, eR62, uR, zR]
  have h_31 : R62 0 31 = some (b + 19) := by simp [eR1, eR2, eR3, eR4, eR5, eR6, eR7, eR8, eR9, eR10, eR11, eR12, eR13, eR14, eR15, eR16, eR17, eR18, eR19, eR20, eR21, eR22, eR23, eR24, eR25, eR26, eR27, eR28, eR29, eR30, eR31, eR32, eR33, eR34, eR35, eR36, eR37, eR38, eR39, eR40, eR41, eR42, eR43, eR44, eR45, eR46, eR47, eR48, eR49, eR50, eR51, eR52, eR53, eR54, eR55, eR56, eR57, eR58, eR59, eR60, eR61, eR62, uR, zR]
  have h_32 : R62 0 32 = some (b + 20) := by simp [eR1, eR2, eR3, eR4, eR5, eR6, eR7, eR8, eR9, eR10, eR11, eR12, eR13, eR14, eR15, eR16, eR17, eR18, eR19, eR20, eR21, eR22, eR23, eR24, eR25, eR26, eR27, eR28, eR29, eR30, eR31, eR32, eR33, eR34, eR35, eR36, eR37, eR38, eR39, eR40, eR41, eR42, eR43, eR44, eR45, eR46, eR47, eR48, eR49, eR50, eR51, eR52, eR53, eR54, eR55, eR56, eR57, eR58, eR59, eR60, eR61, eR62, uR, zR]
  have h_33 : R62 0 33 = some (b + 21) := by simp [eR1, eR2, eR3, eR4, eR5, eR6, eR7, eR8, eR9, eR10, eR11, eR12, eR13, eR14, eR15, eR16, eR17, eR18, eR19, eR20, eR21, eR22, eR23, eR24, eR25, eR26, eR27, eR28, eR29, eR30, eR31, eR32, eR33, eR34, eR35, eR36, eR37, eR38, eR39, eR40, eR41, eR42, eR43, eR44, eR45, eR46, eR47, eR48, eR49, eR50, eR51, eR52, eR53, eR54, eR55, eR56, eR57, eR58, eR59, eR60, eR61, eR62, uR, zR]
  have h_34 : R62 0 34 = some (b + 22) := by simp [eR1, eR2, eR3, eR4, eR5, eR6, eR7, eR8, eR9, eR10, eR11, eR12, eR13, eR14, eR15, eR16, eR17, eR18, eR19, eR20, eR21, eR22, eR23, eR24, eR25, eR26, eR27, eR28, eR29, eR30, eR31, eR32, eR33, eR34, eR35, eR36, eR37, eR38, eR39, eR40, eR41, eR42, eR43, eR44, eR45, eR46, eR47, eR48, eR49, eR50, eR51, eR52, eR53, eR54, eR55, eR56, eR57, eR58, eR59, eR60, eR61, eR62, uR, zR]
  have h_40 : R62 0 40 = some (b + 23) := by simp [eR1, eR2, eR3, eR4, eR5, eR6, eR7, eR8, eR9, eR10, eR11, eR12, eR13, eR14, eR15, eR16, eR17, eR18, eR19, eR20, eR21, eR22, eR23, eR24, eR25, eR26, eR27, eR28, eR29, eR30, eR31, eR32, eR33, eR34, eR35, eR36, eR37, eR38, eR39, eR40, eR41, eR42, eR43, eR44, eR45, eR46, eR47, eR48, eR49, eR50, eR51, eR52, eR53, eR54, eR55, eR56, eR57, eR58, eR59, eR60, eR61, eR62, uR, zR]
  have h_43 : R62 0 43 = some (b + 24) := by simp [eR1, eR2, eR3, eR4, eR5, eR6, eR7, eR8, eR9, eR10, eR11, eR12, eR13, eR14, eR15, eR16, eR17, eR18, eR19, eR20, eR21, eR22, eR23, eR24, eR25, eR26, eR27, eR28, eR29, eR30, eR31, eR32, eR33, eR34, eR35, eR36, eR37, eR38, eR39, eR40, eR41, eR42, eR43, eR44, eR45, eR46, eR47, eR48, eR49, eR50, eR51, eR52, eR53, eR54, eR55, eR56, eR57, eR58, eR59, eR60, eR61, eR62, uR, zR]
  have h_44 : R62 0 44 = some (b + 25) := by simp [eR1, eR2, eR3, eR4, eR5, eR6, eR7, eR8, eR9, eR10, eR11, eR12, eR13, eR14, eR15, eR16, eR17, eR18, eR19, eR20, eR21, eR22, eR23, eR24, eR25, eR26, eR27, eR28, eR29, eR30, eR31, eR32, eR33, eR34, eR35, eR36, eR37, eR38, eR39, eR40, eR41, eR42, eR43, eR44, eR45, eR46, eR47, eR48, eR49, eR50, eR51, eR52, eR53, eR54, eR55, eR56, eR57, eR58, eR59, eR60, eR61, eR62, uR, zR]
  have h_47 : R62 0 47 = some (b + 26) := by simp [eR1, eR2, eR3, eR4, eR5, eR6, eR7, eR8, eR9, eR10, eR11, eR12, eR13, eR14, eR15, eR16, eR17, eR18, eR19, eR20, eR21, eR22, eR23, eR24, eR25, eR26, eR27, eR28, eR29, eR30, eR31, eR32, eR33, eR34, eR35, eR36, eR37, eR38, eR39, eR40, eR41, eR42, eR43, eR44, eR45, eR46, eR47, eR48, eR49, eR50, eR51, eR52, eR53, eR54, eR55, eR56, eR57, eR58, eR59, eR60, eR61, eR62, uR, zR]
  have h_48 : R62 0 48 = some (b + 27) := by simp [eR1, eR2, eR3, eR4, eR5, eR6, eR7, eR8, eR9, eR10, eR11, eR12, eR13, eR14, eR15, eR16, eR17, eR18, eR19, eR20, eR21, eR22, eR23, eR24, eR25, eR26, eR27, eR28, eR29, eR30, eR31, eR32, eR33, eR34, eR35, eR36, eR37, eR38, eR39, eR40, eR41, eR42, eR43, eR44, eR45, eR46, eR47, eR48, eR49, eR50, eR51, eR52, eR53, eR54, eR55, eR56, eR57, eR58, eR59, eR60, eR61, eR62, uR, zR]
  have h_49 : R62 0 49 = some (b + 28) := by simp [eR1, eR2, eR3, eR4, eR5, eR6, eR7, eR8, eR9, eR10, eR11, eR12, eR13, eR14, eR15, eR16, eR17, eR18, eR19, eR20, eR21, eR22, eR23, eR24, eR25, eR26, eR27, eR28, eR29, eR30, eR31, eR32, eR33, eR34, eR35, eR36, eR37, eR38, eR39, eR40, eR41, eR42, eR43, eR44, eR45, eR46, eR47, eR48, eR49, eR50, eR51, eR52, eR53, eR54, eR55, eR56, eR57, eR58, eR59, eR60, eR61, eR62, uR, zR]
  have h_50 : R62 0 50 = some (b + 29) := by simp [eR1, eR2, eR3, eR4, eR5, eR6, eR7, eR8, eR9, eR10, eR11, eR12, eR13, eR14, eR15, eR16, eR17, eR18, eR19, eR20, eR21, eR22, eR23, eR24, eR25, eR26, eR27, eR28, eR29, eR30, eR31, eR32, eR33, eR34, eR35, eR36, eR37, eR38, eR39, eR40, eR41, eR42, eR43, eR44, eR45, eR46, eR47, eR48, eR49, eR50, eR51, eR52, eR53, eR54, eR55, eR56, eR57, eR58, eR59, eR60, eR61, eR62, uR, zR]
  have h_51 : R62 0 51 = some (b + 30) := by simp [eR1, eR2, eR3, eR4, eR5, eR6, eR7, eR8, eR9, eR10, eR11, eR12, eR13, eR14, eR15, eR16, eR17, eR18, eR19, eR20, eR21, eR22, eR23, eR24, eR25, eR26, eR27, eR28, eR29, eR30, eR31, eR32, eR33, eR34, eR35, eR36, eR37, eR38, eR39, eR40, eR41, eR42, eR43, eR44, eR45, eR46, eR47, eR48, eR49, eR50, eR51, eR52, eR53, eR54, eR55, eR56, eR57, eR58, eR59, eR60, eR61, eR62, uR, zR]
  have h_52 : R62 0 52 = some (b + 31) := by simp [eR1, eR2, eR3, eR4, eR5, eR6, eR7, eR8, eR9, eR10, eR11, eR12, eR13, eR14, eR15, eR16, eR17, eR18, eR19, eR20, eR21, eR22, eR23, eR24, eR25, eR26, eR27, eR28, eR29, eR30, eR31, eR32, eR33, eR34, eR35, eR36, eR37, eR38, eR39, eR40, eR41, eR42, eR43, eR44, eR45, eR46, eR47, eR48, eR49, eR50, eR51, eR52, eR53, eR54, eR55, eR56, eR57, eR58, eR59, eR60, eR61, eR62, uR, zR]
  have z_0 : ∀ j, M61.1 0 j = 0 := by
    intro j
    rw [show M61.1 0 j = M59.1 0 j from (by rw [eM61]; simp [zM])]
    rw [show M59.1 0 j = M57.1 0 j from (by rw [eM59]; simp [zM])]
    rw [show M57.1 0 j = M55.1 0 j from (by rw [eM57]; simp [zM])]
    rw [show M55.1 0 j = M53.1 0 j from (by rw [eM55]; simp [zM])]
    rw [show M53.1 0 j = M51.1 0 j from (by rw [eM53]; simp [zM])]
    rw [show M51.1 0 j = M49.1 0 j from (by rw [eM51]; simp [zM])]
    rw [show M49.1 0 j = M47.1 0 j from (by rw [eM49]; simp [zM])]
    rw [show M47.1 0 j = M45.1 0 j from (by rw [eM47]; simp [zM])]
    rw [show M45.1 0 j = M43.1 0 j from (by rw [eM45]; simp [zM])]
    rw [show M43.1 0 j = M41.1 0 j from (by rw [eM43]; simp [zM])]
    rw [show M41.1 0 j = M39.1 0 j from (by rw [eM41]; simp [zM])]
    rw [show M39.1 0 j = M37.1 0 j from (by rw [eM39]; simp [zM])]
    rw [show M37.1 0 j = M35.1 0 j from (by rw [eM37]; simp [zM])]
    rw [show M35.1 0 j = M33.1 0 j from (by rw [eM35]; simp [zM])]
    rw [show M33.1 0 j = M31.1 0 j from (by rw [eM33]; simp [zM])]
    rw [show M31.1 0 j = M29.1 0 j from (by rw [eM31]; simp [zM])]
    rw [show M29.1 0 j = M27.1 0 j from (by rw [eM29]; simp [zM])]
    rw [show M27.1 0 j = M25.1 0 j from (by rw [eM27]; simp [zM])]
    rw [show M25.1 0 j = M23.1 0 j from (by rw [eM25]; simp [zM])]
    rw [show M23.1 0 j = M21.1 0 j from (by rw [eM23]; simp [zM])]
    rw [show M21.1 0 j = M19.1 0 j from (by rw [eM21]; simp [zM])]
    rw [show M19.1 0 j = M17.1 0 j from (by rw [eM19]; simp [zM])]
    rw [show M17.1 0 j = M15.1 0 j from (by rw [eM17]; simp [zM])]
    rw [show M15.1 0 j = M13.1 0 j from (by rw [eM15]; simp [zM])]
    rw [show M13.1 0 j = M11.1 0 j from (by rw [eM13]; simp [zM])]
    rw [show M11.1 0 j = M9.1 0 j from (by rw [eM11]; simp [zM])]
    rw [show M9.1 0 j = M7.1 0 j from (by rw [eM9]; simp [zM])]
    rw [show M7.1 0 j = M5.1 0 j from (by rw [eM7]; simp [zM])]
    rw [show M5.1 0 j = M3.1 0 j from (by rw [eM5]; simp [zM])]
    rw [show M3.1 0 j = M1.1 0 j from (by rw [eM3]; simp [zM])]
    rw [show M1.1 0 j = M.1 0 j from (by rw [eM1]; simp [zM])]
    exact hz0 j
  have z_1 : ∀ j, M61.1 1 j = 0 := by
    intro j
    rw [show M61.1 1 j = M59.1 1 j from (by rw [eM61]; simp [zM])]
    rw [show M59.1 1 j = M57.1 1 j from (by rw [eM59]; simp [zM])]
    rw [show M57.1 1 j = M55.1 1 j from (by rw [eM57]; simp [zM])]
    rw [show M55.1 1 j = M53.1 1 j from (by rw [eM55]; simp [zM])]
    rw [show M53.1 1 j = M51.1 1 j from (by rw [eM53]; simp [zM])]
    rw [show M51.1 1 j = M49.1 1 j from (by rw [eM51]; simp [zM])]
    rw [show M49.1 1 j = M47.1 1 j from (by rw [eM49]; simp [zM])]
    rw [show M47.1 1 j = M45.1 1 j from (by rw [eM47]; simp [zM])]
    rw [show M45.1 1 j = M43.1 1 j from (by rw [eM45]; simp [zM])]
    rw [show M43.1 1 j = M41.1 1 j from (by rw [eM43]; simp [zM])]
    rw [show M41.1 1 j = M39.1 1 j from (by rw [eM41]; simp [zM])]
    rw [show M39.1 1 j = M37.1 1 j from (by rw [eM39]; simp [zM])]
    rw [show M37.1 1 j = M35.1 1 j from (by rw [eM37]; simp [zM])]
    rw [show M35.1 1 j = M33.1 1 j from (by rw [eM35]; simp [zM])]
    rw [show M33.1 1 j = M31.1 1 j from (by rw [eM33]; simp [zM])]
    rw [show M31.1 1 j = M29.1 1 j from (by rw [eM31]; simp [zM])]
    rw [show M29.1 1 j = M27.1 1 j from (by rw [eM29]; simp [zM])]
    rw [show M27.1 1 j = M25.1 1 j from (by rw [eM27]; simp [zM])]
    rw [show M25.1 1 j = M23.1 1 j from (by rw [eM25]; simp [zM])]
    rw [show M23.1 1 j = M21.1 1 j from (by rw [eM23]; simp [zM])]
    rw [show M21.1 1 j = M19.1 1 j from (by rw [eM21]; simp [zM])]
    rw [show M19.1 1 j = M17.1 1 j from (by rw [eM19]; simp [zM])]
    rw [show M17.1 1 j = M15.1 1 j from (by rw [eM17]; simp [zM])]
    rw [show M15.1 1 j = M13.1 1 j from (by rw [eM15]; simp [zM])]
    rw [show M13.1 1 j = M11.1 1 j from (by rw [eM13]; simp [zM])]
    rw [show M11.1 1 j = M9.1 1 j from (by rw [eM11]; simp [zM])]
    rw [show M9.1 1 j = M7.1 1 j from (by rw [eM9]; simp [zM])]
    rw [show M7.1 1 j = M5.1 1 j from (by rw [eM7]; simp [zM])]
    rw [show M5.1 1 j = M3.1 1 j from (by rw [eM5]; simp [zM])]
    rw [show M3.1 1 j = M1.1 1 j from (by rw [eM3]; simp [zM])]
    rw [eM1]
    simp [zM]
  have z_8 : ∀ j, M61.1 8 j = 0 := by
    intro j
    rw [show M61.1 8 j = M59.1 8 j from (by rw [eM61]; simp [zM])]
    rw [show M59.1 8 j = M57.1 8 j from (by rw [eM59]; simp [zM])]
    rw [show M57.1 8 j = M55.1 8 j from (by rw [eM57]; simp [zM])]
    rw [show M55.1 8 j = M53.1 8 j from (by rw [eM55]; simp [zM])]
    rw [show M53.1 8 j = M51.1 8 j from (by rw [eM53]; simp [zM])]
    rw [show M51.1 8 j = M49.1 8 j from (by rw [eM51]; simp [zM])]
    rw [show M49.1 8 j = M47.1 8 j from (by rw [eM49]; simp [zM])]
    rw [show M47.1 8 j = M45.1 8 j from (by rw [eM47]; simp [zM])]
    rw [show M45.1 8 j = M43.1 8 j from (by rw [eM45]; simp [zM])]
    rw [show M43.1 8 j = M41.1 8 j from (by rw [eM43]; simp [zM])]
    rw [show M41.1 8 j = M39.1 8 j from (by rw [eM41]; simp [zM])]
    rw [show M39.1 8 j = M37.1 8 j from (by rw [eM39]; simp [zM])]
    rw [show M37.1 8 j = M35.1 8 j from (by rw [eM37]; simp [zM])]
    rw [show M35.1 8 j = M33.1 8 j from (by rw [eM35]; simp [zM])]
    rw [show M33.1 8 j = M31.1 8 j from (by rw [eM33]; simp [zM])]
    rw [show M31.1 8 j = M29.1 8 j from (by rw [eM31]; simp [zM])]
    rw [show M29.1 8 j = M27.1 8 j from (by rw [eM29]; simp [zM])]
    rw [show M27.1 8 j = M25.1 8 j from (by rw [eM27]; simp [zM])]
    rw [show M25.1 8 j = M23.1 8 j from (by rw [eM25]; simp [zM])]
    rw [show M23.1 8 j = M21.1 8 j from (by rw [eM23]; simp [zM])]
    rw [show M21.1 8 j = M19.1 8 j from (by rw [eM21]; simp [zM])]
    rw [show M19.1 8 j = M17.1 8 j from (by rw [eM19]; simp [zM])]
    rw [show M17.1 8 j = M15.1 8 j from (by rw [eM17]; simp [zM])]
    rw [eM15]
    simp [zM]
  refine lv_aload_n hx hb dX12_init_264 rfl (lv_at hl 0 rfl) ?_
  refine qg C hP (k := 0) (j := 0) (v := .ref (b + 1)) (by decide) (yr_0 _ _) rfl iw_12 (Nat.le_of_ble_eq_true rfl) g_1135 rfl (by rw [h_0]; rfl) dX12_init_265 ?_
  refine lv_sipush (v := (161 : Int32)) hx hb dX12_init_268 (by decide) ?_
  refine lv_iconst (v := (1 : Int32)) hx hb dX12_init_271 (by decide) ?_
  refine qsI C hP hS (k := 1) (n := 162) (by decide) (fun _ _ => rfl) (inb_in (by decide)) dX12_init_272 (fun H locs hP hS => ?_)
  refine lv_aload_n hx hb dX12_init_273 rfl (lv_at hl 0 rfl) ?_
  refine qg C hP (k := 0) (j := 0) (v := .ref (b + 1)) (by decide) (yr_0 _ _) rfl iw_12 (Nat.le_of_ble_eq_true rfl) g_1135 rfl (by rw [h_0]; rfl) dX12_init_274 ?_
  refine lv_sipush (v := (156 : Int32)) hx hb dX12_init_277 (by decide) ?_
  refine lv_bipush (v := (-2 : Int32)) hx hb dX12_init_280 (by decide) ?_
  refine qsI C hP hS (k := 1) (n := 162) (by decide) (fun _ _ => rfl) (inb_in (by decide)) dX12_init_282 (fun H locs hP hS => ?_)
  refine lv_iconst (v := (0 : Int32)) hx hb dX12_init_283 (by decide) ?_
  refine lv_istore_n (lv' := [(1, .int 0), (0, .ref (b + 0))]) hx hb dX12_init_284 rfl hl (by decide) rfl (fun ls hl => ?_)
  refine lq12_init_a C h_3 (fun Ma H locs ls a1 a2 hP hS hl => ?_) 96 0 _ H locs ls (by omega) (fun j h => by omega) (fun _ _ _ => rfl) hP hS (by rw [nI_0]; exact lv_sub hl [1, 0] rfl)
  refine lv_iconst (v := (0 : Int32)) hx hb dX12_init_304 (by decide) ?_
  refine lv_istore_n (lv' := [(1, .int 0), (0, .ref (b + 0))]) hx hb dX12_init_305 rfl hl (by decide) rfl (fun ls hl => ?_)
  refine lq12_init_b C h_4 (fun Mb H locs ls b1 b2 hP hS hl => ?_) 10 0 Ma H locs ls (by omega) (fun j h => by omega) (fun _ _ _ => rfl) hP hS (by rw [nI_0]; exact lv_sub hl [1, 0] rfl)
  have hP := toY hP h_0 h_1 h_2 h_3 h_4 h_7 h_8 h_10 h_21 h_22 h_23 h_24 h_25 h_26 h_27 h_28 h_29 h_30 h_31 h_32 h_33 h_34 h_40 h_43 h_44 h_47 h_48 h_49 h_50 h_51 h_52
  have e161 : (161 : Int32).toNatClampNeg = 161 := by decide
  have e156 : (156 : Int32).toNatClampNeg = 156 := by decide
  rw [e161, e156] at a2
  have hy : YI Mb := by
    refine ⟨fun j h1 h2 => ?_, ?_, ?_, fun j hj => ?_, b1, fun j => ?_, fun j => ?_⟩
    · rw [b2 1 j (by decide), a2 1 j (by decide)]
      simp [wI, h1, h2, z_1]
    · rw [b2 1 161 (by decide), a2 1 161 (by decide)]
      simp [wI]
    · rw [b2 1 156 (by decide), a2 1 156 (by decide)]
      simp [wI]
    · rw [b2 4 j (by decide)]
      exact a1 j hj
    · rw [b2 0 j (by decide), a2 0 j (by decide)]
      simp [wI, z_0]
    · rw [b2 8 j (by decide), a2 8 j (by decide)]
      simp [wI, z_8]
  exact W.vret C.1.1 C.1.2.1 hr (fun t ht hW => ⟨⟨Mb, rfl, hy, by show va_P _ _ _ t.heap; rw [ht]; exact hP⟩, hS.F ht⟩) hS.2.2 dX12_init_325
