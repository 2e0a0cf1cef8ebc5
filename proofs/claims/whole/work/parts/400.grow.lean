abbrev Rm : Type := Nat → Nat → Option Nat
def uR (Rf : Rm) (k j : Nat) (v : Option Nat) : Rm := fun a i => if a = k then (if i = j then v else Rf a i) else Rf a i
def zR (Rf : Rm) (k : Nat) : Rm := fun a i => if a = k then none else Rf a i
def zM (M : Mem) (k : Nat) : Mem := (fun a i => if a = k then 0 else M.1 a i, fun a i => if a = k then 0 else M.2 a i)
abbrev Cdr : Type := Nat → (Nat → Int32) → (Nat → Int64) → (Nat → Option Nat) → va_E
def dR (D : Cdr) (Rf : Rm) : Cds := fun k f g => D k f g (Rf k)
def xcl (z : Zt) : Cdr := fun k f g h => match k with
  | 0 => .inr (11, [va_rf (h 0), va_rf (h 1), va_rf (h 2), va_rf (h 3), va_rf (h 4), va_rf (h 5), va_rf (h 6), va_rf (h 7), va_rf (h 8), va_rf (h 9), va_rf (h 10), va_rf (h 11), .int (f 12)])
  | 1 => .inr (7, [va_rf (h 0), .int (f 1)])
  | 2 => .inl (z.2.1.1, 260, .inl f)
  | 3 => .inr (8, [va_rf (h 0), va_rf (h 1), va_rf (h 2), va_rf (h 3), va_rf (h 4), va_rf (h 5), va_rf (h 6), .int (f 7), .int (f 8), .int (f 9)])
  | 4 => .inl (z.2.1.1, 96, .inl f)
  | 5 => .inl (z.2.1.1, 96, .inl f)
  | 6 => .inl (z.2.1.1, 10, .inl f)
  | 7 => .inl (z.2.1.1, 96, .inl f)
  | 8 => .inl (z.2.1.1, 96, .inl f)
  | 9 => .inl (z.2.1.1, 96, .inl f)
  | 11 => .inr (2, [va_rf (h 0), va_rf (h 1), va_rf (h 2), .int (f 3), va_rf (h 4), va_rf (h 5)])
  | 12 => .inl (z.2.1.1, 240, .inl f)
  | 13 => .inl (z.2.1.1, 33, .inl f)
  | 14 => .inl (z.2.1.1, 16, .inl f)
  | 15 => .inl (z.2.1.1, 9, .inl f)
  | 16 => .inl (z.2.1.1, 64, .inl f)
  | 17 => .inr (3, [va_rf (h 0), va_rf (h 1), va_rf (h 2), va_rf (h 3), va_rf (h 4), .int (f 5), .int (f 6), .int (f 7), .int (f 8), .int (f 9), .int (f 10), .int (f 11)])
  | 18 => .inl (z.2.1.1, 240, .inl f)
  | 19 => .inl (z.2.1.1, 33, .inl f)
  | 20 => .inl (z.2.1.1, 16, .inl f)
  | 21 => .inl (z.2.1.1, 64, .inl f)
  | 22 => .inl (z.2.1.1, 64, .inl f)
  | 23 => .inr (10, [va_rf (h 0), va_rf (h 1), va_rf (h 2)])
  | 24 => .inl (z.2.1.1, 24, .inl f)
  | 25 => .inr (9, [va_rf (h 0), va_rf (h 1), .int (f 2), .int (f 3), .int (f 4), .int (f 5), .int (f 6), .int (f 7)])
  | 26 => .inl (z.2.1.1, 24, .inl f)
  | 27 => .inr (6, [va_rf (h 0), va_rf (h 1), va_rf (h 2), va_rf (h 3), va_rf (h 4), va_rf (h 5), va_rf (h 6), va_rf (h 7), .int (f 8), .int (f 9), .int (f 10), .int (f 11), .int (f 12)])
  | 28 => .inl (z.2.1.1, 96, .inl f)
  | 29 => .inl (z.2.1.1, 96, .inl f)
  | 30 => .inl (z.2.1.1, 96, .inl f)
  | 31 => .inl (z.2.1.1, 96, .inl f)
  | 32 => .inl (z.2.1.2.2.2.2, 96, .inr (.inr (.inr (.inr h))))
  | 131 => .inr (1, [va_rf (h 0), va_rf (h 1), va_rf (h 2)])
  | 132 => .inl (z.2.1.2.2.2.2, 96, .inr (.inr (.inr (.inr h))))
  | 133 => .inl (z.2.1.2.2.2.2, 96, .inr (.inr (.inr (.inr h))))
  | 326 => .inr (5, [va_rf (h 0), va_rf (h 1), va_rf (h 2), va_rf (h 3), .int (f 4), .int (f 5), .long (g 6)])
  | 327 => .inl (z.2.1.2.1, 5120, .inr (.inl g))
  | 328 => .inl (z.2.1.1, 100, .inl f)
  | 329 => .inl (z.2.1.1, 96, .inl f)
  | _ => .inl (z.2.1.1, 0, .inl f)
def xc (z : Zt) : Cdr := fun k f g h =>
  if isPS k = true then .inr (4, [.long (g 0), .long (g 1)])
  else if k = 330 ∨ k = 333 ∨ k = 336 then .inr (0, [va_rf (h 0), va_rf (h 1), .int (f 2), .int (f 3), .int (f 4), .int (f 5), .int (f 6), .int (f 7)])
  else if k = 331 ∨ k = 334 ∨ k = 337 then .inl (z.2.1.1, 96, .inl f)
  else if k = 332 ∨ k = 335 ∨ k = 338 then .inl (z.2.1.1, 60, .inl f)
  else xcl z k f g h
def yc (z : Zt) : Cdr := fun k f g h => match k with
  | 0 => .inr (12, [va_rf (h 0), va_rf (h 1), va_rf (h 2), va_rf (h 3), va_rf (h 4), .int (f 5), .int (f 6), va_rf (h 7), va_rf (h 8), .int (f 9), va_rf (h 10), .int (f 11), .int (f 12), .int (f 13), .int (f 14), .int (f 15), .int (f 16), .int (f 17), .int (f 18), .int (f 19), .int (f 20), va_rf (h 21), va_rf (h 22), va_rf (h 23), va_rf (h 24), va_rf (h 25), va_rf (h 26), va_rf (h 27), va_rf (h 28), va_rf (h 29), va_rf (h 30), va_rf (h 31), va_rf (h 32), va_rf (h 33), va_rf (h 34), .int (f 35), .int (f 36), .int (f 37), .int (f 38), .int (f 39), va_rf (h 40), .int (f 41), .int (f 42), va_rf (h 43), va_rf (h 44), .int (f 45), .int (f 46), va_rf (h 47), va_rf (h 48), va_rf (h 49), va_rf (h 50), va_rf (h 51), va_rf (h 52), .int (f 53)])
  | 1 => .inl (z.2.1.1, 162, .inl f)
  | 2 => .inl (z.2.1.1, 162, .inl f)
  | 3 => .inl (z.2.1.1, 162, .inl f)
  | 4 => .inl (z.2.1.1, 96, .inl f)
  | 5 => .inl (z.2.1.1, 10, .inl f)
  | 6 => .inl (z.2.1.2.2.1, 9216, .inl f)
  | 7 => .inl (z.2.1.1, 96, .inl f)
  | 8 => .inl (z.2.1.2.2.1, 260, .inl f)
  | 9 => .inl (z.2.1.1, 260, .inl f)
  | 10 => .inl (z.2.1.1, 260, .inl f)
  | 11 => .inl (z.2.1.1, 16, .inl f)
  | 12 => .inl (z.2.1.1, 16, .inl f)
  | 13 => .inl (z.2.1.1, 16, .inl f)
  | 14 => .inl (z.2.1.1, 16, .inl f)
  | 15 => .inl (z.2.1.1, 260, .inl f)
  | 16 => .inl (z.2.1.1, 16, .inl f)
  | 17 => .inl (z.2.1.1, 16, .inl f)
  | 18 => .inl (z.2.1.1, 16, .inl f)
  | 19 => .inl (z.2.1.1, 16, .inl f)
  | 20 => .inl (z.2.1.1, 260, .inl f)
  | 21 => .inl (z.2.1.1, 9, .inl f)
  | 22 => .inl (z.2.1.1, 96, .inl f)
  | 23 => .inl (z.2.1.1, 24, .inl f)
  | 24 => .inl (z.2.1.1, 4608, .inl f)
  | 25 => .inl (z.2.1.1, 9, .inl f)
  | 26 => .inl (z.2.1.1, 96, .inl f)
  | 27 => .inl (z.2.1.2.2.1, 9216, .inl f)
  | 28 => .inl (z.2.1.2.2.2.1, 9216, .inl f)
  | 29 => .inl (z.2.1.2.1, 96, .inr (.inl g))
  | 30 => .inl (z.2.1.2.1, 96, .inr (.inl g))
  | 31 => .inl (z.2.1.2.2.2.1, 96, .inl f)
  | _ => .inl (z.2.1.1, 0, .inl f)
theorem xr_0 {z : Zt} {Rf : Rm} (f : Nat → Int32) (g : Nat → Int64) : dR (xc z) Rf 0 f g = .inr (11, [va_rf ((Rf 0) 0), va_rf ((Rf 0) 1), va_rf ((Rf 0) 2), va_rf ((Rf 0) 3), va_rf ((Rf 0) 4), va_rf ((Rf 0) 5), va_rf ((Rf 0) 6), va_rf ((Rf 0) 7), va_rf ((Rf 0) 8), va_rf ((Rf 0) 9), va_rf ((Rf 0) 10), va_rf ((Rf 0) 11), .int (f 12)]) := rfl
theorem xr_1 {z : Zt} {Rf : Rm} (f : Nat → Int32) (g : Nat → Int64) : dR (xc z) Rf 1 f g = .inr (7, [va_rf ((Rf 1) 0), .int (f 1)]) := rfl
theorem xr_2 {z : Zt} {Rf : Rm} (f : Nat → Int32) (g : Nat → Int64) : dR (xc z) Rf 2 f g = .inl (z.2.1.1, 260, .inl f) := rfl
theorem xr_3 {z : Zt} {Rf : Rm} (f : Nat → Int32) (g : Nat → Int64) : dR (xc z) Rf 3 f g = .inr (8, [va_rf ((Rf 3) 0), va_rf ((Rf 3) 1), va_rf ((Rf 3) 2), va_rf ((Rf 3) 3), va_rf ((Rf 3) 4), va_rf ((Rf 3) 5), va_rf ((Rf 3) 6), .int (f 7), .int (f 8), .int (f 9)]) := rfl
theorem xr_4 {z : Zt} {Rf : Rm} (f : Nat → Int32) (g : Nat → Int64) : dR (xc z) Rf 4 f g = .inl (z.2.1.1, 96, .inl f) := rfl
theorem xr_5 {z : Zt} {Rf : Rm} (f : Nat → Int32) (g : Nat → Int64) : dR (xc z) Rf 5 f g = .inl (z.2.1.1, 96, .inl f) := rfl
theorem xr_6 {z : Zt} {Rf : Rm} (f : Nat → Int32) (g : Nat → Int64) : dR (xc z) Rf 6 f g = .inl (z.2.1.1, 10, .inl f) := rfl
theorem xr_7 {z : Zt} {Rf : Rm} (f : Nat → Int32) (g : Nat → Int64) : dR (xc z) Rf 7 f g = .inl (z.2.1.1, 96, .inl f) := rfl
theorem xr_8 {z : Zt} {Rf : Rm} (f : Nat → Int32) (g : Nat → Int64) : dR (xc z) Rf 8 f g = .inl (z.2.1.1, 96, .inl f) := rfl
theorem xr_9 {z : Zt} {Rf : Rm} (f : Nat → Int32) (g : Nat → Int64) : dR (xc z) Rf 9 f g = .inl (z.2.1.1, 96, .inl f) := rfl
theorem xr_11 {z : Zt} {Rf : Rm} (f : Nat → Int32) (g : Nat → Int64) : dR (xc z) Rf 11 f g = .inr (2, [va_rf ((Rf 11) 0), va_rf ((Rf 11) 1), va_rf ((Rf 11) 2), .int (f 3), va_rf ((Rf 11) 4), va_rf ((Rf 11) 5)]) := rfl
theorem xr_12 {z : Zt} {Rf : Rm} (f : Nat → Int32) (g : Nat → Int64) : dR (xc z) Rf 12 f g = .inl (z.2.1.1, 240, .inl f) := rfl
theorem xr_13 {z : Zt} {Rf : Rm} (f : Nat → Int32) (g : Nat → Int64) : dR (xc z) Rf 13 f g = .inl (z.2.1.1, 33, .inl f) := rfl
theorem xr_14 {z : Zt} {Rf : Rm} (f : Nat → Int32) (g : Nat → Int64) : dR (xc z) Rf 14 f g = .inl (z.2.1.1, 16, .inl f) := rfl
theorem xr_15 {z : Zt} {Rf : Rm} (f : Nat → Int32) (g : Nat → Int64) : dR (xc z) Rf 15 f g = .inl (z.2.1.1, 9, .inl f) := rfl
theorem xr_16 {z : Zt} {Rf : Rm} (f : Nat → Int32) (g : Nat → Int64) : dR (xc z) Rf 16 f g = .inl (z.2.1.1, 64, .inl f) := rfl
theorem xr_17 {z : Zt} {Rf : Rm} (f : Nat → Int32) (g : Nat → Int64) : dR (xc z) Rf 17 f g = .inr (3, [va_rf ((Rf 17) 0), va_rf ((Rf 17) 1), va_rf ((Rf 17) 2), va_rf ((Rf 17) 3), va_rf ((Rf 17) 4), .int (f 5), .int (f 6), .int (f 7), .int (f 8), .int (f 9), .int (f 10), .int (f 11)]) := rfl
theorem xr_18 {z : Zt} {Rf : Rm} (f : Nat → Int32) (g : Nat → Int64) : dR (xc z) Rf 18 f g = .inl (z.2.1.1, 240, .inl f) := rfl
theorem xr_19 {z : Zt} {Rf : Rm} (f : Nat → Int32) (g : Nat → Int64) : dR (xc z) Rf 19 f g = .inl (z.2.1.1, 33, .inl f) := rfl
theorem xr_20 {z : Zt} {Rf : Rm} (f : Nat → Int32) (g : Nat → Int64) : dR (xc z) Rf 20 f g = .inl (z.2.1.1, 16, .inl f) := rfl
theorem xr_21 {z : Zt} {Rf : Rm} (f : Nat → Int32) (g : Nat → Int64) : dR (xc z) Rf 21 f g = .inl (z.2.1.1, 64, .inl f) := rfl
theorem xr_22 {z : Zt} {Rf : Rm} (f : Nat → Int32) (g : Nat → Int64) : dR (xc z) Rf 22 f g = .inl (z.2.1.1, 64, .inl f) := rfl
theorem xr_23 {z : Zt} {Rf : Rm} (f : Nat → Int32) (g : Nat → Int64) : dR (xc z) Rf 23 f g = .inr (10, [va_rf ((Rf 23) 0), va_rf ((Rf 23) 1), va_rf ((Rf 23) 2)]) := rfl
theorem xr_24 {z : Zt} {Rf : Rm} (f : Nat → Int32) (g : Nat → Int64) : dR (xc z) Rf 24 f g = .inl (z.2.1.1, 24, .inl f) := rfl
theorem xr_25 {z : Zt} {Rf : Rm} (f : Nat → Int32) (g : Nat → Int64) : dR (xc z) Rf 25 f g = .inr (9, [va_rf ((Rf 25) 0), va_rf ((Rf 25) 1), .int (f 2), .int (f 3), .int (f 4), .int (f 5), .int (f 6), .int (f 7)]) := rfl
theorem xr_26 {z : Zt} {Rf : Rm} (f : Nat → Int32) (g : Nat → Int64) : dR (xc z) Rf 26 f g = .inl (z.2.1.1, 24, .inl f) := rfl
theorem xr_27 {z : Zt} {Rf : Rm} (f : Nat → Int32) (g : Nat → Int64) : dR (xc z) Rf 27 f g = .inr (6, [va_rf ((Rf 27) 0), va_rf ((Rf 27) 1), va_rf ((Rf 27) 2), va_rf ((Rf 27) 3), va_rf ((Rf 27) 4), va_rf ((Rf 27) 5), va_rf ((Rf 27) 6), va_rf ((Rf 27) 7), .int (f 8), .int (f 9), .int (f 10), .int (f 11), .int (f 12)]) := rfl
theorem xr_28 {z : Zt} {Rf : Rm} (f : Nat → Int32) (g : Nat → Int64) : dR (xc z) Rf 28 f g = .inl (z.2.1.1, 96, .inl f) := rfl
theorem xr_29 {z : Zt} {Rf : Rm} (f : Nat → Int32) (g : Nat → Int64) : dR (xc z) Rf 29 f g = .inl (z.2.1.1, 96, .inl f) := rfl
theorem xr_30 {z : Zt} {Rf : Rm} (f : Nat → Int32) (g : Nat → Int64) : dR (xc z) Rf 30 f g = .inl (z.2.1.1, 96, .inl f) := rfl
theorem xr_31 {z : Zt} {Rf : Rm} (f : Nat → Int32) (g : Nat → Int64) : dR (xc z) Rf 31 f g = .inl (z.2.1.1, 96, .inl f) := rfl
theorem xr_32 {z : Zt} {Rf : Rm} (f : Nat → Int32) (g : Nat → Int64) : dR (xc z) Rf 32 f g = .inl (z.2.1.2.2.2.2, 96, .inr (.inr (.inr (.inr (Rf 32))))) := rfl
theorem xr_131 {z : Zt} {Rf : Rm} (f : Nat → Int32) (g : Nat → Int64) : dR (xc z) Rf 131 f g = .inr (1, [va_rf ((Rf 131) 0), va_rf ((Rf 131) 1), va_rf ((Rf 131) 2)]) := rfl
theorem xr_132 {z : Zt} {Rf : Rm} (f : Nat → Int32) (g : Nat → Int64) : dR (xc z) Rf 132 f g = .inl (z.2.1.2.2.2.2, 96, .inr (.inr (.inr (.inr (Rf 132))))) := rfl
theorem xr_133 {z : Zt} {Rf : Rm} (f : Nat → Int32) (g : Nat → Int64) : dR (xc z) Rf 133 f g = .inl (z.2.1.2.2.2.2, 96, .inr (.inr (.inr (.inr (Rf 133))))) := rfl
theorem xr_326 {z : Zt} {Rf : Rm} (f : Nat → Int32) (g : Nat → Int64) : dR (xc z) Rf 326 f g = .inr (5, [va_rf ((Rf 326) 0), va_rf ((Rf 326) 1), va_rf ((Rf 326) 2), va_rf ((Rf 326) 3), .int (f 4), .int (f 5), .long (g 6)]) := rfl
theorem xr_327 {z : Zt} {Rf : Rm} (f : Nat → Int32) (g : Nat → Int64) : dR (xc z) Rf 327 f g = .inl (z.2.1.2.1, 5120, .inr (.inl g)) := rfl
theorem xr_328 {z : Zt} {Rf : Rm} (f : Nat → Int32) (g : Nat → Int64) : dR (xc z) Rf 328 f g = .inl (z.2.1.1, 100, .inl f) := rfl
theorem xr_329 {z : Zt} {Rf : Rm} (f : Nat → Int32) (g : Nat → Int64) : dR (xc z) Rf 329 f g = .inl (z.2.1.1, 96, .inl f) := rfl
theorem xr_330 {z : Zt} {Rf : Rm} (f : Nat → Int32) (g : Nat → Int64) : dR (xc z) Rf 330 f g = .inr (0, [va_rf ((Rf 330) 0), va_rf ((Rf 330) 1), .int (f 2), .int (f 3), .int (f 4), .int (f 5), .int (f 6), .int (f 7)]) := rfl
theorem xr_331 {z : Zt} {Rf : Rm} (f : Nat → Int32) (g : Nat → Int64) : dR (xc z) Rf 331 f g = .inl (z.2.1.1, 96, .inl f) := rfl
theorem xr_332 {z : Zt} {Rf : Rm} (f : Nat → Int32) (g : Nat → Int64) : dR (xc z) Rf 332 f g = .inl (z.2.1.1, 60, .inl f) := rfl
theorem xr_333 {z : Zt} {Rf : Rm} (f : Nat → Int32) (g : Nat → Int64) : dR (xc z) Rf 333 f g = .inr (0, [va_rf ((Rf 333) 0), va_rf ((Rf 333) 1), .int (f 2), .int (f 3), .int (f 4), .int (f 5), .int (f 6), .int (f 7)]) := rfl
theorem xr_334 {z : Zt} {Rf : Rm} (f : Nat → Int32) (g : Nat → Int64) : dR (xc z) Rf 334 f g = .inl (z.2.1.1, 96, .inl f) := rfl
theorem xr_335 {z : Zt} {Rf : Rm} (f : Nat → Int32) (g : Nat → Int64) : dR (xc z) Rf 335 f g = .inl (z.2.1.1, 60, .inl f) := rfl
theorem xr_336 {z : Zt} {Rf : Rm} (f : Nat → Int32) (g : Nat → Int64) : dR (xc z) Rf 336 f g = .inr (0, [va_rf ((Rf 336) 0), va_rf ((Rf 336) 1), .int (f 2), .int (f 3), .int (f 4), .int (f 5), .int (f 6), .int (f 7)]) := rfl
theorem xr_337 {z : Zt} {Rf : Rm} (f : Nat → Int32) (g : Nat → Int64) : dR (xc z) Rf 337 f g = .inl (z.2.1.1, 96, .inl f) := rfl
theorem xr_338 {z : Zt} {Rf : Rm} (f : Nat → Int32) (g : Nat → Int64) : dR (xc z) Rf 338 f g = .inl (z.2.1.1, 60, .inl f) := rfl
theorem yr_0 {z : Zt} {Rf : Rm} (f : Nat → Int32) (g : Nat → Int64) : dR (yc z) Rf 0 f g = .inr (12, [va_rf ((Rf 0) 0), va_rf ((Rf 0) 1), va_rf ((Rf 0) 2), va_rf ((Rf 0) 3), va_rf ((Rf 0) 4), .int (f 5), .int (f 6), va_rf ((Rf 0) 7), va_rf ((Rf 0) 8), .int (f 9), va_rf ((Rf 0) 10), .int (f 11), .int (f 12), .int (f 13), .int (f 14), .int (f 15), .int (f 16), .int (f 17), .int (f 18), .int (f 19), .int (f 20), va_rf ((Rf 0) 21), va_rf ((Rf 0) 22), va_rf ((Rf 0) 23), va_rf ((Rf 0) 24), va_rf ((Rf 0) 25), va_rf ((Rf 0) 26), va_rf ((Rf 0) 27), va_rf ((Rf 0) 28), va_rf ((Rf 0) 29), va_rf ((Rf 0) 30), va_rf ((Rf 0) 31), va_rf ((Rf 0) 32), va_rf ((Rf 0) 33), va_rf ((Rf 0) 34), .int (f 35), .int (f 36), .int (f 37), .int (f 38), .int (f 39), va_rf ((Rf 0) 40), .int (f 41), .int (f 42), va_rf ((Rf 0) 43), va_rf ((Rf 0) 44), .int (f 45), .int (f 46), va_rf ((Rf 0) 47), va_rf ((Rf 0) 48), va_rf ((Rf 0) 49), va_rf ((Rf 0) 50), va_rf ((Rf 0) 51), va_rf ((Rf 0) 52), .int (f 53)]) := rfl
theorem yr_1 {z : Zt} {Rf : Rm} (f : Nat → Int32) (g : Nat → Int64) : dR (yc z) Rf 1 f g = .inl (z.2.1.1, 162, .inl f) := rfl
theorem yr_2 {z : Zt} {Rf : Rm} (f : Nat → Int32) (g : Nat → Int64) : dR (yc z) Rf 2 f g = .inl (z.2.1.1, 162, .inl f) := rfl
theorem yr_3 {z : Zt} {Rf : Rm} (f : Nat → Int32) (g : Nat → Int64) : dR (yc z) Rf 3 f g = .inl (z.2.1.1, 162, .inl f) := rfl
theorem yr_4 {z : Zt} {Rf : Rm} (f : Nat → Int32) (g : Nat → Int64) : dR (yc z) Rf 4 f g = .inl (z.2.1.1, 96, .inl f) := rfl
theorem yr_5 {z : Zt} {Rf : Rm} (f : Nat → Int32) (g : Nat → Int64) : dR (yc z) Rf 5 f g = .inl (z.2.1.1, 10, .inl f) := rfl
theorem yr_6 {z : Zt} {Rf : Rm} (f : Nat → Int32) (g : Nat → Int64) : dR (yc z) Rf 6 f g = .inl (z.2.1.2.2.1, 9216, .inl f) := rfl
theorem yr_7 {z : Zt} {Rf : Rm} (f : Nat → Int32) (g : Nat → Int64) : dR (yc z) Rf 7 f g = .inl (z.2.1.1, 96, .inl f) := rfl
theorem yr_8 {z : Zt} {Rf : Rm} (f : Nat → Int32) (g : Nat → Int64) : dR (yc z) Rf 8 f g = .inl (z.2.1.2.2.1, 260, .inl f) := rfl
theorem yr_9 {z : Zt} {Rf : Rm} (f : Nat → Int32) (g : Nat → Int64) : dR (yc z) Rf 9 f g = .inl (z.2.1.1, 260, .inl f) := rfl
theorem yr_10 {z : Zt} {Rf : Rm} (f : Nat → Int32) (g : Nat → Int64) : dR (yc z) Rf 10 f g = .inl (z.2.1.1, 260, .inl f) := rfl
theorem yr_11 {z : Zt} {Rf : Rm} (f : Nat → Int32) (g : Nat → Int64) : dR (yc z) Rf 11 f g = .inl (z.2.1.1, 16, .inl f) := rfl
theorem yr_12 {z : Zt} {Rf : Rm} (f : Nat → Int32) (g : Nat → Int64) : dR (yc z) Rf 12 f g = .inl (z.2.1.1, 16, .inl f) := rfl
theorem yr_13 {z : Zt} {Rf : Rm} (f : Nat → Int32) (g : Nat → Int64) : dR (yc z) Rf 13 f g = .inl (z.2.1.1, 16, .inl f) := rfl
theorem yr_14 {z : Zt} {Rf : Rm} (f : Nat → Int32) (g : Nat → Int64) : dR (yc z) Rf 14 f g = .inl (z.2.1.1, 16, .inl f) := rfl
theorem yr_15 {z : Zt} {Rf : Rm} (f : Nat → Int32) (g : Nat → Int64) : dR (yc z) Rf 15 f g = .inl (z.2.1.1, 260, .inl f) := rfl
theorem yr_16 {z : Zt} {Rf : Rm} (f : Nat → Int32) (g : Nat → Int64) : dR (yc z) Rf 16 f g = .inl (z.2.1.1, 16, .inl f) := rfl
theorem yr_17 {z : Zt} {Rf : Rm} (f : Nat → Int32) (g : Nat → Int64) : dR (yc z) Rf 17 f g = .inl (z.2.1.1, 16, .inl f) := rfl
theorem yr_18 {z : Zt} {Rf : Rm} (f : Nat → Int32) (g : Nat → Int64) : dR (yc z) Rf 18 f g = .inl (z.2.1.1, 16, .inl f) := rfl
theorem yr_19 {z : Zt} {Rf : Rm} (f : Nat → Int32) (g : Nat → Int64) : dR (yc z) Rf 19 f g = .inl (z.2.1.1, 16, .inl f) := rfl
theorem yr_20 {z : Zt} {Rf : Rm} (f : Nat → Int32) (g : Nat → Int64) : dR (yc z) Rf 20 f g = .inl (z.2.1.1, 260, .inl f) := rfl
theorem yr_21 {z : Zt} {Rf : Rm} (f : Nat → Int32) (g : Nat → Int64) : dR (yc z) Rf 21 f g = .inl (z.2.1.1, 9, .inl f) := rfl
theorem yr_22 {z : Zt} {Rf : Rm} (f : Nat → Int32) (g : Nat → Int64) : dR (yc z) Rf 22 f g = .inl (z.2.1.1, 96, .inl f) := rfl
theorem yr_23 {z : Zt} {Rf : Rm} (f : Nat → Int32) (g : Nat → Int64) : dR (yc z) Rf 23 f g = .inl (z.2.1.1, 24, .inl f) := rfl
theorem yr_24 {z : Zt} {Rf : Rm} (f : Nat → Int32) (g : Nat → Int64) : dR (yc z) Rf 24 f g = .inl (z.2.1.1, 4608, .inl f) := rfl
theorem yr_25 {z : Zt} {Rf : Rm} (f : Nat → Int32) (g : Nat → Int64) : dR (yc z) Rf 25 f g = .inl (z.2.1.1, 9, .inl f) := rfl
theorem yr_26 {z : Zt} {Rf : Rm} (f : Nat → Int32) (g : Nat → Int64) : dR (yc z) Rf 26 f g = .inl (z.2.1.1, 96, .inl f) := rfl
theorem yr_27 {z : Zt} {Rf : Rm} (f : Nat → Int32) (g : Nat → Int64) : dR (yc z) Rf 27 f g = .inl (z.2.1.2.2.1, 9216, .inl f) := rfl
theorem yr_28 {z : Zt} {Rf : Rm} (f : Nat → Int32) (g : Nat → Int64) : dR (yc z) Rf 28 f g = .inl (z.2.1.2.2.2.1, 9216, .inl f) := rfl
theorem yr_29 {z : Zt} {Rf : Rm} (f : Nat → Int32) (g : Nat → Int64) : dR (yc z) Rf 29 f g = .inl (z.2.1.2.1, 96, .inr (.inl g)) := rfl
theorem yr_30 {z : Zt} {Rf : Rm} (f : Nat → Int32) (g : Nat → Int64) : dR (yc z) Rf 30 f g = .inl (z.2.1.2.1, 96, .inr (.inl g)) := rfl
theorem yr_31 {z : Zt} {Rf : Rm} (f : Nat → Int32) (g : Nat → Int64) : dR (yc z) Rf 31 f g = .inl (z.2.1.2.2.2.1, 96, .inl f) := rfl
theorem xr_ps {k : Nat} (h : isPS k = true) {z : Zt} {Rf : Rm} (f : Nat → Int32) (g : Nat → Int64) : dR (xc z) Rf k f g = .inr (4, [.long (g 0), .long (g 1)]) := by
  unfold dR xc
  rw [if_pos h]
theorem pw_D2 {d : Cds} {N N0 b : Nat} {M : Mem} (h : N ≤ N0) : va_D (pA N0 b) (pw d N b M) :=
  pw_D.weaken (fun k q hk hA => ⟨hA.1, Nat.lt_of_lt_of_le hA.2 (by omega)⟩)
theorem pw_set2 {d d' : Cds} {N b k : Nat} {M M' : Mem} {e : va_E} (hk : k < N) (he : e = d' k (M'.1 k) (M'.2 k)) (ho : ∀ a, a ≠ k → d' a (M'.1 a) (M'.2 a) = d a (M.1 a) (M.2 a)) : (pw d N b M).set k (b + k, e) = pw d' N b M' := by
  apply List.ext_getElem?
  intro i
  rw [List.getElem?_set]
  by_cases h : k = i
  · subst h
    rw [if_pos rfl, if_pos (by simp [pw, hk]), pw_get hk, he]
  · rw [if_neg h]
    by_cases hi : i < N
    · rw [pw_get hi, pw_get hi, ho i (Ne.symm h)]
    · have h1 : N ≤ i := Nat.not_lt.mp hi
      rw [List.getElem?_eq_none (by simp [pw, h1]), List.getElem?_eq_none (by simp [pw, h1])]
theorem pw_succ2 {d d' : Cds} {N b : Nat} {M M' : Mem} {e : va_E} (he : e = d' N (M'.1 N) (M'.2 N)) (ho : ∀ a, a < N → d' a (M'.1 a) (M'.2 a) = d a (M.1 a) (M.2 a)) : pw d N b M ++ [(b + N, e)] = pw d' (N + 1) b M' := by
  unfold pw
  rw [List.range_succ, List.map_append]
  congr 1
  · apply List.map_congr_left
    intro a ha
    rw [ho a (List.mem_range.mp ha)]
  · simp [he]
theorem uR_o {Rf : Rm} {k j : Nat} {v : Option Nat} {a : Nat} (h : a ≠ k) : uR Rf k j v a = Rf a := by
  funext i; simp [uR, h]
theorem zR_o {Rf : Rm} {k a : Nat} (h : a ≠ k) : zR Rf k a = Rf a := by
  funext i; simp [zR, h]
theorem zR_k {Rf : Rm} {k : Nat} : zR Rf k k = fun _ => none := by
  funext i; simp [zR]
theorem zM_o1 {M : Mem} {k a : Nat} (h : a ≠ k) : (zM M k).1 a = M.1 a := by
  funext i; simp [zM, h]
theorem zM_o2 {M : Mem} {k a : Nat} (h : a ≠ k) : (zM M k).2 a = M.2 a := by
  funext i; simp [zM, h]
theorem zM_k1 {M : Mem} {k : Nat} : (zM M k).1 k = fun _ => 0 := by
  funext i; simp [zM]
theorem zM_k2 {M : Mem} {k : Nat} : (zM M k).2 k = fun _ => 0 := by
  funext i; simp [zM]
def Bx (b : Nat) : Nat → Prop := fun q => b ≤ q
def Cq (p : Program) (s : State) (m : MethodId) (args : Array Value) (c : Code) (cc : ByteArray) (nL : Nat) (own : String) (z : Zt) (b : Nat) : Prop :=
  CallFix p m c cc nL s args lw_good own ∧ Gx z (Bx b) s
theorem pw_DB {d : Cds} {N b : Nat} {M : Mem} : va_D (Bx b) (pw d N b M) := pw_D.weaken (fun k q hk hA => hA.1)
def CC (l : Launch) (z : Zt) (D : Cdr) (b : Nat) (y : MethodName) (bytes : ByteArray) (maxL : Nat) (rm : Room) (av : List Value) (N : Nat) (M : Mem) (Rf : Rm) (N' : Nat) (P : Mem × Rm → Prop) (mc ms : Nat) : Prop :=
  Met l y (Cond.code y bytes maxL none :: lw_good) rm (va_Pc av (fun U => va_P z.1 vwCl (pw (dR D Rf) N b M) U.heap ∧ U.heap.size = b + N ∧ Gx z (Bx b) U ∧ va_AO "BronzeKing$PlaceSet" U)) (va_Qv P (fun u t => va_P z.1 vwCl (pw (dR D u.2) N' b u.1) t.heap) (Bx b)) mc ms (Bx b)
theorem CC_blind {z : Zt} {d : Cds} {N b : Nat} {M : Mem} {av : List Value} : FrameBlind (va_Pc av (fun U => va_P z.1 vwCl (pw d N b M) U.heap ∧ U.heap.size = b + N ∧ Gx z (Bx b) U ∧ va_AO "BronzeKing$PlaceSet" U)) := fun a U g mk q => ⟨q.1, q.2.1, q.2.2.1, Gx.same (u := U) (U := U.calling g mk a) rfl rfl q.2.2.2.1, va_AO.moved (u := U) (U := U.calling g mk a) (Vm.Alike.refl U.vm) q.2.2.2.2⟩
/-- the bundle of words that a call of a constructor needs -/
def yI (y : MethodName) (bytes : ByteArray) (maxL : Nat) (n : Nat) : Prop := Cond.instanceMethod y ∈ lw_good ∧ Cond.initialized y.cls ∈ lw_good ∧ Cond.code y bytes maxL none ∈ lw_good ∧ y.name = "<init>" ∧ y.cls ≠ "java/lang/invoke/MethodHandle" ∧ y.cls ≠ "java/lang/invoke/VarHandle" ∧ (parseMethodDescriptor y.desc).map (fun d => d.parameters.length) = some n
section QX
variable {p : Program} {l : Launch} {e : Env} {R : Room} {s : State} {m : MethodId} {args : Array Value} {below : List Frame} {meth : Method} {c : Code} {H : Heap} {locs : List Loc} {cells slots : Nat} {Q : State → Prop} {cc : ByteArray} {nL : Nat} {own : String} {z : Zt} {D : Cdr} {Rf : Rm} {N b : Nat} {M : Mem} {pc : Nat} {ls : Array Slot} {rest : List Value}
theorem wsz {g : JFrame} (kk : H.size ≤ s.heap.size + cells → W p l e R s m args below meth c H locs cells slots Q g) : W p l e R s m args below meth c H locs cells slots Q g :=
  fun T hT X => kk (by rw [← hT]; exact X.heapSize) T hT X
/-- the new cell's place is the next one -/
theorem qpos {d : Cds} {q : Nat} {e : va_E} {H1 : Heap} {h0 : Nat} (hP1 : va_P z.1 vwCl (pw d N b M ++ [(q, e)]) H1) (hD1 : va_D (Bx b) (pw d N b M ++ [(q, e)])) (hz : H1.size ≤ h0 + (cells + 1)) (hc : h0 + cells = b + N) : q = b + N := by
  have hl : (pw d N b M).length = N := by simp [pw]
  have e1 : (pw d N b M ++ [(q, e)])[N]? = some (q, e) := by
    rw [List.getElem?_append_right (by omega), hl]
    simp
  have hq : q < H1.size := (hP1 N _ e1).lt
  have hA : b ≤ q := hD1.2 N _ e1
  by_cases h : q < b + N
  · have hk : q - b < N := by omega
    have e2 : (pw d N b M ++ [(q, e)])[q - b]? = some (b + (q - b), d (q - b) (M.1 (q - b)) (M.2 (q - b))) := by
      rw [List.getElem?_append_left (by omega)]
      exact pw_get hk
    have := hD1.1 N (q - b) _ _ e1 e2 (by show q = b + (q - b); omega)
    omega
  · omega
theorem qg (C : Cq p s m args c cc nL own z b) (hP : va_P z.1 vwCl (pw (dR D Rf) N b M) H) {k ci j index : Nat} {Cn ref : String} {T : u_T} {Nf : Nat} {fs : List Value} {v : Value} (hk : k < N) (hd : dR D Rf k (M.1 k) (M.2 k) = .inr (ci, fs)) (hc : vwCl[ci]? = some (Cn, T, Nf)) (hin : ∀ w ∈ u_ws Cn T Nf, w ∈ lw_good) (hj : j < Nf) (hlink : Cond.fieldLink own index ref (T j).2.1 (T j).2.2.1 ∈ lw_good) (hsame : (T j).1 = ref) (hv : fs[j]? = some v) (hdg : decode cc pc = .ok (.getfield index, 3))
    (kk : W p l e R s m args below meth c H locs cells slots Q (F0 m (pc + 3) ls (v :: rest))) : W p l e R s m args below meth c H locs cells slots Q (F0 m pc ls (.ref (b + k) :: rest)) :=
  va_get C.1.1 C.1.2.1 C.1.2.2.2.2 hin C.1.2.2.2.1 C.2.1.1 hP k (by rw [pw_get hk, hd]) hc j hj (C.1.2.2.2.2 _ hlink) (fun x h => by rw [← hsame]; exact h) hv hdg kk
/-- an array of numbers is made: the next cell -/
theorem qna (C : Cq p s m args c cc nL own z b) (hbs : s.heap.size ≤ b + N) (hlo : b ≤ s.heap.size) (hP : va_P z.1 vwCl (pw (dR D Rf) N b M) H) (hS : va_S (Bx b) s.heap H locs) (hcl : s.heap.size + cells = b + N) {atype : ArrayType} {ty : FieldType} (harr : Cond.arrayClass (newarray.typeOf atype) ∈ lw_good) (hty : newarray.typeOf atype = ty) {n : Int32} {N' : Nat} {a0 : vp_A} {cZ : ClassId} {t0 : Nat} (hto : (ztys z)[t0]? = some (cZ, ty)) (hpr : ∀ cA cB : ClassId, va_RA s cA ty → va_RA s cB ty → cA = cB) (ha : ∀ cA : ClassId, vp_cell cA a0 = arrV cA N' (fun _ => defaultValue ty)) (hn : ¬ n < 0) (hNn : n.toNatClampNeg = N') (hbytes : N' * componentBytes ty ≤ 536870912) (hcells : cells + 1 ≤ R.cells) (hslots : slots + N' ≤ R.slots) (hd : D N (fun _ => 0) (fun _ => 0) (fun _ => none) = .inl (cZ, a0)) (hdg : decode cc pc = .ok (.newarray atype, 2))
    (kk : ∀ H1 : Heap, va_P z.1 vwCl (pw (dR D (zR Rf N)) (N + 1) b (zM M N)) H1 → va_S (Bx b) s.heap H1 locs → s.heap.size + (cells + 1) = b + (N + 1) → W p l e R s m args below meth c H1 locs (cells + 1) (slots + N') Q (F0 m (pc + 2) ls (.ref (b + N) :: rest))) : W p l e R s m args below meth c H locs cells slots Q (F0 m pc ls (.int n :: rest)) := by
  refine va_newa C.1.1 C.1.2.1 (C.1.2.2.2.2 _ harr) hty C.2.1.1 hP pw_DB hS (fun q h => Nat.le_trans hlo h) ha hn hNn hbytes hcells hslots hdg (fun q cA H1 hK1 hP1 hD1 hS1 => wsz (fun hz => ?_))
  have hq := qpos hP1 hD1 hz hcl
  subst hq
  have hA : cA = cZ := hpr _ _ (hK1.2 (ztys z).length (cA, ty) (by simp)).2 (C.2.1.1.2 t0 _ hto).2
  subst hA
  rw [pw_succ2 (d' := dR D (zR Rf N)) (M' := zM M N) (by unfold dR; rw [zM_k1, zM_k2, zR_k, hd]) (fun a h => by unfold dR; rw [zM_o1 (by omega), zM_o2 (by omega), zR_o (by omega)])] at hP1
  exact kk H1 hP1 hS1 (by omega)
/-- an array of PlaceSets -/
theorem qnO (C : Cq p s m args c cc nL own z b) (hlo : b ≤ s.heap.size) (hP : va_P z.1 vwCl (pw (dR D Rf) N b M) H) (hS : va_S (Bx b) s.heap H locs) (hcl : s.heap.size + cells = b + N) {index : Nat} (hclink : Cond.classLink own index "BronzeKing$PlaceSet" ∈ lw_good) (hover : va_AO "BronzeKing$PlaceSet" s) {n : Int32} {N' : Nat} (hn : ¬ n < 0) (hNn : n.toNatClampNeg = N') (hbytes : N' * 4 ≤ 536870912) (hcells : cells + 1 ≤ R.cells) (hslots : slots + N' ≤ R.slots) (hd : D N (fun _ => 0) (fun _ => 0) (fun _ => none) = .inl (z.2.1.2.2.2.2, N', .inr (.inr (.inr (.inr (fun _ => none)))))) (hdg : decode cc pc = .ok (.anewarray index, 3))
    (kk : ∀ H1 : Heap, va_P z.1 vwCl (pw (dR D (zR Rf N)) (N + 1) b (zM M N)) H1 → va_S (Bx b) s.heap H1 locs → s.heap.size + (cells + 1) = b + (N + 1) → W p l e R s m args below meth c H1 locs (cells + 1) (slots + N') Q (F0 m (pc + 3) ls (.ref (b + N) :: rest))) : W p l e R s m args below meth c H locs cells slots Q (F0 m pc ls (.int n :: rest)) := by
  refine va_newq C.1.1 C.1.2.1 C.1.2.2.2.1 (C.1.2.2.2.2 _ hclink) hover C.2.1.1 hP pw_DB hS (fun q h => Nat.le_trans hlo h) hn hNn hbytes hcells hslots hdg (fun q cA H1 hK1 hP1 hD1 hS1 => wsz (fun hz => ?_))
  have hq := qpos hP1 hD1 hz hcl
  subst hq
  have hA : cA = z.2.1.2.2.2.2 := by
    have h1 : va_RA s cA (.object "BronzeKing$PlaceSet") := (hK1.2 (ztys z).length (cA, .object "BronzeKing$PlaceSet") (by simp)).2
    have h2 : va_RA s z.2.1.2.2.2.2 (.object "BronzeKing$PlaceSet") := (C.2.1.1.2 4 _ rfl).2
    exact Option.some.inj ((va_nmO h1 rfl).symm.trans (va_nmO h2 rfl))
  subst hA
  rw [pw_succ2 (d' := dR D (zR Rf N)) (M' := zM M N) (by unfold dR; rw [zM_k1, zM_k2, zR_k, hd]) (fun a h => by unfold dR; rw [zM_o1 (by omega), zM_o2 (by omega), zR_o (by omega)])] at hP1
  exact kk H1 hP1 hS1 (by omega)
/-- an object -/
theorem qnw (C : Cq p s m args c cc nL own z b) (hlo : b ≤ s.heap.size) (hP : va_P z.1 vwCl (pw (dR D Rf) N b M) H) (hS : va_S (Bx b) s.heap H locs) (hcl : s.heap.size + cells = b + N) {index ci Nf : Nat} {Cn : String} {T : u_T} (hin : ∀ w ∈ u_ws Cn T Nf, w ∈ lw_good) (ty : Nat → FieldType) (hty : ∀ k, k < Nf → parseFieldDescriptor (T k).2.2.1 = some (ty k)) (hclink : Cond.classLink own index Cn ∈ lw_good) (hinst : Cond.instantiable Cn Nf ∈ lw_good) (hini : Cond.initialized Cn ∈ lw_good) (hc : vwCl[ci]? = some (Cn, T, Nf)) {fs : List Value} (hfs : ∀ j, j < Nf → defaultValue (ty j) = vp_V fs j) (hcells : cells + 1 ≤ R.cells) (hslots : slots + Nf ≤ R.slots) (hd : D N (fun _ => 0) (fun _ => 0) (fun _ => none) = .inr (ci, fs)) (hdg : decode cc pc = .ok (.new index, 3))
    (kk : ∀ H1 : Heap, va_P z.1 vwCl (pw (dR D (zR Rf N)) (N + 1) b (zM M N)) H1 → va_S (Bx b) s.heap H1 locs → s.heap.size + (cells + 1) = b + (N + 1) → W p l e R s m args below meth c H1 locs (cells + 1) (slots + Nf) Q (F0 m (pc + 3) ls (.ref (b + N) :: rest))) : W p l e R s m args below meth c H locs cells slots Q (F0 m pc ls rest) := by
  refine va_new C.1.1 C.1.2.1 C.1.2.2.2.2 hin ty hty C.1.2.2.2.1 (C.1.2.2.2.2 _ hclink) (C.1.2.2.2.2 _ hinst) (C.1.2.2.2.2 _ hini) C.2.1.1 hP pw_DB hS (fun q h => Nat.le_trans hlo h) hc hfs hcells hslots hdg (fun q H1 hP1 hD1 hS1 => wsz (fun hz => ?_))
  have hq := qpos hP1 hD1 hz hcl
  subst hq
  rw [pw_succ2 (d' := dR D (zR Rf N)) (M' := zM M N) (by unfold dR; rw [zM_k1, zM_k2, zR_k, hd]) (fun a h => by unfold dR; rw [zM_o1 (by omega), zM_o2 (by omega), zR_o (by omega)])] at hP1
  exact kk H1 hP1 hS1 (by omega)
/-- a reference into a final field -/
theorem qpR (C : Cq p s m args c cc nL own z b) (hin2 : meth.name = "<init>") (hP : va_P z.1 vwCl (pw (dR D Rf) N b M) H) (hS : va_S (Bx b) s.heap H locs) {k ci j index : Nat} {Cn ref : String} {T : u_T} {Nf : Nat} {fs : List Value} {v : Nat} {ty : FieldType} (hk : k < N) (hd : dR D Rf k (M.1 k) (M.2 k) = .inr (ci, fs)) (hc : vwCl[ci]? = some (Cn, T, Nf)) (hin : ∀ w ∈ u_ws Cn T Nf, w ∈ lw_good) (ty0 : Nat → FieldType) (hty : ∀ k, k < Nf → parseFieldDescriptor (T k).2.2.1 = some (ty0 k)) (hnm : ∀ a, a < Nf → ∀ b, b < Nf → a ≠ b → (T a).2.1 ≠ (T b).2.1) (hj : j < Nf) (hlink : Cond.fieldLink own index ref (T j).2.1 (T j).2.2.1 ∈ lw_good) (hsame : (T j).1 = ref) (hfin : (T j).2.2.2 = true) (hdecl : (T j).1 = own) (hdd : parseFieldDescriptor (T j).2.2.1 = some ty) (hn : narrow ty (.ref v) = .ref v) (hfit : fits ty (.ref v) = true) (hl : j < fs.length) (hd' : Sum.inr (ci, fs.set j (.ref v)) = dR D (uR Rf k j (some v)) k (M.1 k) (M.2 k)) (hdg : decode cc pc = .ok (.putfield index, 3))
    (kk : ∀ (H1 : Heap) (locs1 : List Loc), va_P z.1 vwCl (pw (dR D (uR Rf k j (some v))) N b M) H1 → va_S (Bx b) s.heap H1 locs1 → W p l e R s m args below meth c H1 locs1 cells slots Q (F0 m (pc + 3) ls rest)) : W p l e R s m args below meth c H locs cells slots Q (F0 m pc ls (.ref v :: .ref (b + k) :: rest)) := by
  refine va_putF C.1.1 C.1.2.1 C.1.2.2.2.2 hin ty0 hty hnm C.1.2.2.2.1 C.2.1.1 hP pw_DB hS k (by rw [pw_get hk, hd]) hc j hj (C.1.2.2.2.2 _ hlink) (fun x h => by rw [← hsame]; exact h) hfin hin2 hdecl hdd hn hfit hl hdg (fun H1 locs1 h1 h2 h3 => kk H1 locs1 ?_ h3)
  rw [pw_set2 (d' := dR D (uR Rf k j (some v))) (M' := M) hk hd' (fun a h => by unfold dR; rw [uR_o h])] at h1
  exact h1
theorem qpI (C : Cq p s m args c cc nL own z b) (hP : va_P z.1 vwCl (pw (dR D Rf) N b M) H) (hS : va_S (Bx b) s.heap H locs) {k ci j index : Nat} {Cn ref : String} {T : u_T} {Nf : Nat} {fs : List Value} {v : Int32} {ty : FieldType} (hk : k < N) (hd : dR D Rf k (M.1 k) (M.2 k) = .inr (ci, fs)) (hc : vwCl[ci]? = some (Cn, T, Nf)) (hin : ∀ w ∈ u_ws Cn T Nf, w ∈ lw_good) (ty0 : Nat → FieldType) (hty : ∀ k, k < Nf → parseFieldDescriptor (T k).2.2.1 = some (ty0 k)) (hnm : ∀ a, a < Nf → ∀ b, b < Nf → a ≠ b → (T a).2.1 ≠ (T b).2.1) (hj : j < Nf) (hlink : Cond.fieldLink own index ref (T j).2.1 (T j).2.2.1 ∈ lw_good) (hsame : (T j).1 = ref) (hfin : (T j).2.2.2 = false) (hdd : parseFieldDescriptor (T j).2.2.1 = some ty) (hn : narrow ty (.int v) = .int v) (hfit : fits ty (.int v) = true) (hl : j < fs.length) (hd' : Sum.inr (ci, fs.set j (.int v)) = dR D Rf k (upd (M.1 k) j v) (M.2 k)) (hdg : decode cc pc = .ok (.putfield index, 3))
    (kk : ∀ (H1 : Heap) (locs1 : List Loc), va_P z.1 vwCl (pw (dR D Rf) N b (wI M k j v)) H1 → va_S (Bx b) s.heap H1 locs1 → W p l e R s m args below meth c H1 locs1 cells slots Q (F0 m (pc + 3) ls rest)) : W p l e R s m args below meth c H locs cells slots Q (F0 m pc ls (.int v :: .ref (b + k) :: rest)) := by
  refine va_put C.1.1 C.1.2.1 C.1.2.2.2.2 hin ty0 hty hnm C.1.2.2.2.1 C.2.1.1 hP pw_DB hS k (by rw [pw_get hk, hd]) hc j hj (C.1.2.2.2.2 _ hlink) (fun x h => by rw [← hsame]; exact h) hfin hdd hn hfit hl hdg (fun H1 locs1 h1 h2 h3 => kk H1 locs1 ?_ h3)
  rw [pw_set (M' := wI M k j v) hk (by rw [wI_k, wI_2]; exact hd') wI_o] at h1
  exact h1
theorem qpJ (C : Cq p s m args c cc nL own z b) (hP : va_P z.1 vwCl (pw (dR D Rf) N b M) H) (hS : va_S (Bx b) s.heap H locs) {k ci j index : Nat} {Cn ref : String} {T : u_T} {Nf : Nat} {fs : List Value} {v : Int64} {ty : FieldType} (hk : k < N) (hd : dR D Rf k (M.1 k) (M.2 k) = .inr (ci, fs)) (hc : vwCl[ci]? = some (Cn, T, Nf)) (hin : ∀ w ∈ u_ws Cn T Nf, w ∈ lw_good) (ty0 : Nat → FieldType) (hty : ∀ k, k < Nf → parseFieldDescriptor (T k).2.2.1 = some (ty0 k)) (hnm : ∀ a, a < Nf → ∀ b, b < Nf → a ≠ b → (T a).2.1 ≠ (T b).2.1) (hj : j < Nf) (hlink : Cond.fieldLink own index ref (T j).2.1 (T j).2.2.1 ∈ lw_good) (hsame : (T j).1 = ref) (hfin : (T j).2.2.2 = false) (hdd : parseFieldDescriptor (T j).2.2.1 = some ty) (hn : narrow ty (.long v) = .long v) (hfit : fits ty (.long v) = true) (hl : j < fs.length) (hd' : Sum.inr (ci, fs.set j (.long v)) = dR D Rf k (M.1 k) (vp_updL (M.2 k) j v)) (hdg : decode cc pc = .ok (.putfield index, 3))
    (kk : ∀ (H1 : Heap) (locs1 : List Loc), va_P z.1 vwCl (pw (dR D Rf) N b (wJ M k j v)) H1 → va_S (Bx b) s.heap H1 locs1 → W p l e R s m args below meth c H1 locs1 cells slots Q (F0 m (pc + 3) ls rest)) : W p l e R s m args below meth c H locs cells slots Q (F0 m pc ls (.long v :: .ref (b + k) :: rest)) := by
  refine va_put C.1.1 C.1.2.1 C.1.2.2.2.2 hin ty0 hty hnm C.1.2.2.2.1 C.2.1.1 hP pw_DB hS k (by rw [pw_get hk, hd]) hc j hj (C.1.2.2.2.2 _ hlink) (fun x h => by rw [← hsame]; exact h) hfin hdd hn hfit hl hdg (fun H1 locs1 h1 h2 h3 => kk H1 locs1 ?_ h3)
  rw [pw_set (M' := wJ M k j v) hk (by rw [wJ_k, wJ_1]; exact hd') wJ_o] at h1
  exact h1
/-- a reference into a row of PlaceSets -/
theorem qaO (C : Cq p s m args c cc nL own z b) (hP : va_P z.1 vwCl (pw (dR D Rf) N b M) H) (hS : va_S (Bx b) s.heap H locs) {k kv n : Nat} {i : Int32} {vs : List Value} (hk : k < N) (hkv : kv < N) (hd : ∀ h f g, D k f g h = .inl (z.2.1.2.2.2.2, n, .inr (.inr (.inr (.inr h))))) (hdv : dR D Rf kv (M.1 kv) (M.2 kv) = .inr (4, vs)) (hin : vp_in i n) (hdg : decode cc pc = .ok (.aastore, 1))
    (kk : ∀ (H1 : Heap) (locs1 : List Loc), va_P z.1 vwCl (pw (dR D (uR Rf k i.toNatClampNeg (some (b + kv)))) N b M) H1 → va_S (Bx b) s.heap H1 locs1 → W p l e R s m args below meth c H1 locs1 cells slots Q (F0 m (pc + 1) ls rest)) : W p l e R s m args below meth c H locs cells slots Q (F0 m pc ls (.ref (b + kv) :: .int i :: .ref (b + k) :: rest)) := by
  refine va_astq (r := (RX4, TX4, 2)) C.1.1 C.1.2.1 C.2.1.1 hP pw_DB hS k 4 kv 4 (by rw [pw_get hk]; unfold dR; rw [hd]) rfl (by rw [pw_get hkv, hdv]) rfl hin hdg (fun H1 locs1 h1 h2 h3 => kk H1 locs1 ?_ h3)
  rw [pw_set2 (d' := dR D (uR Rf k i.toNatClampNeg (some (b + kv)))) (M' := M) hk (by
    have e0 : va_up (Rf k) i.toNatClampNeg (some (b + kv)) = uR Rf k i.toNatClampNeg (some (b + kv)) k := by
      funext j
      simp [uR, va_up]
    unfold dR
    rw [hd, e0]) (fun a h => by unfold dR; rw [uR_o h])] at h1
  exact h1
/-- the pool's end is the heap's end -/
theorem qend {d : Cds} {h0 : Nat} (hN : 0 < N) (hP : va_P z.1 vwCl (pw d N b M) H) (hz : H.size ≤ h0 + cells) (hc : h0 + cells = b + N) : H.size = b + N := by
  have := (hP (N - 1) _ (pw_get (by omega))).lt
  simp only at this
  omega
variable {As st0 : List Value} {y : MethodName} {bytes : ByteArray} {maxL index n N' mc ms : Nat} {rm : Room} {P : Mem × Rm → Prop}
/-- a constructor is called -/
theorem qcI (C : Cq p s m args c cc nL own z b) (hAO : va_AO "BronzeKing$PlaceSet" s) (hP : va_P z.1 vwCl (pw (dR D Rf) N b M) H) (hS : va_S (Bx b) s.heap H locs) (hcl : s.heap.size + cells = b + N) (hN : 0 < N) {k : Nat} (hM : CC l z D b y bytes maxL rm (.ref (b + k) :: As) N M Rf N' P mc ms) (hy : yI y bytes maxL n) (hl : Cond.methodLink own index y ∈ lw_good) (hrc : rm.cells = mc) (hrs : rm.slots = ms) (hn : As.length = n) (hR : rm.frames + 1 ≤ R.frames ∧ 8 + (maxL + 11) + rm.locals ≤ R.locals) (hls : ls.size = nL) (hst : st0 = As.reverse ++ .ref (b + k) :: rest) (hroom : (rest.map fun v => v.category).sum ≤ 8) (hdg : decode cc pc = .ok (.invokespecial index, 3)) (hcs : cells + mc ≤ R.cells ∧ slots + ms ≤ R.slots)
    (kk : ∀ (u : Mem × Rm) (H1 : Heap) (locs1 : List Loc), P u → va_P z.1 vwCl (pw (dR D u.2) N' b u.1) H1 → va_S (Bx b) s.heap H1 locs1 → W p l e R s m args below meth c H1 locs1 (cells + mc) (slots + ms) Q (F0 m (pc + 3) ls rest)) : W p l e R s m args below meth c H locs cells slots Q (F0 m pc ls st0) := by
  refine wsz (fun hz => ?_)
  have hend := qend hN hP hz hcl
  refine va_callv (va_runI (As := As) (rest := rest) C.1 hM (cwI n C.1.2.2.2.2 (gC hy.2.2.1) rfl hrc hrs (C.1.2.2.2.2 _ hy.2.1) (C.1.2.2.2.2 _ hl) (C.1.2.2.2.2 _ hy.1) hy.2.2.2.1 ⟨hy.2.2.2.2.1, hy.2.2.2.2.2.1, hy.2.2.2.2.2.2⟩ hR) ⟨CC_blind, fun U hU hW => ⟨rfl, by rw [hU]; exact hP, by rw [hU]; exact hend, C.2.to hS hU hW, va_AO.moved hW.alike hAO⟩⟩ rfl hn hls hst (lv_room hroom) hdg hcs) hS (fun q _ h => h) (fun q h => h) (fun u t H1 locs1 ht hvm hw hB hz1 hk1 hS1 => ?_)
  exact kk u H1 locs1 hw (by rw [← ht]; exact hB) hS1
theorem qcN (C : Cq p s m args c cc nL own z b) (hAO : va_AO "BronzeKing$PlaceSet" s) (hP : va_P z.1 vwCl (pw (dR D Rf) N b M) H) (hS : va_S (Bx b) s.heap H locs) (hcl : s.heap.size + cells = b + N) (hN : 0 < N) {k : Nat} {host : String} (hM : CC l z D b y bytes maxL rm (.ref (b + k) :: As) N M Rf N' P mc ms) (hy : yI y bytes maxL n) (hl : Cond.methodLinkNest own index y host ∈ tables_1) (hrc : rm.cells = mc) (hrs : rm.slots = ms) (hn : As.length = n) (hR : rm.frames + 1 ≤ R.frames ∧ 8 + (maxL + 11) + rm.locals ≤ R.locals) (hls : ls.size = nL) (hst : st0 = As.reverse ++ .ref (b + k) :: rest) (hroom : (rest.map fun v => v.category).sum ≤ 8) (hdg : decode cc pc = .ok (.invokespecial index, 3)) (hcs : cells + mc ≤ R.cells ∧ slots + ms ≤ R.slots)
    (kk : ∀ (u : Mem × Rm) (H1 : Heap) (locs1 : List Loc), P u → va_P z.1 vwCl (pw (dR D u.2) N' b u.1) H1 → va_S (Bx b) s.heap H1 locs1 → W p l e R s m args below meth c H1 locs1 (cells + mc) (slots + ms) Q (F0 m (pc + 3) ls rest)) : W p l e R s m args below meth c H locs cells slots Q (F0 m pc ls st0) := by
  refine wsz (fun hz => ?_)
  have hend := qend hN hP hz hcl
  refine va_callv (va_runIN (As := As) (rest := rest) C.1 hM ⟨va_cnB n C.1.2.2.2.2 (gC hy.2.2.1) rfl hrc hrs (C.2.1.2.1 _ hl rfl) (C.1.2.2.2.2 _ hy.2.1) ⟨hy.2.2.2.2.1, hy.2.2.2.2.2.1, hy.2.2.2.2.2.2⟩ hR, hy.2.2.2.1, C.1.2.2.2.2 _ hy.1⟩ ⟨CC_blind, fun U hU hW => ⟨rfl, by rw [hU]; exact hP, by rw [hU]; exact hend, C.2.to hS hU hW, va_AO.moved hW.alike hAO⟩⟩ rfl hn hls hst (lv_room hroom) hdg hcs) hS (fun q _ h => h) (fun q h => h) (fun u t H1 locs1 ht hvm hw hB hz1 hk1 hS1 => ?_)
  exact kk u H1 locs1 hw (by rw [← ht]; exact hB) hS1
end QX
