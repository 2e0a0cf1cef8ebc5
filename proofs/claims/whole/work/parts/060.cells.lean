/-- the cells that hold a PlaceSet -/
def isPS (k : Nat) : Bool := k == 10 || (decide (33 ≤ k) && decide (k < 131)) || (decide (134 ≤ k) && decide (k < 326))
def isCo (k : Nat) : Prop := k = 330 ∨ k = 333 ∨ k = 336
/-- rows of 96 that spread writes -/
def isA96 (k : Nat) : Prop := k = 7 ∨ k = 8 ∨ k = 28 ∨ k = 329
/-- the model's three rows that are copied -/
def isCp (k : Nat) : Prop := k = 1 ∨ k = 2 ∨ k = 3
def xdl (z : Zt) (b : Nat) : Cds := fun k f g => match k with
  | 0 => .inr (11, [.ref (b + 1), .ref (b + 3), .ref (b + 11), .ref (b + 17), .ref (b + 23), .ref (b + 25), .ref (b + 27), .ref (b + 131), .ref (b + 326), .ref (b + 330), .ref (b + 333), .ref (b + 336), .int (f 12)])
  | 1 => .inr (7, [.ref (b + 2), .int (f 1)])
  | 2 => .inl (z.2.1.1, 260, .inl f)
  | 3 => .inr (8, [.ref (b + 4), .ref (b + 5), .ref (b + 6), .ref (b + 7), .ref (b + 8), .ref (b + 9), .ref (b + 10), .int (f 7), .int (f 8), .int (f 9)])
  | 4 => .inl (z.2.1.1, 96, .inl f)
  | 5 => .inl (z.2.1.1, 96, .inl f)
  | 6 => .inl (z.2.1.1, 10, .inl f)
  | 7 => .inl (z.2.1.1, 96, .inl f)
  | 8 => .inl (z.2.1.1, 96, .inl f)
  | 9 => .inl (z.2.1.1, 96, .inl f)
  | 11 => .inr (2, [.ref (b + 12), .ref (b + 13), .ref (b + 14), .int (f 3), .ref (b + 15), .ref (b + 16)])
  | 12 => .inl (z.2.1.1, 240, .inl f)
  | 13 => .inl (z.2.1.1, 33, .inl f)
  | 14 => .inl (z.2.1.1, 16, .inl f)
  | 15 => .inl (z.2.1.1, 9, .inl f)
  | 16 => .inl (z.2.1.1, 64, .inl f)
  | 17 => .inr (3, [.ref (b + 18), .ref (b + 19), .ref (b + 20), .ref (b + 21), .ref (b + 22), .int (f 5), .int (f 6), .int (f 7), .int (f 8), .int (f 9), .int (f 10), .int (f 11)])
  | 18 => .inl (z.2.1.1, 240, .inl f)
  | 19 => .inl (z.2.1.1, 33, .inl f)
  | 20 => .inl (z.2.1.1, 16, .inl f)
  | 21 => .inl (z.2.1.1, 64, .inl f)
  | 22 => .inl (z.2.1.1, 64, .inl f)
  | 23 => .inr (10, [.ref (b + 3), .ref (b + 11), .ref (b + 24)])
  | 24 => .inl (z.2.1.1, 24, .inl f)
  | 25 => .inr (9, [.ref (b + 11), .ref (b + 26), .int (f 2), .int (f 3), .int (f 4), .int (f 5), .int (f 6), .int (f 7)])
  | 26 => .inl (z.2.1.1, 24, .inl f)
  | 27 => .inr (6, [.ref (b + 3), .ref (b + 28), .ref (b + 29), .ref (b + 30), .ref (b + 31), .ref (b + 32), .ref (b + 33), .ref (b + 34), .int (f 8), .int (f 9), .int (f 10), .int (f 11), .int (f 12)])
  | 28 => .inl (z.2.1.1, 96, .inl f)
  | 29 => .inl (z.2.1.1, 96, .inl f)
  | 30 => .inl (z.2.1.1, 96, .inl f)
  | 31 => .inl (z.2.1.1, 96, .inl f)
  | 32 => .inl (z.2.1.2.2.2.2, 96, .inr (.inr (.inr (.inr (fun i => some (b + (35 + i)))))))
  | 131 => .inr (1, [.ref (b + 3), .ref (b + 132), .ref (b + 133)])
  | 132 => .inl (z.2.1.2.2.2.2, 96, .inr (.inr (.inr (.inr (fun i => some (b + (134 + 2 * i)))))))
  | 133 => .inl (z.2.1.2.2.2.2, 96, .inr (.inr (.inr (.inr (fun i => some (b + (135 + 2 * i)))))))
  | 326 => .inr (5, [.ref (b + 3), .ref (b + 327), .ref (b + 328), .ref (b + 329), .int (f 4), .int (f 5), .long (g 6)])
  | 327 => .inl (z.2.1.2.1, 5120, .inr (.inl g))
  | 328 => .inl (z.2.1.1, 100, .inl f)
  | 329 => .inl (z.2.1.1, 96, .inl f)
  | _ => .inl (z.2.1.1, 0, .inl f)
/-- the cells of a BronzeKing, from its own on -/
def xd (z : Zt) (b : Nat) : Cds := fun k f g =>
  if isPS k = true then .inr (4, [.long (g 0), .long (g 1)])
  else if k = 330 ∨ k = 333 ∨ k = 336 then .inr (0, [.ref (b + (k + 1)), .ref (b + (k + 2)), .int (f 2), .int (f 3), .int (f 4), .int (f 5), .int (f 6), .int (f 7)])
  else if k = 331 ∨ k = 334 ∨ k = 337 then .inl (z.2.1.1, 96, .inl f)
  else if k = 332 ∨ k = 335 ∨ k = 338 then .inl (z.2.1.1, 60, .inl f)
  else xdl z b k f g
/-- the cells of the reference -/
def yd (z : Zt) (b : Nat) : Cds := fun k f g => match k with
  | 0 => .inr (12, [.ref (b + 1), .ref (b + 2), .ref (b + 3), .ref (b + 4), .ref (b + 5), .int (f 5), .int (f 6), .ref (b + 6), .ref (b + 7), .int (f 9), .ref (b + 8), .int (f 11), .int (f 12), .int (f 13), .int (f 14), .int (f 15), .int (f 16), .int (f 17), .int (f 18), .int (f 19), .int (f 20), .ref (b + 9), .ref (b + 10), .ref (b + 11), .ref (b + 12), .ref (b + 13), .ref (b + 14), .ref (b + 15), .ref (b + 16), .ref (b + 17), .ref (b + 18), .ref (b + 19), .ref (b + 20), .ref (b + 21), .ref (b + 22), .int (f 35), .int (f 36), .int (f 37), .int (f 38), .int (f 39), .ref (b + 23), .int (f 41), .int (f 42), .ref (b + 24), .ref (b + 25), .int (f 45), .int (f 46), .ref (b + 26), .ref (b + 27), .ref (b + 28), .ref (b + 29), .ref (b + 30), .ref (b + 31), .int (f 53)])
  | 1 => .inl (z.2.1.1, 162, .inl f)
  | 2 => .inl (z.2.1.1, 162, .inl f)
  | 3 => .inl (z.2.1.1, 162, .inl f)
  | 4 => .inl (z.2.1.1, 96, .inl f)
  | 5 => .inl (z.2.1.1, 10, .inl f)
  | 6 => .inl (z.2.1.2.2.1, 9216, .inl f)
  | 7 => .inl (z.2.1.1, 96, .inl f)
  | 8 => .inl (z.2.1.2.2.1, 260, .inl f)
  | 9 => .inl (z.2.1.1, 260, .inl f)
  | 10 => .inl (z.2.1.1, 260, .inl f)
  | 11 => .inl (z.2.1.1, 16, .inl f)
  | 12 => .inl (z.2.1.1, 16, .inl f)
  | 13 => .inl (z.2.1.1, 16, .inl f)
  | 14 => .inl (z.2.1.1, 16, .inl f)
  | 15 => .inl (z.2.1.1, 260, .inl f)
  | 16 => .inl (z.2.1.1, 16, .inl f)
  | 17 => .inl (z.2.1.1, 16, .inl f)
  | 18 => .inl (z.2.1.1, 16, .inl f)
  | 19 => .inl (z.2.1.1, 16, .inl f)
  | 20 => .inl (z.2.1.1, 260, .inl f)
  | 21 => .inl (z.2.1.1, 9, .inl f)
  | 22 => .inl (z.2.1.1, 96, .inl f)
  | 23 => .inl (z.2.1.1, 24, .inl f)
  | 24 => .inl (z.2.1.1, 4608, .inl f)
  | 25 => .inl (z.2.1.1, 9, .inl f)
  | 26 => .inl (z.2.1.1, 96, .inl f)
  | 27 => .inl (z.2.1.2.2.1, 9216, .inl f)
  | 28 => .inl (z.2.1.2.2.2.1, 9216, .inl f)
  | 29 => .inl (z.2.1.2.1, 96, .inr (.inl g))
  | 30 => .inl (z.2.1.2.1, 96, .inr (.inl g))
  | 31 => .inl (z.2.1.2.2.2.1, 96, .inl f)
  | _ => .inl (z.2.1.1, 0, .inl f)
theorem xd_0 {z : Zt} {b : Nat} (f : Nat → Int32) (g : Nat → Int64) : xd z b 0 f g = .inr (11, [.ref (b + 1), .ref (b + 3), .ref (b + 11), .ref (b + 17), .ref (b + 23), .ref (b + 25), .ref (b + 27), .ref (b + 131), .ref (b + 326), .ref (b + 330), .ref (b + 333), .ref (b + 336), .int (f 12)]) := rfl
theorem xd_1 {z : Zt} {b : Nat} (f : Nat → Int32) (g : Nat → Int64) : xd z b 1 f g = .inr (7, [.ref (b + 2), .int (f 1)]) := rfl
theorem xd_2 {z : Zt} {b : Nat} (f : Nat → Int32) (g : Nat → Int64) : xd z b 2 f g = .inl (z.2.1.1, 260, .inl f) := rfl
theorem xd_3 {z : Zt} {b : Nat} (f : Nat → Int32) (g : Nat → Int64) : xd z b 3 f g = .inr (8, [.ref (b + 4), .ref (b + 5), .ref (b + 6), .ref (b + 7), .ref (b + 8), .ref (b + 9), .ref (b + 10), .int (f 7), .int (f 8), .int (f 9)]) := rfl
theorem xd_4 {z : Zt} {b : Nat} (f : Nat → Int32) (g : Nat → Int64) : xd z b 4 f g = .inl (z.2.1.1, 96, .inl f) := rfl
theorem xd_5 {z : Zt} {b : Nat} (f : Nat → Int32) (g : Nat → Int64) : xd z b 5 f g = .inl (z.2.1.1, 96, .inl f) := rfl
theorem xd_6 {z : Zt} {b : Nat} (f : Nat → Int32) (g : Nat → Int64) : xd z b 6 f g = .inl (z.2.1.1, 10, .inl f) := rfl
theorem xd_7 {z : Zt} {b : Nat} (f : Nat → Int32) (g : Nat → Int64) : xd z b 7 f g = .inl (z.2.1.1, 96, .inl f) := rfl
theorem xd_8 {z : Zt} {b : Nat} (f : Nat → Int32) (g : Nat → Int64) : xd z b 8 f g = .inl (z.2.1.1, 96, .inl f) := rfl
theorem xd_9 {z : Zt} {b : Nat} (f : Nat → Int32) (g : Nat → Int64) : xd z b 9 f g = .inl (z.2.1.1, 96, .inl f) := rfl
theorem xd_11 {z : Zt} {b : Nat} (f : Nat → Int32) (g : Nat → Int64) : xd z b 11 f g = .inr (2, [.ref (b + 12), .ref (b + 13), .ref (b + 14), .int (f 3), .ref (b + 15), .ref (b + 16)]) := rfl
theorem xd_12 {z : Zt} {b : Nat} (f : Nat → Int32) (g : Nat → Int64) : xd z b 12 f g = .inl (z.2.1.1, 240, .inl f) := rfl
theorem xd_13 {z : Zt} {b : Nat} (f : Nat → Int32) (g : Nat → Int64) : xd z b 13 f g = .inl (z.2.1.1, 33, .inl f) := rfl
theorem xd_14 {z : Zt} {b : Nat} (f : Nat → Int32) (g : Nat → Int64) : xd z b 14 f g = .inl (z.2.1.1, 16, .inl f) := rfl
theorem xd_15 {z : Zt} {b : Nat} (f : Nat → Int32) (g : Nat → Int64) : xd z b 15 f g = .inl (z.2.1.1, 9, .inl f) := rfl
theorem xd_16 {z : Zt} {b : Nat} (f : Nat → Int32) (g : Nat → Int64) : xd z b 16 f g = .inl (z.2.1.1, 64, .inl f) := rfl
theorem xd_17 {z : Zt} {b : Nat} (f : Nat → Int32) (g : Nat → Int64) : xd z b 17 f g = .inr (3, [.ref (b + 18), .ref (b + 19), .ref (b + 20), .ref (b + 21), .ref (b + 22), .int (f 5), .int (f 6), .int (f 7), .int (f 8), .int (f 9), .int (f 10), .int (f 11)]) := rfl
theorem xd_18 {z : Zt} {b : Nat} (f : Nat → Int32) (g : Nat → Int64) : xd z b 18 f g = .inl (z.2.1.1, 240, .inl f) := rfl
theorem xd_19 {z : Zt} {b : Nat} (f : Nat → Int32) (g : Nat → Int64) : xd z b 19 f g = .inl (z.2.1.1, 33, .inl f) := rfl
theorem xd_20 {z : Zt} {b : Nat} (f : Nat → Int32) (g : Nat → Int64) : xd z b 20 f g = .inl (z.2.1.1, 16, .inl f) := rfl
theorem xd_21 {z : Zt} {b : Nat} (f : Nat → Int32) (g : Nat → Int64) : xd z b 21 f g = .inl (z.2.1.1, 64, .inl f) := rfl
theorem xd_22 {z : Zt} {b : Nat} (f : Nat → Int32) (g : Nat → Int64) : xd z b 22 f g = .inl (z.2.1.1, 64, .inl f) := rfl
theorem xd_23 {z : Zt} {b : Nat} (f : Nat → Int32) (g : Nat → Int64) : xd z b 23 f g = .inr (10, [.ref (b + 3), .ref (b + 11), .ref (b + 24)]) := rfl
theorem xd_24 {z : Zt} {b : Nat} (f : Nat → Int32) (g : Nat → Int64) : xd z b 24 f g = .inl (z.2.1.1, 24, .inl f) := rfl
theorem xd_25 {z : Zt} {b : Nat} (f : Nat → Int32) (g : Nat → Int64) : xd z b 25 f g = .inr (9, [.ref (b + 11), .ref (b + 26), .int (f 2), .int (f 3), .int (f 4), .int (f 5), .int (f 6), .int (f 7)]) := rfl
theorem xd_26 {z : Zt} {b : Nat} (f : Nat → Int32) (g : Nat → Int64) : xd z b 26 f g = .inl (z.2.1.1, 24, .inl f) := rfl
theorem xd_27 {z : Zt} {b : Nat} (f : Nat → Int32) (g : Nat → Int64) : xd z b 27 f g = .inr (6, [.ref (b + 3), .ref (b + 28), .ref (b + 29), .ref (b + 30), .ref (b + 31), .ref (b + 32), .ref (b + 33), .ref (b + 34), .int (f 8), .int (f 9), .int (f 10), .int (f 11), .int (f 12)]) := rfl
theorem xd_28 {z : Zt} {b : Nat} (f : Nat → Int32) (g : Nat → Int64) : xd z b 28 f g = .inl (z.2.1.1, 96, .inl f) := rfl
theorem xd_29 {z : Zt} {b : Nat} (f : Nat → Int32) (g : Nat → Int64) : xd z b 29 f g = .inl (z.2.1.1, 96, .inl f) := rfl
theorem xd_30 {z : Zt} {b : Nat} (f : Nat → Int32) (g : Nat → Int64) : xd z b 30 f g = .inl (z.2.1.1, 96, .inl f) := rfl
theorem xd_31 {z : Zt} {b : Nat} (f : Nat → Int32) (g : Nat → Int64) : xd z b 31 f g = .inl (z.2.1.1, 96, .inl f) := rfl
theorem xd_32 {z : Zt} {b : Nat} (f : Nat → Int32) (g : Nat → Int64) : xd z b 32 f g = .inl (z.2.1.2.2.2.2, 96, .inr (.inr (.inr (.inr (fun i => some (b + (35 + i))))))) := rfl
theorem xd_131 {z : Zt} {b : Nat} (f : Nat → Int32) (g : Nat → Int64) : xd z b 131 f g = .inr (1, [.ref (b + 3), .ref (b + 132), .ref (b + 133)]) := rfl
theorem xd_132 {z : Zt} {b : Nat} (f : Nat → Int32) (g : Nat → Int64) : xd z b 132 f g = .inl (z.2.1.2.2.2.2, 96, .inr (.inr (.inr (.inr (fun i => some (b + (134 + 2 * i))))))) := rfl
theorem xd_133 {z : Zt} {b : Nat} (f : Nat → Int32) (g : Nat → Int64) : xd z b 133 f g = .inl (z.2.1.2.2.2.2, 96, .inr (.inr (.inr (.inr (fun i => some (b + (135 + 2 * i))))))) := rfl
theorem xd_326 {z : Zt} {b : Nat} (f : Nat → Int32) (g : Nat → Int64) : xd z b 326 f g = .inr (5, [.ref (b + 3), .ref (b + 327), .ref (b + 328), .ref (b + 329), .int (f 4), .int (f 5), .long (g 6)]) := rfl
theorem xd_327 {z : Zt} {b : Nat} (f : Nat → Int32) (g : Nat → Int64) : xd z b 327 f g = .inl (z.2.1.2.1, 5120, .inr (.inl g)) := rfl
theorem xd_328 {z : Zt} {b : Nat} (f : Nat → Int32) (g : Nat → Int64) : xd z b 328 f g = .inl (z.2.1.1, 100, .inl f) := rfl
theorem xd_329 {z : Zt} {b : Nat} (f : Nat → Int32) (g : Nat → Int64) : xd z b 329 f g = .inl (z.2.1.1, 96, .inl f) := rfl
theorem yd_0 {z : Zt} {b : Nat} (f : Nat → Int32) (g : Nat → Int64) : yd z b 0 f g = .inr (12, [.ref (b + 1), .ref (b + 2), .ref (b + 3), .ref (b + 4), .ref (b + 5), .int (f 5), .int (f 6), .ref (b + 6), .ref (b + 7), .int (f 9), .ref (b + 8), .int (f 11), .int (f 12), .int (f 13), .int (f 14), .int (f 15), .int (f 16), .int (f 17), .int (f 18), .int (f 19), .int (f 20), .ref (b + 9), .ref (b + 10), .ref (b + 11), .ref (b + 12), .ref (b + 13), .ref (b + 14), .ref (b + 15), .ref (b + 16), .ref (b + 17), .ref (b + 18), .ref (b + 19), .ref (b + 20), .ref (b + 21), .ref (b + 22), .int (f 35), .int (f 36), .int (f 37), .int (f 38), .int (f 39), .ref (b + 23), .int (f 41), .int (f 42), .ref (b + 24), .ref (b + 25), .int (f 45), .int (f 46), .ref (b + 26), .ref (b + 27), .ref (b + 28), .ref (b + 29), .ref (b + 30), .ref (b + 31), .int (f 53)]) := rfl
theorem yd_1 {z : Zt} {b : Nat} (f : Nat → Int32) (g : Nat → Int64) : yd z b 1 f g = .inl (z.2.1.1, 162, .inl f) := rfl
theorem yd_2 {z : Zt} {b : Nat} (f : Nat → Int32) (g : Nat → Int64) : yd z b 2 f g = .inl (z.2.1.1, 162, .inl f) := rfl
theorem yd_3 {z : Zt} {b : Nat} (f : Nat → Int32) (g : Nat → Int64) : yd z b 3 f g = .inl (z.2.1.1, 162, .inl f) := rfl
theorem yd_4 {z : Zt} {b : Nat} (f : Nat → Int32) (g : Nat → Int64) : yd z b 4 f g = .inl (z.2.1.1, 96, .inl f) := rfl
theorem yd_5 {z : Zt} {b : Nat} (f : Nat → Int32) (g : Nat → Int64) : yd z b 5 f g = .inl (z.2.1.1, 10, .inl f) := rfl
theorem yd_6 {z : Zt} {b : Nat} (f : Nat → Int32) (g : Nat → Int64) : yd z b 6 f g = .inl (z.2.1.2.2.1, 9216, .inl f) := rfl
theorem yd_7 {z : Zt} {b : Nat} (f : Nat → Int32) (g : Nat → Int64) : yd z b 7 f g = .inl (z.2.1.1, 96, .inl f) := rfl
theorem yd_8 {z : Zt} {b : Nat} (f : Nat → Int32) (g : Nat → Int64) : yd z b 8 f g = .inl (z.2.1.2.2.1, 260, .inl f) := rfl
theorem yd_9 {z : Zt} {b : Nat} (f : Nat → Int32) (g : Nat → Int64) : yd z b 9 f g = .inl (z.2.1.1, 260, .inl f) := rfl
theorem yd_10 {z : Zt} {b : Nat} (f : Nat → Int32) (g : Nat → Int64) : yd z b 10 f g = .inl (z.2.1.1, 260, .inl f) := rfl
theorem yd_11 {z : Zt} {b : Nat} (f : Nat → Int32) (g : Nat → Int64) : yd z b 11 f g = .inl (z.2.1.1, 16, .inl f) := rfl
theorem yd_12 {z : Zt} {b : Nat} (f : Nat → Int32) (g : Nat → Int64) : yd z b 12 f g = .inl (z.2.1.1, 16, .inl f) := rfl
theorem yd_13 {z : Zt} {b : Nat} (f : Nat → Int32) (g : Nat → Int64) : yd z b 13 f g = .inl (z.2.1.1, 16, .inl f) := rfl
theorem yd_14 {z : Zt} {b : Nat} (f : Nat → Int32) (g : Nat → Int64) : yd z b 14 f g = .inl (z.2.1.1, 16, .inl f) := rfl
theorem yd_15 {z : Zt} {b : Nat} (f : Nat → Int32) (g : Nat → Int64) : yd z b 15 f g = .inl (z.2.1.1, 260, .inl f) := rfl
theorem yd_16 {z : Zt} {b : Nat} (f : Nat → Int32) (g : Nat → Int64) : yd z b 16 f g = .inl (z.2.1.1, 16, .inl f) := rfl
theorem yd_17 {z : Zt} {b : Nat} (f : Nat → Int32) (g : Nat → Int64) : yd z b 17 f g = .inl (z.2.1.1, 16, .inl f) := rfl
theorem yd_18 {z : Zt} {b : Nat} (f : Nat → Int32) (g : Nat → Int64) : yd z b 18 f g = .inl (z.2.1.1, 16, .inl f) := rfl
theorem yd_19 {z : Zt} {b : Nat} (f : Nat → Int32) (g : Nat → Int64) : yd z b 19 f g = .inl (z.2.1.1, 16, .inl f) := rfl
theorem yd_20 {z : Zt} {b : Nat} (f : Nat → Int32) (g : Nat → Int64) : yd z b 20 f g = .inl (z.2.1.1, 260, .inl f) := rfl
theorem yd_21 {z : Zt} {b : Nat} (f : Nat → Int32) (g : Nat → Int64) : yd z b 21 f g = .inl (z.2.1.1, 9, .inl f) := rfl
theorem yd_22 {z : Zt} {b : Nat} (f : Nat → Int32) (g : Nat → Int64) : yd z b 22 f g = .inl (z.2.1.1, 96, .inl f) := rfl
theorem yd_23 {z : Zt} {b : Nat} (f : Nat → Int32) (g : Nat → Int64) : yd z b 23 f g = .inl (z.2.1.1, 24, .inl f) := rfl
theorem yd_24 {z : Zt} {b : Nat} (f : Nat → Int32) (g : Nat → Int64) : yd z b 24 f g = .inl (z.2.1.1, 4608, .inl f) := rfl
theorem yd_25 {z : Zt} {b : Nat} (f : Nat → Int32) (g : Nat → Int64) : yd z b 25 f g = .inl (z.2.1.1, 9, .inl f) := rfl
theorem yd_26 {z : Zt} {b : Nat} (f : Nat → Int32) (g : Nat → Int64) : yd z b 26 f g = .inl (z.2.1.1, 96, .inl f) := rfl
theorem yd_27 {z : Zt} {b : Nat} (f : Nat → Int32) (g : Nat → Int64) : yd z b 27 f g = .inl (z.2.1.2.2.1, 9216, .inl f) := rfl
theorem yd_28 {z : Zt} {b : Nat} (f : Nat → Int32) (g : Nat → Int64) : yd z b 28 f g = .inl (z.2.1.2.2.2.1, 9216, .inl f) := rfl
theorem yd_29 {z : Zt} {b : Nat} (f : Nat → Int32) (g : Nat → Int64) : yd z b 29 f g = .inl (z.2.1.2.1, 96, .inr (.inl g)) := rfl
theorem yd_30 {z : Zt} {b : Nat} (f : Nat → Int32) (g : Nat → Int64) : yd z b 30 f g = .inl (z.2.1.2.1, 96, .inr (.inl g)) := rfl
theorem yd_31 {z : Zt} {b : Nat} (f : Nat → Int32) (g : Nat → Int64) : yd z b 31 f g = .inl (z.2.1.2.2.2.1, 96, .inl f) := rfl
theorem ps_lt {k : Nat} (h : isPS k = true) : k < 339 := by
  simp [isPS] at h
  omega
theorem ps_d {k : Nat} (h : isPS k = true) {z : Zt} {b : Nat} (f : Nat → Int32) (g : Nat → Int64) : xd z b k f g = .inr (4, [.long (g 0), .long (g 1)]) := by
  unfold xd
  rw [if_pos h]
theorem ps_10 : isPS 10 = true := rfl
theorem ps_33 : isPS 33 = true := rfl
theorem ps_34 : isPS 34 = true := rfl
theorem inb_lt {i : Int32} {n : Nat} (h : inb i n = true) : i.toNatClampNeg < n := Nat.not_le.mp fun q => inb_in h (Or.inr q)
theorem ps_near {i : Int32} (h : inb i 96 = true) : isPS (35 + i.toNatClampNeg) = true := by
  have := inb_lt h
  simp [isPS]
  omega
theorem ps_caught {i : Int32} (h : inb i 96 = true) : isPS (134 + 2 * i.toNatClampNeg) = true := by
  have := inb_lt h
  simp [isPS]
  omega
theorem ps_trapped {i : Int32} (h : inb i 96 = true) : isPS (135 + 2 * i.toNatClampNeg) = true := by
  have := inb_lt h
  simp [isPS]
  omega
theorem co_lt {k : Nat} (h : isCo k) : k < 339 := by
  rcases h with rfl | rfl | rfl <;> decide
theorem co_lt1 {k : Nat} (h : isCo k) : k + 1 < 339 := by
  rcases h with rfl | rfl | rfl <;> decide
theorem co_lt2 {k : Nat} (h : isCo k) : k + 2 < 339 := by
  rcases h with rfl | rfl | rfl <;> decide
theorem co_d {k : Nat} (h : isCo k) {z : Zt} {b : Nat} (f : Nat → Int32) (g : Nat → Int64) : xd z b k f g = .inr (0, [.ref (b + (k + 1)), .ref (b + (k + 2)), .int (f 2), .int (f 3), .int (f 4), .int (f 5), .int (f 6), .int (f 7)]) := by
  rcases h with rfl | rfl | rfl <;> rfl
theorem co_d1 {k : Nat} (h : isCo k) {z : Zt} {b : Nat} (f : Nat → Int32) (g : Nat → Int64) : xd z b (k + 1) f g = .inl (z.2.1.1, 96, .inl f) := by
  rcases h with rfl | rfl | rfl <;> rfl
theorem co_d2 {k : Nat} (h : isCo k) {z : Zt} {b : Nat} (f : Nat → Int32) (g : Nat → Int64) : xd z b (k + 2) f g = .inl (z.2.1.1, 60, .inl f) := by
  rcases h with rfl | rfl | rfl <;> rfl
theorem a9_lt {k : Nat} (h : isA96 k) : k < 339 := by
  rcases h with rfl | rfl | rfl | rfl <;> decide
theorem a9_d {k : Nat} (h : isA96 k) {z : Zt} {b : Nat} (f : Nat → Int32) (g : Nat → Int64) : xd z b k f g = .inl (z.2.1.1, 96, .inl f) := by
  rcases h with rfl | rfl | rfl | rfl <;> rfl
theorem cp_lt {k : Nat} (h : isCp k) : k < 32 := by
  rcases h with rfl | rfl | rfl <;> decide
theorem cp_d {k : Nat} (h : isCp k) {z : Zt} {b : Nat} (f : Nat → Int32) (g : Nat → Int64) : yd z b k f g = .inl (z.2.1.1, 162, .inl f) := by
  rcases h with rfl | rfl | rfl <;> rfl
theorem co_330 : isCo 330 := Or.inl rfl
theorem co_333 : isCo 333 := Or.inr (Or.inl rfl)
theorem co_336 : isCo 336 := Or.inr (Or.inr rfl)
theorem a9_7 : isA96 7 := Or.inl rfl
theorem a9_8 : isA96 8 := Or.inr (Or.inl rfl)
theorem a9_28 : isA96 28 := Or.inr (Or.inr (Or.inl rfl))
theorem a9_329 : isA96 329 := Or.inr (Or.inr (Or.inr rfl))
theorem cp_1 : isCp 1 := Or.inl rfl
theorem cp_2 : isCp 2 := Or.inr (Or.inl rfl)
theorem cp_3 : isCp 3 := Or.inr (Or.inr rfl)
theorem xl {k : Nat} (h : Nat.blt k 339 = true) : k < 339 := Nat.lt_of_lt_of_le (Nat.lt_of_lt_of_le (by exact Nat.le_of_ble_eq_true h) (Nat.le_refl _)) (Nat.le_refl _)
theorem xu_0_12 {z : Zt} {b : Nat} (f : Nat → Int32) (g : Nat → Int64) (v : Int32) : (Sum.inr (11, ([.ref (b + 1), .ref (b + 3), .ref (b + 11), .ref (b + 17), .ref (b + 23), .ref (b + 25), .ref (b + 27), .ref (b + 131), .ref (b + 326), .ref (b + 330), .ref (b + 333), .ref (b + 336), .int (f 12)] : List Value).set 12 (.int v)) : va_E) = xd z b 0 (upd f 12 v) g := rfl
theorem xu_1_1 {z : Zt} {b : Nat} (f : Nat → Int32) (g : Nat → Int64) (v : Int32) : (Sum.inr (7, ([.ref (b + 2), .int (f 1)] : List Value).set 1 (.int v)) : va_E) = xd z b 1 (upd f 1 v) g := rfl
theorem xu_3_7 {z : Zt} {b : Nat} (f : Nat → Int32) (g : Nat → Int64) (v : Int32) : (Sum.inr (8, ([.ref (b + 4), .ref (b + 5), .ref (b + 6), .ref (b + 7), .ref (b + 8), .ref (b + 9), .ref (b + 10), .int (f 7), .int (f 8), .int (f 9)] : List Value).set 7 (.int v)) : va_E) = xd z b 3 (upd f 7 v) g := rfl
theorem xu_3_8 {z : Zt} {b : Nat} (f : Nat → Int32) (g : Nat → Int64) (v : Int32) : (Sum.inr (8, ([.ref (b + 4), .ref (b + 5), .ref (b + 6), .ref (b + 7), .ref (b + 8), .ref (b + 9), .ref (b + 10), .int (f 7), .int (f 8), .int (f 9)] : List Value).set 8 (.int v)) : va_E) = xd z b 3 (upd f 8 v) g := rfl
theorem xu_3_9 {z : Zt} {b : Nat} (f : Nat → Int32) (g : Nat → Int64) (v : Int32) : (Sum.inr (8, ([.ref (b + 4), .ref (b + 5), .ref (b + 6), .ref (b + 7), .ref (b + 8), .ref (b + 9), .ref (b + 10), .int (f 7), .int (f 8), .int (f 9)] : List Value).set 9 (.int v)) : va_E) = xd z b 3 (upd f 9 v) g := rfl
theorem xu_11_3 {z : Zt} {b : Nat} (f : Nat → Int32) (g : Nat → Int64) (v : Int32) : (Sum.inr (2, ([.ref (b + 12), .ref (b + 13), .ref (b + 14), .int (f 3), .ref (b + 15), .ref (b + 16)] : List Value).set 3 (.int v)) : va_E) = xd z b 11 (upd f 3 v) g := rfl
theorem xu_17_5 {z : Zt} {b : Nat} (f : Nat → Int32) (g : Nat → Int64) (v : Int32) : (Sum.inr (3, ([.ref (b + 18), .ref (b + 19), .ref (b + 20), .ref (b + 21), .ref (b + 22), .int (f 5), .int (f 6), .int (f 7), .int (f 8), .int (f 9), .int (f 10), .int (f 11)] : List Value).set 5 (.int v)) : va_E) = xd z b 17 (upd f 5 v) g := rfl
theorem xu_17_6 {z : Zt} {b : Nat} (f : Nat → Int32) (g : Nat → Int64) (v : Int32) : (Sum.inr (3, ([.ref (b + 18), .ref (b + 19), .ref (b + 20), .ref (b + 21), .ref (b + 22), .int (f 5), .int (f 6), .int (f 7), .int (f 8), .int (f 9), .int (f 10), .int (f 11)] : List Value).set 6 (.int v)) : va_E) = xd z b 17 (upd f 6 v) g := rfl
theorem xu_17_7 {z : Zt} {b : Nat} (f : Nat → Int32) (g : Nat → Int64) (v : Int32) : (Sum.inr (3, ([.ref (b + 18), .ref (b + 19), .ref (b + 20), .ref (b + 21), .ref (b + 22), .int (f 5), .int (f 6), .int (f 7), .int (f 8), .int (f 9), .int (f 10), .int (f 11)] : List Value).set 7 (.int v)) : va_E) = xd z b 17 (upd f 7 v) g := rfl
theorem xu_17_8 {z : Zt} {b : Nat} (f : Nat → Int32) (g : Nat → Int64) (v : Int32) : (Sum.inr (3, ([.ref (b + 18), .ref (b + 19), .ref (b + 20), .ref (b + 21), .ref (b + 22), .int (f 5), .int (f 6), .int (f 7), .int (f 8), .int (f 9), .int (f 10), .int (f 11)] : List Value).set 8 (.int v)) : va_E) = xd z b 17 (upd f 8 v) g := rfl
theorem xu_17_9 {z : Zt} {b : Nat} (f : Nat → Int32) (g : Nat → Int64) (v : Int32) : (Sum.inr (3, ([.ref (b + 18), .ref (b + 19), .ref (b + 20), .ref (b + 21), .ref (b + 22), .int (f 5), .int (f 6), .int (f 7), .int (f 8), .int (f 9), .int (f 10), .int (f 11)] : List Value).set 9 (.int v)) : va_E) = xd z b 17 (upd f 9 v) g := rfl
theorem xu_17_10 {z : Zt} {b : Nat} (f : Nat → Int32) (g : Nat → Int64) (v : Int32) : (Sum.inr (3, ([.ref (b + 18), .ref (b + 19), .ref (b + 20), .ref (b + 21), .ref (b + 22), .int (f 5), .int (f 6), .int (f 7), .int (f 8), .int (f 9), .int (f 10), .int (f 11)] : List Value).set 10 (.int v)) : va_E) = xd z b 17 (upd f 10 v) g := rfl
theorem xu_17_11 {z : Zt} {b : Nat} (f : Nat → Int32) (g : Nat → Int64) (v : Int32) : (Sum.inr (3, ([.ref (b + 18), .ref (b + 19), .ref (b + 20), .ref (b + 21), .ref (b + 22), .int (f 5), .int (f 6), .int (f 7), .int (f 8), .int (f 9), .int (f 10), .int (f 11)] : List Value).set 11 (.int v)) : va_E) = xd z b 17 (upd f 11 v) g := rfl
theorem xu_25_2 {z : Zt} {b : Nat} (f : Nat → Int32) (g : Nat → Int64) (v : Int32) : (Sum.inr (9, ([.ref (b + 11), .ref (b + 26), .int (f 2), .int (f 3), .int (f 4), .int (f 5), .int (f 6), .int (f 7)] : List Value).set 2 (.int v)) : va_E) = xd z b 25 (upd f 2 v) g := rfl
theorem xu_25_3 {z : Zt} {b : Nat} (f : Nat → Int32) (g : Nat → Int64) (v : Int32) : (Sum.inr (9, ([.ref (b + 11), .ref (b + 26), .int (f 2), .int (f 3), .int (f 4), .int (f 5), .int (f 6), .int (f 7)] : List Value).set 3 (.int v)) : va_E) = xd z b 25 (upd f 3 v) g := rfl
theorem xu_25_4 {z : Zt} {b : Nat} (f : Nat → Int32) (g : Nat → Int64) (v : Int32) : (Sum.inr (9, ([.ref (b + 11), .ref (b + 26), .int (f 2), .int (f 3), .int (f 4), .int (f 5), .int (f 6), .int (f 7)] : List Value).set 4 (.int v)) : va_E) = xd z b 25 (upd f 4 v) g := rfl
theorem xu_25_5 {z : Zt} {b : Nat} (f : Nat → Int32) (g : Nat → Int64) (v : Int32) : (Sum.inr (9, ([.ref (b + 11), .ref (b + 26), .int (f 2), .int (f 3), .int (f 4), .int (f 5), .int (f 6), .int (f 7)] : List Value).set 5 (.int v)) : va_E) = xd z b 25 (upd f 5 v) g := rfl
theorem xu_25_6 {z : Zt} {b : Nat} (f : Nat → Int32) (g : Nat → Int64) (v : Int32) : (Sum.inr (9, ([.ref (b + 11), .ref (b + 26), .int (f 2), .int (f 3), .int (f 4), .int (f 5), .int (f 6), .int (f 7)] : List Value).set 6 (.int v)) : va_E) = xd z b 25 (upd f 6 v) g := rfl
theorem xu_25_7 {z : Zt} {b : Nat} (f : Nat → Int32) (g : Nat → Int64) (v : Int32) : (Sum.inr (9, ([.ref (b + 11), .ref (b + 26), .int (f 2), .int (f 3), .int (f 4), .int (f 5), .int (f 6), .int (f 7)] : List Value).set 7 (.int v)) : va_E) = xd z b 25 (upd f 7 v) g := rfl
theorem xu_27_8 {z : Zt} {b : Nat} (f : Nat → Int32) (g : Nat → Int64) (v : Int32) : (Sum.inr (6, ([.ref (b + 3), .ref (b + 28), .ref (b + 29), .ref (b + 30), .ref (b + 31), .ref (b + 32), .ref (b + 33), .ref (b + 34), .int (f 8), .int (f 9), .int (f 10), .int (f 11), .int (f 12)] : List Value).set 8 (.int v)) : va_E) = xd z b 27 (upd f 8 v) g := rfl
theorem xu_27_9 {z : Zt} {b : Nat} (f : Nat → Int32) (g : Nat → Int64) (v : Int32) : (Sum.inr (6, ([.ref (b + 3), .ref (b + 28), .ref (b + 29), .ref (b + 30), .ref (b + 31), .ref (b + 32), .ref (b + 33), .ref (b + 34), .int (f 8), .int (f 9), .int (f 10), .int (f 11), .int (f 12)] : List Value).set 9 (.int v)) : va_E) = xd z b 27 (upd f 9 v) g := rfl
theorem xu_27_10 {z : Zt} {b : Nat} (f : Nat → Int32) (g : Nat → Int64) (v : Int32) : (Sum.inr (6, ([.ref (b + 3), .ref (b + 28), .ref (b + 29), .ref (b + 30), .ref (b + 31), .ref (b + 32), .ref (b + 33), .ref (b + 34), .int (f 8), .int (f 9), .int (f 10), .int (f 11), .int (f 12)] : List Value).set 10 (.int v)) : va_E) = xd z b 27 (upd f 10 v) g := rfl
theorem xu_27_11 {z : Zt} {b : Nat} (f : Nat → Int32) (g : Nat → Int64) (v : Int32) : (Sum.inr (6, ([.ref (b + 3), .ref (b + 28), .ref (b + 29), .ref (b + 30), .ref (b + 31), .ref (b + 32), .ref (b + 33), .ref (b + 34), .int (f 8), .int (f 9), .int (f 10), .int (f 11), .int (f 12)] : List Value).set 11 (.int v)) : va_E) = xd z b 27 (upd f 11 v) g := rfl
theorem xu_27_12 {z : Zt} {b : Nat} (f : Nat → Int32) (g : Nat → Int64) (v : Int32) : (Sum.inr (6, ([.ref (b + 3), .ref (b + 28), .ref (b + 29), .ref (b + 30), .ref (b + 31), .ref (b + 32), .ref (b + 33), .ref (b + 34), .int (f 8), .int (f 9), .int (f 10), .int (f 11), .int (f 12)] : List Value).set 12 (.int v)) : va_E) = xd z b 27 (upd f 12 v) g := rfl
theorem xu_326_4 {z : Zt} {b : Nat} (f : Nat → Int32) (g : Nat → Int64) (v : Int32) : (Sum.inr (5, ([.ref (b + 3), .ref (b + 327), .ref (b + 328), .ref (b + 329), .int (f 4), .int (f 5), .long (g 6)] : List Value).set 4 (.int v)) : va_E) = xd z b 326 (upd f 4 v) g := rfl
theorem xu_326_5 {z : Zt} {b : Nat} (f : Nat → Int32) (g : Nat → Int64) (v : Int32) : (Sum.inr (5, ([.ref (b + 3), .ref (b + 327), .ref (b + 328), .ref (b + 329), .int (f 4), .int (f 5), .long (g 6)] : List Value).set 5 (.int v)) : va_E) = xd z b 326 (upd f 5 v) g := rfl
theorem xu_326_6 {z : Zt} {b : Nat} (f : Nat → Int32) (g : Nat → Int64) (v : Int64) : (Sum.inr (5, ([.ref (b + 3), .ref (b + 327), .ref (b + 328), .ref (b + 329), .int (f 4), .int (f 5), .long (g 6)] : List Value).set 6 (.long v)) : va_E) = xd z b 326 f (vp_updL g 6 v) := rfl
theorem yu_0_5 {z : Zt} {b : Nat} (f : Nat → Int32) (g : Nat → Int64) (v : Int32) : (Sum.inr (12, ([.ref (b + 1), .ref (b + 2), .ref (b + 3), .ref (b + 4), .ref (b + 5), .int (f 5), .int (f 6), .ref (b + 6), .ref (b + 7), .int (f 9), .ref (b + 8), .int (f 11), .int (f 12), .int (f 13), .int (f 14), .int (f 15), .int (f 16), .int (f 17), .int (f 18), .int (f 19), .int (f 20), .ref (b + 9), .ref (b + 10), .ref (b + 11), .ref (b + 12), .ref (b + 13), .ref (b + 14), .ref (b + 15), .ref (b + 16), .ref (b + 17), .ref (b + 18), .ref (b + 19), .ref (b + 20), .ref (b + 21), .ref (b + 22), .int (f 35), .int (f 36), .int (f 37), .int (f 38), .int (f 39), .ref (b + 23), .int (f 41), .int (f 42), .ref (b + 24), .ref (b + 25), .int (f 45), .int (f 46), .ref (b + 26), .ref (b + 27), .ref (b + 28), .ref (b + 29), .ref (b + 30), .ref (b + 31), .int (f 53)] : List Value).set 5 (.int v)) : va_E) = yd z b 0 (upd f 5 v) g := rfl
theorem yu_0_6 {z : Zt} {b : Nat} (f : Nat → Int32) (g : Nat → Int64) (v : Int32) : (Sum.inr (12, ([.ref (b + 1), .ref (b + 2), .ref (b + 3), .ref (b + 4), .ref (b + 5), .int (f 5), .int (f 6), .ref (b + 6), .ref (b + 7), .int (f 9), .ref (b + 8), .int (f 11), .int (f 12), .int (f 13), .int (f 14), .int (f 15), .int (f 16), .int (f 17), .int (f 18), .int (f 19), .int (f 20), .ref (b + 9), .ref (b + 10), .ref (b + 11), .ref (b + 12), .ref (b + 13), .ref (b + 14), .ref (b + 15), .ref (b + 16), .ref (b + 17), .ref (b + 18), .ref (b + 19), .ref (b + 20), .ref (b + 21), .ref (b + 22), .int (f 35), .int (f 36), .int (f 37), .int (f 38), .int (f 39), .ref (b + 23), .int (f 41), .int (f 42), .ref (b + 24), .ref (b + 25), .int (f 45), .int (f 46), .ref (b + 26), .ref (b + 27), .ref (b + 28), .ref (b + 29), .ref (b + 30), .ref (b + 31), .int (f 53)] : List Value).set 6 (.int v)) : va_E) = yd z b 0 (upd f 6 v) g := rfl
theorem yu_0_9 {z : Zt} {b : Nat} (f : Nat → Int32) (g : Nat → Int64) (v : Int32) : (Sum.inr (12, ([.ref (b + 1), .ref (b + 2), .ref (b + 3), .ref (b + 4), .ref (b + 5), .int (f 5), .int (f 6), .ref (b + 6), .ref (b + 7), .int (f 9), .ref (b + 8), .int (f 11), .int (f 12), .int (f 13), .int (f 14), .int (f 15), .int (f 16), .int (f 17), .int (f 18), .int (f 19), .int (f 20), .ref (b + 9), .ref (b + 10), .ref (b + 11), .ref (b + 12), .ref (b + 13), .ref (b + 14), .ref (b + 15), .ref (b + 16), .ref (b + 17), .ref (b + 18), .ref (b + 19), .ref (b + 20), .ref (b + 21), .ref (b + 22), .int (f 35), .int (f 36), .int (f 37), .int (f 38), .int (f 39), .ref (b + 23), .int (f 41), .int (f 42), .ref (b + 24), .ref (b + 25), .int (f 45), .int (f 46), .ref (b + 26), .ref (b + 27), .ref (b + 28), .ref (b + 29), .ref (b + 30), .ref (b + 31), .int (f 53)] : List Value).set 9 (.int v)) : va_E) = yd z b 0 (upd f 9 v) g := rfl
theorem yu_0_11 {z : Zt} {b : Nat} (f : Nat → Int32) (g : Nat → Int64) (v : Int32) : (Sum.inr (12, ([.ref (b + 1), .ref (b + 2), .ref (b + 3), .ref (b + 4), .ref (b + 5), .int (f 5), .int (f 6), .ref (b + 6), .ref (b + 7), .int (f 9), .ref (b + 8), .int (f 11), .int (f 12), .int (f 13), .int (f 14), .int (f 15), .int (f 16), .int (f 17), .int (f 18), .int (f 19), .int (f 20), .ref (b + 9), .ref (b + 10), .ref (b + 11), .ref (b + 12), .ref (b + 13), .ref (b + 14), .ref (b + 15), .ref (b + 16), .ref (b + 17), .ref (b + 18), .ref (b + 19), .ref (b + 20), .ref (b + 21), .ref (b + 22), .int (f 35), .int (f 36), .int (f 37), .int (f 38), .int (f 39), .ref (b + 23), .int (f 41), .int (f 42), .ref (b + 24), .ref (b + 25), .int (f 45), .int (f 46), .ref (b + 26), .ref (b + 27), .ref (b + 28), .ref (b + 29), .ref (b + 30), .ref (b + 31), .int (f 53)] : List Value).set 11 (.int v)) : va_E) = yd z b 0 (upd f 11 v) g := rfl
theorem yu_0_12 {z : Zt} {b : Nat} (f : Nat → Int32) (g : Nat → Int64) (v : Int32) : (Sum.inr (12, ([.ref (b + 1), .ref (b + 2), .ref (b + 3), .ref (b + 4), .ref (b + 5), .int (f 5), .int (f 6), .ref (b + 6), .ref (b + 7), .int (f 9), .ref (b + 8), .int (f 11), .int (f 12), .int (f 13), .int (f 14), .int (f 15), .int (f 16), .int (f 17), .int (f 18), .int (f 19), .int (f 20), .ref (b + 9), .ref (b + 10), .ref (b + 11), .ref (b + 12), .ref (b + 13), .ref (b + 14), .ref (b + 15), .ref (b + 16), .ref (b + 17), .ref (b + 18), .ref (b + 19), .ref (b + 20), .ref (b + 21), .ref (b + 22), .int (f 35), .int (f 36), .int (f 37), .int (f 38), .int (f 39), .ref (b + 23), .int (f 41), .int (f 42), .ref (b + 24), .ref (b + 25), .int (f 45), .int (f 46), .ref (b + 26), .ref (b + 27), .ref (b + 28), .ref (b + 29), .ref (b + 30), .ref (b + 31), .int (f 53)] : List Value).set 12 (.int v)) : va_E) = yd z b 0 (upd f 12 v) g := rfl
theorem yu_0_13 {z : Zt} {b : Nat} (f : Nat → Int32) (g : Nat → Int64) (v : Int32) : (Sum.inr (12, ([.ref (b + 1), .ref (b + 2), .ref (b + 3), .ref (b + 4), .ref (b + 5), .int (f 5), .int (f 6), .ref (b + 6), .ref (b + 7), .int (f 9), .ref (b + 8), .int (f 11), .int (f 12), .int (f 13), .int (f 14), .int (f 15), .int (f 16), .int (f 17), .int (f 18), .int (f 19), .int (f 20), .ref (b + 9), .ref (b + 10), .ref (b + 11), .ref (b + 12), .ref (b + 13), .ref (b + 14), .ref (b + 15), .ref (b + 16), .ref (b + 17), .ref (b + 18), .ref (b + 19), .ref (b + 20), .ref (b + 21), .ref (b + 22), .int (f 35), .int (f 36), .int (f 37), .int (f 38), .int (f 39), .ref (b + 23), .int (f 41), .int (f 42), .ref (b + 24), .ref (b + 25), .int (f 45), .int (f 46), .ref (b + 26), .ref (b + 27), .ref (b + 28), .ref (b + 29), .ref (b + 30), .ref (b + 31), .int (f 53)] : List Value).set 13 (.int v)) : va_E) = yd z b 0 (upd f 13 v) g := rfl
theorem yu_0_14 {z : Zt} {b : Nat} (f : Nat → Int32) (g : Nat → Int64) (v : Int32) : (Sum.inr (12, ([.ref (b + 1), .ref (b + 2), .ref (b + 3), .ref (b + 4), .ref (b + 5), .int (f 5), .int (f 6), .ref (b + 6), .ref (b + 7), .int (f 9), .ref (b + 8), .int (f 11), .int (f 12), .int (f 13), .int (f 14), .int (f 15), .int (f 16), .int (f 17), .int (f 18), .int (f 19), .int (f 20), .ref (b + 9), .ref (b + 10), .ref (b + 11), .ref (b + 12), .ref (b + 13), .ref (b + 14), .ref (b + 15), .ref (b + 16), .ref (b + 17), .ref (b + 18), .ref (b + 19), .ref (b + 20), .ref (b + 21), .ref (b + 22), .int (f 35), .int (f 36), .int (f 37), .int (f 38), .int (f 39), .ref (b + 23), .int (f 41), .int (f 42), .ref (b + 24), .ref (b + 25), .int (f 45), .int (f 46), .ref (b + 26), .ref (b + 27), .ref (b + 28), .ref (b + 29), .ref (b + 30), .ref (b + 31), .int (f 53)] : List Value).set 14 (.int v)) : va_E) = yd z b 0 (upd f 14 v) g := rfl
theorem yu_0_15 {z : Zt} {b : Nat} (f : Nat → Int32) (g : Nat → Int64) (v : Int32) : (Sum.inr (12, ([.ref (b + 1), .ref (b + 2), .ref (b + 3), .ref (b + 4), .ref (b + 5), .int (f 5), .int (f 6), .ref (b + 6), .ref (b + 7), .int (f 9), .ref (b + 8), .int (f 11), .int (f 12), .int (f 13), .int (f 14), .int (f 15), .int (f 16), .int (f 17), .int (f 18), .int (f 19), .int (f 20), .ref (b + 9), .ref (b + 10), .ref (b + 11), .ref (b + 12), .ref (b + 13), .ref (b + 14), .ref (b + 15), .ref (b + 16), .ref (b + 17), .ref (b + 18), .ref (b + 19), .ref (b + 20), .ref (b + 21), .ref (b + 22), .int (f 35), .int (f 36), .int (f 37), .int (f 38), .int (f 39), .ref (b + 23), .int (f 41), .int (f 42), .ref (b + 24), .ref (b + 25), .int (f 45), .int (f 46), .ref (b + 26), .ref (b + 27), .ref (b + 28), .ref (b + 29), .ref (b + 30), .ref (b + 31), .int (f 53)] : List Value).set 15 (.int v)) : va_E) = yd z b 0 (upd f 15 v) g := rfl
theorem yu_0_16 {z : Zt} {b : Nat} (f : Nat → Int32) (g : Nat → Int64) (v : Int32) : (Sum.inr (12, ([.ref (b + 1), .ref (b + 2), .ref (b + 3), .ref (b + 4), .ref (b + 5), .int (f 5), .int (f 6), .ref (b + 6), .ref (b + 7), .int (f 9), .ref (b + 8), .int (f 11), .int (f 12), .int (f 13), .int (f 14), .int (f 15), .int (f 16), .int (f 17), .int (f 18), .int (f 19), .int (f 20), .ref (b + 9), .ref (b + 10), .ref (b + 11), .ref (b + 12), .ref (b + 13), .ref (b + 14), .ref (b + 15), .ref (b + 16), .ref (b + 17), .ref (b + 18), .ref (b + 19), .ref (b + 20), .ref (b + 21), .ref (b + 22), .int (f 35), .int (f 36), .int (f 37), .int (f 38), .int (f 39), .ref (b + 23), .int (f 41), .int (f 42), .ref (b + 24), .ref (b + 25), .int (f 45), .int (f 46), .ref (b + 26), .ref (b + 27), .ref (b + 28), .ref (b + 29), .ref (b + 30), .ref (b + 31), .int (f 53)] : List Value).set 16 (.int v)) : va_E) = yd z b 0 (upd f 16 v) g := rfl
theorem yu_0_17 {z : Zt} {b : Nat} (f : Nat → Int32) (g : Nat → Int64) (v : Int32) : (Sum.inr (12, ([.ref (b + 1), .ref (b + 2), .ref (b + 3), .ref (b + 4), .ref (b + 5), .int (f 5), .int (f 6), .ref (b + 6), .ref (b + 7), .int (f 9), .ref (b + 8), .int (f 11), .int (f 12), .int (f 13), .int (f 14), .int (f 15), .int (f 16), .int (f 17), .int (f 18), .int (f 19), .int (f 20), .ref (b + 9), .ref (b + 10), .ref (b + 11), .ref (b + 12), .ref (b + 13), .ref (b + 14), .ref (b + 15), .ref (b + 16), .ref (b + 17), .ref (b + 18), .ref (b + 19), .ref (b + 20), .ref (b + 21), .ref (b + 22), .int (f 35), .int (f 36), .int (f 37), .int (f 38), .int (f 39), .ref (b + 23), .int (f 41), .int (f 42), .ref (b + 24), .ref (b + 25), .int (f 45), .int (f 46), .ref (b + 26), .ref (b + 27), .ref (b + 28), .ref (b + 29), .ref (b + 30), .ref (b + 31), .int (f 53)] : List Value).set 17 (.int v)) : va_E) = yd z b 0 (upd f 17 v) g := rfl
theorem yu_0_18 {z : Zt} {b : Nat} (f : Nat → Int32) (g : Nat → Int64) (v : Int32) : (Sum.inr (12, ([.ref (b + 1), .ref (b + 2), .ref (b + 3), .ref (b + 4), .ref (b + 5), .int (f 5), .int (f 6), .ref (b + 6), .ref (b + 7), .int (f 9), .ref (b + 8), .int (f 11), .int (f 12), .int (f 13), .int (f 14), .int (f 15), .int (f 16), .int (f 17), .int (f 18), .int (f 19), .int (f 20), .ref (b + 9), .ref (b + 10), .ref (b + 11), .ref (b + 12), .ref (b + 13), .ref (b + 14), .ref (b + 15), .ref (b + 16), .ref (b + 17), .ref (b + 18), .ref (b + 19), .ref (b + 20), .ref (b + 21), .ref (b + 22), .int (f 35), .int (f 36), .int (f 37), .int (f 38), .int (f 39), .ref (b + 23), .int (f 41), .int (f 42), .ref (b + 24), .ref (b + 25), .int (f 45), .int (f 46), .ref (b + 26), .ref (b + 27), .ref (b + 28), .ref (b + 29), .ref (b + 30), .ref (b + 31), .int (f 53)] : List Value).set 18 (.int v)) : va_E) = yd z b 0 (upd f 18 v) g := rfl
theorem yu_0_19 {z : Zt} {b : Nat} (f : Nat → Int32) (g : Nat → Int64) (v : Int32) : (Sum.inr (12, ([.ref (b + 1), .ref (b + 2), .ref (b + 3), .ref (b + 4), .ref (b + 5), .int (f 5), .int (f 6), .ref (b + 6), .ref (b + 7), .int (f 9), .ref (b + 8), .int (f 11), .int (f 12), .int (f 13), .int (f 14), .int (f 15), .int (f 16), .int (f 17), .int (f 18), .int (f 19), .int (f 20), .ref (b + 9), .ref (b + 10), .ref (b + 11), .ref (b + 12), .ref (b + 13), .ref (b + 14), .ref (b + 15), .ref (b + 16), .ref (b + 17), .ref (b + 18), .ref (b + 19), .ref (b + 20), .ref (b + 21), .ref (b + 22), .int (f 35), .int (f 36), .int (f 37), .int (f 38), .int (f 39), .ref (b + 23), .int (f 41), .int (f 42), .ref (b + 24), .ref (b + 25), .int (f 45), .int (f 46), .ref (b + 26), .ref (b + 27), .ref (b + 28), .ref (b + 29), .ref (b + 30), .ref (b + 31), .int (f 53)] : List Value).set 19 (.int v)) : va_E) = yd z b 0 (upd f 19 v) g := rfl
theorem yu_0_20 {z : Zt} {b : Nat} (f : Nat → Int32) (g : Nat → Int64) (v : Int32) : (Sum.inr (12, ([.ref (b + 1), .ref (b + 2), .ref (b + 3), .ref (b + 4), .ref (b + 5), .int (f 5), .int (f 6), .ref (b + 6), .ref (b + 7), .int (f 9), .ref (b + 8), .int (f 11), .int (f 12), .int (f 13), .int (f 14), .int (f 15), .int (f 16), .int (f 17), .int (f 18), .int (f 19), .int (f 20), .ref (b + 9), .ref (b + 10), .ref (b + 11), .ref (b + 12), .ref (b + 13), .ref (b + 14), .ref (b + 15), .ref (b + 16), .ref (b + 17), .ref (b + 18), .ref (b + 19), .ref (b + 20), .ref (b + 21), .ref (b + 22), .int (f 35), .int (f 36), .int (f 37), .int (f 38), .int (f 39), .ref (b + 23), .int (f 41), .int (f 42), .ref (b + 24), .ref (b + 25), .int (f 45), .int (f 46), .ref (b + 26), .ref (b + 27), .ref (b + 28), .ref (b + 29), .ref (b + 30), .ref (b + 31), .int (f 53)] : List Value).set 20 (.int v)) : va_E) = yd z b 0 (upd f 20 v) g := rfl
theorem yu_0_35 {z : Zt} {b : Nat} (f : Nat → Int32) (g : Nat → Int64) (v : Int32) : (Sum.inr (12, ([.ref (b + 1), .ref (b + 2), .ref (b + 3), .ref (b + 4), .ref (b + 5), .int (f 5), .int (f 6), .ref (b + 6), .ref (b + 7), .int (f 9), .ref (b + 8), .int (f 11), .int (f 12), .int (f 13), .int (f 14), .int (f 15), .int (f 16), .int (f 17), .int (f 18), .int (f 19), .int (f 20), .ref (b + 9), .ref (b + 10), .ref (b + 11), .ref (b + 12), .ref (b + 13), .ref (b + 14), .ref (b + 15), .ref (b + 16), .ref (b + 17), .ref (b + 18), .ref (b + 19), .ref (b + 20), .ref (b + 21), .ref (b + 22), .int (f 35), .int (f 36), .int (f 37), .int (f 38), .int (f 39), .ref (b + 23), .int (f 41), .int (f 42), .ref (b + 24), .ref (b + 25), .int (f 45), .int (f 46), .ref (b + 26), .ref (b + 27), .ref (b + 28), .ref (b + 29), .ref (b + 30), .ref (b + 31), .int (f 53)] : List Value).set 35 (.int v)) : va_E) = yd z b 0 (upd f 35 v) g := rfl
theorem yu_0_36 {z : Zt} {b : Nat} (f : Nat → Int32) (g : Nat → Int64) (v : Int32) : (Sum.inr (12, ([.ref (b + 1), .ref (b + 2), .ref (b + 3), .ref (b + 4), .ref (b + 5), .int (f 5), .int (f 6), .ref (b + 6), .ref (b + 7), .int (f 9), .ref (b + 8), .int (f 11), .int (f 12), .int (f 13), .int (f 14), .int (f 15), .int (f 16), .int (f 17), .int (f 18), .int (f 19), .int (f 20), .ref (b + 9), .ref (b + 10), .ref (b + 11), .ref (b + 12), .ref (b + 13), .ref (b + 14), .ref (b + 15), .ref (b + 16), .ref (b + 17), .ref (b + 18), .ref (b + 19), .ref (b + 20), .ref (b + 21), .ref (b + 22), .int (f 35), .int (f 36), .int (f 37), .int (f 38), .int (f 39), .ref (b + 23), .int (f 41), .int (f 42), .ref (b + 24), .ref (b + 25), .int (f 45), .int (f 46), .ref (b + 26), .ref (b + 27), .ref (b + 28), .ref (b + 29), .ref (b + 30), .ref (b + 31), .int (f 53)] : List Value).set 36 (.int v)) : va_E) = yd z b 0 (upd f 36 v) g := rfl
theorem yu_0_37 {z : Zt} {b : Nat} (f : Nat → Int32) (g : Nat → Int64) (v : Int32) : (Sum.inr (12, ([.ref (b + 1), .ref (b + 2), .ref (b + 3), .ref (b + 4), .ref (b + 5), .int (f 5), .int (f 6), .ref (b + 6), .ref (b + 7), .int (f 9), .ref (b + 8), .int (f 11), .int (f 12), .int (f 13), .int (f 14), .int (f 15), .int (f 16), .int (f 17), .int (f 18), .int (f 19), .int (f 20), .ref (b + 9), .ref (b + 10), .ref (b + 11), .ref (b + 12), .ref (b + 13), .ref (b + 14), .ref (b + 15), .ref (b + 16), .ref (b + 17), .ref (b + 18), .ref (b + 19), .ref (b + 20), .ref (b + 21), .ref (b + 22), .int (f 35), .int (f 36), .int (f 37), .int (f 38), .int (f 39), .ref (b + 23), .int (f 41), .int (f 42), .ref (b + 24), .ref (b + 25), .int (f 45), .int (f 46), .ref (b + 26), .ref (b + 27), .ref (b + 28), .ref (b + 29), .ref (b + 30), .ref (b + 31), .int (f 53)] : List Value).set 37 (.int v)) : va_E) = yd z b 0 (upd f 37 v) g := rfl
theorem yu_0_38 {z : Zt} {b : Nat} (f : Nat → Int32) (g : Nat → Int64) (v : Int32) : (Sum.inr (12, ([.ref (b + 1), .ref (b + 2), .ref (b + 3), .ref (b + 4), .ref (b + 5), .int (f 5), .int (f 6), .ref (b + 6), .ref (b + 7), .int (f 9), .ref (b + 8), .int (f 11), .int (f 12), .int (f 13), .int (f 14), .int (f 15), .int (f 16), .int (f 17), .int (f 18), .int (f 19), .int (f 20), .ref (b + 9), .ref (b + 10), .ref (b + 11), .ref (b + 12), .ref (b + 13), .ref (b + 14), .ref (b + 15), .ref (b + 16), .ref (b + 17), .ref (b + 18), .ref (b + 19), .ref (b + 20), .ref (b + 21), .ref (b + 22), .int (f 35), .int (f 36), .int (f 37), .int (f 38), .int (f 39), .ref (b + 23), .int (f 41), .int (f 42), .ref (b + 24), .ref (b + 25), .int (f 45), .int (f 46), .ref (b + 26), .ref (b + 27), .ref (b + 28), .ref (b + 29), .ref (b + 30), .ref (b + 31), .int (f 53)] : List Value).set 38 (.int v)) : va_E) = yd z b 0 (upd f 38 v) g := rfl
theorem yu_0_39 {z : Zt} {b : Nat} (f : Nat → Int32) (g : Nat → Int64) (v : Int32) : (Sum.inr (12, ([.ref (b + 1), .ref (b + 2), .ref (b + 3), .ref (b + 4), .ref (b + 5), .int (f 5), .int (f 6), .ref (b + 6), .ref (b + 7), .int (f 9), .ref (b + 8), .int (f 11), .int (f 12), .int (f 13), .int (f 14), .int (f 15), .int (f 16), .int (f 17), .int (f 18), .int (f 19), .int (f 20), .ref (b + 9), .ref (b + 10), .ref (b + 11), .ref (b + 12), .ref (b + 13), .ref (b + 14), .ref (b + 15), .ref (b + 16), .ref (b + 17), .ref (b + 18), .ref (b + 19), .ref (b + 20), .ref (b + 21), .ref (b + 22), .int (f 35), .int (f 36), .int (f 37), .int (f 38), .int (f 39), .ref (b + 23), .int (f 41), .int (f 42), .ref (b + 24), .ref (b + 25), .int (f 45), .int (f 46), .ref (b + 26), .ref (b + 27), .ref (b + 28), .ref (b + 29), .ref (b + 30), .ref (b + 31), .int (f 53)] : List Value).set 39 (.int v)) : va_E) = yd z b 0 (upd f 39 v) g := rfl
theorem yu_0_41 {z : Zt} {b : Nat} (f : Nat → Int32) (g : Nat → Int64) (v : Int32) : (Sum.inr (12, ([.ref (b + 1), .ref (b + 2), .ref (b + 3), .ref (b + 4), .ref (b + 5), .int (f 5), .int (f 6), .ref (b + 6), .ref (b + 7), .int (f 9), .ref (b + 8), .int (f 11), .int (f 12), .int (f 13), .int (f 14), .int (f 15), .int (f 16), .int (f 17), .int (f 18), .int (f 19), .int (f 20), .ref (b + 9), .ref (b + 10), .ref (b + 11), .ref (b + 12), .ref (b + 13), .ref (b + 14), .ref (b + 15), .ref (b + 16), .ref (b + 17), .ref (b + 18), .ref (b + 19), .ref (b + 20), .ref (b + 21), .ref (b + 22), .int (f 35), .int (f 36), .int (f 37), .int (f 38), .int (f 39), .ref (b + 23), .int (f 41), .int (f 42), .ref (b + 24), .ref (b + 25), .int (f 45), .int (f 46), .ref (b + 26), .ref (b + 27), .ref (b + 28), .ref (b + 29), .ref (b + 30), .ref (b + 31), .int (f 53)] : List Value).set 41 (.int v)) : va_E) = yd z b 0 (upd f 41 v) g := rfl
theorem yu_0_42 {z : Zt} {b : Nat} (f : Nat → Int32) (g : Nat → Int64) (v : Int32) : (Sum.inr (12, ([.ref (b + 1), .ref (b + 2), .ref (b + 3), .ref (b + 4), .ref (b + 5), .int (f 5), .int (f 6), .ref (b + 6), .ref (b + 7), .int (f 9), .ref (b + 8), .int (f 11), .int (f 12), .int (f 13), .int (f 14), .int (f 15), .int (f 16), .int (f 17), .int (f 18), .int (f 19), .int (f 20), .ref (b + 9), .ref (b + 10), .ref (b + 11), .ref (b + 12), .ref (b + 13), .ref (b + 14), .ref (b + 15), .ref (b + 16), .ref (b + 17), .ref (b + 18), .ref (b + 19), .ref (b + 20), .ref (b + 21), .ref (b + 22), .int (f 35), .int (f 36), .int (f 37), .int (f 38), .int (f 39), .ref (b + 23), .int (f 41), .int (f 42), .ref (b + 24), .ref (b + 25), .int (f 45), .int (f 46), .ref (b + 26), .ref (b + 27), .ref (b + 28), .ref (b + 29), .ref (b + 30), .ref (b + 31), .int (f 53)] : List Value).set 42 (.int v)) : va_E) = yd z b 0 (upd f 42 v) g := rfl
theorem yu_0_45 {z : Zt} {b : Nat} (f : Nat → Int32) (g : Nat → Int64) (v : Int32) : (Sum.inr (12, ([.ref (b + 1), .ref (b + 2), .ref (b + 3), .ref (b + 4), .ref (b + 5), .int (f 5), .int (f 6), .ref (b + 6), .ref (b + 7), .int (f 9), .ref (b + 8), .int (f 11), .int (f 12), .int (f 13), .int (f 14), .int (f 15), .int (f 16), .int (f 17), .int (f 18), .int (f 19), .int (f 20), .ref (b + 9), .ref (b + 10), .ref (b + 11), .ref (b + 12), .ref (b + 13), .ref (b + 14), .ref (b + 15), .ref (b + 16), .ref (b + 17), .ref (b + 18), .ref (b + 19), .ref (b + 20), .ref (b + 21), .ref (b + 22), .int (f 35), .int (f 36), .int (f 37), .int (f 38), .int (f 39), .ref (b + 23), .int (f 41), .int (f 42), .ref (b + 24), .ref (b + 25), .int (f 45), .int (f 46), .ref (b + 26), .ref (b + 27), .ref (b + 28), .ref (b + 29), .ref (b + 30), .ref (b + 31), .int (f 53)] : List Value).set 45 (.int v)) : va_E) = yd z b 0 (upd f 45 v) g := rfl
theorem yu_0_46 {z : Zt} {b : Nat} (f : Nat → Int32) (g : Nat → Int64) (v : Int32) : (Sum.inr (12, ([.ref (b + 1), .ref (b + 2), .ref (b + 3), .ref (b + 4), .ref (b + 5), .int (f 5), .int (f 6), .ref (b + 6), .ref (b + 7), .int (f 9), .ref (b + 8), .int (f 11), .int (f 12), .int (f 13), .int (f 14), .int (f 15), .int (f 16), .int (f 17), .int (f 18), .int (f 19), .int (f 20), .ref (b + 9), .ref (b + 10), .ref (b + 11), .ref (b + 12), .ref (b + 13), .ref (b + 14), .ref (b + 15), .ref (b + 16), .ref (b + 17), .ref (b + 18), .ref (b + 19), .ref (b + 20), .ref (b + 21), .ref (b + 22), .int (f 35), .int (f 36), .int (f 37), .int (f 38), .int (f 39), .ref (b + 23), .int (f 41), .int (f 42), .ref (b + 24), .ref (b + 25), .int (f 45), .int (f 46), .ref (b + 26), .ref (b + 27), .ref (b + 28), .ref (b + 29), .ref (b + 30), .ref (b + 31), .int (f 53)] : List Value).set 46 (.int v)) : va_E) = yd z b 0 (upd f 46 v) g := rfl
theorem yu_0_53 {z : Zt} {b : Nat} (f : Nat → Int32) (g : Nat → Int64) (v : Int32) : (Sum.inr (12, ([.ref (b + 1), .ref (b + 2), .ref (b + 3), .ref (b + 4), .ref (b + 5), .int (f 5), .int (f 6), .ref (b + 6), .ref (b + 7), .int (f 9), .ref (b + 8), .int (f 11), .int (f 12), .int (f 13), .int (f 14), .int (f 15), .int (f 16), .int (f 17), .int (f 18), .int (f 19), .int (f 20), .ref (b + 9), .ref (b + 10), .ref (b + 11), .ref (b + 12), .ref (b + 13), .ref (b + 14), .ref (b + 15), .ref (b + 16), .ref (b + 17), .ref (b + 18), .ref (b + 19), .ref (b + 20), .ref (b + 21), .ref (b + 22), .int (f 35), .int (f 36), .int (f 37), .int (f 38), .int (f 39), .ref (b + 23), .int (f 41), .int (f 42), .ref (b + 24), .ref (b + 25), .int (f 45), .int (f 46), .ref (b + 26), .ref (b + 27), .ref (b + 28), .ref (b + 29), .ref (b + 30), .ref (b + 31), .int (f 53)] : List Value).set 53 (.int v)) : va_E) = yd z b 0 (upd f 53 v) g := rfl
theorem xu_co_2 {k : Nat} (h : isCo k) {z : Zt} {b : Nat} (f : Nat → Int32) (g : Nat → Int64) (v : Int32) : (Sum.inr (0, ([.ref (b + (k + 1)), .ref (b + (k + 2)), .int (f 2), .int (f 3), .int (f 4), .int (f 5), .int (f 6), .int (f 7)] : List Value).set 2 (.int v)) : va_E) = xd z b k (upd f 2 v) g := by
  rw [co_d h]
  rfl
theorem xu_co_3 {k : Nat} (h : isCo k) {z : Zt} {b : Nat} (f : Nat → Int32) (g : Nat → Int64) (v : Int32) : (Sum.inr (0, ([.ref (b + (k + 1)), .ref (b + (k + 2)), .int (f 2), .int (f 3), .int (f 4), .int (f 5), .int (f 6), .int (f 7)] : List Value).set 3 (.int v)) : va_E) = xd z b k (upd f 3 v) g := by
  rw [co_d h]
  rfl
theorem xu_co_4 {k : Nat} (h : isCo k) {z : Zt} {b : Nat} (f : Nat → Int32) (g : Nat → Int64) (v : Int32) : (Sum.inr (0, ([.ref (b + (k + 1)), .ref (b + (k + 2)), .int (f 2), .int (f 3), .int (f 4), .int (f 5), .int (f 6), .int (f 7)] : List Value).set 4 (.int v)) : va_E) = xd z b k (upd f 4 v) g := by
  rw [co_d h]
  rfl
theorem xu_co_5 {k : Nat} (h : isCo k) {z : Zt} {b : Nat} (f : Nat → Int32) (g : Nat → Int64) (v : Int32) : (Sum.inr (0, ([.ref (b + (k + 1)), .ref (b + (k + 2)), .int (f 2), .int (f 3), .int (f 4), .int (f 5), .int (f 6), .int (f 7)] : List Value).set 5 (.int v)) : va_E) = xd z b k (upd f 5 v) g := by
  rw [co_d h]
  rfl
theorem xu_co_6 {k : Nat} (h : isCo k) {z : Zt} {b : Nat} (f : Nat → Int32) (g : Nat → Int64) (v : Int32) : (Sum.inr (0, ([.ref (b + (k + 1)), .ref (b + (k + 2)), .int (f 2), .int (f 3), .int (f 4), .int (f 5), .int (f 6), .int (f 7)] : List Value).set 6 (.int v)) : va_E) = xd z b k (upd f 6 v) g := by
  rw [co_d h]
  rfl
theorem xu_co_7 {k : Nat} (h : isCo k) {z : Zt} {b : Nat} (f : Nat → Int32) (g : Nat → Int64) (v : Int32) : (Sum.inr (0, ([.ref (b + (k + 1)), .ref (b + (k + 2)), .int (f 2), .int (f 3), .int (f 4), .int (f 5), .int (f 6), .int (f 7)] : List Value).set 7 (.int v)) : va_E) = xd z b k (upd f 7 v) g := by
  rw [co_d h]
  rfl
theorem xu_ps_0 {k : Nat} (h : isPS k = true) {z : Zt} {b : Nat} (f : Nat → Int32) (g : Nat → Int64) (v : Int64) : (Sum.inr (4, ([.long (g 0), .long (g 1)] : List Value).set 0 (.long v)) : va_E) = xd z b k f (vp_updL g 0 v) := by
  rw [ps_d h]
  rfl
theorem xu_ps_1 {k : Nat} (h : isPS k = true) {z : Zt} {b : Nat} (f : Nat → Int32) (g : Nat → Int64) (v : Int64) : (Sum.inr (4, ([.long (g 0), .long (g 1)] : List Value).set 1 (.long v)) : va_E) = xd z b k f (vp_updL g 1 v) := by
  rw [ps_d h]
  rfl
theorem iw_0 : ∀ w ∈ u_ws RX0 TX0 8, w ∈ lw_good := gins [376, 378, 380, 382, 384, 386, 388, 390] (by decide +kernel) (by decide +kernel)
theorem iw_1 : ∀ w ∈ u_ws RX1 TX1 3, w ∈ lw_good := gins [310, 312, 314] (by decide +kernel) (by decide +kernel)
theorem iw_2 : ∀ w ∈ u_ws RX2 TX2 6, w ∈ lw_good := gins [132, 134, 136, 138, 140, 142] (by decide +kernel) (by decide +kernel)
theorem iw_3 : ∀ w ∈ u_ws RX3 TX3 12, w ∈ lw_good := gins [167, 169, 171, 173, 175, 177, 179, 181, 183, 185, 187, 189] (by decide +kernel) (by decide +kernel)
theorem iw_4 : ∀ w ∈ u_ws RX4 TX4 2, w ∈ lw_good := gins [62, 64] (by decide +kernel) (by decide +kernel)
theorem iw_5 : ∀ w ∈ u_ws RX5 TX5 7, w ∈ lw_good := gins [331, 333, 335, 337, 339, 341, 343] (by decide +kernel) (by decide +kernel)
theorem iw_6 : ∀ w ∈ u_ws RX6 TX6 13, w ∈ lw_good := gins [272, 274, 276, 278, 280, 282, 284, 286, 288, 290, 292, 294, 296] (by decide +kernel) (by decide +kernel)
theorem iw_7 : ∀ w ∈ u_ws RX7 TX7 2, w ∈ lw_good := gins [42, 44] (by decide +kernel) (by decide +kernel)
theorem iw_8 : ∀ w ∈ u_ws RX8 TX8 10, w ∈ lw_good := gins [98, 100, 102, 104, 106, 108, 110, 112, 114, 116] (by decide +kernel) (by decide +kernel)
theorem iw_9 : ∀ w ∈ u_ws RX9 TX9 8, w ∈ lw_good := gins [227, 229, 231, 233, 235, 237, 239, 241] (by decide +kernel) (by decide +kernel)
theorem iw_10 : ∀ w ∈ u_ws RX10 TX10 3, w ∈ lw_good := gins [201, 203, 205] (by decide +kernel) (by decide +kernel)
theorem iw_11 : ∀ w ∈ u_ws RX11 TX11 13, w ∈ lw_good := gins [433, 435, 437, 439, 441, 443, 445, 447, 449, 451, 453, 455, 457] (by decide +kernel) (by decide +kernel)
theorem iw_12 : ∀ w ∈ u_ws RX12 TX12 54, w ∈ lw_good := gins [1189, 1191, 1193, 1195, 1197, 1199, 1201, 1203, 1205, 1207, 1209, 1211, 1213, 1215, 1217, 1219, 1221, 1223, 1225, 1227, 1229, 1231, 1233, 1235, 1237, 1239, 1241, 1243, 1245, 1247, 1249, 1251, 1253, 1255, 1257, 1259, 1261, 1263, 1265, 1267, 1269, 1271, 1273, 1275, 1277, 1279, 1281, 1283, 1285, 1287, 1289, 1291, 1293, 1295] (by decide +kernel) (by decide +kernel)
