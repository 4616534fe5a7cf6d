theorem e1_0 (a00 a01 a10 a11 y0 y1 : Int) : (a00 * a11 - a10 * a01) * y0 - a01 * (a00 * y1 - a10 * y0) = a00 * (y0 * a11 - a01 * y1) := by grind
theorem e1_2 (a00 a01 a10 a11 a20 a21 y0 y1 y2 : Int) : (a00 * a11 - a10 * a01) * (a00 * y2 - a20 * y0) - (a00 * a21 - a20 * a01) * (a00 * y1 - a10 * y0) = a00 * (a00 * (a11 * y2 - y1 * a21) - a01 * (a10 * y2 - y1 * a20) + y0 * (a10 * a21 - a11 * a20)) := by grind
theorem e1_3 (a00 a01 a10 a11 a30 a31 y0 y1 y3 : Int) : (a00 * a11 - a10 * a01) * (a00 * y3 - a30 * y0) - (a00 * a31 - a30 * a01) * (a00 * y1 - a10 * y0) = a00 * (a00 * (a11 * y3 - y1 * a31) - a01 * (a10 * y3 - y1 * a30) + y0 * (a10 * a31 - a11 * a30)) := by grind
theorem e2_0 (a00 a01 a02 a10 a11 a12 a20 a21 a22 y0 y1 y2 : Int) : (a00 * (a11 * a22 - a12 * a21) - a01 * (a10 * a22 - a12 * a20) + a02 * (a10 * a21 - a11 * a20)) * (y0 * a11 - a01 * y1) - (a02 * a11 - a01 * a12) * (a00 * (a11 * y2 - y1 * a21) - a01 * (a10 * y2 - y1 * a20) + y0 * (a10 * a21 - a11 * a20)) = (a00 * a11 - a10 * a01) * (y0 * (a11 * a22 - a12 * a21) - a01 * (y1 * a22 - a12 * y2) + a02 * (y1 * a21 - a11 * y2)) := by grind
theorem e2_1 (a00 a01 a02 a10 a11 a12 a20 a21 a22 y0 y1 y2 : Int) : (a00 * (a11 * a22 - a12 * a21) - a01 * (a10 * a22 - a12 * a20) + a02 * (a10 * a21 - a11 * a20)) * (a00 * y1 - a10 * y0) - (a00 * a12 - a10 * a02) * (a00 * (a11 * y2 - y1 * a21) - a01 * (a10 * y2 - y1 * a20) + y0 * (a10 * a21 - a11 * a20)) = (a00 * a11 - a10 * a01) * (a00 * (y1 * a22 - a12 * y2) - y0 * (a10 * a22 - a12 * a20) + a02 * (a10 * y2 - y1 * a20)) := by grind
theorem e2_3 (a00 a01 a02 a10 a11 a12 a20 a21 a22 a30 a31 a32 y0 y1 y2 y3 : Int) : (a00 * (a11 * a22 - a12 * a21) - a01 * (a10 * a22 - a12 * a20) + a02 * (a10 * a21 - a11 * a20)) * (a00 * (a11 * y3 - y1 * a31) - a01 * (a10 * y3 - y1 * a30) + y0 * (a10 * a31 - a11 * a30)) - (a00 * (a11 * a32 - a12 * a31) - a01 * (a10 * a32 - a12 * a30) + a02 * (a10 * a31 - a11 * a30)) * (a00 * (a11 * y2 - y1 * a21) - a01 * (a10 * y2 - y1 * a20) + y0 * (a10 * a21 - a11 * a20)) = (a00 * a11 - a10 * a01) * (a00 * (a11 * (a22 * y3 - y2 * a32) - a12 * (a21 * y3 - y2 * a31) + y1 * (a21 * a32 - a22 * a31)) - a01 * (a10 * (a22 * y3 - y2 * a32) - a12 * (a20 * y3 - y2 * a30) + y1 * (a20 * a32 - a22 * a30)) + a02 * (a10 * (a21 * y3 - y2 * a31) - a11 * (a20 * y3 - y2 * a30) + y1 * (a20 * a31 - a21 * a30)) - y0 * (a10 * (a21 * a32 - a22 * a31) - a11 * (a20 * a32 - a22 * a30) + a12 * (a20 * a31 - a21 * a30))) := by grind
theorem e3_0 (a00 a01 a02 a03 a10 a11 a12 a13 a20 a21 a22 a23 a30 a31 a32 a33 y0 y1 y2 y3 : Int) : (a00 * (a11 * (a22 * a33 - a23 * a32) - a12 * (a21 * a33 - a23 * a31) + a13 * (a21 * a32 - a22 * a31)) - a01 * (a10 * (a22 * a33 - a23 * a32) - a12 * (a20 * a33 - a23 * a30) + a13 * (a20 * a32 - a22 * a30)) + a02 * (a10 * (a21 * a33 - a23 * a31) - a11 * (a20 * a33 - a23 * a30) + a13 * (a20 * a31 - a21 * a30)) - a03 * (a10 * (a21 * a32 - a22 * a31) - a11 * (a20 * a32 - a22 * a30) + a12 * (a20 * a31 - a21 * a30))) * (y0 * (a11 * a22 - a12 * a21) - a01 * (y1 * a22 - a12 * y2) + a02 * (y1 * a21 - a11 * y2)) - (a03 * (a11 * a22 - a12 * a21) - a01 * (a13 * a22 - a12 * a23) + a02 * (a13 * a21 - a11 * a23)) * (a00 * (a11 * (a22 * y3 - y2 * a32) - a12 * (a21 * y3 - y2 * a31) + y1 * (a21 * a32 - a22 * a31)) - a01 * (a10 * (a22 * y3 - y2 * a32) - a12 * (a20 * y3 - y2 * a30) + y1 * (a20 * a32 - a22 * a30)) + a02 * (a10 * (a21 * y3 - y2 * a31) - a11 * (a20 * y3 - y2 * a30) + y1 * (a20 * a31 - a21 * a30)) - y0 * (a10 * (a21 * a32 - a22 * a31) - a11 * (a20 * a32 - a22 * a30) + a12 * (a20 * a31 - a21 * a30))) = (a00 * (a11 * a22 - a12 * a21) - a01 * (a10 * a22 - a12 * a20) + a02 * (a10 * a21 - a11 * a20)) * (y0 * (a11 * (a22 * a33 - a23 * a32) - a12 * (a21 * a33 - a23 * a31) + a13 * (a21 * a32 - a22 * a31)) - a01 * (y1 * (a22 * a33 - a23 * a32) - a12 * (y2 * a33 - a23 * y3) + a13 * (y2 * a32 - a22 * y3)) + a02 * (y1 * (a21 * a33 - a23 * a31) - a11 * (y2 * a33 - a23 * y3) + a13 * (y2 * a31 - a21 * y3)) - a03 * (y1 * (a21 * a32 - a22 * a31) - a11 * (y2 * a32 - a22 * y3) + a12 * (y2 * a31 - a21 * y3))) := by grind
theorem e3_1 (a00 a01 a02 a03 a10 a11 a12 a13 a20 a21 a22 a23 a30 a31 a32 a33 y0 y1 y2 y3 : Int) : (a00 * (a11 * (a22 * a33 - a23 * a32) - a12 * (a21 * a33 - a23 * a31) + a13 * (a21 * a32 - a22 * a31)) - a01 * (a10 * (a22 * a33 - a23 * a32) - a12 * (a20 * a33 - a23 * a30) + a13 * (a20 * a32 - a22 * a30)) + a02 * (a10 * (a21 * a33 - a23 * a31) - a11 * (a20 * a33 - a23 * a30) + a13 * (a20 * a31 - a21 * a30)) - a03 * (a10 * (a21 * a32 - a22 * a31) - a11 * (a20 * a32 - a22 * a30) + a12 * (a20 * a31 - a21 * a30))) * (a00 * (y1 * a22 - a12 * y2) - y0 * (a10 * a22 - a12 * a20) + a02 * (a10 * y2 - y1 * a20)) - (a00 * (a13 * a22 - a12 * a23) - a03 * (a10 * a22 - a12 * a20) + a02 * (a10 * a23 - a13 * a20)) * (a00 * (a11 * (a22 * y3 - y2 * a32) - a12 * (a21 * y3 - y2 * a31) + y1 * (a21 * a32 - a22 * a31)) - a01 * (a10 * (a22 * y3 - y2 * a32) - a12 * (a20 * y3 - y2 * a30) + y1 * (a20 * a32 - a22 * a30)) + a02 * (a10 * (a21 * y3 - y2 * a31) - a11 * (a20 * y3 - y2 * a30) + y1 * (a20 * a31 - a21 * a30)) - y0 * (a10 * (a21 * a32 - a22 * a31) - a11 * (a20 * a32 - a22 * a30) + a12 * (a20 * a31 - a21 * a30))) = (a00 * (a11 * a22 - a12 * a21) - a01 * (a10 * a22 - a12 * a20) + a02 * (a10 * a21 - a11 * a20)) * (a00 * (y1 * (a22 * a33 - a23 * a32) - a12 * (y2 * a33 - a23 * y3) + a13 * (y2 * a32 - a22 * y3)) - y0 * (a10 * (a22 * a33 - a23 * a32) - a12 * (a20 * a33 - a23 * a30) + a13 * (a20 * a32 - a22 * a30)) + a02 * (a10 * (y2 * a33 - a23 * y3) - y1 * (a20 * a33 - a23 * a30) + a13 * (a20 * y3 - y2 * a30)) - a03 * (a10 * (y2 * a32 - a22 * y3) - y1 * (a20 * a32 - a22 * a30) + a12 * (a20 * y3 - y2 * a30))) := by grind
theorem e3_2 (a00 a01 a02 a03 a10 a11 a12 a13 a20 a21 a22 a23 a30 a31 a32 a33 y0 y1 y2 y3 : Int) : (a00 * (a11 * (a22 * a33 - a23 * a32) - a12 * (a21 * a33 - a23 * a31) + a13 * (a21 * a32 - a22 * a31)) - a01 * (a10 * (a22 * a33 - a23 * a32) - a12 * (a20 * a33 - a23 * a30) + a13 * (a20 * a32 - a22 * a30)) + a02 * (a10 * (a21 * a33 - a23 * a31) - a11 * (a20 * a33 - a23 * a30) + a13 * (a20 * a31 - a21 * a30)) - a03 * (a10 * (a21 * a32 - a22 * a31) - a11 * (a20 * a32 - a22 * a30) + a12 * (a20 * a31 - a21 * a30))) * (a00 * (a11 * y2 - y1 * a21) - a01 * (a10 * y2 - y1 * a20) + y0 * (a10 * a21 - a11 * a20)) - (a00 * (a11 * a23 - a13 * a21) - a01 * (a10 * a23 - a13 * a20) + a03 * (a10 * a21 - a11 * a20)) * (a00 * (a11 * (a22 * y3 - y2 * a32) - a12 * (a21 * y3 - y2 * a31) + y1 * (a21 * a32 - a22 * a31)) - a01 * (a10 * (a22 * y3 - y2 * a32) - a12 * (a20 * y3 - y2 * a30) + y1 * (a20 * a32 - a22 * a30)) + a02 * (a10 * (a21 * y3 - y2 * a31) - a11 * (a20 * y3 - y2 * a30) + y1 * (a20 * a31 - a21 * a30)) - y0 * (a10 * (a21 * a32 - a22 * a31) - a11 * (a20 * a32 - a22 * a30) + a12 * (a20 * a31 - a21 * a30))) = (a00 * (a11 * a22 - a12 * a21) - a01 * (a10 * a22 - a12 * a20) + a02 * (a10 * a21 - a11 * a20)) * (a00 * (a11 * (y2 * a33 - a23 * y3) - y1 * (a21 * a33 - a23 * a31) + a13 * (a21 * y3 - y2 * a31)) - a01 * (a10 * (y2 * a33 - a23 * y3) - y1 * (a20 * a33 - a23 * a30) + a13 * (a20 * y3 - y2 * a30)) + y0 * (a10 * (a21 * a33 - a23 * a31) - a11 * (a20 * a33 - a23 * a30) + a13 * (a20 * a31 - a21 * a30)) - a03 * (a10 * (a21 * y3 - y2 * a31) - a11 * (a20 * y3 - y2 * a30) + y1 * (a20 * a31 - a21 * a30))) := by grind
/-- the table behind k steps, told by minors -/
def TK (A : Nat → Nat → Int) : Nat → Nat → Nat → Int
  | 0, i, j => A i j
  | 1, 0, j => A 0 j
  | 1, i + 1, j => (A 0 0 * A (i + 1) j - A (i + 1) 0 * A 0 j)
  | 2, 0, j => (A 0 j * A 1 1 - A 0 1 * A 1 j)
  | 2, 1, j => (A 0 0 * A 1 j - A 1 0 * A 0 j)
  | 2, i + 2, j => (A 0 0 * (A 1 1 * A (i + 2) j - A 1 j * A (i + 2) 1) - A 0 1 * (A 1 0 * A (i + 2) j - A 1 j * A (i + 2) 0) + A 0 j * (A 1 0 * A (i + 2) 1 - A 1 1 * A (i + 2) 0))
  | 3, 0, j => (A 0 j * (A 1 1 * A 2 2 - A 1 2 * A 2 1) - A 0 1 * (A 1 j * A 2 2 - A 1 2 * A 2 j) + A 0 2 * (A 1 j * A 2 1 - A 1 1 * A 2 j))
  | 3, 1, j => (A 0 0 * (A 1 j * A 2 2 - A 1 2 * A 2 j) - A 0 j * (A 1 0 * A 2 2 - A 1 2 * A 2 0) + A 0 2 * (A 1 0 * A 2 j - A 1 j * A 2 0))
  | 3, 2, j => (A 0 0 * (A 1 1 * A 2 j - A 1 j * A 2 1) - A 0 1 * (A 1 0 * A 2 j - A 1 j * A 2 0) + A 0 j * (A 1 0 * A 2 1 - A 1 1 * A 2 0))
  | 3, i + 3, j => (A 0 0 * (A 1 1 * (A 2 2 * A (i + 3) j - A 2 j * A (i + 3) 2) - A 1 2 * (A 2 1 * A (i + 3) j - A 2 j * A (i + 3) 1) + A 1 j * (A 2 1 * A (i + 3) 2 - A 2 2 * A (i + 3) 1)) - A 0 1 * (A 1 0 * (A 2 2 * A (i + 3) j - A 2 j * A (i + 3) 2) - A 1 2 * (A 2 0 * A (i + 3) j - A 2 j * A (i + 3) 0) + A 1 j * (A 2 0 * A (i + 3) 2 - A 2 2 * A (i + 3) 0)) + A 0 2 * (A 1 0 * (A 2 1 * A (i + 3) j - A 2 j * A (i + 3) 1) - A 1 1 * (A 2 0 * A (i + 3) j - A 2 j * A (i + 3) 0) + A 1 j * (A 2 0 * A (i + 3) 1 - A 2 1 * A (i + 3) 0)) - A 0 j * (A 1 0 * (A 2 1 * A (i + 3) 2 - A 2 2 * A (i + 3) 1) - A 1 1 * (A 2 0 * A (i + 3) 2 - A 2 2 * A (i + 3) 0) + A 1 2 * (A 2 0 * A (i + 3) 1 - A 2 1 * A (i + 3) 0)))
  | 4, 0, j => (A 0 j * (A 1 1 * (A 2 2 * A 3 3 - A 2 3 * A 3 2) - A 1 2 * (A 2 1 * A 3 3 - A 2 3 * A 3 1) + A 1 3 * (A 2 1 * A 3 2 - A 2 2 * A 3 1)) - A 0 1 * (A 1 j * (A 2 2 * A 3 3 - A 2 3 * A 3 2) - A 1 2 * (A 2 j * A 3 3 - A 2 3 * A 3 j) + A 1 3 * (A 2 j * A 3 2 - A 2 2 * A 3 j)) + A 0 2 * (A 1 j * (A 2 1 * A 3 3 - A 2 3 * A 3 1) - A 1 1 * (A 2 j * A 3 3 - A 2 3 * A 3 j) + A 1 3 * (A 2 j * A 3 1 - A 2 1 * A 3 j)) - A 0 3 * (A 1 j * (A 2 1 * A 3 2 - A 2 2 * A 3 1) - A 1 1 * (A 2 j * A 3 2 - A 2 2 * A 3 j) + A 1 2 * (A 2 j * A 3 1 - A 2 1 * A 3 j)))
  | 4, 1, j => (A 0 0 * (A 1 j * (A 2 2 * A 3 3 - A 2 3 * A 3 2) - A 1 2 * (A 2 j * A 3 3 - A 2 3 * A 3 j) + A 1 3 * (A 2 j * A 3 2 - A 2 2 * A 3 j)) - A 0 j * (A 1 0 * (A 2 2 * A 3 3 - A 2 3 * A 3 2) - A 1 2 * (A 2 0 * A 3 3 - A 2 3 * A 3 0) + A 1 3 * (A 2 0 * A 3 2 - A 2 2 * A 3 0)) + A 0 2 * (A 1 0 * (A 2 j * A 3 3 - A 2 3 * A 3 j) - A 1 j * (A 2 0 * A 3 3 - A 2 3 * A 3 0) + A 1 3 * (A 2 0 * A 3 j - A 2 j * A 3 0)) - A 0 3 * (A 1 0 * (A 2 j * A 3 2 - A 2 2 * A 3 j) - A 1 j * (A 2 0 * A 3 2 - A 2 2 * A 3 0) + A 1 2 * (A 2 0 * A 3 j - A 2 j * A 3 0)))
  | 4, 2, j => (A 0 0 * (A 1 1 * (A 2 j * A 3 3 - A 2 3 * A 3 j) - A 1 j * (A 2 1 * A 3 3 - A 2 3 * A 3 1) + A 1 3 * (A 2 1 * A 3 j - A 2 j * A 3 1)) - A 0 1 * (A 1 0 * (A 2 j * A 3 3 - A 2 3 * A 3 j) - A 1 j * (A 2 0 * A 3 3 - A 2 3 * A 3 0) + A 1 3 * (A 2 0 * A 3 j - A 2 j * A 3 0)) + A 0 j * (A 1 0 * (A 2 1 * A 3 3 - A 2 3 * A 3 1) - A 1 1 * (A 2 0 * A 3 3 - A 2 3 * A 3 0) + A 1 3 * (A 2 0 * A 3 1 - A 2 1 * A 3 0)) - A 0 3 * (A 1 0 * (A 2 1 * A 3 j - A 2 j * A 3 1) - A 1 1 * (A 2 0 * A 3 j - A 2 j * A 3 0) + A 1 j * (A 2 0 * A 3 1 - A 2 1 * A 3 0)))
  | 4, 3, j => (A 0 0 * (A 1 1 * (A 2 2 * A 3 j - A 2 j * A 3 2) - A 1 2 * (A 2 1 * A 3 j - A 2 j * A 3 1) + A 1 j * (A 2 1 * A 3 2 - A 2 2 * A 3 1)) - A 0 1 * (A 1 0 * (A 2 2 * A 3 j - A 2 j * A 3 2) - A 1 2 * (A 2 0 * A 3 j - A 2 j * A 3 0) + A 1 j * (A 2 0 * A 3 2 - A 2 2 * A 3 0)) + A 0 2 * (A 1 0 * (A 2 1 * A 3 j - A 2 j * A 3 1) - A 1 1 * (A 2 0 * A 3 j - A 2 j * A 3 0) + A 1 j * (A 2 0 * A 3 1 - A 2 1 * A 3 0)) - A 0 j * (A 1 0 * (A 2 1 * A 3 2 - A 2 2 * A 3 1) - A 1 1 * (A 2 0 * A 3 2 - A 2 2 * A 3 0) + A 1 2 * (A 2 0 * A 3 1 - A 2 1 * A 3 0)))
  | _, _, _ => 0
def lastK (A : Nat → Nat → Int) : Nat → Int
  | 0 => 1
  | k + 1 => TK A k k k
theorem TK_same (A : Nat → Nat → Int) {k : Nat} (hk : k < 4) (j : Nat) : TK A (k + 1) k j = TK A k k j := by
  rcases (show k = 0 ∨ k = 1 ∨ k = 2 ∨ k = 3 by omega) with rfl | rfl | rfl | rfl <;> rfl
theorem TK_step (A : Nat → Nat → Int) {k i : Nat} (hk : k < 4) (hi : i < 4) (h : i ≠ k) (j : Nat) : TK A k k k * TK A k i j - TK A k i k * TK A k k j = lastK A k * TK A (k + 1) i j := by
  rcases (show k = 0 ∨ k = 1 ∨ k = 2 ∨ k = 3 by omega) with rfl | rfl | rfl | rfl
  · rcases (show i = 1 ∨ i = 2 ∨ i = 3 by omega) with rfl | rfl | rfl <;> (rw [show lastK A 0 = 1 from rfl, Int.one_mul]; rfl)
  · rcases (show i = 0 ∨ i = 2 ∨ i = 3 by omega) with rfl | rfl | rfl
    · exact e1_0 (A 0 0) (A 0 1) (A 1 0) (A 1 1) (A 0 j) (A 1 j)
    · exact e1_2 (A 0 0) (A 0 1) (A 1 0) (A 1 1) (A 2 0) (A 2 1) (A 0 j) (A 1 j) (A 2 j)
    · exact e1_3 (A 0 0) (A 0 1) (A 1 0) (A 1 1) (A 3 0) (A 3 1) (A 0 j) (A 1 j) (A 3 j)
  · rcases (show i = 0 ∨ i = 1 ∨ i = 3 by omega) with rfl | rfl | rfl
    · exact e2_0 (A 0 0) (A 0 1) (A 0 2) (A 1 0) (A 1 1) (A 1 2) (A 2 0) (A 2 1) (A 2 2) (A 0 j) (A 1 j) (A 2 j)
    · exact e2_1 (A 0 0) (A 0 1) (A 0 2) (A 1 0) (A 1 1) (A 1 2) (A 2 0) (A 2 1) (A 2 2) (A 0 j) (A 1 j) (A 2 j)
    · exact e2_3 (A 0 0) (A 0 1) (A 0 2) (A 1 0) (A 1 1) (A 1 2) (A 2 0) (A 2 1) (A 2 2) (A 3 0) (A 3 1) (A 3 2) (A 0 j) (A 1 j) (A 2 j) (A 3 j)
  · rcases (show i = 0 ∨ i = 1 ∨ i = 2 by omega) with rfl | rfl | rfl
    · exact e3_0 (A 0 0) (A 0 1) (A 0 2) (A 0 3) (A 1 0) (A 1 1) (A 1 2) (A 1 3) (A 2 0) (A 2 1) (A 2 2) (A 2 3) (A 3 0) (A 3 1) (A 3 2) (A 3 3) (A 0 j) (A 1 j) (A 2 j) (A 3 j)
    · exact e3_1 (A 0 0) (A 0 1) (A 0 2) (A 0 3) (A 1 0) (A 1 1) (A 1 2) (A 1 3) (A 2 0) (A 2 1) (A 2 2) (A 2 3) (A 3 0) (A 3 1) (A 3 2) (A 3 3) (A 0 j) (A 1 j) (A 2 j) (A 3 j)
    · exact e3_2 (A 0 0) (A 0 1) (A 0 2) (A 0 3) (A 1 0) (A 1 1) (A 1 2) (A 1 3) (A 2 0) (A 2 1) (A 2 2) (A 2 3) (A 3 0) (A 3 1) (A 3 2) (A 3 3) (A 0 j) (A 1 j) (A 2 j) (A 3 j)
theorem cr_0 (a00 a01 a02 a03 a10 a11 a12 a13 a20 a21 a22 a23 a30 a31 a32 a33 y0 y1 y2 y3 : Int) : a00 * (y0 * (a11 * (a22 * a33 - a23 * a32) - a12 * (a21 * a33 - a23 * a31) + a13 * (a21 * a32 - a22 * a31)) - a01 * (y1 * (a22 * a33 - a23 * a32) - a12 * (y2 * a33 - a23 * y3) + a13 * (y2 * a32 - a22 * y3)) + a02 * (y1 * (a21 * a33 - a23 * a31) - a11 * (y2 * a33 - a23 * y3) + a13 * (y2 * a31 - a21 * y3)) - a03 * (y1 * (a21 * a32 - a22 * a31) - a11 * (y2 * a32 - a22 * y3) + a12 * (y2 * a31 - a21 * y3))) + a01 * (a00 * (y1 * (a22 * a33 - a23 * a32) - a12 * (y2 * a33 - a23 * y3) + a13 * (y2 * a32 - a22 * y3)) - y0 * (a10 * (a22 * a33 - a23 * a32) - a12 * (a20 * a33 - a23 * a30) + a13 * (a20 * a32 - a22 * a30)) + a02 * (a10 * (y2 * a33 - a23 * y3) - y1 * (a20 * a33 - a23 * a30) + a13 * (a20 * y3 - y2 * a30)) - a03 * (a10 * (y2 * a32 - a22 * y3) - y1 * (a20 * a32 - a22 * a30) + a12 * (a20 * y3 - y2 * a30))) + a02 * (a00 * (a11 * (y2 * a33 - a23 * y3) - y1 * (a21 * a33 - a23 * a31) + a13 * (a21 * y3 - y2 * a31)) - a01 * (a10 * (y2 * a33 - a23 * y3) - y1 * (a20 * a33 - a23 * a30) + a13 * (a20 * y3 - y2 * a30)) + y0 * (a10 * (a21 * a33 - a23 * a31) - a11 * (a20 * a33 - a23 * a30) + a13 * (a20 * a31 - a21 * a30)) - a03 * (a10 * (a21 * y3 - y2 * a31) - a11 * (a20 * y3 - y2 * a30) + y1 * (a20 * a31 - a21 * a30))) + a03 * (a00 * (a11 * (a22 * y3 - y2 * a32) - a12 * (a21 * y3 - y2 * a31) + y1 * (a21 * a32 - a22 * a31)) - a01 * (a10 * (a22 * y3 - y2 * a32) - a12 * (a20 * y3 - y2 * a30) + y1 * (a20 * a32 - a22 * a30)) + a02 * (a10 * (a21 * y3 - y2 * a31) - a11 * (a20 * y3 - y2 * a30) + y1 * (a20 * a31 - a21 * a30)) - y0 * (a10 * (a21 * a32 - a22 * a31) - a11 * (a20 * a32 - a22 * a30) + a12 * (a20 * a31 - a21 * a30))) = (a00 * (a11 * (a22 * a33 - a23 * a32) - a12 * (a21 * a33 - a23 * a31) + a13 * (a21 * a32 - a22 * a31)) - a01 * (a10 * (a22 * a33 - a23 * a32) - a12 * (a20 * a33 - a23 * a30) + a13 * (a20 * a32 - a22 * a30)) + a02 * (a10 * (a21 * a33 - a23 * a31) - a11 * (a20 * a33 - a23 * a30) + a13 * (a20 * a31 - a21 * a30)) - a03 * (a10 * (a21 * a32 - a22 * a31) - a11 * (a20 * a32 - a22 * a30) + a12 * (a20 * a31 - a21 * a30))) * y0 := by grind
theorem cr_1 (a00 a01 a02 a03 a10 a11 a12 a13 a20 a21 a22 a23 a30 a31 a32 a33 y0 y1 y2 y3 : Int) : a10 * (y0 * (a11 * (a22 * a33 - a23 * a32) - a12 * (a21 * a33 - a23 * a31) + a13 * (a21 * a32 - a22 * a31)) - a01 * (y1 * (a22 * a33 - a23 * a32) - a12 * (y2 * a33 - a23 * y3) + a13 * (y2 * a32 - a22 * y3)) + a02 * (y1 * (a21 * a33 - a23 * a31) - a11 * (y2 * a33 - a23 * y3) + a13 * (y2 * a31 - a21 * y3)) - a03 * (y1 * (a21 * a32 - a22 * a31) - a11 * (y2 * a32 - a22 * y3) + a12 * (y2 * a31 - a21 * y3))) + a11 * (a00 * (y1 * (a22 * a33 - a23 * a32) - a12 * (y2 * a33 - a23 * y3) + a13 * (y2 * a32 - a22 * y3)) - y0 * (a10 * (a22 * a33 - a23 * a32) - a12 * (a20 * a33 - a23 * a30) + a13 * (a20 * a32 - a22 * a30)) + a02 * (a10 * (y2 * a33 - a23 * y3) - y1 * (a20 * a33 - a23 * a30) + a13 * (a20 * y3 - y2 * a30)) - a03 * (a10 * (y2 * a32 - a22 * y3) - y1 * (a20 * a32 - a22 * a30) + a12 * (a20 * y3 - y2 * a30))) + a12 * (a00 * (a11 * (y2 * a33 - a23 * y3) - y1 * (a21 * a33 - a23 * a31) + a13 * (a21 * y3 - y2 * a31)) - a01 * (a10 * (y2 * a33 - a23 * y3) - y1 * (a20 * a33 - a23 * a30) + a13 * (a20 * y3 - y2 * a30)) + y0 * (a10 * (a21 * a33 - a23 * a31) - a11 * (a20 * a33 - a23 * a30) + a13 * (a20 * a31 - a21 * a30)) - a03 * (a10 * (a21 * y3 - y2 * a31) - a11 * (a20 * y3 - y2 * a30) + y1 * (a20 * a31 - a21 * a30))) + a13 * (a00 * (a11 * (a22 * y3 - y2 * a32) - a12 * (a21 * y3 - y2 * a31) + y1 * (a21 * a32 - a22 * a31)) - a01 * (a10 * (a22 * y3 - y2 * a32) - a12 * (a20 * y3 - y2 * a30) + y1 * (a20 * a32 - a22 * a30)) + a02 * (a10 * (a21 * y3 - y2 * a31) - a11 * (a20 * y3 - y2 * a30) + y1 * (a20 * a31 - a21 * a30)) - y0 * (a10 * (a21 * a32 - a22 * a31) - a11 * (a20 * a32 - a22 * a30) + a12 * (a20 * a31 - a21 * a30))) = (a00 * (a11 * (a22 * a33 - a23 * a32) - a12 * (a21 * a33 - a23 * a31) + a13 * (a21 * a32 - a22 * a31)) - a01 * (a10 * (a22 * a33 - a23 * a32) - a12 * (a20 * a33 - a23 * a30) + a13 * (a20 * a32 - a22 * a30)) + a02 * (a10 * (a21 * a33 - a23 * a31) - a11 * (a20 * a33 - a23 * a30) + a13 * (a20 * a31 - a21 * a30)) - a03 * (a10 * (a21 * a32 - a22 * a31) - a11 * (a20 * a32 - a22 * a30) + a12 * (a20 * a31 - a21 * a30))) * y1 := by grind
theorem cr_2 (a00 a01 a02 a03 a10 a11 a12 a13 a20 a21 a22 a23 a30 a31 a32 a33 y0 y1 y2 y3 : Int) : a20 * (y0 * (a11 * (a22 * a33 - a23 * a32) - a12 * (a21 * a33 - a23 * a31) + a13 * (a21 * a32 - a22 * a31)) - a01 * (y1 * (a22 * a33 - a23 * a32) - a12 * (y2 * a33 - a23 * y3) + a13 * (y2 * a32 - a22 * y3)) + a02 * (y1 * (a21 * a33 - a23 * a31) - a11 * (y2 * a33 - a23 * y3) + a13 * (y2 * a31 - a21 * y3)) - a03 * (y1 * (a21 * a32 - a22 * a31) - a11 * (y2 * a32 - a22 * y3) + a12 * (y2 * a31 - a21 * y3))) + a21 * (a00 * (y1 * (a22 * a33 - a23 * a32) - a12 * (y2 * a33 - a23 * y3) + a13 * (y2 * a32 - a22 * y3)) - y0 * (a10 * (a22 * a33 - a23 * a32) - a12 * (a20 * a33 - a23 * a30) + a13 * (a20 * a32 - a22 * a30)) + a02 * (a10 * (y2 * a33 - a23 * y3) - y1 * (a20 * a33 - a23 * a30) + a13 * (a20 * y3 - y2 * a30)) - a03 * (a10 * (y2 * a32 - a22 * y3) - y1 * (a20 * a32 - a22 * a30) + a12 * (a20 * y3 - y2 * a30))) + a22 * (a00 * (a11 * (y2 * a33 - a23 * y3) - y1 * (a21 * a33 - a23 * a31) + a13 * (a21 * y3 - y2 * a31)) - a01 * (a10 * (y2 * a33 - a23 * y3) - y1 * (a20 * a33 - a23 * a30) + a13 * (a20 * y3 - y2 * a30)) + y0 * (a10 * (a21 * a33 - a23 * a31) - a11 * (a20 * a33 - a23 * a30) + a13 * (a20 * a31 - a21 * a30)) - a03 * (a10 * (a21 * y3 - y2 * a31) - a11 * (a20 * y3 - y2 * a30) + y1 * (a20 * a31 - a21 * a30))) + a23 * (a00 * (a11 * (a22 * y3 - y2 * a32) - a12 * (a21 * y3 - y2 * a31) + y1 * (a21 * a32 - a22 * a31)) - a01 * (a10 * (a22 * y3 - y2 * a32) - a12 * (a20 * y3 - y2 * a30) + y1 * (a20 * a32 - a22 * a30)) + a02 * (a10 * (a21 * y3 - y2 * a31) - a11 * (a20 * y3 - y2 * a30) + y1 * (a20 * a31 - a21 * a30)) - y0 * (a10 * (a21 * a32 - a22 * a31) - a11 * (a20 * a32 - a22 * a30) + a12 * (a20 * a31 - a21 * a30))) = (a00 * (a11 * (a22 * a33 - a23 * a32) - a12 * (a21 * a33 - a23 * a31) + a13 * (a21 * a32 - a22 * a31)) - a01 * (a10 * (a22 * a33 - a23 * a32) - a12 * (a20 * a33 - a23 * a30) + a13 * (a20 * a32 - a22 * a30)) + a02 * (a10 * (a21 * a33 - a23 * a31) - a11 * (a20 * a33 - a23 * a30) + a13 * (a20 * a31 - a21 * a30)) - a03 * (a10 * (a21 * a32 - a22 * a31) - a11 * (a20 * a32 - a22 * a30) + a12 * (a20 * a31 - a21 * a30))) * y2 := by grind
theorem cr_3 (a00 a01 a02 a03 a10 a11 a12 a13 a20 a21 a22 a23 a30 a31 a32 a33 y0 y1 y2 y3 : Int) : a30 * (y0 * (a11 * (a22 * a33 - a23 * a32) - a12 * (a21 * a33 - a23 * a31) + a13 * (a21 * a32 - a22 * a31)) - a01 * (y1 * (a22 * a33 - a23 * a32) - a12 * (y2 * a33 - a23 * y3) + a13 * (y2 * a32 - a22 * y3)) + a02 * (y1 * (a21 * a33 - a23 * a31) - a11 * (y2 * a33 - a23 * y3) + a13 * (y2 * a31 - a21 * y3)) - a03 * (y1 * (a21 * a32 - a22 * a31) - a11 * (y2 * a32 - a22 * y3) + a12 * (y2 * a31 - a21 * y3))) + a31 * (a00 * (y1 * (a22 * a33 - a23 * a32) - a12 * (y2 * a33 - a23 * y3) + a13 * (y2 * a32 - a22 * y3)) - y0 * (a10 * (a22 * a33 - a23 * a32) - a12 * (a20 * a33 - a23 * a30) + a13 * (a20 * a32 - a22 * a30)) + a02 * (a10 * (y2 * a33 - a23 * y3) - y1 * (a20 * a33 - a23 * a30) + a13 * (a20 * y3 - y2 * a30)) - a03 * (a10 * (y2 * a32 - a22 * y3) - y1 * (a20 * a32 - a22 * a30) + a12 * (a20 * y3 - y2 * a30))) + a32 * (a00 * (a11 * (y2 * a33 - a23 * y3) - y1 * (a21 * a33 - a23 * a31) + a13 * (a21 * y3 - y2 * a31)) - a01 * (a10 * (y2 * a33 - a23 * y3) - y1 * (a20 * a33 - a23 * a30) + a13 * (a20 * y3 - y2 * a30)) + y0 * (a10 * (a21 * a33 - a23 * a31) - a11 * (a20 * a33 - a23 * a30) + a13 * (a20 * a31 - a21 * a30)) - a03 * (a10 * (a21 * y3 - y2 * a31) - a11 * (a20 * y3 - y2 * a30) + y1 * (a20 * a31 - a21 * a30))) + a33 * (a00 * (a11 * (a22 * y3 - y2 * a32) - a12 * (a21 * y3 - y2 * a31) + y1 * (a21 * a32 - a22 * a31)) - a01 * (a10 * (a22 * y3 - y2 * a32) - a12 * (a20 * y3 - y2 * a30) + y1 * (a20 * a32 - a22 * a30)) + a02 * (a10 * (a21 * y3 - y2 * a31) - a11 * (a20 * y3 - y2 * a30) + y1 * (a20 * a31 - a21 * a30)) - y0 * (a10 * (a21 * a32 - a22 * a31) - a11 * (a20 * a32 - a22 * a30) + a12 * (a20 * a31 - a21 * a30))) = (a00 * (a11 * (a22 * a33 - a23 * a32) - a12 * (a21 * a33 - a23 * a31) + a13 * (a21 * a32 - a22 * a31)) - a01 * (a10 * (a22 * a33 - a23 * a32) - a12 * (a20 * a33 - a23 * a30) + a13 * (a20 * a32 - a22 * a30)) + a02 * (a10 * (a21 * a33 - a23 * a31) - a11 * (a20 * a33 - a23 * a30) + a13 * (a20 * a31 - a21 * a30)) - a03 * (a10 * (a21 * a32 - a22 * a31) - a11 * (a20 * a32 - a22 * a30) + a12 * (a20 * a31 - a21 * a30))) * y3 := by grind
theorem TK_cr (A : Nat → Nat → Int) {i : Nat} (hi : i < 4) (j : Nat) : A i 0 * TK A 4 0 j + A i 1 * TK A 4 1 j + A i 2 * TK A 4 2 j + A i 3 * TK A 4 3 j = TK A 3 3 3 * A i j := by
  rcases (show i = 0 ∨ i = 1 ∨ i = 2 ∨ i = 3 by omega) with rfl | rfl | rfl | rfl
  · exact cr_0 (A 0 0) (A 0 1) (A 0 2) (A 0 3) (A 1 0) (A 1 1) (A 1 2) (A 1 3) (A 2 0) (A 2 1) (A 2 2) (A 2 3) (A 3 0) (A 3 1) (A 3 2) (A 3 3) (A 0 j) (A 1 j) (A 2 j) (A 3 j)
  · exact cr_1 (A 0 0) (A 0 1) (A 0 2) (A 0 3) (A 1 0) (A 1 1) (A 1 2) (A 1 3) (A 2 0) (A 2 1) (A 2 2) (A 2 3) (A 3 0) (A 3 1) (A 3 2) (A 3 3) (A 0 j) (A 1 j) (A 2 j) (A 3 j)
  · exact cr_2 (A 0 0) (A 0 1) (A 0 2) (A 0 3) (A 1 0) (A 1 1) (A 1 2) (A 1 3) (A 2 0) (A 2 1) (A 2 2) (A 2 3) (A 3 0) (A 3 1) (A 3 2) (A 3 3) (A 0 j) (A 1 j) (A 2 j) (A 3 j)
  · exact cr_3 (A 0 0) (A 0 1) (A 0 2) (A 0 3) (A 1 0) (A 1 1) (A 1 2) (A 1 3) (A 2 0) (A 2 1) (A 2 2) (A 2 3) (A 3 0) (A 3 1) (A 3 2) (A 3 3) (A 0 j) (A 1 j) (A 2 j) (A 3 j)
/-- signs: what the elimination keeps -/
theorem mul_pp {a b : Int} (ha : 0 < a) (hb : 0 < b) : 0 < a * b := Int.mul_pos ha hb
theorem pos_of {a x : Int} (ha : 0 < a) (h : 0 < a * x) : 0 < x := by
  rcases Int.lt_or_le 0 x with z | z
  · exact z
  · have := Int.mul_nonneg (Int.le_of_lt ha) (show 0 ≤ -x by omega)
    rw [Int.mul_neg] at this
    omega
theorem nn_of {a x : Int} (ha : 0 < a) (h : 0 ≤ a * x) : 0 ≤ x := by
  rcases Int.lt_or_le x 0 with z | z
  · have := Int.mul_pos ha (show 0 < -x by omega)
    rw [Int.mul_neg] at this
    omega
  · exact z
theorem np_of {a x : Int} (ha : 0 < a) (h : a * x ≤ 0) : x ≤ 0 := by
  have := nn_of ha (show 0 ≤ a * (-x) by rw [Int.mul_neg]; omega)
  omega
/-- what holds of a table ahead of step k -/
def TI (T : Nat → Nat → Int) (v : Nat → Int) (k : Nat) : Prop := (∀ i j, i < 4 → k ≤ j → j < 4 → i ≠ j → T i j ≤ 0) ∧ (∀ i, i < 4 → 0 ≤ T i 4) ∧ (∀ j, k ≤ j → j < 4 → 0 < (if k ≤ 0 then v 0 * T 0 j else 0) + (if k ≤ 1 then v 1 * T 1 j else 0) + (if k ≤ 2 then v 2 * T 2 j else 0) + v 3 * T 3 j)
theorem sg_1 {p a b c : Int} (hp : 0 < p) (ha : a ≤ 0) (hb : b ≤ 0) (hc : c ≤ 0) : p * a - b * c ≤ 0 := by
  have h1 := Int.mul_nonneg (Int.le_of_lt hp) (show 0 ≤ -a by omega)
  have h2 := Int.mul_nonneg (show 0 ≤ -b by omega) (show 0 ≤ -c by omega)
  rw [Int.mul_neg] at h1
  rw [Int.neg_mul_neg] at h2
  omega
theorem sg_2 {p a b c : Int} (hp : 0 < p) (ha : 0 ≤ a) (hb : b ≤ 0) (hc : 0 ≤ c) : 0 ≤ p * a - b * c := by
  have h1 := Int.mul_nonneg (Int.le_of_lt hp) ha
  have h2 := Int.mul_nonneg (show 0 ≤ -b by omega) hc
  rw [Int.neg_mul] at h2
  omega
theorem ng_mul {a b : Int} (ha : 0 < a) (hb : b ≤ 0) : a * b ≤ 0 := by
  have := Int.mul_nonneg (Int.le_of_lt ha) (show 0 ≤ -b by omega)
  rw [Int.mul_neg] at this
  omega
theorem TI_piv {T : Nat → Nat → Int} {v : Nat → Int} {k : Nat} (hk : k < 4) (hv : ∀ i, i < 4 → 0 < v i) (h : TI T v k) : 0 < T k k := by
  obtain ⟨h1, -, h3⟩ := h
  have h0 := h3 k (Nat.le_refl _) hk
  rcases (show k = 0 ∨ k = 1 ∨ k = 2 ∨ k = 3 by omega) with rfl | rfl | rfl | rfl
  · simp at h0
    have a1 := ng_mul (hv 1 (by decide)) (h1 1 0 (by decide) (by decide) (by decide) (by decide))
    have a2 := ng_mul (hv 2 (by decide)) (h1 2 0 (by decide) (by decide) (by decide) (by decide))
    have a3 := ng_mul (hv 3 (by decide)) (h1 3 0 (by decide) (by decide) (by decide) (by decide))
    exact pos_of (hv 0 (by decide)) (by omega)
  · simp at h0
    have a2 := ng_mul (hv 2 (by decide)) (h1 2 1 (by decide) (by decide) (by decide) (by decide))
    have a3 := ng_mul (hv 3 (by decide)) (h1 3 1 (by decide) (by decide) (by decide) (by decide))
    exact pos_of (hv 1 (by decide)) (by omega)
  · simp at h0
    have a3 := ng_mul (hv 3 (by decide)) (h1 3 2 (by decide) (by decide) (by decide) (by decide))
    exact pos_of (hv 2 (by decide)) (by omega)
  · simp at h0
    exact pos_of (hv 3 (by decide)) h0
theorem wt_1 (p q l s x0 x1 x2 x3 y0 y1 y2 y3 v0 v1 v2 v3 z1 z2 z3 : Int) (e1 : x0 * y1 - x1 * y0 = l * z1) (e2 : x0 * y2 - x2 * y0 = l * z2) (e3 : x0 * y3 - x3 * y0 = l * z3) : l * (v1 * z1 + v2 * z2 + v3 * z3) = x0 * (v0 * y0 + v1 * y1 + v2 * y2 + v3 * y3) - y0 * (v0 * x0 + v1 * x1 + v2 * x2 + v3 * x3) := by grind
theorem wt_2 (l x1 x2 x3 y1 y2 y3 v1 v2 v3 z2 z3 : Int) (e2 : x1 * y2 - x2 * y1 = l * z2) (e3 : x1 * y3 - x3 * y1 = l * z3) : l * (v2 * z2 + v3 * z3) = x1 * (v1 * y1 + v2 * y2 + v3 * y3) - y1 * (v1 * x1 + v2 * x2 + v3 * x3) := by grind
theorem wt_3 (l x2 x3 y2 y3 v2 v3 z3 : Int) (e3 : x2 * y3 - x3 * y2 = l * z3) : l * (v3 * z3) = x2 * (v2 * y2 + v3 * y3) - y2 * (v2 * x2 + v3 * x3) := by grind
theorem TI_next {A : Nat → Nat → Int} {v : Nat → Int} {k : Nat} (hk : k < 3) (hv : ∀ i, i < 4 → 0 < v i) (hl : 0 < lastK A k) (h : TI (TK A k) v k) : TI (TK A (k + 1)) v (k + 1) := by
  have hp := TI_piv (by omega) hv h
  obtain ⟨h1, h2, h3⟩ := h
  refine ⟨fun i j hi hj hj4 hij => ?_, fun i hi => ?_, fun j hj hj4 => ?_⟩
  · by_cases e : i = k
    · subst e; rw [TK_same A (by omega)]; exact h1 i j hi (by omega) hj4 hij
    · refine np_of hl ?_
      rw [← TK_step A (by omega) hi e]
      exact sg_1 hp (h1 i j hi (by omega) hj4 hij) (h1 i k hi (by omega) (by omega) e) (h1 k j (by omega) (by omega) hj4 (by omega))
  · by_cases e : i = k
    · subst e; rw [TK_same A (by omega)]; exact h2 i hi
    · refine nn_of hl ?_
      rw [← TK_step A (by omega) hi e]
      exact sg_2 hp (h2 i hi) (h1 i k hi (by omega) (by omega) e) (h2 k (by omega))
  · have hSj := h3 j (by omega) hj4
    have hSk := h3 k (by omega) (by omega)
    have hkj := h1 k j (by omega) (by omega) hj4 (by omega)
    refine pos_of hl ?_
    have fin : ∀ {a b : Int}, 0 < a → 0 < b → 0 < TK A k k k * a - TK A k k j * b := fun {a b} ha hb => by
      have q1 := Int.mul_pos hp ha
      have q2 := ng_mul hb hkj
      rw [Int.mul_comm] at q2
      omega
    rcases (show k = 0 ∨ k = 1 ∨ k = 2 by omega) with rfl | rfl | rfl
    · simp only [Nat.reduceLeDiff, if_true, if_false, Int.zero_add, Nat.le_refl, Nat.zero_le, Nat.reduceAdd, ↓reduceIte] at hSj hSk ⊢
      rw [wt_1 0 0 _ 0 _ _ _ _ _ _ _ _ (v 0) _ _ _ _ _ _ (TK_step A (k := 0) (i := 1) (by decide) (by decide) (by decide) j) (TK_step A (k := 0) (i := 2) (by decide) (by decide) (by decide) j) (TK_step A (k := 0) (i := 3) (by decide) (by decide) (by decide) j)]
      exact fin hSj hSk
    · simp only [Nat.reduceLeDiff, if_true, if_false, Int.zero_add, Nat.le_refl, Nat.zero_le, Nat.reduceAdd, ↓reduceIte] at hSj hSk ⊢
      rw [wt_2 _ _ _ _ _ _ _ (v 1) _ _ _ _ (TK_step A (k := 1) (i := 2) (by decide) (by decide) (by decide) j) (TK_step A (k := 1) (i := 3) (by decide) (by decide) (by decide) j)]
      exact fin hSj hSk
    · simp only [Nat.reduceLeDiff, if_true, if_false, Int.zero_add, Nat.le_refl, Nat.zero_le, Nat.reduceAdd, ↓reduceIte] at hSj hSk ⊢
      rw [wt_3 _ _ _ _ _ (v 2) _ _ (TK_step A (k := 2) (i := 3) (by decide) (by decide) (by decide) j)]
      exact fin hSj hSk
/-- all pivots are above 0, and what comes out is not below -/
theorem TK_pos {A : Nat → Nat → Int} {v : Nat → Int} (hv : ∀ i, i < 4 → 0 < v i) (h : TI A v 0) : (∀ k, k < 4 → 0 < TK A k k k) ∧ ∀ i, i < 4 → 0 ≤ TK A 4 i 4 := by
  have t0 : TI (TK A 0) v 0 := h
  have p0 := TI_piv (by decide) hv t0
  have l0 : 0 < lastK A 0 := Int.zero_lt_one
  have t1 := TI_next (A := A) (by decide) hv l0 t0
  have p1 := TI_piv (by decide) hv t1
  have t2 := TI_next (A := A) (by decide) hv (show 0 < lastK A 1 from p0) t1
  have p2 := TI_piv (by decide) hv t2
  have t3 := TI_next (A := A) (by decide) hv (show 0 < lastK A 2 from p1) t2
  have p3 := TI_piv (by decide) hv t3
  refine ⟨fun k hk => ?_, fun i hi => ?_⟩
  · rcases (show k = 0 ∨ k = 1 ∨ k = 2 ∨ k = 3 by omega) with rfl | rfl | rfl | rfl
    · exact p0
    · exact p1
    · exact p2
    · exact p3
  · by_cases e : i = 3
    · subst e; rw [TK_same A (by decide)]; exact t3.2.1 3 (by decide)
    · refine nn_of (show 0 < lastK A 3 from p2) ?_
      rw [← TK_step A (by decide) hi e]
      exact sg_2 p3 (t3.2.1 i hi) (t3.1 i 3 hi (by decide) (by decide) e) (t3.2.1 3 (by decide))
