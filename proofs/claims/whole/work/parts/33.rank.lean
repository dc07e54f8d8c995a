/-! ===== determinants of up to four rows, written out ===== -/
def D1 (a00 : Int64) : Int64 := a00
def D2 (a00 a01 a10 a11 : Int64) : Int64 := a00 * a11 - a01 * a10
def D3 (a00 a01 a02 a10 a11 a12 a20 a21 a22 : Int64) : Int64 := a00 * a11 * a22 - a00 * a12 * a21 - a01 * a10 * a22 + a01 * a12 * a20 + a02 * a10 * a21 - a02 * a11 * a20
def D4 (a00 a01 a02 a03 a10 a11 a12 a13 a20 a21 a22 a23 a30 a31 a32 a33 : Int64) : Int64 := a00 * a11 * a22 * a33 - a00 * a11 * a23 * a32 - a00 * a12 * a21 * a33 + a00 * a12 * a23 * a31 + a00 * a13 * a21 * a32 - a00 * a13 * a22 * a31 - a01 * a10 * a22 * a33 + a01 * a10 * a23 * a32 + a01 * a12 * a20 * a33 - a01 * a12 * a23 * a30 - a01 * a13 * a20 * a32 + a01 * a13 * a22 * a30 + a02 * a10 * a21 * a33 - a02 * a10 * a23 * a31 - a02 * a11 * a20 * a33 + a02 * a11 * a23 * a30 + a02 * a13 * a20 * a31 - a02 * a13 * a21 * a30 - a03 * a10 * a21 * a32 + a03 * a10 * a22 * a31 + a03 * a11 * a20 * a32 - a03 * a11 * a22 * a30 - a03 * a12 * a20 * a31 + a03 * a12 * a21 * a30
theorem rk1_01 (a00 w : Int64) : D1 (a00 + w) = D1 a00 + w * D1 1 := by
  unfold D1
  grind
theorem rk2_01 (a00 a01 a10 a11 w : Int64) : D2 (a00 + w) (a01 - w) (a10 - w) (a11 + w) = D2 a00 a01 a10 a11 + w * D2 (a00 + a10 + a01 + a11) 0 0 1 := by
  unfold D2
  grind
theorem rk2_02 (a00 a01 a10 a11 w : Int64) : D2 (a00 + w) a01 a10 a11 = D2 a00 a01 a10 a11 + w * D2 1 0 0 a11 := by
  unfold D2
  grind
theorem rk2_12 (a00 a01 a10 a11 w : Int64) : D2 a00 a01 a10 (a11 + w) = D2 a00 a01 a10 a11 + w * D2 a00 0 0 1 := by
  unfold D2
  grind
theorem rk3_01 (a00 a01 a02 a10 a11 a12 a20 a21 a22 w : Int64) : D3 (a00 + w) (a01 - w) a02 (a10 - w) (a11 + w) a12 a20 a21 a22 = D3 a00 a01 a02 a10 a11 a12 a20 a21 a22 + w * D3 (a00 + a10 + a01 + a11) 0 (a02 + a12) 0 1 0 (a20 + a21) 0 a22 := by
  unfold D3
  grind
theorem rk3_02 (a00 a01 a02 a10 a11 a12 a20 a21 a22 w : Int64) : D3 (a00 + w) a01 (a02 - w) a10 a11 a12 (a20 - w) a21 (a22 + w) = D3 a00 a01 a02 a10 a11 a12 a20 a21 a22 + w * D3 (a00 + a20 + a02 + a22) (a01 + a21) 0 (a10 + a12) a11 0 0 0 1 := by
  unfold D3
  grind
theorem rk3_03 (a00 a01 a02 a10 a11 a12 a20 a21 a22 w : Int64) : D3 (a00 + w) a01 a02 a10 a11 a12 a20 a21 a22 = D3 a00 a01 a02 a10 a11 a12 a20 a21 a22 + w * D3 1 0 0 0 a11 a12 0 a21 a22 := by
  unfold D3
  grind
theorem rk3_12 (a00 a01 a02 a10 a11 a12 a20 a21 a22 w : Int64) : D3 a00 a01 a02 a10 (a11 + w) (a12 - w) a20 (a21 - w) (a22 + w) = D3 a00 a01 a02 a10 a11 a12 a20 a21 a22 + w * D3 a00 (a01 + a02) 0 (a10 + a20) (a11 + a21 + a12 + a22) 0 0 0 1 := by
  unfold D3
  grind
theorem rk3_13 (a00 a01 a02 a10 a11 a12 a20 a21 a22 w : Int64) : D3 a00 a01 a02 a10 (a11 + w) a12 a20 a21 a22 = D3 a00 a01 a02 a10 a11 a12 a20 a21 a22 + w * D3 a00 0 a02 0 1 0 a20 0 a22 := by
  unfold D3
  grind
theorem rk3_23 (a00 a01 a02 a10 a11 a12 a20 a21 a22 w : Int64) : D3 a00 a01 a02 a10 a11 a12 a20 a21 (a22 + w) = D3 a00 a01 a02 a10 a11 a12 a20 a21 a22 + w * D3 a00 a01 0 a10 a11 0 0 0 1 := by
  unfold D3
  grind
theorem rk4_01 (a00 a01 a02 a03 a10 a11 a12 a13 a20 a21 a22 a23 a30 a31 a32 a33 w : Int64) : D4 (a00 + w) (a01 - w) a02 a03 (a10 - w) (a11 + w) a12 a13 a20 a21 a22 a23 a30 a31 a32 a33 = D4 a00 a01 a02 a03 a10 a11 a12 a13 a20 a21 a22 a23 a30 a31 a32 a33 + w * D4 (a00 + a10 + a01 + a11) 0 (a02 + a12) (a03 + a13) 0 1 0 0 (a20 + a21) 0 a22 a23 (a30 + a31) 0 a32 a33 := by
  unfold D4
  grind
theorem rk4_02 (a00 a01 a02 a03 a10 a11 a12 a13 a20 a21 a22 a23 a30 a31 a32 a33 w : Int64) : D4 (a00 + w) a01 (a02 - w) a03 a10 a11 a12 a13 (a20 - w) a21 (a22 + w) a23 a30 a31 a32 a33 = D4 a00 a01 a02 a03 a10 a11 a12 a13 a20 a21 a22 a23 a30 a31 a32 a33 + w * D4 (a00 + a20 + a02 + a22) (a01 + a21) 0 (a03 + a23) (a10 + a12) a11 0 a13 0 0 1 0 (a30 + a32) a31 0 a33 := by
  unfold D4
  grind
theorem rk4_03 (a00 a01 a02 a03 a10 a11 a12 a13 a20 a21 a22 a23 a30 a31 a32 a33 w : Int64) : D4 (a00 + w) a01 a02 (a03 - w) a10 a11 a12 a13 a20 a21 a22 a23 (a30 - w) a31 a32 (a33 + w) = D4 a00 a01 a02 a03 a10 a11 a12 a13 a20 a21 a22 a23 a30 a31 a32 a33 + w * D4 (a00 + a30 + a03 + a33) (a01 + a31) (a02 + a32) 0 (a10 + a13) a11 a12 0 (a20 + a23) a21 a22 0 0 0 0 1 := by
  unfold D4
  grind
theorem rk4_04 (a00 a01 a02 a03 a10 a11 a12 a13 a20 a21 a22 a23 a30 a31 a32 a33 w : Int64) : D4 (a00 + w) a01 a02 a03 a10 a11 a12 a13 a20 a21 a22 a23 a30 a31 a32 a33 = D4 a00 a01 a02 a03 a10 a11 a12 a13 a20 a21 a22 a23 a30 a31 a32 a33 + w * D4 1 0 0 0 0 a11 a12 a13 0 a21 a22 a23 0 a31 a32 a33 := by
  unfold D4
  grind
theorem rk4_12 (a00 a01 a02 a03 a10 a11 a12 a13 a20 a21 a22 a23 a30 a31 a32 a33 w : Int64) : D4 a00 a01 a02 a03 a10 (a11 + w) (a12 - w) a13 a20 (a21 - w) (a22 + w) a23 a30 a31 a32 a33 = D4 a00 a01 a02 a03 a10 a11 a12 a13 a20 a21 a22 a23 a30 a31 a32 a33 + w * D4 a00 (a01 + a02) 0 a03 (a10 + a20) (a11 + a21 + a12 + a22) 0 (a13 + a23) 0 0 1 0 a30 (a31 + a32) 0 a33 := by
  unfold D4
  grind
theorem rk4_13 (a00 a01 a02 a03 a10 a11 a12 a13 a20 a21 a22 a23 a30 a31 a32 a33 w : Int64) : D4 a00 a01 a02 a03 a10 (a11 + w) a12 (a13 - w) a20 a21 a22 a23 a30 (a31 - w) a32 (a33 + w) = D4 a00 a01 a02 a03 a10 a11 a12 a13 a20 a21 a22 a23 a30 a31 a32 a33 + w * D4 a00 (a01 + a03) a02 0 (a10 + a30) (a11 + a31 + a13 + a33) (a12 + a32) 0 a20 (a21 + a23) a22 0 0 0 0 1 := by
  unfold D4
  grind
theorem rk4_14 (a00 a01 a02 a03 a10 a11 a12 a13 a20 a21 a22 a23 a30 a31 a32 a33 w : Int64) : D4 a00 a01 a02 a03 a10 (a11 + w) a12 a13 a20 a21 a22 a23 a30 a31 a32 a33 = D4 a00 a01 a02 a03 a10 a11 a12 a13 a20 a21 a22 a23 a30 a31 a32 a33 + w * D4 a00 0 a02 a03 0 1 0 0 a20 0 a22 a23 a30 0 a32 a33 := by
  unfold D4
  grind
theorem rk4_23 (a00 a01 a02 a03 a10 a11 a12 a13 a20 a21 a22 a23 a30 a31 a32 a33 w : Int64) : D4 a00 a01 a02 a03 a10 a11 a12 a13 a20 a21 (a22 + w) (a23 - w) a30 a31 (a32 - w) (a33 + w) = D4 a00 a01 a02 a03 a10 a11 a12 a13 a20 a21 a22 a23 a30 a31 a32 a33 + w * D4 a00 a01 (a02 + a03) 0 a10 a11 (a12 + a13) 0 (a20 + a30) (a21 + a31) (a22 + a32 + a23 + a33) 0 0 0 0 1 := by
  unfold D4
  grind
theorem rk4_24 (a00 a01 a02 a03 a10 a11 a12 a13 a20 a21 a22 a23 a30 a31 a32 a33 w : Int64) : D4 a00 a01 a02 a03 a10 a11 a12 a13 a20 a21 (a22 + w) a23 a30 a31 a32 a33 = D4 a00 a01 a02 a03 a10 a11 a12 a13 a20 a21 a22 a23 a30 a31 a32 a33 + w * D4 a00 a01 0 a03 a10 a11 0 a13 0 0 1 0 a30 a31 0 a33 := by
  unfold D4
  grind
theorem rk4_34 (a00 a01 a02 a03 a10 a11 a12 a13 a20 a21 a22 a23 a30 a31 a32 a33 w : Int64) : D4 a00 a01 a02 a03 a10 a11 a12 a13 a20 a21 a22 a23 a30 a31 a32 (a33 + w) = D4 a00 a01 a02 a03 a10 a11 a12 a13 a20 a21 a22 a23 a30 a31 a32 a33 + w * D4 a00 a01 a02 0 a10 a11 a12 0 a20 a21 a22 0 0 0 0 1 := by
  unfold D4
  grind
