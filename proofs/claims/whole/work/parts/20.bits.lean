/-! COUNTS OF BITS, by the kernel -/
def pcn (m : Nat) : Nat := cn (fun i => m.testBit i) 8
def bcI (x : Int32) : Int32 :=
  let a := x - (((x.toUInt32 >>> ((nI 1).toUInt32 &&& Int32.toUInt32 31)).toInt32) &&& nI 1431655765)
  let b := (a &&& nI 858993459) + (((a.toUInt32 >>> ((nI 2).toUInt32 &&& Int32.toUInt32 31)).toInt32) &&& nI 858993459)
  let c := (b + ((b.toUInt32 >>> ((nI 4).toUInt32 &&& Int32.toUInt32 31)).toInt32)) &&& nI 252645135
  let e := c + ((c.toUInt32 >>> ((nI 8).toUInt32 &&& Int32.toUInt32 31)).toInt32)
  let f := e + ((e.toUInt32 >>> ((nI 16).toUInt32 &&& Int32.toUInt32 31)).toInt32)
  f &&& nI 63
theorem bcI_ok : ∀ m, m < 256 → bcI (nI m) = nI (pcn m) := by decide +kernel
theorem pc_step : ∀ m, m < 256 → 0 < m → nI m &&& (nI m - nI 1) = nI (m &&& (m - 1)) ∧ (m &&& (m - 1)) < m ∧ pcn m = pcn (m &&& (m - 1)) + 1 := by decide +kernel
theorem pc_full : ∀ n, n ≤ 8 → ∀ k, k ≤ n → 2 ^ k - 1 < 2 ^ n ∧ pcn (2 ^ k - 1) = k := by decide +kernel
theorem pc_add : ∀ n, n < 8 → ∀ a, a < 256 → a < 2 ^ n → pcn (a + 2 ^ n) = pcn a + 1 ∧ nI a ||| b1 n = nI (a + 2 ^ n) := by decide +kernel
