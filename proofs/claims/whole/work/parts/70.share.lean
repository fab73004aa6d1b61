/-! SHARE: the class's whole numbers are the float's bits -/
theorem fp_dec : ∀ a, a < 1189 → a = 0 ∨ FP.Core.decode FP.Core.b32 (FP.i2f (nI a)).toNat = .fin false (a * 2 ^ (23 - a.log2)) ((a.log2 : Int) - 23) := by decide +kernel
theorem lg_a {a : Nat} (h0 : 0 < a) (h : a ≤ 1188) : a.log2 ≤ 10 ∧ 2 ^ 23 ≤ a * 2 ^ (23 - a.log2) ∧ a * 2 ^ (23 - a.log2) < 2 ^ 24 := by
  have h1 : 2 ^ a.log2 ≤ a := Nat.log2_self_le (by omega)
  have h2 : a < 2 ^ (a.log2 + 1) := Nat.lt_log2_self
  have h3 : a.log2 < 11 := (Nat.log2_lt (by omega)).mpr (by omega)
  have p1 : 2 ^ a.log2 * 2 ^ (23 - a.log2) = 2 ^ 23 := by rw [← Nat.pow_add]; congr 1; omega
  have p2 : 2 ^ (a.log2 + 1) * 2 ^ (23 - a.log2) = 2 ^ 24 := by rw [← Nat.pow_add]; congr 1; omega
  refine ⟨by omega, ?_, ?_⟩
  · rw [← p1]; exact Nat.mul_le_mul_right _ h1
  · rw [← p2]; exact Nat.mul_lt_mul_of_pos_right h2 (Nat.pow_pos (by decide))
/-- how far the part is shifted until it is no less than the whole -/
def sft (a b : Nat) : Nat := if b * 2 ^ (23 - b.log2) ≤ a * 2 ^ (23 - a.log2) then b.log2 - a.log2 else b.log2 - a.log2 + 1
theorem sft_ok {a b : Nat} (h0 : 0 < a) (hab : a ≤ b) (hb : b ≤ 1188) : sft a b ≤ 11 ∧ b ≤ a * 2 ^ sft a b ∧ a * 2 ^ sft a b < 2 * b ∧ ∀ v, v < sft a b → a * 2 ^ v < b := by
  obtain ⟨a1, a2, a3⟩ := lg_a h0 (by omega)
  obtain ⟨b1, b2, b3⟩ := lg_a (a := b) (by omega) hb
  have hl : a.log2 ≤ b.log2 := (Nat.le_log2 (by omega)).mpr (Nat.le_trans (Nat.log2_self_le (by omega)) hab)
  have pk : 0 < 2 ^ (23 - b.log2) := Nat.pow_pos (by decide)
  -- everything times 2 ^ (23 - log2 b)
  have e0 : ∀ k, a * 2 ^ (b.log2 - a.log2 + k) * 2 ^ (23 - b.log2) = a * 2 ^ (23 - a.log2) * 2 ^ k := fun k => by
    rw [Nat.mul_assoc, Nat.mul_assoc, ← Nat.pow_add, ← Nat.pow_add]; congr 2; omega
  have mono : ∀ v k, v ≤ k → a * 2 ^ v ≤ a * 2 ^ k := fun v k h => Nat.mul_le_mul_left _ (Nat.pow_le_pow_right (by decide) h)
  have dbl : ∀ k, a * 2 ^ (k + 1) = 2 * (a * 2 ^ k) := fun k => by rw [Nat.pow_succ, ← Nat.mul_assoc, Nat.mul_comm]
  by_cases c : b * 2 ^ (23 - b.log2) ≤ a * 2 ^ (23 - a.log2)
  · have es : sft a b = b.log2 - a.log2 := if_pos c
    have e1 := e0 0
    rw [Nat.add_zero, Nat.pow_zero, Nat.mul_one] at e1
    have k1 : b ≤ a * 2 ^ (b.log2 - a.log2) := Nat.le_of_mul_le_mul_right (by rw [e1]; exact c) pk
    have k2 : a * 2 ^ (b.log2 - a.log2) < 2 * b := by
      refine Nat.lt_of_mul_lt_mul_right (a := 2 ^ (23 - b.log2)) ?_
      rw [e1, Nat.mul_assoc]; omega
    rw [es]
    refine ⟨by omega, k1, k2, fun v hv => ?_⟩
    have := mono (v + 1) (b.log2 - a.log2) (by omega)
    rw [dbl] at this
    omega
  · have es : sft a b = b.log2 - a.log2 + 1 := if_neg c
    have e1 := e0 0
    rw [Nat.add_zero, Nat.pow_zero, Nat.mul_one] at e1
    have k0 : a * 2 ^ (b.log2 - a.log2) < b := by
      refine Nat.lt_of_mul_lt_mul_right (a := 2 ^ (23 - b.log2)) ?_
      rw [e1]; omega
    have k1 : b ≤ a * 2 ^ (b.log2 - a.log2 + 1) := by
      refine Nat.le_of_mul_le_mul_right ?_ pk
      rw [e0 1]; omega
    rw [es]
    refine ⟨by omega, k1, by rw [dbl]; omega, fun v hv => ?_⟩
    have := mono v (b.log2 - a.log2) (by omega)
    omega
def nrN (a b : Nat) : Nat := a * 2 ^ (sft a b + 23) / b + (if b < 2 * (a * 2 ^ (sft a b + 23) % b) then 1 else 0)
def qbN (a b : Nat) : Nat := (127 - sft a b) * 8388608 + nrN a b - 8388608
theorem nr_ok {a b : Nat} (h0 : 0 < a) (hab : a ≤ b) (hb : b ≤ 1188) : 8388608 ≤ nrN a b ∧ nrN a b ≤ 16777216 := by
  obtain ⟨-, s1, s2, -⟩ := sft_ok h0 hab hb
  have e : a * 2 ^ (sft a b + 23) = a * 2 ^ sft a b * 8388608 := by rw [Nat.pow_add, ← Nat.mul_assoc]
  have l1 : 8388608 ≤ a * 2 ^ (sft a b + 23) / b := by
    rw [Nat.le_div_iff_mul_le (by omega), e, Nat.mul_comm]
    exact Nat.mul_le_mul_right _ s1
  have l2 : a * 2 ^ (sft a b + 23) / b < 16777216 := by
    rw [Nat.div_lt_iff_lt_mul (by omega), e]
    omega
  unfold nrN
  split <;> omega
theorem no_tie {a b k : Nat} (hb0 : 0 < b) (hb : b ≤ 1188) (hk : 23 ≤ k) : 2 * (a * 2 ^ k % b) ≠ b := fun z => by
  have e1 : a * 2 ^ k = b * (a * 2 ^ k / b) + a * 2 ^ k % b := (Nat.div_add_mod _ _).symm
  have e2 : a * 2 ^ (k + 1) = (2 * (a * 2 ^ k / b) + 1) * b := by
    rw [Nat.pow_succ, ← Nat.mul_assoc, Nat.add_mul, Nat.mul_assoc 2, Nat.mul_comm (a * 2 ^ k / b) b]
    omega
  have d : 2 ^ 24 ∣ (2 * (a * 2 ^ k / b) + 1) * b := by
    rw [← e2]
    exact Nat.dvd_mul_left_of_dvd (Nat.pow_dvd_pow 2 (by omega)) a
  have cp : Nat.Coprime (2 ^ 24) (2 * (a * 2 ^ k / b) + 1) := Nat.Coprime.pow_left 24 (by
    unfold Nat.Coprime
    rw [Nat.gcd_rec, show (2 * (a * 2 ^ k / b) + 1) % 2 = 1 by omega]
    decide)
  have := Nat.le_of_dvd hb0 (Nat.Coprime.dvd_of_dvd_mul_left cp d)
  omega
theorem near_k {k n d : Nat} (hk : 0 < k) : FP.Core.nearest (k * n) (k * d) = FP.Core.nearest n d := by
  unfold FP.Core.nearest
  rw [Nat.mul_mod_mul_left, Nat.mul_div_mul_left _ _ hk]
  have e1 : 2 * (k * (n % d)) < k * d ↔ 2 * (n % d) < d := by
    rw [show 2 * (k * (n % d)) = k * (2 * (n % d)) by rw [← Nat.mul_assoc, Nat.mul_comm 2 k, Nat.mul_assoc]]
    exact Nat.mul_lt_mul_left hk
  have e2 : k * d < 2 * (k * (n % d)) ↔ d < 2 * (n % d) := by
    rw [show 2 * (k * (n % d)) = k * (2 * (n % d)) by rw [← Nat.mul_assoc, Nat.mul_comm 2 k, Nat.mul_assoc]]
    exact Nat.mul_lt_mul_left hk
  simp only [e1, e2]
theorem near_q {a b : Nat} (h0 : 0 < a) (hab : a ≤ b) (hb : b ≤ 1188) : FP.Core.nearest (a * 2 ^ (sft a b + 23)) b = nrN a b := by
  have nt := no_tie (a := a) (k := sft a b + 23) (show 0 < b by omega) hb (by omega)
  unfold FP.Core.nearest nrN
  by_cases c : 2 * (a * 2 ^ (sft a b + 23) % b) < b
  · rw [if_pos c, if_neg (by omega)]; rfl
  · rw [if_neg c, if_pos (by omega), if_pos (by omega)]
theorem fl_div {a b : Nat} (h0 : 0 < a) (hab : a ≤ b) (hb : b ≤ 1188) : FP.Core.div FP.Core.b32 (FP.i2f (nI a)).toNat (FP.i2f (nI b)).toNat = qbN a b := by
  obtain ⟨a1, a2, a3⟩ := lg_a h0 (by omega)
  obtain ⟨b1, b2, b3⟩ := lg_a (a := b) (by omega) hb
  have hl : a.log2 ≤ b.log2 := (Nat.le_log2 (by omega)).mpr (Nat.le_trans (Nat.log2_self_le (by omega)) hab)
  have da := (fp_dec a (by omega)).resolve_left (by omega)
  have db := (fp_dec b (by omega)).resolve_left (by omega)
  have pk : 0 < 2 ^ (23 - b.log2) := Nat.pow_pos (by decide)
  have nq := near_q h0 hab hb
  obtain ⟨n1, n2⟩ := nr_ok h0 hab hb
  have sl := (sft_ok h0 hab hb).1
  unfold FP.Core.div
  rw [da, db]
  unfold FP.Core.quotient
  dsimp only
  rw [if_neg (by omega)]
  unfold FP.Core.roundRatio
  rw [if_neg (by omega)]
  have lA : (a * 2 ^ (23 - a.log2)).log2 = 23 := (Nat.log2_eq_iff (by omega)).mpr ⟨a2, a3⟩
  have lB : (b * 2 ^ (23 - b.log2)).log2 = 23 := (Nat.log2_eq_iff (by omega)).mpr ⟨b2, b3⟩
  have hle : FP.Core.leading (a * 2 ^ (23 - a.log2)) (b * 2 ^ (23 - b.log2)) = if b * 2 ^ (23 - b.log2) ≤ a * 2 ^ (23 - a.log2) then 0 else -1 := by
    unfold FP.Core.leading
    rw [lA, lB]
    dsimp only
    rw [show ((23 : Nat) : Int) - ((23 : Nat) : Int) = 0 by omega]
    simp
  have hq : FP.Core.quantum FP.Core.b32 (a * 2 ^ (23 - a.log2)) (b * 2 ^ (23 - b.log2)) (((a.log2 : Int) - 23) - ((b.log2 : Int) - 23)) = -(sft a b : Int) - 23 := by
    unfold FP.Core.quantum
    rw [hle, show FP.Core.b32.qmin = -149 by decide, show ((FP.Core.b32.p : Int) - 1) = 23 by decide]
    unfold sft at sl ⊢
    split at sl
    · next c => rw [if_pos c, if_pos c]; omega
    · next c => rw [if_neg c, if_neg c]; omega
  rw [hq]
  unfold FP.Core.roundAt
  have hu : FP.Core.unitsNum (a * 2 ^ (23 - a.log2)) (((a.log2 : Int) - 23) - ((b.log2 : Int) - 23)) (-(sft a b : Int) - 23) = 2 ^ (23 - b.log2) * (a * 2 ^ (sft a b + 23)) := by
    unfold FP.Core.unitsNum
    have e1 : ((((a.log2 : Int) - 23) - ((b.log2 : Int) - 23)) - (-(sft a b : Int) - 23)).toNat = sft a b + 23 + a.log2 - b.log2 := by omega
    rw [e1, Nat.mul_left_comm, Nat.mul_assoc, ← Nat.pow_add, ← Nat.pow_add]
    congr 2
    have : b.log2 ≤ sft a b + a.log2 := by unfold sft; split <;> omega
    omega
  have hd : FP.Core.unitsDen (b * 2 ^ (23 - b.log2)) (((a.log2 : Int) - 23) - ((b.log2 : Int) - 23)) (-(sft a b : Int) - 23) = 2 ^ (23 - b.log2) * b := by
    unfold FP.Core.unitsDen
    have e1 : ((-(sft a b : Int) - 23) - (((a.log2 : Int) - 23) - ((b.log2 : Int) - 23))).toNat = 0 := by
      have : sft a b ≤ b.log2 - a.log2 + 1 := by unfold sft; split <;> omega
      omega
    rw [e1, Nat.pow_zero, Nat.mul_one, Nat.mul_comm]
  rw [hu, hd, near_k pk, nq]
  unfold FP.Core.settle
  rw [show (2 : Nat) ^ FP.Core.b32.p = 16777216 by decide]
  by_cases c : nrN a b < 16777216
  · rw [if_pos c]
    unfold FP.Core.bound
    rw [show FP.Core.b32.qmax = 104 by decide, if_pos (by omega)]
    unfold FP.Core.encode
    dsimp only
    rw [show FP.Core.b32.tails = 8388608 by decide, if_neg (by omega)]
    unfold FP.Core.assemble
    rw [show FP.Core.b32.tails = 8388608 by decide, show FP.Core.b32.qmin = -149 by decide, show Bool.toNat ((false : Bool) != false) = 0 by decide, Nat.zero_mul, Nat.zero_add]
    have e1 : (-(sft a b : Int) - 23 - -149).toNat + 1 = 127 - sft a b := by omega
    rw [e1]
    unfold qbN
    omega
  · rw [if_neg c]
    unfold FP.Core.bound
    rw [show FP.Core.b32.qmax = 104 by decide, if_pos (by omega)]
    unfold FP.Core.encode
    dsimp only
    rw [show FP.Core.b32.tails = 8388608 by decide, if_neg (by omega)]
    unfold FP.Core.assemble
    rw [show FP.Core.b32.tails = 8388608 by decide, show FP.Core.b32.qmin = -149 by decide, show Bool.toNat ((false : Bool) != false) = 0 by decide, Nat.zero_mul, Nat.zero_add]
    have e1 : (-(sft a b : Int) - 23 + 1 - -149).toNat + 1 = 127 - sft a b + 1 := by omega
    rw [e1]
    unfold qbN
    omega
