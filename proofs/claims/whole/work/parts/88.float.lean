/-! SHARE: floats, as the machine has them -/
theorem dec_nan (n : Nat) : FP.Core.decode FP.Core.b32 n = .nan ↔ 2139095040 < n % 2147483648 := by
  have e1 : (FP.Core.b32).tails = 8388608 := by decide
  have e2 : (FP.Core.b32).exps = 256 := by decide
  unfold FP.Core.decode FP.Core.fieldE FP.Core.fieldT
  rw [e1, e2]
  by_cases h1 : n / 8388608 % 256 = 256 - 1
  · rw [if_pos h1]
    by_cases h2 : n % 8388608 = 0
    · rw [if_pos h2]
      refine ⟨fun h => FP.Core.Datum.noConfusion h, fun h => ?_⟩
      omega
    · rw [if_neg h2]
      refine ⟨fun _ => ?_, fun _ => rfl⟩
      omega
  · rw [if_neg h1]
    refine ⟨fun h => ?_, fun h => ?_⟩
    · split at h <;> exact FP.Core.Datum.noConfusion h
    · omega
theorem nan_iff (x : UInt32) : isNaN32 x = true ↔ 2139095040 < x.toNat % 2147483648 := by
  unfold isNaN32
  rw [decide_eq_true_iff]
  show (0x7f800000 : UInt32) < x &&& 0x7fffffff ↔ _
  rw [UInt32.lt_iff_toNat_lt, UInt32.toNat_and]
  have e1 : (0x7f800000 : UInt32).toNat = 2139095040 := by decide
  have e2 : (0x7fffffff : UInt32).toNat = 2 ^ 31 - 1 := by decide
  rw [e1, e2, Nat.and_two_pow_sub_one_eq_mod]
theorem cs_self (z : Int) : compare z z = .eq := by
  show compareOfLessAndEq z z = .eq
  unfold compareOfLessAndEq
  rw [if_neg (Int.lt_irrefl z), if_pos rfl]
theorem fc_nan {x : UInt32} (h : isNaN32 x = true) : Op.cmpValue (FP.fcmp x x) .l = -1 := by
  have hd := (dec_nan x.toNat).mpr ((nan_iff x).mp h)
  show Op.cmpValue (FP.Core.order (FP.Core.decode FP.Core.b32 x.toNat) (FP.Core.decode FP.Core.b32 x.toNat)) .l = -1
  rw [hd]
  rfl
theorem fc_num {x : UInt32} (h : isNaN32 x = false) : Op.cmpValue (FP.fcmp x x) .l = 0 := by
  have hd : ¬ FP.Core.decode FP.Core.b32 x.toNat = .nan := fun z => by
    have := (nan_iff x).mpr ((dec_nan x.toNat).mp z)
    rw [h] at this
    cases this
  show Op.cmpValue (FP.Core.order (FP.Core.decode FP.Core.b32 x.toNat) (FP.Core.decode FP.Core.b32 x.toNat)) .l = 0
  cases hc : FP.Core.decode FP.Core.b32 x.toNat with
  | nan => exact absurd hc hd
  | inf s =>
    show Op.cmpValue (some (compare (FP.Core.signed s 1) (FP.Core.signed s 1))) .l = 0
    rw [cs_self]; rfl
  | fin s c q =>
    show Op.cmpValue (some (compare (FP.Core.signed s (FP.Core.inUnits c q (min q q))) (FP.Core.signed s (FP.Core.inUnits c q (min q q))))) .l = 0
    rw [cs_self]; rfl
theorem fd_00 : isNaN32 (FP.fdiv (FP.i2f (nI 0)) (FP.i2f (nI 0))) = true := by decide +kernel
theorem fd_0b : ∀ b, b < 1189 → b = 0 ∨ FP.fdiv (FP.i2f (nI 0)) (FP.i2f (nI b)) = 0 := by decide +kernel
theorem qb_le {a b : Nat} (h0 : 0 < a) (hab : a ≤ b) (hb : b ≤ 1188) : qbN a b ≤ 1073741824 := by
  obtain ⟨n1, n2⟩ := nr_ok h0 hab hb
  unfold qbN
  omega
/-- what floatToIntBits answers -/
def fbI (r : UInt32) : Int32 := if isNaN32 r = true then nI 2143289344 else r.toInt32
theorem al_num {r f : UInt32} (h : alike32 r f = true) (hf : isNaN32 f = false) : r = f := by
  unfold alike32 at h
  rw [hf, Bool.and_false, Bool.or_false] at h
  exact of_decide_eq_true h
theorem al_nan {r f : UInt32} (h : alike32 r f = true) (hf : isNaN32 f = true) : isNaN32 r = true := by
  unfold alike32 at h
  rw [hf, Bool.and_true, Bool.or_eq_true] at h
  rcases h with h | h
  · rw [of_decide_eq_true h]; exact hf
  · exact h
theorem sh_bits {a b : Nat} {r : UInt32} (hab : a ≤ b) (hb : b ≤ 1188) (h : alike32 r (FP.fdiv (FP.i2f (nI a)) (FP.i2f (nI b))) = true) : fbI r = nI (shB a b) := by
  unfold fbI shB
  by_cases hb0 : b = 0
  · subst hb0
    have ha : a = 0 := by omega
    subst ha
    rw [if_pos (al_nan h fd_00), if_pos rfl]
  · rw [if_neg hb0]
    by_cases ha : a = 0
    · subst ha
      rw [if_pos rfl]
      have e := (fd_0b b (by omega)).resolve_left hb0
      rw [e] at h
      have hr := al_num h (by decide)
      rw [hr]
      decide
    · rw [if_neg ha]
      have e : FP.fdiv (FP.i2f (nI a)) (FP.i2f (nI b)) = UInt32.ofNat (qbN a b) := by
        show UInt32.ofNat (FP.Core.div FP.Core.b32 (FP.i2f (nI a)).toNat (FP.i2f (nI b)).toNat) = _
        rw [fl_div (by omega) hab hb]
      rw [e] at h
      have hq := qb_le (by omega) hab hb
      have et : (UInt32.ofNat (qbN a b)).toNat = qbN a b := by
        rw [UInt32.toNat_ofNat']
        exact Nat.mod_eq_of_lt (by omega)
      have hn : isNaN32 (UInt32.ofNat (qbN a b)) = false := by
        cases hz : isNaN32 (UInt32.ofNat (qbN a b)) with
        | false => rfl
        | true =>
          have := (nan_iff _).mp hz
          rw [et] at this
          omega
      have hr := al_num h hn
      rw [hr, if_neg (by rw [hn]; exact Bool.noConfusion)]
      rfl
section S88
variable {pl : Option Nat} {tl : List LC} {d : Nat} {M : Mem} {t : Nat}
/-- the reference's share, up to its floats -/
theorem m_shareP (hv : V (M.1 53) t) {Q2 : Int32 → Int32 → Mem → Prop} (h : Q2 (nI (shA (M.1 53) (rcN (M.1 53)))) (nI (shT (M.1 53))) (lyM (thr M) (rcN (M.1 53)))) : exV (LY pl tl) (d + 5) 165 [.ref 52] (si M 52 7 (nI 0)) (fun M1 => exI (LY pl tl) (d + 5) 189 [.ref 52] M1 (fun r2 M2 => exI (LY pl tl) (d + 5) 166 [.ref 52, .int r2] M2 (fun r3 M3 => exI (LY pl tl) (d + 5) 186 [.ref 52] M3 (fun r4 M4 => Q2 r3 r4 M4)))) := by
  obtain ⟨e1, e2, e3, e4⟩ := sh_ok hv.1 (rcN (M.1 53))
  rw [← e1, ← e2] at h
  exact s_ly (t := t) hv (s_reachedNow (r := rcN (M.1 53)) hv.2.1 (ly59 (M := thr M)) hv.1.1.2 (s_nowW (s_allWeights h)))
end S88
