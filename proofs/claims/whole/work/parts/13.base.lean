/-! PURE WORK: numbers, bits, loops, the smallest methods. The rows bt, b_.., s_l, s_u are kit/laws/BITS' first family -/
def bt (x : Int32) (i : Nat) : Bool := x.toBitVec.getLsbD i
theorem b_ext {x y : Int32} (h : ∀ i, i < 32 → bt x i = bt y i) : x = y := Int32.toBitVec_inj.mp (BitVec.eq_of_getLsbD_eq (fun i hi => h i hi))
theorem b_or (x y : Int32) (i : Nat) : bt (x ||| y) i = (bt x i || bt y i) := by unfold bt; rw [Int32.toBitVec_or, BitVec.getLsbD_or]
theorem b_and (x y : Int32) (i : Nat) : bt (x &&& y) i = (bt x i && bt y i) := by unfold bt; rw [Int32.toBitVec_and, BitVec.getLsbD_and]
theorem b_xor (x y : Int32) (i : Nat) : bt (x ^^^ y) i = (bt x i ^^ bt y i) := by unfold bt; rw [Int32.toBitVec_xor, BitVec.getLsbD_xor]
theorem b_big {x : Int32} {i : Nat} (h : 32 ≤ i) : bt x i = false := BitVec.getLsbD_of_ge _ _ h
theorem b_255 (i : Nat) : bt 255 i = decide (i < 8) := by
  rcases Nat.lt_or_ge i 32 with h | h
  · exact (by decide +kernel : ∀ i, i < 32 → bt 255 i = decide (i < 8)) i h
  · rw [b_big h, decide_eq_false (by omega)]
theorem b_65535 (i : Nat) : bt 65535 i = decide (i < 16) := by
  rcases Nat.lt_or_ge i 32 with h | h
  · exact (by decide +kernel : ∀ i, i < 32 → bt 65535 i = decide (i < 16)) i h
  · rw [b_big h, decide_eq_false (by omega)]
theorem b_m1 : ∀ i, i < 32 → bt (-1) i = true := by decide +kernel
theorem b_0 (i : Nat) : bt 0 i = false := BitVec.getLsbD_zero
theorem s_l : ∀ n, n < 32 → ((nI n &&& 31).toBitVec.smod 32).toNat = n := by decide +kernel
theorem s_u : ∀ n, n < 32 → (((nI n).toUInt32 &&& Int32.toUInt32 31).toBitVec % 32).toNat = n := by decide +kernel
theorem b_shl (n : Nat) (hn : n < 32) (x : Int32) {i : Nat} (hi : i < 32) : bt (x <<< (nI n &&& 31)) i = (decide (n ≤ i) && bt x (i - n)) := by
  unfold bt
  rw [Int32.toBitVec_shiftLeft]
  show (x.toBitVec <<< ((nI n &&& 31).toBitVec.smod 32).toNat).getLsbD i = _
  rw [s_l n hn, BitVec.getLsbD_shiftLeft]
  rcases Nat.lt_or_ge i n with h | h
  · simp [h, Nat.not_le.mpr h]
  · simp [hi, h, Nat.not_lt.mpr h]
theorem b_ushr (n : Nat) (hn : n < 32) (x : Int32) (i : Nat) : bt ((x.toUInt32 >>> ((nI n).toUInt32 &&& Int32.toUInt32 31)).toInt32) i = bt x (n + i) := by
  show (x.toUInt32 >>> ((nI n).toUInt32 &&& Int32.toUInt32 31)).toBitVec.getLsbD i = x.toUInt32.toBitVec.getLsbD (n + i)
  rw [UInt32.toBitVec_shiftRight]
  show (x.toUInt32.toBitVec >>> (((nI n).toUInt32 &&& Int32.toUInt32 31).toBitVec % 32).toNat).getLsbD i = _
  rw [s_u n hn, BitVec.getLsbD_ushiftRight]
theorem b_sshr (n : Nat) (hn : n < 32) (x : Int32) {i : Nat} (hi : i < 32) : bt (x >>> (nI n &&& 31)) i = if n + i < 32 then bt x (n + i) else bt x 31 := by
  unfold bt
  rw [Int32.toBitVec_shiftRight]
  show (x.toBitVec.sshiftRight ((nI n &&& 31).toBitVec.smod 32).toNat).getLsbD i = _
  rw [s_l n hn, BitVec.getLsbD_sshiftRight, BitVec.msb_eq_getLsbD_last]
  simp [hi]

theorem z_lt0 {a : Nat} (h : a < 2147483648) : nI a < 0 ↔ False := ⟨fun q => nI_pos h q, False.elim⟩
theorem z_eq0 {a : Nat} (h : a < 2147483648) : nI a = 0 ↔ a = 0 := ⟨fun q => (nI_eq h (by omega)).mp q, fun q => by rw [q]; rfl⟩
theorem z_le0 {a : Nat} (h : a < 2147483648) : nI a ≤ 0 ↔ a = 0 := ⟨fun q => Nat.le_zero.mp ((nI_leI (b := 0) h (by omega)).mp q), fun q => by rw [q]; exact nI_le (a := 0) (b := 0) (Nat.le_refl 0) (by omega)⟩
theorem z_0lt {a : Nat} (h : a < 2147483648) : 0 < nI a ↔ 0 < a := nI_ltI (a := 0) (by omega) h
theorem z_0le {a : Nat} (h : a < 2147483648) : 0 ≤ nI a ↔ True := ⟨fun _ => trivial, fun _ => nI_pos' h⟩
theorem z_m1 {a : Nat} (h : a < 2147483648) : nI a = -1 ↔ False := ⟨fun q => nI_pos h (by rw [q]; decide), False.elim⟩
theorem z_m1' {a : Nat} (h : a < 2147483648) : -1 = nI a ↔ False := ⟨fun q => (z_m1 h).mp q.symm, False.elim⟩
theorem z_m1lt {a : Nat} (h : a < 2147483648) : nI a ≤ -1 ↔ False := by
  refine ⟨fun q => ?_, False.elim⟩
  rw [Int32.le_iff_toInt_le, nI_toInt h] at q
  have e : (-1 : Int32).toInt = -1 := by decide
  omega
theorem z_in {n N : Nat} (hn : n < 2147483648) (hN : N < 2147483648) : vp_in (nI n) N ↔ n < N := by
  rw [vp_in_iff, nI_toInt hn]; omega
theorem z_le {a b : Nat} (ha : a < 2147483648) (hb : b < 2147483648) : nI a ≤ nI b ↔ a ≤ b := nI_leI ha hb
theorem z_lt {a b : Nat} (ha : a < 2147483648) (hb : b < 2147483648) : nI a < nI b ↔ a < b := nI_ltI ha hb
theorem z_eq {a b : Nat} (ha : a < 2147483648) (hb : b < 2147483648) : nI a = nI b ↔ a = b := nI_eq ha hb
theorem z_cl {n : Nat} (h : n < 2147483648) : (nI n).toNatClampNeg = n := nI_clamp h
theorem z_sub {a b : Nat} (h : b ≤ a) : nI a - nI b = nI (a - b) := pk_sub h
theorem z_add0 (x : Int32) : x + nI 0 = x := Int32.add_zero x
theorem z_0add (x : Int32) : nI 0 + x = x := Int32.zero_add x
/-- a number is one below n, or none such -/
theorem z_ix (x : Int32) {n : Nat} (hn : n < 2147483648) : (x < 0 ∨ nI n ≤ x) ∨ ∃ j : Nat, j < n ∧ x = nI j := by
  rcases pk_ix x hn with h | h | h
  · exact Or.inl (Or.inl h)
  · exact Or.inl (Or.inr h)
  · exact Or.inr h
theorem z_i2l {a : Nat} (h : a < 2147483648) : (nI a).toInt64 = lN a := nI_l h
theorem z_l2i (a : Nat) : (lN a).toInt32 = nI a := lN_i a
/-! memory -/
theorem si_1 (M : Mem) (i k j l : Nat) (v : Int32) : (si M i k v).1 j l = if j = i ∧ l = k then v else M.1 j l := by
  unfold si sa upd
  by_cases h : j = i
  · subst h
    by_cases h2 : l = k <;> simp [h2]
  · simp [h]
theorem si_2 (M : Mem) (i k : Nat) (v : Int32) : (si M i k v).2 = M.2 := rfl
theorem sj_1 (M : Mem) (i k : Nat) (v : Int64) : (sj M i k v).1 = M.1 := rfl
theorem sj_2 (M : Mem) (i k j l : Nat) (v : Int64) : (sj M i k v).2 j l = if j = i ∧ l = k then v else M.2 j l := by
  unfold sj sb vp_updL
  by_cases h : j = i
  · subst h
    by_cases h2 : l = k <;> simp [h2]
  · simp [h]
theorem si_c {M : Mem} {i k j : Nat} {v : Int32} (h : j ≠ i) : (si M i k v).1 j = M.1 j := by unfold si; exact sa_n h
theorem si_s (M : Mem) (i k : Nat) (v : Int32) : (si M i k v).1 i = upd (M.1 i) k v := by unfold si; exact sa_s _ _ _
theorem si_sa (M : Mem) (i k : Nat) (v : Int32) : si M i k v = sa M i (upd (M.1 i) k v) := rfl
theorem sa_sa (M : Mem) (i : Nat) (f g : Nat → Int32) : sa (sa M i f) i g = sa M i g := by
  unfold sa
  refine Prod.ext ?_ rfl
  funext a
  by_cases h : a = i <;> simp [h]
theorem sa_id (M : Mem) (i : Nat) : sa M i (M.1 i) = M := by
  unfold sa
  refine Prod.ext ?_ rfl
  funext a
  by_cases h : a = i
  · subst h; simp
  · simp [h]
theorem si_si (M : Mem) (i k : Nat) (v w : Int32) : si (si M i k v) i k w = si M i k w := by
  rw [si_sa, si_sa, sa_s, sa_sa, si_sa]
  congr 1
  funext j
  unfold upd
  split <;> rfl
theorem sj_sb (M : Mem) (i k : Nat) (v : Int64) : sj M i k v = sb M i (vp_updL (M.2 i) k v) := rfl
/-! loops -/
theorem lp_up {X : pFr → Prop} (L : Nat → pFr) (n : Nat) (hs : ∀ i, i < n → X (L (i + 1)) → X (L i)) (he : X (L n)) : ∀ i, i ≤ n → X (L i) := by
  intro i hi
  obtain ⟨k, rfl⟩ : ∃ k, n = i + k := ⟨n - i, by omega⟩
  induction k generalizing i with
  | zero => exact he
  | succ k ih => exact hs i (by omega) (ih (i + 1) (fun j hj h => hs j (by omega) h) (by rw [show i + 1 + k = i + (k + 1) by omega]; exact he) (by omega))
theorem lp_0 {X : pFr → Prop} (L : Nat → pFr) (n : Nat) (hs : ∀ i, i < n → X (L (i + 1)) → X (L i)) (he : X (L n)) : X (L 0) := lp_up L n hs he 0 (Nat.zero_le n)
/-! one bit, as Java asks for it -/
abbrev tb (x : Int32) (a : Nat) : Prop := (x >>> (nI a &&& 31)) &&& nI 1 = nI 1
abbrev b1 (a : Nat) : Int32 := nI 1 <<< (nI a &&& 31)
theorem b_one : ∀ i, i < 32 → bt (nI 1) i = decide (i = 0) := by decide +kernel
theorem tb_iff (x : Int32) {a : Nat} (ha : a < 32) : tb x a ↔ bt x a = true := by
  unfold tb
  constructor
  · intro h
    have h0 : bt ((x >>> (nI a &&& 31)) &&& nI 1) 0 = bt (nI 1) 0 := by rw [h]
    rw [b_and, b_sshr a ha x (by omega), b_one 0 (by omega)] at h0
    simpa [ha] using h0
  · intro h
    refine b_ext (fun i hi => ?_)
    rw [b_and, b_sshr a ha x hi, b_one i hi]
    by_cases h0 : i = 0
    · subst h0; simp [ha, h]
    · simp [h0]
theorem tb_or (x y : Int32) {a : Nat} (ha : a < 32) : tb (x ||| y) a ↔ tb x a ∨ tb y a := by
  rw [tb_iff _ ha, tb_iff _ ha, tb_iff _ ha, b_or]; simp
theorem tb_and (x y : Int32) {a : Nat} (ha : a < 32) : tb (x &&& y) a ↔ tb x a ∧ tb y a := by
  rw [tb_iff _ ha, tb_iff _ ha, tb_iff _ ha, b_and]; simp
theorem tb_0 {a : Nat} (ha : a < 32) : ¬ tb (nI 0) a := by
  rw [tb_iff _ ha]; show ¬ bt 0 a = true; rw [b_0]; simp
theorem b_b1 {a i : Nat} (ha : a < 32) (hi : i < 32) : bt (b1 a) i = decide (i = a) := by
  unfold b1
  rw [b_shl a ha _ hi, b_one _ (by omega)]
  by_cases h : a ≤ i
  · simp [h]; omega
  · simp [h]; omega
theorem tb_b1 {a i : Nat} (ha : a < 32) (hi : i < 32) : tb (b1 a) i ↔ i = a := by
  rw [tb_iff _ hi, b_b1 ha hi]; simp
theorem tb_n0 (x : Int32) {a : Nat} (ha : a < 32) : ((x >>> (nI a &&& 31)) &&& nI 1 = nI 0) ↔ ¬ tb x a := by
  rw [tb_iff _ ha]
  constructor
  · intro h
    have h0 : bt ((x >>> (nI a &&& 31)) &&& nI 1) 0 = bt (nI 0) 0 := by rw [h]
    rw [b_and, b_sshr a ha x (by omega), b_one 0 (by omega)] at h0
    have e : bt (nI 0) 0 = false := b_0 0
    rw [e] at h0
    simpa [ha] using h0
  · intro h
    refine b_ext (fun i hi => ?_)
    rw [b_and, b_sshr a ha x hi, b_one i hi]
    have e : bt (nI 0) i = false := b_0 i
    rw [e]
    by_cases h0 : i = 0
    · subst h0; simp [ha, h]
    · simp [h0]
/-- bits of a condition -/
def mk (c : Nat → Bool) : Nat → Int32
  | 0 => nI 0
  | a + 1 => if c a then mk c a ||| b1 a else mk c a
theorem mk_bt (c : Nat → Bool) : ∀ n, n ≤ 32 → ∀ i, i < 32 → bt (mk c n) i = (decide (i < n) && c i)
  | 0, _, i, hi => by simp [mk]; exact b_0 i
  | n + 1, hn, i, hi => by
    unfold mk
    have ih := mk_bt c n (by omega) i hi
    by_cases h : c n
    · rw [if_pos h, b_or, ih, b_b1 (by omega) hi]
      by_cases e : i = n
      · subst e; simp [h]
      · by_cases l : i < n
        · simp [e, l, show i < n + 1 by omega]
        · simp [e, l, show ¬ i < n + 1 by omega]
    · rw [if_neg h, ih]
      by_cases e : i = n
      · subst e; simp [h]
      · by_cases l : i < n
        · simp [l, show i < n + 1 by omega]
        · simp [l, show ¬ i < n + 1 by omega]
theorem mk_tb (c : Nat → Bool) {n a : Nat} (hn : n ≤ 32) (ha : a < 32) : tb (mk c n) a ↔ a < n ∧ c a = true := by
  rw [tb_iff _ ha, mk_bt c n hn a ha]; simp
theorem mk_congr {c c' : Nat → Bool} : ∀ n, (∀ a, a < n → c a = c' a) → mk c n = mk c' n
  | 0, _ => rfl
  | n + 1, h => by
    unfold mk
    rw [h n (by omega), mk_congr n (fun a ha => h a (by omega))]
/-- the sum of what bits name -/
def wS (f : Nat → Int32) (x : Int32) : Nat → Int32
  | 0 => nI 0
  | a + 1 => if tb x a then wS f x a + f a else wS f x a
theorem wS_congr {f g : Nat → Int32} {x y : Int32} : ∀ n, (∀ a, a < n → f a = g a) → (∀ a, a < n → (tb x a ↔ tb y a)) → wS f x n = wS g y n
  | 0, _, _ => rfl
  | n + 1, h, h2 => by
    unfold wS
    rw [h n (by omega), wS_congr n (fun a ha => h a (by omega)) (fun a ha => h2 a (by omega))]
    by_cases c : tb x n
    · rw [if_pos c, if_pos ((h2 n (by omega)).mp c)]
    · rw [if_neg c, if_neg (fun q => c ((h2 n (by omega)).mpr q))]
section S
variable {pl : Option Nat} {tl : List LC} {d : Nat} {M : Mem}
theorem s_in {Q : Int32 → Mem → Prop} {x lo hi : Int64} (h : Q (if lo ≤ x ∧ x ≤ hi then nI 1 else nI 0) M) : exI (LY pl tl) (d + 1) 134 [.long x, .long lo, .long hi] M Q := by
  refine e_X11_in ⟨fun c => ?_, fun c => ⟨fun c2 => ?_, fun c2 => ?_⟩⟩
  · rw [lg_cmp_lt] at c
    rw [if_neg (fun q => by rw [Int64.lt_iff_toInt_lt] at c; have := q.1; rw [Int64.le_iff_toInt_le] at this; omega)] at h
    exact h
  · rw [lg_cmp_gt] at c2
    rw [if_neg (fun q => by rw [Int64.lt_iff_toInt_lt] at c2; have := q.2; rw [Int64.le_iff_toInt_le] at this; omega)] at h
    exact h
  · rw [lg_cmp_lt] at c
    rw [lg_cmp_gt] at c2
    rw [if_pos ⟨by rw [Int64.lt_iff_toInt_lt] at c; rw [Int64.le_iff_toInt_le]; omega, by rw [Int64.lt_iff_toInt_lt] at c2; rw [Int64.le_iff_toInt_le]; omega⟩] at h
    exact h
theorem z_wle (a b : Int32) : a.toInt64 ≤ b.toInt64 ↔ a ≤ b := by rw [Int64.le_iff_toInt_le, Int32.le_iff_toInt_le, Int32.toInt_toInt64, Int32.toInt_toInt64]
/-- 0 .. n - 1, as the reference asks -/
theorem s_inN {Q : Int32 → Mem → Prop} {x : Int32} {n : Nat} (hn : n < 2147483648) (hy : ∀ j, j < n → x = nI j → Q (nI 1) M) (hno : (x < 0 ∨ nI n ≤ x) → Q (nI 0) M) : exI (LY pl tl) (d + 1) 134 [.long x.toInt64, .long (lN 0), .long (nI n - nI 1).toInt64] M Q := by
  refine s_in ?_
  rw [show lN 0 = (nI 0).toInt64 from rfl]
  simp only [z_wle]
  rcases z_ix x hn with h | ⟨j, hj, e⟩
  · rw [if_neg]
    · exact hno h
    · intro q
      obtain ⟨q1, q2⟩ := q
      rw [Int32.le_iff_toInt_le] at q1 q2
      have e0 : (nI 0).toInt = 0 := by decide
      have e1 : (nI n - nI 1).toInt = (n : Int) - 1 := by
        rcases Nat.eq_zero_or_pos n with h0 | h0
        · subst h0; decide
        · rw [pk_sub (by omega), nI_toInt (by omega)]; omega
      rcases h with h | h
      · rw [Int32.lt_iff_toInt_lt] at h
        have e2 : (0 : Int32).toInt = 0 := by decide
        omega
      · rw [Int32.le_iff_toInt_le, nI_toInt hn] at h
        omega
  · subst e
    rw [if_pos]
    · exact hy j hj rfl
    · refine ⟨nI_le (Nat.zero_le _) (by omega), ?_⟩
      rw [pk_sub (by omega)]
      exact nI_le (by omega) (by omega)
theorem s_mNode {Q : Int32 → Mem → Prop} {x : Int32} (hy : ∀ j, j < 12 → x = nI j → Q (nI 1) M) (hno : (x < 0 ∨ nI 12 ≤ x) → Q (nI 0) M) : exI (LY pl tl) (d + 2) 140 [.int x] M Q := by
  refine e_X11_isNode ?_
  rw [show lN 11 = (nI 12 - nI 1).toInt64 from rfl]
  exact s_inN (by omega) (fun j hj e => ⟨Or.inr rfl, hy j hj e⟩) (fun h => ⟨Or.inl rfl, hno h⟩)
theorem s_mStation {Q : Int32 → Mem → Prop} {x : Int32} {n : Nat} (hn : n ≤ 8) (hM : M.1 53 456 = nI n) (hy : ∀ j, j < n → x = nI j → Q (nI 1) M) (hno : (x < 0 ∨ nI n ≤ x) → Q (nI 0) M) : exI (LY pl tl) (d + 2) 141 [.ref 52, .int x] M Q := by
  refine e_X11_isStation ?_
  rw [hM]
  exact s_inN (by omega) (fun j hj e => ⟨Or.inr rfl, hy j hj e⟩) (fun h => ⟨Or.inl rfl, hno h⟩)
theorem s_mEngine {Q : Int32 → Mem → Prop} {x : Int32} {n : Nat} (hn : n ≤ 6) (hM : M.1 53 457 = nI n) (hy : ∀ j, j < n → x = nI j → Q (nI 1) M) (hno : (x < 0 ∨ nI n ≤ x) → Q (nI 0) M) : exI (LY pl tl) (d + 2) 142 [.ref 52, .int x] M Q := by
  refine e_X11_isEngine ?_
  rw [hM]
  exact s_inN (by omega) (fun j hj e => ⟨Or.inr rfl, hy j hj e⟩) (fun h => ⟨Or.inl rfl, hno h⟩)
theorem s_cNode {Q : Int32 → Mem → Prop} {x : Int32} (hy : ∀ j, j < 12 → x = nI j → Q (nI 1) M) (hno : (x < 0 ∨ nI 12 ≤ x) → Q (nI 0) M) : exI (LY pl tl) (d + 1) 46 [.int x] M Q := by
  refine e_X10_isNode ⟨fun c => hno (Or.inl c), fun c => ⟨fun c2 => hno (Or.inr c2), fun c2 => ?_⟩⟩
  rcases z_ix x (n := 12) (by omega) with (h | h) | ⟨j, hj, e⟩
  · exact absurd h c
  · exact absurd h c2
  · exact hy j hj e
theorem s_weigh {Q : Int32 → Mem → Prop} {x : Int32} (h : Q (wS (M.1 17) x 12) M) : exI (LY pl tl) (d + 1) 89 [.ref 16, .int x] M Q := by
  refine e_X3_weigh_16 (lp_0 (X := fx (LY pl tl) d m_X3_weigh (qI Q)) (fun a => (4, [some (.ref 16), some (.int x), some (.int (wS (M.1 17) x a)), some (.int (nI a))], [], M)) 12 (fun a ha hn => ?_) ?_)
  · refine c_X3_weigh_16_4 (br_f (nI_ge ha (by omega)) ⟨fun c => ?_, fun c => ⟨(z_in (by omega) (by omega)).mpr ha, ?_⟩⟩)
    · rw [nI_add]
      simp only [wS, if_neg c] at hn
      exact hn
    · rw [nI_add, z_cl (by omega)]
      simp only [wS, if_pos c] at hn
      exact hn
  · exact c_X3_weigh_16_4 (br_t (nI_le (Nat.le_refl _) (by omega)) h)
theorem s_weightOf {Q : Int32 → Mem → Prop} {x : Int32} (h : Q (wS (M.1 53) x 12) M) : exI (LY pl tl) (d + 1) 166 [.ref 52, .int x] M Q := by
  refine e_X11_weightOf (lp_0 (X := fx (LY pl tl) d m_X11_weightOf (qI Q)) (fun a => (4, [some (.ref 52), some (.int x), some (.int (wS (M.1 53) x a)), some (.int (nI a))], [], M)) 12 (fun a ha hn => ?_) ?_)
  · refine c_X11_weightOf_4 (br_f (nI_ge ha (by omega)) ⟨fun c => ?_, fun c => ⟨?_, ?_⟩⟩)
    · rw [nI_add, z_add0]
      simp only [wS, if_neg c] at hn
      exact hn
    · rw [z_0add]; exact (z_in (by omega) (by omega)).mpr (by omega)
    · rw [z_0add, nI_add, z_cl (by omega)]
      simp only [wS, if_pos c] at hn
      exact hn
  · exact c_X11_weightOf_4 (br_t (nI_le (Nat.le_refl _) (by omega)) h)
end S
