/-! WHAT MAY BE EXPECTED. The rows wb_.., g_.., pf_.. are kit/laws/BITS' -/
theorem wb_tb (n : Nat) : (lN n).toBitVec = BitVec.ofNat 64 n := rfl
theorem wb_inj {a b : Int64} (h : a.toBitVec = b.toBitVec) : a = b := Int64.toBitVec_inj.mp h
theorem wb_c : ∀ k, k < 64 → ((nI k).toInt64 &&& 63) = lN k := by decide +kernel
theorem wb_sm : ∀ k, k < 64 → (BitVec.ofNat 64 k).smod 64 = BitVec.ofNat 64 k := by decide +kernel
theorem wb_shl (n : Nat) {k : Nat} (hk : k < 64) : lN n <<< ((nI k).toInt64 &&& 63) = lN (n * 2 ^ k) := by
  rw [wb_c k hk]
  apply wb_inj
  rw [Int64.toBitVec_shiftLeft, wb_tb, wb_tb, wb_tb, wb_sm k hk]
  apply BitVec.eq_of_toNat_eq
  rw [BitVec.shiftLeft_eq', BitVec.toNat_shiftLeft, BitVec.toNat_ofNat, BitVec.toNat_ofNat, BitVec.toNat_ofNat, Nat.mod_eq_of_lt (show k < 2 ^ 64 by omega), Nat.shiftLeft_eq, Nat.mul_mod, Nat.mod_mod, ← Nat.mul_mod]
theorem u_tn {n : Nat} (h : n < 2 ^ 64) : (UInt64.ofNat n).toNat = n := Nat.mod_eq_of_lt h
theorem g_or {k p a b : Nat} (hp : 2 ^ k = p) (ha : a < p) (h : b * p + a < 2 ^ 64) : lN (b * p) ||| lN a = lN (b * p + a) := by
  subst hp
  have h1 : b * 2 ^ k ||| a = b * 2 ^ k + a := by rw [← Nat.shiftLeft_eq, Nat.shiftLeft_add_eq_or_of_lt ha]
  have h3 : UInt64.ofNat (b * 2 ^ k) ||| UInt64.ofNat a = UInt64.ofNat (b * 2 ^ k + a) := UInt64.toNat_inj.mp (by rw [UInt64.toNat_or, u_tn (by omega), u_tn (by omega), u_tn h, h1])
  have h2 := congrArg UInt64.toInt64 h3
  exact h2
theorem g_or' {k p a b : Nat} (hp : 2 ^ k = p) (ha : a < p) (h : a + b * p < 2 ^ 64) : lN a ||| lN (b * p) = lN (a + b * p) := by
  rw [Int64.or_comm, g_or hp ha (by omega), Nat.add_comm]
theorem pf_lI {a : Nat} (h : a < 2 ^ 63) : (lN a).toInt = (a : Int) := lg_ofNat_toInt h
theorem pf_shr {a d : Nat} {D : Int64} (hD : (D.toBitVec.smod 64).toNat = d) (h : a < 2 ^ 62) : lN a >>> D = lN (a / 2 ^ d) := by
  have hd : a / 2 ^ d ≤ a := Nat.div_le_self _ _
  apply Int64.toInt_inj.mp
  have e : (lN a >>> D).toInt = (lN a).toInt >>> d := by
    rw [← hD]
    exact BitVec.toInt_sshiftRight ..
  rw [e, Int.shiftRight_eq_div_pow, pf_lI (by omega), pf_lI (by omega)]
  rfl
theorem wb_shr {n k : Nat} (hn : n < 2 ^ 62) (hk : k < 64) : lN n >>> ((nI k).toInt64 &&& 63) = lN (n / 2 ^ k) := by
  rw [wb_c k hk]
  refine pf_shr ?_ hn
  rw [wb_tb, wb_sm k hk, BitVec.toNat_ofNat, Nat.mod_eq_of_lt (by omega)]
theorem and15 (n : Nat) : nI n &&& nI 15 = nI (n % 16) := by
  apply Int32.toBitVec_inj.mp
  rw [Int32.toBitVec_and]
  apply BitVec.eq_of_toNat_eq
  show ((BitVec.ofNat 32 n) &&& (BitVec.ofNat 32 15)).toNat = (BitVec.ofNat 32 (n % 16)).toNat
  rw [BitVec.toNat_and, BitVec.toNat_ofNat, BitVec.toNat_ofNat, BitVec.toNat_ofNat, show 15 % 2 ^ 32 = 2 ^ 4 - 1 by decide, Nat.and_two_pow_sub_one_eq_mod, show n % 16 % 2 ^ 32 = n % 16 by omega, Nat.mod_mod_of_dvd n (by decide)]
/-- twelve numbers, four bits each -/
def hxN (c : Nat → Nat) : Nat → Nat
  | 0 => 0
  | n + 1 => hxN c n + c n * 16 ^ n
theorem hx_lt {c : Nat → Nat} : ∀ n, (∀ a, a < n → c a < 16) → hxN c n < 16 ^ n
  | 0, _ => by show 0 < 1; omega
  | n + 1, h => by
    have ih := hx_lt n (fun a ha => h a (by omega))
    have hn := h n (by omega)
    have : c n * 16 ^ n ≤ 15 * 16 ^ n := Nat.mul_le_mul_right _ (by omega)
    show hxN c n + c n * 16 ^ n < 16 ^ (n + 1)
    rw [Nat.pow_succ]
    omega
theorem hx_cg {c c' : Nat → Nat} : ∀ n, (∀ a, a < n → c a = c' a) → hxN c n = hxN c' n
  | 0, _ => rfl
  | n + 1, h => by
    show hxN c n + c n * 16 ^ n = hxN c' n + c' n * 16 ^ n
    rw [hx_cg n (fun a ha => h a (by omega)), h n (by omega)]
theorem hx_add (c c' : Nat → Nat) : ∀ n, hxN c n + hxN c' n = hxN (fun a => c a + c' a) n
  | 0 => rfl
  | n + 1 => by
    have ih := hx_add c c' n
    show (hxN c n + c n * 16 ^ n) + (hxN c' n + c' n * 16 ^ n) = hxN (fun a => c a + c' a) n + (c n + c' n) * 16 ^ n
    rw [Nat.add_mul]
    omega
theorem hx_dig {c : Nat → Nat} : ∀ n, (∀ a, a < n → c a < 16) → ∀ a, a < n → hxN c n / 16 ^ a % 16 = c a
  | 0, _, a, ha => by omega
  | n + 1, h, a, ha => by
    have h1 := hx_lt n (fun a ha => h a (by omega))
    have h2 := h n (by omega)
    show (hxN c n + c n * 16 ^ n) / 16 ^ a % 16 = c a
    by_cases e : a = n
    · subst e
      rw [Nat.add_mul_div_right _ _ (Nat.pow_pos (by decide)), Nat.div_eq_of_lt h1, Nat.zero_add, Nat.mod_eq_of_lt h2]
    · have ih := hx_dig n (fun a ha => h a (by omega)) a (by omega)
      have e1 : 16 ^ n = 16 ^ (n - a - 1) * 16 * 16 ^ a := by
        rw [← Nat.pow_succ, ← Nat.pow_add]
        congr 1
        omega
      rw [e1, ← Nat.mul_assoc, Nat.add_mul_div_right _ _ (Nat.pow_pos (by decide)), ← Nat.mul_assoc, Nat.add_mul_mod_self_right]
      exact ih
theorem hx_small {c : Nat → Nat} (h : ∀ a, a < 12 → c a < 16) : hxN c 12 < 2 ^ 48 := by
  have := hx_lt 12 h
  rw [show (2 : Nat) ^ 48 = 16 ^ 12 by decide]
  exact this
theorem p16 (a : Nat) : 2 ^ (4 * a) = 16 ^ a := by rw [Nat.pow_mul]
/-- the nodes that a mask names -/
def bf (x : Int32) (a : Nat) : Nat := if tb x a then 1 else 0
theorem tb_v (x : Int32) {a : Nat} (ha : a < 32) : (x >>> (nI a &&& 31)) &&& nI 1 = nI (bf x a) := by
  unfold bf
  by_cases h : tb x a
  · rw [if_pos h]; exact h
  · rw [if_neg h]; exact (tb_n0 x ha).mpr h
theorem bf_le (x : Int32) (a : Nat) : bf x a ≤ 1 := by unfold bf; split <;> omega
def hL (f : Nat → Int32) (s : Nat) : Int64 := lN (hxN (bf (f s)) 12)
/-- how sure it is, with so many engines -/
def bE (x : Int32) : Nat → Int32
  | 0 => nI 0
  | j + 1 => bE x j + (nI 1000 - bE x j) * (nI 1000 - x) / nI 1000
theorem bE_ok {p : Nat} (hp : p ≤ 1000) : ∀ j, ∃ k, k ≤ 1000 ∧ bE (nI p) j = nI k
  | 0 => ⟨0, by omega, rfl⟩
  | j + 1 => by
    obtain ⟨k, hk, e⟩ := bE_ok hp j
    have h1 : (1000 - k) * (1000 - p) ≤ (1000 - k) * 1000 := Nat.mul_le_mul_left _ (by omega)
    have h2 : (1000 - k) * (1000 - p) / 1000 ≤ 1000 - k := Nat.div_le_of_le_mul (by omega)
    refine ⟨k + (1000 - k) * (1000 - p) / 1000, by omega, ?_⟩
    show bE (nI p) j + (nI 1000 - bE (nI p) j) * (nI 1000 - nI p) / nI 1000 = _
    rw [e, z_sub hk, z_sub hp, pk_mul, pk_div (by omega) (by omega) (by omega), nI_add]
def eS (w : Nat → Int32) (x : Int32) (c : Nat → Nat) : Nat → Int32
  | 0 => nI 0
  | a + 1 => eS w x c a + w a * bE x (c a)
theorem eS_cg {w w' : Nat → Int32} {x : Int32} {c c' : Nat → Nat} : ∀ n, (∀ a, a < n → w a = w' a ∧ c a = c' a) → eS w x c n = eS w' x c' n
  | 0, _ => rfl
  | n + 1, h => by
    show eS w x c n + w n * bE x (c n) = eS w' x c' n + w' n * bE x (c' n)
    rw [eS_cg n (fun a ha => h a (by omega)), (h n (by omega)).1, (h n (by omega)).2]
theorem eS_ok {w : Nat → Int32} {p : Nat} {c : Nat → Nat} (hp : p ≤ 1000) (hv : VL w) : ∀ n, n ≤ 12 → ∃ k, k ≤ 99000 * n ∧ eS w (nI p) c n = nI k
  | 0, _ => ⟨0, by omega, rfl⟩
  | n + 1, hn => by
    obtain ⟨k, hk, e⟩ := eS_ok hp hv n (by omega)
    obtain ⟨j, hj, e2⟩ := bE_ok hp (c n)
    obtain ⟨g1, g2⟩ := hv.2.2.1 n (by omega)
    have := Nat.mul_le_mul g2 hj
    refine ⟨k + wt w n * j, by omega, ?_⟩
    show eS w (nI p) c n + w n * bE (nI p) (c n) = _
    rw [e, e2, g1, pk_mul, nI_add]
theorem updL_updL (g : Nat → Int64) (k : Nat) (x y : Int64) : vp_updL (vp_updL g k x) k y = vp_updL g k y := by
  funext j
  unfold vp_updL
  split <;> rfl
def cpM (M : Mem) (x : Int32) : Mem := sb (sa M 50 (pfx 7 (bE x) (M.1 50))) 51 (pfxL 8 (hL (M.1 44)) (M.2 51))
section S45
variable {pl : Option Nat} {tl : List LC} {d : Nat} {M : Mem} {t : Nat}
theorem s_prepare {Q : Mem → Prop} {x : Int32} (h : Q (cpM M x)) : exV (LY pl tl) (d + 1) 57 [.ref 47, .ref 43, .int x] M Q := by
  refine e_X0_prepare_43 ?_
  have e0 : si M 50 0 (nI 0) = sa M 50 (pfx (0 + 1) (bE x) (M.1 50)) := by
    rw [si_sa, ← pfx_s 0 (bE x) (M.1 50) rfl, pfx_0]; rfl
  rw [e0]
  refine lp_0 (X := fx (LY pl tl) d m_X0_prepare (qV Q)) (fun j => (9, [some (.ref 47), some (.ref 43), some (.int x), some (.int (nI j)), none], [], sa M 50 (pfx (j + 1) (bE x) (M.1 50)))) 6 (fun j hj hx => ?_) ?_
  · refine c_X0_prepare_43_9 ?_
    rw [nI_add j 1, z_cl (show j < 2147483648 by omega), z_cl (show j + 1 < 2147483648 by omega), sa_s, pfx_lt (show j < j + 1 by omega), sa_upd, show bE x j + (nI 1000 - bE x j) * (nI 1000 - x) / nI 1000 = bE x (j + 1) from rfl, pfx_s (j + 1) (bE x) (M.1 50) rfl]
    exact br_f (nI_ge hj (by omega)) ⟨(z_in (by omega) (by omega)).mpr (by omega), (z_in (by omega) (by omega)).mpr (by omega), (z_in (by omega) (by omega)).mpr (by omega), hx⟩
  · refine c_X0_prepare_43_9 (br_t (nI_le (Nat.le_refl _) (by omega)) ?_)
    unfold cpM at h
    generalize hA : sa M 50 (pfx (6 + 1) (bE x) (M.1 50)) = A
    have a2 : A.2 51 = M.2 51 := by rw [← hA]; rfl
    have a44 : A.1 44 = M.1 44 := by rw [← hA]; rfl
    have hA' : sa M 50 (pfx 7 (bE x) (M.1 50)) = A := hA
    rw [hA', ← a2, ← a44] at h
    have e1 : A = sb A 51 (pfxL 0 (hL (A.1 44)) (A.2 51)) := by
      rw [show pfxL 0 (hL (A.1 44)) (A.2 51) = A.2 51 from funext fun j => by simp [pfxL], sb_id]
    rw [e1]
    have st := lp_0 (X := fx (LY pl tl) d m_X0_prepare (qV Q)) (fun s => (58, [some (.ref 47), some (.ref 43), none, some (.int (nI s)), none], [], sb A 51 (pfxL s (hL (A.1 44)) (A.2 51)))) 8 (fun s hs hx => ?_) ?_
    · exact st
    · refine c_X0_prepare_43_58 (br_f (nI_ge hs (by omega)) ⟨(z_in (by omega) (by omega)).mpr hs, ?_⟩)
      rw [z_cl (by omega), sj_sb, sb_s, sb_sb]
      have v8 := (z_in (n := s) (N := 8) (by omega) (by omega)).mpr hs
      refine lp_0 (X := fx (LY pl tl) d m_X0_prepare (qV Q)) (fun a => (74, [some (.ref 47), some (.ref 43), none, some (.int (nI s)), some (.int (nI a))], [], sb A 51 (vp_updL (pfxL s (hL (A.1 44)) (A.2 51)) s (lN (hxN (bf (A.1 44 s)) a))))) 12 (fun a ha hy => ?_) ?_
      · refine c_X0_prepare_43_74 ?_
        have g1 : (sb A 51 (vp_updL (pfxL s (hL (A.1 44)) (A.2 51)) s (lN (hxN (bf (A.1 44 s)) a)))).2 51 s = lN (hxN (bf (A.1 44 s)) a) := by
          rw [sb_s]; exact if_pos rfl
        have g2 : (sb A 51 (vp_updL (pfxL s (hL (A.1 44)) (A.2 51)) s (lN (hxN (bf (A.1 44 s)) a)))).1 44 s = A.1 44 s := rfl
        have b1 := bf_le (A.1 44 s) a
        have l1 : hxN (bf (A.1 44 s)) a < 16 ^ a := hx_lt a (fun a' ha' => by have := bf_le (A.1 44 s) a'; omega)
        have l2 : hxN (bf (A.1 44 s)) (a + 1) < 16 ^ (a + 1) := hx_lt (a + 1) (fun a' ha' => by have := bf_le (A.1 44 s) a'; omega)
        have l3 : 16 ^ (a + 1) ≤ 16 ^ 12 := Nat.pow_le_pow_right (by decide) (by omega)
        have l4 : hxN (bf (A.1 44 s)) a + bf (A.1 44 s) a * 16 ^ a < 2 ^ 64 := by
          have : hxN (bf (A.1 44 s)) (a + 1) = hxN (bf (A.1 44 s)) a + bf (A.1 44 s) a * 16 ^ a := rfl
          have : (16 : Nat) ^ 12 < 2 ^ 64 := by decide
          omega
        rw [z_cl (show s < 2147483648 by omega), g1, g2, tb_v _ (by omega), z_i2l (by omega), pk_mul, wb_shl _ (by omega), p16, g_or' (k := 4 * a) (p16 a) l1 l4, nI_add a 1, sj_sb, sb_s, updL_updL, sb_sb]
        exact br_f (nI_ge ha (by omega)) ⟨v8, v8, v8, hy⟩
      · refine c_X0_prepare_43_74 (br_t (nI_le (Nat.le_refl _) (by omega)) ?_)
        rw [nI_add s 1, show lN (hxN (bf (A.1 44 s)) 12) = hL (A.1 44) s from rfl, pfxL_s s (hL (A.1 44)) (A.2 51) rfl]
        exact hx
    · exact c_X0_prepare_43_58 (br_t (nI_le (Nat.le_refl _) (by omega)) h)
theorem s_expected {Q : Int32 → Mem → Prop} {w : Nat → Int32} {x : Int32} {c : Nat → Nat} (hc : ∀ a, a < 12 → c a ≤ 6) (h50 : ∀ j, j ≤ 6 → M.1 50 j = bE x j) (h17 : ∀ a, a < 12 → M.1 17 a = w a) (h : Q (eS w x c 12) M) : exI (LY pl tl) (d + 1) 60 [.ref 47, .ref 16, .long (lN (hxN c 12))] M Q := by
  have hs : hxN c 12 < 2 ^ 48 := hx_small (fun a ha => by have := hc a ha; omega)
  refine e_X0_expected_16 (lp_0 (X := fx (LY pl tl) d m_X0_expected (qI Q)) (fun a => (6, [some (.ref 47), some (.ref 16), some (.long (lN (hxN c 12))), none, some (.int (eS w x c a)), some (.int (nI a)), none], [], M)) 12 (fun a ha hx' => ?_) ?_)
  · refine c_X0_expected_16_6 ?_
    have e : ((lN (hxN c 12) >>> ((nI 4 * nI a).toInt64 &&& 63)).toInt32 &&& nI 15) = nI (c a) := by
      rw [pk_mul, wb_shr (Nat.lt_of_lt_of_le hs (by decide)) (by omega), z_l2i, and15, p16, hx_dig 12 (fun a ha => by have := hc a ha; omega) a ha]
    have := hc a ha
    rw [e, z_cl (show a < 2147483648 by omega), z_cl (show c a < 2147483648 by omega), h17 a ha, h50 _ this, nI_add a 1]
    exact br_f (nI_ge ha (by omega)) (br_f (nI_nlt this (by omega)) ⟨(z_in (by omega) (by omega)).mpr ha, (z_in (by omega) (by omega)).mpr (by omega), hx'⟩)
  · exact c_X0_expected_16_6 (br_t (nI_le (Nat.le_refl _) (by omega)) h)
theorem s_hitsOf {Q : Int64 → Mem → Prop} {s : Nat} (hs : s < 8) (h : Q (M.2 51 s) M) : exL (LY pl tl) (d + 1) 59 [.ref 47, .int (nI s)] M Q := by
  refine e_X0_hitsOf (br_f (nI_pos (by omega)) (br_f (nI_ge hs (by omega)) ⟨(z_in (by omega) (by omega)).mpr hs, ?_⟩))
  rw [z_cl (by omega)]
  exact h
/-- the ready engines that reach a node, among the first -/
def rfE (w : Nat → Int32) (r e a : Nat) : Nat := cn (fun e => rdy w e && decide (tb (rM w r (po w e)) a)) e
theorem s_expNowC {Q : Int32 → Mem → Prop} {w : Nat → Int32} {x : Int32} {r : Nat} (hv : V w t) (hr : RC 15 M w) (h50 : ∀ j, j ≤ 6 → M.1 50 j = bE x j) (h51 : ∀ s, s < sN w → M.2 51 s = lN (hxN (bf (rM w r s)) 12)) (h : Q (eS w x (rf w r) 12) M) : exI (LY pl tl) (d + 2) 58 [.ref 47, .ref 15] M Q := by
  have n6 := hv.2.1.1.2
  have s8 := hv.1.1.2
  have hM : M.1 24 4 = nI (eN w) := hr.2.1.1.trans hv.2.1.1.1
  have z0 : lN 0 = lN (hxN (rfE w r 0) 12) := by rw [hx_cg (c := rfE w r 0) (c' := fun _ => 0) 12 (fun a ha => rfl)]; rfl
  refine e_X0_expectedNow_15 ?_
  rw [z0]
  refine lp_0 (X := fx (LY pl tl) (d + 1) m_X0_expectedNow (qI Q)) (fun e => (10, [some (.ref 47), some (.ref 15), some (.ref 24), some (.long (lN (hxN (rfE w r e) 12))), none, some (.int (nI e))], [], M)) (eN w) (fun e he hx' => ?_) ?_
  · refine c_X0_expectedNow_15_10 ?_
    obtain ⟨k1, k2, -⟩ := hr.2.1.2.1 e he
    obtain ⟨⟨p1, p2⟩, -⟩ := hv.2.1.2 e he
    have k1 : M.1 25 e = nI (po w e) := k1.trans p1
    have k2 : M.1 26 e = w (320 + e) := k2
    have v6 := (z_in (n := e) (N := 6) (by omega) (by omega)).mpr (by omega)
    rw [hM, z_cl (by omega), k1, k2, nI_add e 1]
    refine br_f (nI_ge he (by omega)) ⟨v6, fun c => ?_, fun c => ⟨v6, s_hitsOf (by omega) ?_⟩⟩
    · have c : ¬ w (320 + e) = nI 0 := c
      rw [hx_cg (c := rfE w r (e + 1)) (c' := rfE w r e) 12 (fun a ha => if_neg (show ¬ (decide (w (320 + e) = nI 0) && decide (tb (rM w r (po w e)) a)) = true by rw [decide_eq_false c]; simp))] at hx'
      exact hx'
    · have c : w (320 + e) = nI 0 := c
      rw [h51 _ p2, lN_add, hx_add, hx_cg (c := fun a => rfE w r e a + bf (rM w r (po w e)) a) (c' := rfE w r (e + 1)) 12 (fun a ha => ?_)]
      · exact hx'
      · show rfE w r e a + bf (rM w r (po w e)) a = (if (rdy w e && decide (tb (rM w r (po w e)) a)) = true then rfE w r e a + 1 else rfE w r e a)
        unfold bf rdy
        by_cases q : tb (rM w r (po w e)) a
        · rw [if_pos q, if_pos (by rw [decide_eq_true c, decide_eq_true q]; rfl)]
        · rw [if_neg q, if_neg (by rw [decide_eq_false q]; simp)]; rfl
  · refine c_X0_expectedNow_15_10 ?_
    rw [hM]
    refine br_t (nI_le (Nat.le_refl _) (by omega)) (s_expected (w := w) (x := x) (c := rfE w r (eN w)) (fun a ha => ?_) h50 hr.1.1 h)
    have : rfE w r (eN w) a ≤ eN w := cn_le _ _
    omega
theorem s_laysSure {Q : Mem → Prop} {x : Int32} (h : Q (sa M 60 (pfx 7 (bE x) (M.1 60)))) : exV (LY pl tl) (d + 1) 211 [.ref 52, .int x] M Q := by
  refine e_X11_laysSure ?_
  have e0 : si M 60 0 (nI 0) = sa M 60 (pfx (0 + 1) (bE x) (M.1 60)) := by
    rw [si_sa, ← pfx_s 0 (bE x) (M.1 60) rfl, pfx_0]; rfl
  rw [e0]
  refine lp_0 (X := fx (LY pl tl) d m_X11_laysSure (qV Q)) (fun j => (9, [some (.ref 52), some (.int x), some (.int (nI j))], [], sa M 60 (pfx (j + 1) (bE x) (M.1 60)))) 6 (fun j hj hx => ?_) ?_
  · refine c_X11_laysSure_9 ?_
    rw [nI_add j 1, z_cl (show j < 2147483648 by omega), z_cl (show j + 1 < 2147483648 by omega), sa_s, pfx_lt (show j < j + 1 by omega), sa_upd, show bE x j + (nI 1000 - bE x j) * (nI 1000 - x) / nI 1000 = bE x (j + 1) from rfl, pfx_s (j + 1) (bE x) (M.1 60) rfl]
    exact br_f (nI_ge hj (by omega)) ⟨(z_in (by omega) (by omega)).mpr (by omega), (z_in (by omega) (by omega)).mpr (by omega), (z_in (by omega) (by omega)).mpr (by omega), hx⟩
  · exact c_X11_laysSure_9 (br_t (nI_le (Nat.le_refl _) (by omega)) h)
theorem s_expNowM {Q : Int32 → Mem → Prop} {w : Nat → Int32} {x : Int32} {r : Nat} (hw : M.1 53 = w) (hv : V w t) (h59 : ∀ s, s < sN w → M.1 59 s = rM w r s) (h60 : ∀ j, j ≤ 6 → M.1 60 j = bE x j) (h : Q (eS w x (rf w r) 12) M) : exI (LY pl tl) (d + 3) 212 [.ref 52] M Q := by
  subst hw
  have n6 := hv.2.1.1.2
  refine e_X11_expectedNow (lp_0 (X := fx (LY pl tl) (d + 2) m_X11_expectedNow (qI Q)) (fun a => (4, [some (.ref 52), some (.int (eS (M.1 53) x (rf (M.1 53) r) a)), some (.int (nI a))], [], M)) 12 (fun a ha hx => ?_) ?_)
  · refine c_X11_expectedNow_4 ?_
    have rl := rf_le (M.1 53) r a
    rw [z_0add, z_cl (show a < 2147483648 by omega), nI_add a 1]
    refine br_f (nI_ge ha (by omega)) ⟨(z_in (by omega) (by omega)).mpr (by omega), s_readyFor hv.2.1 ha h59 hv.1.1.2 ⟨(z_in (by omega) (by omega)).mpr (by omega), ?_⟩⟩
    rw [z_cl (by omega), h60 _ (by omega)]
    exact hx
  · exact c_X11_expectedNow_4 (br_t (nI_le (Nat.le_refl _) (by omega)) h)
theorem m_expects_n {Q : Int32 → Mem → Prop} {x : Int32} (hx : x < 0 ∨ ¬ x ≤ nI 1000) (h : Q (-1) (thr M)) : exI (LY pl tl) (d + 4) 213 [.ref 52, .int x] M Q := by
  refine e_X11_expects (s_inR (by omega) (by omega) (fun j h1 h2 e => ?_) (fun _ => ⟨fun c => absurd rfl c, fun _ => h⟩))
  subst e
  rcases hx with z | z
  · exact absurd z (nI_pos (by omega))
  · exact absurd (nI_le h2 (by omega)) z
theorem op_expects {x : Int32} (h : Inv t M) (ht : t < 512) : Op pl tl (d + 12) 34 [.ref 0, .int x] 213 [.ref 52, .int x] t M := by
  have hI := h.up (t' := t + 1) (by omega) (by omega)
  obtain ⟨⟨hv, hr⟩, -⟩ := h
  have s8 := hv.1.1.2
  refine e_X10_expects ⟨fun c => m_expects_n (Or.inl c) ⟨rfl, hI⟩, fun c => ⟨fun c2 => s_lk hv hr (s_prepare ?_), fun c2 => m_expects_n (Or.inr c2) ⟨rfl, hI⟩⟩⟩
  obtain ⟨p, hp, e⟩ := z_0 c (by omega) c2
  subst e
  refine s_expNowC (M := cpM (lkC M (M.1 53)) (nI p)) (w := M.1 53) (r := rcN (M.1 53)) hv hr (fun j hj => pfx_lt (by omega)) (fun s hs => ?_) ?_
  · refine (pfxL_lt (by omega)).trans ?_
    unfold hL
    have e : (lkC M (M.1 53)).1 44 s = rM (M.1 53) (rcN (M.1 53)) s := nA_at hs s8
    rw [e]
  · refine e_X11_expects (s_inR (by omega) (by omega) (fun j h1 h2 e => ⟨fun _ => ?_, fun c => absurd c (by decide)⟩) (fun q => ?_))
    · refine s_ly (t := t) (M := thr (cpM (lkC M (M.1 53)) (nI p))) hv (s_laysSure ?_)
      exact s_expNowM (t := t) (w := M.1 53) (r := rcN (M.1 53)) rfl hv (ly59 (M := thr (cpM (lkC M (M.1 53)) (nI p)))) (fun j hj => pfx_lt (by omega)) ⟨rfl, hI⟩
    · rcases q with z | z
      · exact absurd z (nI_pos (by omega))
      · exact absurd (nI_le hp (by omega)) z
end S45
