/-! SHARE: the class -/
theorem lgc_ge (x y : Int64) : 0 ≤ lg_cmp x y ↔ y ≤ x := by
  have h := lg_cmp_lt (x := x) (y := y)
  constructor
  · intro z
    refine Classical.byContradiction (fun q => ?_)
    have : x < y := by rw [Int64.lt_iff_toInt_lt]; rw [Int64.le_iff_toInt_le] at q; omega
    exact i_nle.mpr (h.mpr this) z
  · intro z
    refine Classical.byContradiction (fun q => ?_)
    have := h.mp (i_nle.mp q)
    rw [Int64.lt_iff_toInt_lt] at this
    rw [Int64.le_iff_toInt_le] at z
    omega
theorem lgc_le (x y : Int64) : lg_cmp x y ≤ 0 ↔ x ≤ y := by
  have h := lg_cmp_gt (x := x) (y := y)
  constructor
  · intro z
    refine Classical.byContradiction (fun q => ?_)
    have : y < x := by rw [Int64.lt_iff_toInt_lt]; rw [Int64.le_iff_toInt_le] at q; omega
    exact i_nle.mpr (h.mpr this) z
  · intro z
    refine Classical.byContradiction (fun q => ?_)
    have := h.mp (i_nle.mp q)
    rw [Int64.lt_iff_toInt_lt] at this
    rw [Int64.le_iff_toInt_le] at z
    omega
/-- the bits of the share -/
def shB (a b : Nat) : Nat := if b = 0 then 2143289344 else if a = 0 then 0 else qbN a b
section S71
variable {pl : Option Nat} {tl : List LC} {d : Nat} {M : Mem} {t : Nat}
theorem s_quot {Q : Int32 → Mem → Prop} {a b : Nat} (hab : a ≤ b) (hb : b ≤ 1188) (h : Q (nI (shB a b)) M) : exI (LY pl tl) (d + 1) 56 [.int (nI a), .int (nI b)] M Q := by
  unfold shB at h
  refine e_X10_quotientBits ?_
  rw [z_0lt (by omega), z_0lt (by omega)]
  refine ⟨fun c => ⟨fun c2 => ?_, fun c2 => ?_⟩, fun c => ?_⟩
  · rw [if_neg (by omega), if_neg (by omega)] at h
    obtain ⟨s1, s2, s3, s4⟩ := sft_ok c2 hab hb
    obtain ⟨n1, n2⟩ := nr_ok c2 hab hb
    have hz : ¬ (nI b).toInt64 = 0 := fun z => by
      rw [z_i2l (by omega), show (0 : Int64) = lN 0 from rfl, lN_eq (by omega) (by omega)] at z; omega
    have p24 : a * 2 ^ (sft a b + 23) < 2 ^ 40 := by
      have : a * 2 ^ (sft a b + 23) = a * 2 ^ sft a b * 8388608 := by rw [Nat.pow_add, ← Nat.mul_assoc]
      rw [this]
      have : (2 : Nat) ^ 40 = 131072 * 8388608 := by decide
      omega
    refine lp_0 (X := fx (LY pl tl) d m_X10_quotientBits (qI Q)) (fun v => (16, [some (.int (nI a)), some (.int (nI b)), some (.int (nI v)), none, none, none, none], [], M)) (sft a b) (fun v hv hx => ?_) ?_
    · refine c_X10_quotientBits_16 ?_
      have := s4 v hv
      rw [z_i2l (show a < 2147483648 by omega), z_i2l (show b < 2147483648 by omega), wb_shl a (show v < 64 by omega), nI_add v 1]
      refine br_f (nI_ge (by omega) (by omega)) ⟨fun z => ?_, fun _ => hx⟩
      rw [lgc_ge, pk_lLE (by omega) (by omega)] at z
      omega
    · refine c_X10_quotientBits_16 ?_
      rw [z_i2l (show a < 2147483648 by omega), z_i2l (show b < 2147483648 by omega), wb_shl a (show sft a b < 64 by omega), nI_add (sft a b) 23, wb_shl a (show sft a b + 23 < 64 by omega), pk_lRem (by omega) (by omega) (by omega), pk_lDiv (by omega) (by omega) (by omega), lN_mul, z_sub (show sft a b ≤ 127 by omega), z_i2l (show 127 - sft a b < 2147483648 by omega), wb_shl _ (show 23 < 64 by omega), lgc_le, lN_add _ 1, lN_add, lN_add]
      have hz' : ¬ lN b = 0 := by rw [← z_i2l (show b < 2147483648 by omega)]; exact hz
      have fin : ∀ k, k = nrN a b → Q ((lN ((127 - sft a b) * 2 ^ 23 + k) - lN 8388608).toInt32) M := fun k hk => by
        rw [lN_sub (by omega), lN_i, hk]
        have : (127 - sft a b) * 2 ^ 23 + nrN a b - 8388608 = qbN a b := by unfold qbN; rfl
        rw [this]
        exact h
      refine br_f (nI_ge (by omega) (by omega)) ⟨fun _ => ⟨hz', hz', fun z => fin _ ?_, fun z => fin _ ?_⟩, fun z => ?_⟩
      · rw [pk_lLE (by have := Nat.mod_lt (a * 2 ^ (sft a b + 23)) (show 0 < b by omega); omega) (by omega)] at z
        unfold nrN
        rw [if_neg (by omega)]; rfl
      · rw [pk_lLE (by have := Nat.mod_lt (a * 2 ^ (sft a b + 23)) (show 0 < b by omega); omega) (by omega)] at z
        unfold nrN
        rw [if_pos (by omega)]
      · rw [lgc_ge, pk_lLE (by omega) (by omega)] at z
        omega
  · rw [if_neg (by omega), if_pos (by omega)] at h
    exact h
  · rw [if_pos (by omega)] at h
    exact h
/-- what is covered, and all there is -/
def shA (w : Nat → Int32) (r : Nat) : Nat := tn (CV w r)
def shT (w : Nat → Int32) : Nat := tn (wS w (nI 4095) 12)
theorem wS_sub {w : Nat → Int32} (hv : VL w) {x y : Int32} : ∀ n, n ≤ 12 → (∀ a, a < n → tb x a → tb y a) → ∃ k k', wS w x n = nI k ∧ wS w y n = nI k' ∧ k ≤ k' ∧ k' ≤ 99 * n
  | 0, _, _ => ⟨0, 0, rfl, rfl, by omega, by omega⟩
  | n + 1, hn, h => by
    obtain ⟨k, k', e1, e2, l1, l2⟩ := wS_sub hv n (by omega) (fun a ha => h a (by omega))
    obtain ⟨g1, g2'⟩ := hv.2.2.1 n (by omega)
    unfold wS
    by_cases c : tb x n
    · rw [if_pos c, if_pos (h n (by omega) c), e1, e2, g1, nI_add, nI_add]
      exact ⟨_, _, rfl, rfl, by omega, by omega⟩
    · rw [if_neg c]
      by_cases c2 : tb y n
      · rw [if_pos c2, e1, e2, g1, nI_add]
        exact ⟨_, _, rfl, rfl, by omega, by omega⟩
      · rw [if_neg c2]
        exact ⟨_, _, e1, e2, l1, by omega⟩
theorem tb_4095 : ∀ a, a < 12 → tb (nI 4095) a := by decide
theorem sh_ok {w : Nat → Int32} (hv : VL w) (r : Nat) : CV w r = nI (shA w r) ∧ wS w (nI 4095) 12 = nI (shT w) ∧ shA w r ≤ shT w ∧ shT w ≤ 1188 := by
  obtain ⟨k, k', e1, e2, l1, l2⟩ := wS_sub hv (x := cvO w r) (y := nI 4095) 12 (by omega) (fun a ha _ => tb_4095 a ha)
  have e1' : CV w r = nI k := e1
  unfold shA shT
  rw [e1', e2, tn_nI (by omega), tn_nI (by omega)]
  exact ⟨rfl, rfl, l1, by omega⟩
theorem s_shareC {Q : Int32 → Mem → Prop} {w : Nat → Int32} (hv : V w t) (hr : RC 15 M w) (h : Q (nI (shB (shA w (rcN w)) (shT w))) (pM (sa M 44 (nA w (rcN w) (M.1 44))) (cvO w (rcN w)) (cvT w (rcN w)))) : exI (LY pl tl) (d + 6) 22 [.ref 0] M Q := by
  obtain ⟨e1, e2, e3, e4⟩ := sh_ok hv.1 (rcN w)
  refine e_X10_share (s_coverNow hv hr (s_weigh ?_))
  have e17 : ∀ x, wS ((pM (sa M 44 (nA w (rcN w) (M.1 44))) (cvO w (rcN w)) (cvT w (rcN w))).1 17) x 12 = wS w x 12 := fun x => wS_17 (M := pM (sa M 44 (nA w (rcN w) (M.1 44))) (cvO w (rcN w)) (cvT w (rcN w))) hr x
  rw [e17, e1, e2]
  exact s_quot e3 e4 h
end S71
