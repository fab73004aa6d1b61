/-! greedy -/
theorem cn_all {c : Nat → Bool} : ∀ n, (∀ k, k < n → c k = true) → cn c n = n
  | 0, _ => rfl
  | n + 1, h => by
    show (if c n = true then cn c n + 1 else cn c n) = n + 1
    rw [if_pos (h n (by omega)), cn_all n (fun k hk => h k (by omega))]
theorem cn_add1 {c c' : Nat → Bool} {g : Nat} (h : ∀ s, c' s = true → c s = true ∨ s = g) : ∀ n, cn c' n ≤ cn c n + (if g < n then 1 else 0)
  | 0 => by show 0 ≤ _; omega
  | n + 1 => by
    have ih := cn_add1 h n
    have e1 : cn c (n + 1) = if c n = true then cn c n + 1 else cn c n := rfl
    have e2 : cn c' (n + 1) = if c' n = true then cn c' n + 1 else cn c' n := rfl
    rw [e1, e2]
    by_cases q : c' n = true
    · rw [if_pos q]
      rcases h n q with z | z
      · rw [if_pos z]
        split <;> split at ih <;> omega
      · rw [if_pos (show g < n + 1 by omega)]
        rw [if_neg (by omega)] at ih
        split <;> omega
    · rw [if_neg q]
      split <;> split <;> split at ih <;> omega
/-- what a station beside those taken would make -/
def gv (w : Nat → Int32) (x : Int32) (s : Nat) : Int32 := wS w (SO w (rcN w) (x ||| b1 s)) 12
abbrev gB (w : Nat → Int32) (x : Int32) (n : Nat) : Option Nat := bb (gv w x) (fun s => !decide (tb x s)) n
def gN (w : Nat → Int32) (x : Int32) : Nat := (gB w x (sN w)).getD 0
def gX (w : Nat → Int32) : Nat → Int32
  | 0 => nI 0
  | k + 1 => gX w k ||| b1 (gN w (gX w k))
def gL (w : Nat → Int32) (k : Nat) : Bool := !decide (SCv w (rcN w) (bsN w (k + 1)) ≤ wS w (SO w (rcN w) (gX w (k + 1))) 12)
theorem gX_cn (w : Nat → Int32) (hs : sN w ≤ 8) : ∀ k, cn (fun s => decide (tb (gX w k) s)) (sN w) ≤ k ∧ (k < sN w → gB w (gX w k) (sN w) = some (gN w (gX w k)) ∧ gN w (gX w k) < sN w) := by
  have nx : ∀ k, cn (fun s => decide (tb (gX w k) s)) (sN w) ≤ k → (k < sN w → gB w (gX w k) (sN w) = some (gN w (gX w k)) ∧ gN w (gX w k) < sN w) := fun k h1 hk => by
    have : ∃ s, s < sN w ∧ ¬ tb (gX w k) s := Classical.byContradiction (fun q => by
      have := cn_all (c := fun s => decide (tb (gX w k) s)) (sN w) (fun s hs' => decide_eq_true (Classical.byContradiction (fun z => q ⟨s, hs', z⟩)))
      omega)
    obtain ⟨s, h2, h3⟩ := this
    obtain ⟨b, hb⟩ := bb_some (v := gv w (gX w k)) (ok := fun s => !decide (tb (gX w k) s)) h2 (by rw [decide_eq_false h3]; rfl)
    have e : gN w (gX w k) = b := by
      show (gB w (gX w k) (sN w)).getD 0 = b
      rw [show gB w (gX w k) (sN w) = some b from hb]
      rfl
    rw [e]
    exact ⟨hb, (bb_lt hb).1⟩
  intro k
  induction k with
  | zero =>
    have : cn (fun s => decide (tb (gX w 0) s)) (sN w) ≤ 0 := by
      have z : cn (fun s => decide (tb (nI 0) s)) (sN w) = 0 := cn_zero (fun s hs' => decide_eq_false (tb_0 (show s < 32 by omega)))
      show cn (fun s => decide (tb (nI 0) s)) (sN w) ≤ 0
      omega
    exact ⟨this, nx 0 this⟩
  | succ k ih =>
    have : cn (fun s => decide (tb (gX w (k + 1)) s)) (sN w) ≤ k + 1 := by
      have := cn_add1 (c := fun s => decide (tb (gX w k) s) || !decide (s < 32)) (c' := fun s => decide (tb (gX w (k + 1)) s) || !decide (s < 32)) (g := gN w (gX w k)) (fun s q => ?_) (sN w)
      · have e1 := cn_congr (c := fun s => decide (tb (gX w k) s) || !decide (s < 32)) (c' := fun s => decide (tb (gX w k) s)) (sN w) (fun s hs' => by rw [decide_eq_true (show s < 32 by omega)]; simp)
        have e2 := cn_congr (c := fun s => decide (tb (gX w (k + 1)) s) || !decide (s < 32)) (c' := fun s => decide (tb (gX w (k + 1)) s)) (sN w) (fun s hs' => by rw [decide_eq_true (show s < 32 by omega)]; simp)
        rw [e1, e2] at this
        have ih1 := ih.1
        split at this <;> omega
      · by_cases h32 : s < 32
        · rw [decide_eq_true h32] at q ⊢
          simp only [Bool.not_true, Bool.or_false, decide_eq_true_eq] at q ⊢
          have q : tb (gX w k ||| b1 (gN w (gX w k))) s := q
          rw [tb_or _ _ h32] at q
          rcases q with q | q
          · exact Or.inl q
          · by_cases g32 : gN w (gX w k) < 32
            · exact Or.inr ((tb_b1 g32 h32).mp q)
            · exfalso
              have gl : gN w (gX w k) < sN w ∨ gN w (gX w k) = 0 := by
                unfold gN
                cases hb : gB w (gX w k) (sN w) with
                | none => exact Or.inr rfl
                | some b => exact Or.inl (bb_lt hb).1
              omega
        · rw [decide_eq_false h32]
          exact Or.inl (by simp)
    exact ⟨this, nx (k + 1) this⟩
def oM0 (o : Option Nat) : Int32 := match o with
  | none => nI 0
  | some b => nI b
theorem i_nle {a b : Int32} : ¬ a ≤ b ↔ b < a := by
  rw [Int32.le_iff_toInt_le, Int32.lt_iff_toInt_lt]; omega
section S44
variable {pl : Option Nat} {tl : List LC} {d : Nat} {M : Mem} {t : Nat}
theorem s_coverG {Q : Int32 → Mem → Prop} {X : Mem} {w : Nat → Int32} {x : Int32} (hv : V w t) (hr : RC 15 X w) (h44 : X.1 44 = nA w (rcN w) (X.1 44)) {o0 t0 : Int32} (h : ∀ t', Q (wS w (SO w (rcN w) x) 12) (pM X (SO w (rcN w) x) t')) : exI (LY pl tl) (d + 3) 119 [.ref 43, .ref 16, .int x] (pM X o0 t0) Q := by
  have e : o1 ((pM X o0 t0).1 44) (fun s => decide (tb x s)) 8 = SO w (rcN w) x := by
    show o1 (X.1 44) _ 8 = _
    rw [h44]
    exact nA_o1 hv.1.1.2 x
  have e17 : ∀ z, wS ((pM X o0 t0).1 17) z 12 = wS w z 12 := fun z => wS_17 hr z
  refine s_coverOf ?_
  rw [e, pM_2, e17]
  exact h _
theorem s_bestBeside {Q : Int32 → Mem → Prop} {X : Mem} {w : Nat → Int32} {x : Int32} (hv : V w t) (hr : RC 15 X w) (h44 : X.1 44 = nA w (rcN w) (X.1 44)) {o0 t0 : Int32} (h : ∀ o t', Q (nI (gN w x)) (pM X o t')) : exI (LY pl tl) (d + 4) 121 [.ref 43, .ref 16, .int x] (pM X o0 t0) Q := by
  have s8 := hv.1.1.2
  have q1 : ∀ o t', (pM X o t').1 16 8 = nI (sN w) := fun o t' => hr.1.2.1.trans hv.1.1.1
  refine e_X7_bestBeside_16 (lp_s (σ := Int32 × Int32) (X := fx (LY pl tl) (d + 3) m_X7_bestBeside (qI Q)) (fun s σ => (8, [some (.ref 43), some (.ref 16), some (.int x), some (.int (oV (gv w x) (gB w x s))), some (.int (oM0 (gB w x s))), some (.int (nI s))], [], pM X σ.1 σ.2)) (sN w) (fun s σ hs hx => ?_) (fun σ => ?_) (o0, t0))
  · refine c_X7_bestBeside_16_8 ?_
    rw [q1, nI_add s 1]
    have hb : gB w x (s + 1) = if (!decide (tb x s)) = true then (match gB w x s with
      | none => some s
      | some b => if gv w x b < gv w x s then some s else some b) else gB w x s := rfl
    refine br_f (nI_ge hs (by omega)) ⟨fun c => ?_, fun c => ?_⟩
    · have c' : tb x s := Classical.byContradiction (fun z => c ((tb_n0 x (by omega)).mpr z))
      rw [decide_eq_true c'] at hb
      have hb : gB w x (s + 1) = gB w x s := hb
      rw [hb] at hx
      exact hx σ
    · have c' : ¬ tb x s := (tb_n0 x (by omega)).mp c
      rw [decide_eq_false c'] at hb
      refine s_coverG hv hr h44 (fun t' => ?_)
      have gE : wS w (SO w (rcN w) (x ||| nI 1 <<< (nI s &&& 31))) 12 = gv w x s := rfl
      rw [gE]
      refine ⟨fun c2 => ?_, fun c2 => s_covered ?_⟩
      · cases ho : gB w x s with
        | none =>
          rw [ho] at c2
          obtain ⟨k, hk, ek⟩ := V_wS hv.1 (SO w (rcN w) (x ||| b1 s))
          have c2 : gv w x s ≤ -1 := c2
          rw [show gv w x s = nI k from ek] at c2
          exact ((z_m1lt (by omega)).mp c2).elim
        | some b =>
          rw [ho] at c2 hb
          have c2 : gv w x s ≤ gv w x b := c2
          have hb : gB w x (s + 1) = some b := hb.trans (if_neg (fun z => i_nle.mpr z c2))
          have := hx (SO w (rcN w) (x ||| b1 s), t')
          rw [hb] at this
          exact this
      · have e17 : wS ((pM X (SO w (rcN w) (x ||| nI 1 <<< (nI s &&& 31))) t').1 17) ((pM X (SO w (rcN w) (x ||| nI 1 <<< (nI s &&& 31))) t').1 43 2) 12 = gv w x s := wS_17 hr _
        rw [e17]
        have hb' : gB w x (s + 1) = some s := by
          cases ho : gB w x s with
          | none => rw [ho] at hb; exact hb
          | some b =>
            rw [ho] at c2 hb
            have c2 : ¬ gv w x s ≤ gv w x b := c2
            exact hb.trans (if_pos (i_nle.mp c2))
        have := hx (SO w (rcN w) (x ||| b1 s), t')
        rw [hb'] at this
        exact this
  · refine c_X7_bestBeside_16_8 ?_
    rw [q1]
    refine br_t (nI_le (Nat.le_refl _) (by omega)) ?_
    have e : oM0 (gB w x (sN w)) = nI (gN w x) := by
      unfold gN
      cases gB w x (sN w) <;> rfl
    rw [e]
    exact h σ.1 σ.2
theorem m_greedy {Q : Int32 → Mem → Prop} (hv : V (M.1 53) t) (h : Q (nI (cn (gL (M.1 53)) (sN (M.1 53)))) (rwM (lyM (thr M) (rcN (M.1 53))) (sN (M.1 53)) (fun k => (nI (gN (M.1 53) (gX (M.1 53) k))).toInt64))) : exI (LY pl tl) (d + 6) 202 [.ref 52] M Q := by
  have s8 := hv.1.1.2
  have hp := pow8 s8
  refine e_X11_greedy (s_lyT (t := t) hv ?_)
  generalize hA : lyM (thr M) (rcN (M.1 53)) = A at h
  have a53 : A.1 53 = M.1 53 := by rw [← hA]; rfl
  have a59 : ∀ s, s < sN (M.1 53) → A.1 59 s = rM (M.1 53) (rcN (M.1 53)) s := by rw [← hA]; exact ly59 (M := thr M)
  generalize hw : M.1 53 = w at *
  rw [rwM_0 _ (fun k => (nI (gN w (gX w k))).toInt64)]
  have q1 : ∀ n g, (rwM A n g).1 53 456 = nI (sN w) := fun n g => (congrFun a53 456).trans hv.1.1.1
  have cov : ∀ (n : Nat) (x : Int32) {Q : Int32 → Mem → Prop}, Q (wS w (SO w (rcN w) x) 12) (rwM A n (fun k => (nI (gN w (gX w k))).toInt64)) → exI (LY pl tl) (d + 5) 192 [.ref 52, .int x] (rwM A n (fun k => (nI (gN w (gX w k))).toInt64)) (fun r1 M1 => exI (LY pl tl) (d + 5) 166 [.ref 52, .int r1] M1 Q) := fun n x {Q} hq => by
    have e53 : (rwM A n (fun k => (nI (gN w (gX w k))).toInt64)).1 53 = w := a53
    refine s_reachedBy (r := rcN w) (by rw [e53]; exact hv.1.1.1) (by rw [e53]; exact s8) (by rw [e53]; exact a59) (s_weightOf ?_)
    rw [e53]
    exact hq
  refine lp_0 (X := fx (LY pl tl) (d + 5) m_X11_greedy (qI Q)) (fun k => (20, [some (.ref 52), some (.int (gX w k)), some (.int (nI (cn (gL w) k))), some (.int (nI (k + 1))), none, none], [], rwM A k (fun k => (nI (gN w (gX w k))).toInt64))) (sN w) (fun k hk hx => ?_) ?_
  · refine c_X11_greedy_20 ?_
    rw [q1]
    refine br_f (nI_nlt (by omega) (by omega)) ?_
    refine lp_0 (X := fx (LY pl tl) (d + 5) m_X11_greedy (qI Q)) (fun s => (38, [some (.ref 52), some (.int (gX w k)), some (.int (nI (cn (gL w) k))), some (.int (nI (k + 1))), some (.int (oM1 (gB w (gX w k) s))), some (.int (nI s))], [], rwM A k (fun k => (nI (gN w (gX w k))).toInt64))) (sN w) (fun s hs hy => ?_) ?_
    · refine c_X11_greedy_38 ?_
      rw [q1, nI_add s 1]
      have hb : gB w (gX w k) (s + 1) = if (!decide (tb (gX w k) s)) = true then (match gB w (gX w k) s with
        | none => some s
        | some b => if gv w (gX w k) b < gv w (gX w k) s then some s else some b) else gB w (gX w k) s := rfl
      refine br_f (nI_ge hs (by omega)) ⟨fun c => ?_, fun c => ?_⟩
      · have c' : ¬ tb (gX w k) s := c
        rw [decide_eq_false c'] at hb
        cases ho : gB w (gX w k) s with
        | none =>
          rw [ho] at hb
          have hb : gB w (gX w k) (s + 1) = some s := hb
          rw [hb] at hy
          exact br_t rfl hy
        | some b =>
          rw [ho] at hb
          have hbl := (bb_lt ho).1
          refine br_f (fun z => (z_m1 (show b < 2147483648 by omega)).mp z) (cov k (gX w k ||| nI 1 <<< (nI s &&& 31)) (cov k (gX w k ||| nI 1 <<< (nI b &&& 31)) ?_))
          refine ⟨fun c2 => ?_, fun c2 => ?_⟩
          · have c2 : gv w (gX w k) s ≤ gv w (gX w k) b := c2
            have hb : gB w (gX w k) (s + 1) = some b := hb.trans (if_neg (fun z => i_nle.mpr z c2))
            rw [hb] at hy
            exact hy
          · have c2 : ¬ gv w (gX w k) s ≤ gv w (gX w k) b := c2
            have hb : gB w (gX w k) (s + 1) = some s := hb.trans (if_pos (i_nle.mp c2))
            rw [hb] at hy
            exact hy
      · have c' : tb (gX w k) s := c
        rw [decide_eq_true c'] at hb
        have hb : gB w (gX w k) (s + 1) = gB w (gX w k) s := hb
        rw [hb] at hy
        exact hy
    · obtain ⟨g1, g2⟩ := (gX_cn w s8 k).2 hk
      refine c_X11_greedy_38 ?_
      rw [q1, g1, nI_add (k + 1) 1, nI_add _ 1, nI_add _ 0]
      refine br_t (nI_le (Nat.le_refl _) (by omega)) ?_
      have go1 : oM1 (some (gN w (gX w k))) = nI (gN w (gX w k)) := rfl
      rw [go1]
      refine s_mtell (k + 1) rfl (by omega) rfl (cov (k + 1) (gX w (k + 1)) (s_bestSetG (t := t) (w := w) a53 hv a59 (by omega) (fun hb2 => cov (k + 1) (nI (bsN w (k + 1))) ⟨fun c => ?_, fun c => ?_⟩)))
      · rw [show cn (gL w) (k + 1) = cn (gL w) k from if_neg (by unfold gL SCv; rw [decide_eq_true c]; simp)] at hx
        exact hx
      · rw [show cn (gL w) (k + 1) = cn (gL w) k + 1 from if_pos (by unfold gL SCv; rw [decide_eq_false c]; rfl)] at hx
        exact hx
  · refine c_X11_greedy_20 ?_
    rw [q1]
    exact br_t (nI_lt (by omega) (by omega)) h
theorem op_greedy (h : Inv t M) (ht : t < 512) : Op pl tl (d + 12) 25 [.ref 0] 202 [.ref 52] t M := by
  have hI := h.up (t' := t + 1) (by omega) (by omega)
  obtain ⟨⟨hv, hr⟩, -⟩ := h
  have s8 := hv.1.1.2
  have hp := pow8 s8
  refine e_X10_greedy (s_lk hv hr (s_clear (fun k => (nI (gN (M.1 53) (gX (M.1 53) k))).toInt64) ?_))
  generalize hA : lkC M (M.1 53) = A
  have rA : RC 15 A (M.1 53) := by rw [← hA]; exact hr
  have a44 : A.1 44 = nA (M.1 53) (rcN (M.1 53)) (A.1 44) := by rw [← hA]; exact (lk44 M (M.1 53) (rcN (M.1 53))).symm
  have q1 : ∀ o t' n g, (rwC (pM A o t') n g).1 16 8 = nI (sN (M.1 53)) := fun o t' n g => rA.1.2.1.trans hv.1.1.1
  have st := lp_s (σ := Int32 × Int32) (X := fx (LY pl tl) (d + 11) m_X10_greedy (qI (fun r M1 => exI (LY pl tl) (d + 12) 202 [.ref 52] M1 (fun r2 M2 => r2 = r ∧ Inv (t + 1) M2)))) (fun k s => (17, [some (.ref 0), some (.int (gX (M.1 53) k)), some (.int (nI (cn (gL (M.1 53)) k))), some (.int (nI (k + 1))), none], [], rwC (pM A s.1 s.2) k (fun k => (nI (gN (M.1 53) (gX (M.1 53) k))).toInt64))) (sN (M.1 53)) (fun k s hk hx => ?_) (fun s => ?_)
  · have := st (A.1 43 2, A.1 43 3)
    simp only [pM_id] at this
    exact this
  · refine c_X10_greedy_17 ?_
    rw [q1, ← pM_rwC]
    refine br_f (nI_nlt (by omega) (by omega)) (s_bestBeside (X := rwC A k (fun k => (nI (gN (M.1 53) (gX (M.1 53) k))).toInt64)) hv rA a44 (fun o t' => ?_))
    rw [pM_rwC, nI_add (k + 1) 1, nI_add _ 1]
    refine s_add (by omega) rfl ?_
    rw [← pM_rwC]
    refine s_coverG (x := gX (M.1 53) (k + 1)) (X := rwC A (k + 1) (fun k => (nI (gN (M.1 53) (gX (M.1 53) k))).toInt64)) hv rA a44 (fun t' => s_bestG (X := rwC A (k + 1) (fun k => (nI (gN (M.1 53) (gX (M.1 53) k))).toInt64)) hv rA a44 (by omega) (fun o t' hb2 => s_coverG (X := rwC A (k + 1) (fun k => (nI (gN (M.1 53) (gX (M.1 53) k))).toInt64)) hv rA a44 (fun t' => ⟨fun c => ?_, fun c => ?_⟩)))
    · have hx := hx (SO (M.1 53) (rcN (M.1 53)) (nI (bsN (M.1 53) (k + 1))), t')
      rw [show cn (gL (M.1 53)) (k + 1) = cn (gL (M.1 53)) k from if_neg (by unfold gL SCv; rw [decide_eq_true c]; simp), ← pM_rwC] at hx
      exact hx
    · have hx := hx (SO (M.1 53) (rcN (M.1 53)) (nI (bsN (M.1 53) (k + 1))), t')
      rw [show cn (gL (M.1 53)) (k + 1) = cn (gL (M.1 53)) k + 1 from if_pos (by unfold gL SCv; rw [decide_eq_false c]; rfl), ← pM_rwC] at hx
      exact hx
  · refine c_X10_greedy_17 ?_
    rw [q1]
    refine br_t (nI_lt (by omega) (by omega)) ?_
    have e53 : ∀ n g, (rwC (pM A s.1 s.2) n g).1 53 = M.1 53 := fun n g => by rw [← hA]; rfl
    refine m_greedy (t := t) (by rw [e53]; exact hv) ⟨by rw [e53], ?_⟩
    rw [e53]
    refine ⟨?_, rows_ok (B := pM A s.1 s.2) (n := sN (M.1 53)) (by omega) rfl rfl rfl rfl (fun j hj => rfl), ?_⟩
    · rw [← hA]; exact hI.1
    · rw [← hA]; exact hI.2.2
end S44
