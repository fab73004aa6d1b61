/-! WHO GOES, THE NEAREST -/
/-- a ready engine's way to a node; 999 of others -/
def ew (w : Nat → Int32) (e a : Nat) : Nat := if rdy w e = true then dist w (sp w (po w e)) a else 999
/-- the first least that is below 999 -/
def fm (v : Nat → Nat) : Nat → Option Nat
  | 0 => none
  | e + 1 => match fm v e with
    | none => if v e < 999 then some e else none
    | some g => if v e < v g then some e else some g
theorem fm_lt {v : Nat → Nat} : ∀ {n g : Nat}, fm v n = some g → g < n ∧ v g < 999
  | 0, g, h => by cases h
  | n + 1, g, h => by
    unfold fm at h
    split at h
    · split at h
      · next q => cases h; exact ⟨by omega, q⟩
      · cases h
    · next g' hg =>
      obtain ⟨i1, i2⟩ := fm_lt hg
      split at h
      · cases h; exact ⟨by omega, by omega⟩
      · cases h; exact ⟨by omega, i2⟩
def oL (v : Nat → Nat) (o : Option Nat) : Nat := match o with
  | none => 999
  | some g => v g
theorem fm_step {v : Nat → Nat} {e : Nat} : (v e < oL v (fm v e) → fm v (e + 1) = some e) ∧ (¬ v e < oL v (fm v e) → fm v (e + 1) = fm v e) := by
  show (_ → (match fm v e with
    | none => if v e < 999 then some e else none
    | some g => if v e < v g then some e else some g) = _) ∧ (_ → (match fm v e with
    | none => if v e < 999 then some e else none
    | some g => if v e < v g then some e else some g) = _)
  cases h : fm v e with
  | none => exact ⟨fun q => if_pos q, fun q => if_neg q⟩
  | some g => exact ⟨fun q => if_pos q, fun q => if_neg q⟩
theorem ew_le {w : Nat → Int32} {t : Nat} (hv : V w t) {e a : Nat} (he : e < eN w) (ha : a < 12) : ew w e a ≤ 999 := by
  unfold ew
  split
  · exact dist_le hv.1.2.2.2.2.2.1 (hv.1.2.2.2.1 _ (hv.2.1.2 e he).1.2).2 ha
  · exact Nat.le_refl _
section S23
variable {pl : Option Nat} {tl : List LC} {d : Nat} {M : Mem} {t : Nat}
theorem s_readyWay {Q : Int32 → Mem → Prop} {w : Nat → Int32} {e a : Nat} (hv : V w t) (hr : RC 15 M w) (he : e < eN w) (ha : a < 12) (h : Q (nI (ew w e a)) M) : exI (LY pl tl) (d + 3) 128 [.ref 15, .int (nI e), .int (nI a)] M Q := by
  have hn6 := hv.2.1.1.2
  have hs8 := hv.1.1.2
  have hM : M.1 24 4 = nI (eN w) := hr.2.1.1.trans hv.2.1.1.1
  obtain ⟨w1, w2, w3⟩ := hr.2.1.2.1 e he
  obtain ⟨⟨p1, p2⟩, m1, m2⟩ := hv.2.1.2 e he
  obtain ⟨s1, s2⟩ := hv.1.2.2.2.1 _ p2
  have hv6 : vp_in (nI e) 6 := (z_in (by omega) (by omega)).mpr (by omega)
  refine e_X9_readyWay ?_
  rw [hM, z_cl (by omega), w1, w2, p1]
  refine br_f (nI_pos (by omega)) (br_f (nI_ge he (by omega)) ⟨hv6, fun c => ⟨hv6, ?_⟩, fun c => ?_⟩)
  · refine s_placeOf_y hs8 (hr.1.2.1.trans hv.1.1.1) p2 ?_
    rw [(hr.1.2.2.2.1 _ p2).trans s1]
    refine s_wayOf s2 ha ?_
    have : ew w e a = dist w (sp w (po w e)) a := if_pos (by unfold rdy; exact decide_eq_true c)
    have e2 : M.1 22 (12 * sp w (po w e) + a) = nI (dist w (sp w (po w e)) a) := hr.1.2.2.2.2.2 _ _ s2 ha
    rw [e2, ← this]
    exact h
  · have : ew w e a = 999 := if_neg (by unfold rdy; intro q; exact c (of_decide_eq_true q))
    rw [this] at h
    exact h
theorem s_readyWay_n {Q : Int32 → Mem → Prop} {x : Int32} (h : Q (nI 999) M) : exI (LY pl tl) (d + 3) 128 [.ref 15, .int (-1), .int x] M Q := e_X9_readyWay (br_t (by decide) h)
theorem s_whoGoes {Q : Int32 → Mem → Prop} {w : Nat → Int32} {a : Nat} (hv : V w t) (hr : RC 15 M w) (ha : a < 12) (h : Q (oM1 (fm (fun e => ew w e a) (eN w))) M) : exI (LY pl tl) (d + 4) 129 [.ref 15, .int (nI a)] M Q := by
  have hn6 := hv.2.1.1.2
  have hM : M.1 24 4 = nI (eN w) := hr.2.1.1.trans hv.2.1.1.1
  refine e_X9_whoGoes (lp_0 (X := fx (LY pl tl) (d + 3) m_X9_whoGoes (qI Q)) (fun e => (9, [some (.ref 15), some (.int (nI a)), some (.int (oM1 (fm (fun e => ew w e a) e))), some (.int (nI (oL (fun e => ew w e a) (fm (fun e => ew w e a) e)))), some (.int (nI e)), none], [], M)) (eN w) (fun e he hx => ?_) ?_)
  · refine c_X9_whoGoes_9 ?_
    rw [hM]
    have hL : oL (fun e => ew w e a) (fm (fun e => ew w e a) e) ≤ 999 := by
      cases hf : fm (fun e => ew w e a) e with
      | none => exact Nat.le_refl _
      | some g => have := (fm_lt hf).2; exact Nat.le_of_lt this
    have hE := ew_le hv he ha
    refine br_f (nI_ge he (by omega)) (s_readyWay hv hr he ha ?_)
    rw [nI_add, z_le (by omega) (by omega)]
    obtain ⟨q1, q2⟩ := fm_step (v := fun e => ew w e a) (e := e)
    refine ⟨fun c => ?_, fun c => ?_⟩
    · rw [q2 (by show ¬ ew w e a < _; omega)] at hx
      exact hx
    · rw [q1 (by show ew w e a < _; omega)] at hx
      exact hx
  · refine c_X9_whoGoes_9 ?_
    rw [hM]
    exact br_t (nI_le (Nat.le_refl _) (by omega)) h
theorem s_wayM {Q : Int32 → Mem → Prop} {e a : Nat} (hv : V (M.1 53) t) (h58 : ∀ a b, a < 12 → b < 12 → M.1 58 (12 * a + b) = nI (dist (M.1 53) a b)) (he : e < eN (M.1 53)) (ha : a < 12) (h : Q (nI (dist (M.1 53) (sp (M.1 53) (po (M.1 53) e)) a)) M) : exI (LY pl tl) (d + 2) 170 [.ref 52, .int (nI e), .int (nI a)] M Q := by
  have hn6 := hv.2.1.1.2
  have hs8 := hv.1.1.2
  obtain ⟨⟨p1, p2⟩, m1, m2⟩ := hv.2.1.2 e he
  obtain ⟨s1, s2⟩ := hv.1.2.2.2.1 _ p2
  refine e_X11_wayOf ?_
  rw [nI_add, z_cl (show 308 + e < 2147483648 by omega), p1, nI_add, z_cl (show 300 + po (M.1 53) e < 2147483648 by omega), s1]
  refine ⟨(z_in (by omega) (by omega)).mpr (by omega), (z_in (by omega) (by omega)).mpr (by omega), s_farOf s2 ha ?_⟩
  rw [h58 _ _ s2 ha]
  exact h
theorem s_goer {Q : Int32 → Mem → Prop} {a : Nat} (hv : V (M.1 53) t) (h58 : ∀ a b, a < 12 → b < 12 → M.1 58 (12 * a + b) = nI (dist (M.1 53) a b)) (ha : a < 12) (h : Q (oM1 (fm (fun e => ew (M.1 53) e a) (eN (M.1 53)))) M) : exI (LY pl tl) (d + 3) 172 [.ref 52, .int (nI a)] M Q := by
  have hn6 := hv.2.1.1.2
  refine e_X11_goer (lp_0 (X := fx (LY pl tl) (d + 2) m_X11_goer (qI Q)) (fun e => (4, [some (.ref 52), some (.int (nI a)), some (.int (oM1 (fm (fun e => ew (M.1 53) e a) e))), some (.int (nI e))], [], M)) (eN (M.1 53)) (fun e he hx => ?_) ?_)
  · refine c_X11_goer_4 ?_
    rw [hv.2.1.1.1]
    refine br_f (nI_ge he (by omega)) (s_isReady (by omega) ?_)
    rw [nI_add e 1]
    obtain ⟨q1, q2⟩ := fm_step (v := fun e => ew (M.1 53) e a) (e := e)
    have hE := ew_le hv he ha
    by_cases hrd : M.1 53 (320 + e) = nI 0
    · rw [if_pos hrd]
      have hew : ew (M.1 53) e a = dist (M.1 53) (sp (M.1 53) (po (M.1 53) e)) a := if_pos (by unfold rdy; exact decide_eq_true hrd)
      refine ⟨fun c => absurd c (by decide), fun _ => s_wayM hv h58 he ha ?_⟩
      rw [← hew, z_le (by omega) (by omega)]
      refine ⟨fun c => ?_, fun c => ?_⟩
      · have hL : oL (fun e => ew (M.1 53) e a) (fm (fun e => ew (M.1 53) e a) e) ≤ 999 := by
          cases hf : fm (fun e => ew (M.1 53) e a) e with
          | none => exact Nat.le_refl _
          | some g => have := (fm_lt hf).2; exact Nat.le_of_lt this
        rw [q2 (by show ¬ ew (M.1 53) e a < _; omega)] at hx
        exact hx
      · cases hf : fm (fun e => ew (M.1 53) e a) e with
        | none =>
          rw [hf] at q1
          rw [q1 (by show ew (M.1 53) e a < 999; omega)] at hx
          exact br_t rfl hx
        | some g =>
          obtain ⟨g1, g2⟩ := fm_lt hf
          have g2 : ew (M.1 53) g a < 999 := g2
          have hg : g < eN (M.1 53) := by omega
          have hgr : ew (M.1 53) g a = dist (M.1 53) (sp (M.1 53) (po (M.1 53) g)) a := by
            unfold ew
            by_cases q : rdy (M.1 53) g = true
            · rw [if_pos q]
            · exfalso
              have : ew (M.1 53) g a = 999 := if_neg q
              omega
          refine br_f (show ¬ nI g = -1 by rw [z_m1 (by omega)]; exact id) (s_wayM hv h58 he ha (s_wayM hv h58 hg ha ?_))
          rw [← hew, ← hgr, z_le (by omega) (by omega)]
          rw [hf] at q1 q2
          refine ⟨fun c2 => ?_, fun c2 => ?_⟩
          · rw [q2 (by show ¬ ew (M.1 53) e a < ew (M.1 53) g a; omega)] at hx
            exact hx
          · rw [q1 (by show ew (M.1 53) e a < ew (M.1 53) g a; omega)] at hx
            exact hx
    · rw [if_neg hrd]
      refine ⟨fun _ => ?_, fun c => absurd rfl c⟩
      have hew : ew (M.1 53) e a = 999 := if_neg (by unfold rdy; intro q; exact hrd (of_decide_eq_true q))
      have hL : oL (fun e => ew (M.1 53) e a) (fm (fun e => ew (M.1 53) e a) e) ≤ 999 := by
        cases hf : fm (fun e => ew (M.1 53) e a) e with
        | none => exact Nat.le_refl _
        | some g => have := (fm_lt hf).2; exact Nat.le_of_lt this
      rw [q2 (by show ¬ ew (M.1 53) e a < _; omega)] at hx
      exact hx
  · refine c_X11_goer_4 ?_
    rw [hv.2.1.1.1]
    exact br_t (nI_le (Nat.le_refl _) (by omega)) h
theorem s_nearestC {Q : Int32 → Mem → Prop} {w : Nat → Int32} {a : Nat} (hv : V w t) (hr : RC 15 M w) (ha : a < 12) (h : Q (oM1 (fm (fun s => dist w (sp w s) a) (sN w))) M) : exI (LY pl tl) (d + 3) 88 [.ref 16, .int (nI a)] M Q := by
  have hs8 := hv.1.1.2
  have hM : M.1 16 8 = nI (sN w) := hr.1.2.1.trans hv.1.1.1
  refine e_X3_nearestStation_16 (lp_0 (X := fx (LY pl tl) (d + 2) m_X3_nearestStation (qI Q)) (fun e => (9, [some (.ref 16), some (.int (nI a)), some (.int (oM1 (fm (fun s => dist w (sp w s) a) e))), some (.int (nI (oL (fun s => dist w (sp w s) a) (fm (fun s => dist w (sp w s) a) e)))), some (.int (nI e)), none], [], M)) (sN w) (fun e he hx => ?_) ?_)
  · obtain ⟨s1, s2⟩ := hv.1.2.2.2.1 e he
    refine c_X3_nearestStation_16_9 ?_
    rw [hM, z_cl (by omega), (hr.1.2.2.2.1 e he).trans s1]
    have hL : oL (fun s => dist w (sp w s) a) (fm (fun s => dist w (sp w s) a) e) ≤ 999 := by
      cases hf : fm (fun s => dist w (sp w s) a) e with
      | none => exact Nat.le_refl _
      | some g => have := (fm_lt hf).2; exact Nat.le_of_lt this
    have hE := dist_le hv.1.2.2.2.2.2.1 s2 ha
    refine br_f (nI_ge he (by omega)) ⟨(z_in (by omega) (by omega)).mpr (by omega), s_wayOf s2 ha ?_⟩
    have e2 : M.1 22 (12 * sp w e + a) = nI (dist w (sp w e) a) := hr.1.2.2.2.2.2 _ _ s2 ha
    rw [e2, nI_add, z_le (by omega) (by omega)]
    obtain ⟨q1, q2⟩ := fm_step (v := fun s => dist w (sp w s) a) (e := e)
    refine ⟨fun c => ?_, fun c => ?_⟩
    · rw [q2 (by show ¬ dist w (sp w e) a < _; omega)] at hx
      exact hx
    · rw [q1 (by show dist w (sp w e) a < _; omega)] at hx
      exact hx
  · refine c_X3_nearestStation_16_9 ?_
    rw [hM]
    exact br_t (nI_le (Nat.le_refl _) (by omega)) h
theorem s_nearestM {Q : Int32 → Mem → Prop} {a : Nat} (hv : V (M.1 53) t) (h58 : ∀ a b, a < 12 → b < 12 → M.1 58 (12 * a + b) = nI (dist (M.1 53) a b)) (ha : a < 12) (h : Q (oM1 (fm (fun s => dist (M.1 53) (sp (M.1 53) s) a) (sN (M.1 53)))) M) : exI (LY pl tl) (d + 2) 171 [.ref 52, .int (nI a)] M Q := by
  have hs8 := hv.1.1.2
  refine e_X11_nearestStation (lp_0 (X := fx (LY pl tl) (d + 1) m_X11_nearestStation (qI Q)) (fun e => (4, [some (.ref 52), some (.int (nI a)), some (.int (oM1 (fm (fun s => dist (M.1 53) (sp (M.1 53) s) a) e))), some (.int (nI e)), none], [], M)) (sN (M.1 53)) (fun e he hx => ?_) ?_)
  · obtain ⟨s1, s2⟩ := hv.1.2.2.2.1 e he
    have hE := dist_le hv.1.2.2.2.2.2.1 s2 ha
    refine c_X11_nearestStation_4 ?_
    rw [hv.1.1.1, nI_add 300 e, z_cl (show 300 + e < 2147483648 by omega), s1, nI_add e 1]
    obtain ⟨q1, q2⟩ := fm_step (v := fun s => dist (M.1 53) (sp (M.1 53) s) a) (e := e)
    refine br_f (nI_ge he (by omega)) ⟨(z_in (by omega) (by omega)).mpr (by omega), s_farOf s2 ha ?_⟩
    rw [h58 _ _ s2 ha, z_le (by omega) (by omega)]
    refine ⟨fun c => ?_, fun c => ?_⟩
    · have hL : oL (fun s => dist (M.1 53) (sp (M.1 53) s) a) (fm (fun s => dist (M.1 53) (sp (M.1 53) s) a) e) ≤ 999 := by
        cases hf : fm (fun s => dist (M.1 53) (sp (M.1 53) s) a) e with
        | none => exact Nat.le_refl _
        | some g => have := (fm_lt hf).2; exact Nat.le_of_lt this
      rw [q2 (by show ¬ dist (M.1 53) (sp (M.1 53) e) a < _; omega)] at hx
      exact hx
    · cases hf : fm (fun s => dist (M.1 53) (sp (M.1 53) s) a) e with
      | none =>
        rw [hf] at q1
        rw [q1 (by show dist (M.1 53) (sp (M.1 53) e) a < 999; omega)] at hx
        exact br_t rfl hx
      | some g =>
        obtain ⟨g1, g2⟩ := fm_lt hf
        have g2 : dist (M.1 53) (sp (M.1 53) g) a < 999 := g2
        obtain ⟨u1, u2⟩ := hv.1.2.2.2.1 g (by omega)
        refine br_f (show ¬ nI g = -1 by rw [z_m1 (by omega)]; exact id) ?_
        show vp_in (nI 300 + nI g) 480 ∧ _
        have e3 : M.1 53 (nI 300 + oM1 (some g)).toNatClampNeg = nI (sp (M.1 53) g) := by
          show M.1 53 (nI 300 + nI g).toNatClampNeg = _
          rw [nI_add, z_cl (by omega)]; exact u1
        rw [e3]
        refine ⟨by rw [nI_add]; exact (z_in (by omega) (by omega)).mpr (by omega), s_farOf u2 ha ?_⟩
        rw [h58 _ _ u2 ha, z_le (by omega) (by omega)]
        rw [hf] at q1 q2
        refine ⟨fun c2 => ?_, fun c2 => ?_⟩
        · rw [q2 (by show ¬ dist (M.1 53) (sp (M.1 53) e) a < dist (M.1 53) (sp (M.1 53) g) a; omega)] at hx
          exact hx
        · rw [q1 (by show dist (M.1 53) (sp (M.1 53) e) a < dist (M.1 53) (sp (M.1 53) g) a; omega)] at hx
          exact hx
  · refine c_X11_nearestStation_4 ?_
    rw [hv.1.1.1]
    exact br_t (nI_le (Nat.le_refl _) (by omega)) h
theorem ly58 {M : Mem} {r : Nat} : ∀ a b, a < 12 → b < 12 → (lyM M r).1 58 (12 * a + b) = nI (dist (M.1 53) a b) := fun a b ha hb => fA_at _ _ ha hb
/-- how many ready engines reach a node, as the class counts -/
theorem s_readyReach {Q : Int32 → Mem → Prop} {w : Nat → Int32} {a : Nat} (hv : V w t) (hr : RC 15 M w) (ha : a < 12) (h : Q (nI (rf w (rcN w) a)) M) : exI (LY pl tl) (d + 4) 53 [.ref 0, .int (nI a)] M Q := by
  have hn6 := hv.2.1.1.2
  have hM : M.1 24 4 = nI (eN w) := hr.2.1.1.trans hv.2.1.1.1
  have hR : M.1 15 2 = nI (rcN w) := hr.2.2.1.1.trans hv.2.2.1.1.1
  have hrc := hv.2.2.1.1.2.2
  refine e_X10_readyThatReach (lp_0 (X := fx (LY pl tl) (d + 3) m_X10_readyThatReach (qI Q)) (fun e => (4, [some (.ref 0), some (.int (nI a)), some (.int (nI (cn (fun e => rdy w e && decide (tb (rM w (rcN w) (po w e)) a)) e))), some (.int (nI e))], [], M)) (eN w) (fun e he hx => ?_) ?_)
  · refine c_X10_readyThatReach_4 ?_
    rw [hM]
    have hE := ew_le hv he ha
    refine br_f (nI_ge he (by omega)) (s_readyWay hv hr he ha ?_)
    rw [hR, nI_add, nI_add, z_lt (by omega) (by omega)]
    have key : (rdy w e && decide (tb (rM w (rcN w) (po w e)) a)) = true ↔ ew w e a ≤ rcN w := by
      unfold ew rM
      rw [Bool.and_eq_true, decide_eq_true_eq, mk_tb _ (by omega) (by omega)]
      by_cases q : rdy w e = true
      · rw [if_pos q]; simp [q, ha]
      · rw [if_neg q]; simp [q]; omega
    refine ⟨fun c => ?_, fun c => ?_⟩
    · have : cn (fun e => rdy w e && decide (tb (rM w (rcN w) (po w e)) a)) (e + 1) = cn (fun e => rdy w e && decide (tb (rM w (rcN w) (po w e)) a)) e := if_neg (fun q => by have := key.mp q; omega)
      rw [this] at hx
      exact hx
    · have : cn (fun e => rdy w e && decide (tb (rM w (rcN w) (po w e)) a)) (e + 1) = cn (fun e => rdy w e && decide (tb (rM w (rcN w) (po w e)) a)) e + 1 := if_pos (key.mpr (by omega))
      rw [this] at hx
      exact hx
  · refine c_X10_readyThatReach_4 ?_
    rw [hM]
    exact br_t (nI_le (Nat.le_refl _) (by omega)) h
theorem op_node {x y : Int32} (h : Inv t M) (ht : t < 512) : Op pl tl (d + 12) 11 [.ref 0, .int x, .int y] 173 [.ref 52, .int x, .int y] t M := by
  have hI := h.up (t' := t + 1) (by omega) (by omega)
  obtain ⟨⟨hv, hr⟩, -⟩ := h
  have hs8 := hv.1.1.2
  refine e_X10_node (s_cNode (fun a ha e => ?_) (fun q => ⟨fun c => absurd rfl c, fun _ => e_X11_node (s_mNode (fun j hj e => ?_) (fun _ => ⟨fun c => absurd rfl c, fun _ => ⟨rfl, hI⟩⟩))⟩))
  · subst e
    have hv12 : vp_in (nI a) 12 := (z_in (by omega) (by omega)).mpr ha
    -- the reference
    have goM : ∀ (Q : Int32 → Mem → Prop), ((y.toInt < 0 ∨ 3 < y.toInt) → Q (-1) (lyM (thr M) (rcN (M.1 53)))) → (y = nI 0 → Q (M.1 53 a) (lyM (thr M) (rcN (M.1 53)))) → (y = nI 1 → Q (nI (rf (M.1 53) (rcN (M.1 53)) a)) (lyM (thr M) (rcN (M.1 53)))) → (y = nI 2 → Q (oM1 (fm (fun s => dist (M.1 53) (sp (M.1 53) s) a) (sN (M.1 53)))) (lyM (thr M) (rcN (M.1 53)))) → (y = nI 3 → Q (oM1 (fm (fun e => ew (M.1 53) e a) (eN (M.1 53)))) (lyM (thr M) (rcN (M.1 53)))) → exI (LY pl tl) (d + 12) 173 [.ref 52, .int (nI a), .int y] M Q := by
      intro Q g0 g1 g2 g3 g4
      refine e_X11_node (s_mNode (fun _ _ _ => ⟨fun _ => s_ly (t := t) hv ⟨g0, fun q => ?_, fun q => s_readyFor (r := rcN (M.1 53)) hv.2.1 ha (ly59 (M := thr M)) hs8 (g2 q), fun q => s_nearestM (t := t) hv (ly58 (M := thr M)) ha (g3 q), fun q => s_goer (t := t) hv (ly58 (M := thr M)) ha (g4 q), trivial⟩, fun c => absurd c (by decide)⟩) (fun q => (out_nI ha (by omega) q).elim))
      rw [z_0add, z_cl (by omega)]
      exact ⟨(z_in (by omega) (by omega)).mpr (by omega), g1 q⟩
    have no : ∀ {i j : Nat} {X : Prop}, i < 4 → j < 4 → i ≠ j → y = nI i → y = nI j → X := fun hi hj hij z z' => absurd ((nI_eq (by omega) (by omega)).mp (z.symm.trans z')) hij
    have inn : ∀ {i : Nat} {X : Prop}, i < 4 → y = nI i → (y.toInt < 0 ∨ 3 < y.toInt) → X := fun hi e z => by rw [e, nI_toInt (by omega)] at z; omega
    refine ⟨fun _ => ⟨fun q => ?_, fun q => ⟨hv12, ?_⟩, fun q => s_readyReach hv hr ha ?_, fun q => s_nearestC hv hr ha ?_, fun q => s_whoGoes hv hr ha ?_, trivial⟩, fun c => absurd c (by decide)⟩
    · exact goM _ (fun _ => ⟨rfl, hI⟩) (fun z => inn (by omega) z q) (fun z => inn (by omega) z q) (fun z => inn (by omega) z q) (fun z => inn (by omega) z q)
    · rw [z_cl (by omega)]
      exact goM _ (fun z => inn (by omega) q z) (fun z => ⟨(hr.1.1 a ha).symm, hI⟩) (fun z => no (by omega) (by omega) (by omega) z q) (fun z => no (by omega) (by omega) (by omega) z q) (fun z => no (by omega) (by omega) (by omega) z q)
    · exact goM _ (fun z => inn (by omega) q z) (fun z => no (by omega) (by omega) (by omega) z q) (fun z => ⟨rfl, hI⟩) (fun z => no (by omega) (by omega) (by omega) z q) (fun z => no (by omega) (by omega) (by omega) z q)
    · exact goM _ (fun z => inn (by omega) q z) (fun z => no (by omega) (by omega) (by omega) z q) (fun z => no (by omega) (by omega) (by omega) z q) (fun z => ⟨rfl, hI⟩) (fun z => no (by omega) (by omega) (by omega) z q)
    · exact goM _ (fun z => inn (by omega) q z) (fun z => no (by omega) (by omega) (by omega) z q) (fun z => no (by omega) (by omega) (by omega) z q) (fun z => no (by omega) (by omega) (by omega) z q) (fun z => ⟨rfl, hI⟩)
  · subst e; exact (out_nI hj (by omega) q).elim
end S23
