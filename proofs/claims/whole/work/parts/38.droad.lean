/-! DEAREST ROAD: reaches of their own -/
def rfG (f : Nat → Int32) (w : Nat → Int32) (a : Nat) : Nat := cn (fun e => rdy w e && decide (tb (f (po w e)) a)) (eN w)
theorem rfG_le (f : Nat → Int32) (w : Nat → Int32) (a : Nat) : rfG f w a ≤ eN w := cn_le _ _
section S38
variable {pl : Option Nat} {tl : List LC} {d : Nat} {M : Mem} {t : Nat}
theorem s_readyForG {Q : Int32 → Mem → Prop} {f : Nat → Int32} {a : Nat} (hc : VC (M.1 53)) (ha : a < 12) (h59 : ∀ s, s < sN (M.1 53) → M.1 59 s = f s) (hs8 : sN (M.1 53) ≤ 8) (h : Q (nI (rfG f (M.1 53) a)) M) : exI (LY pl tl) (d + 2) 169 [.ref 52, .int (nI a)] M Q := by
  have hn6 := hc.1.2
  refine e_X11_readyFor (lp_0 (X := fx (LY pl tl) (d + 1) m_X11_readyFor (qI Q)) (fun e => (4, [some (.ref 52), some (.int (nI a)), some (.int (nI (cn (fun e => rdy (M.1 53) e && decide (tb (f (po (M.1 53) e)) a)) e))), some (.int (nI e))], [], M)) (eN (M.1 53)) (fun e he hx => ?_) ?_)
  · obtain ⟨⟨p1, p2⟩, m1, m2⟩ := hc.2 e he
    refine c_X11_readyFor_4 ?_
    rw [hc.1.1]
    refine br_f (nI_ge he (by omega)) (s_isReady (by omega) ?_)
    rw [nI_add, nI_add, nI_add, nI_add, Nat.add_zero, z_cl (show 308 + e < 2147483648 by omega), p1, z_cl (by omega), h59 _ p2]
    by_cases q : M.1 53 (320 + e) = nI 0
    · rw [if_pos q]
      refine ⟨fun c => absurd c (by decide), fun _ => ⟨(z_in (by omega) (by omega)).mpr (by omega), (z_in (by omega) (by omega)).mpr (by omega), fun c => ?_, fun c => ?_⟩⟩
      · have : cn (fun e => rdy (M.1 53) e && decide (tb (f (po (M.1 53) e)) a)) (e + 1) = cn (fun e => rdy (M.1 53) e && decide (tb (f (po (M.1 53) e)) a)) e := if_neg (by simp; intro _; exact c)
        rw [this] at hx
        exact hx
      · have : cn (fun e => rdy (M.1 53) e && decide (tb (f (po (M.1 53) e)) a)) (e + 1) = cn (fun e => rdy (M.1 53) e && decide (tb (f (po (M.1 53) e)) a)) e + 1 := if_pos (by simp [rdy, q]; exact c)
        rw [this] at hx
        exact hx
    · rw [if_neg q]
      refine ⟨fun _ => ?_, fun c => absurd rfl c⟩
      have : cn (fun e => rdy (M.1 53) e && decide (tb (f (po (M.1 53) e)) a)) (e + 1) = cn (fun e => rdy (M.1 53) e && decide (tb (f (po (M.1 53) e)) a)) e := if_neg (by simp [rdy, q])
      rw [this] at hx
      exact hx
  · refine c_X11_readyFor_4 ?_
    rw [hc.1.1]
    exact br_t (nI_le (Nat.le_refl _) (by omega)) h
theorem s_reachedNowG {Q : Int32 → Mem → Prop} {f : Nat → Int32} (hc : VC (M.1 53)) (h59 : ∀ s, s < sN (M.1 53) → M.1 59 s = f s) (hs8 : sN (M.1 53) ≤ 8) (h : Q (mk (fun a => decide (0 < rfG f (M.1 53) a)) 12) M) : exI (LY pl tl) (d + 3) 189 [.ref 52] M Q := by
  have hn6 := hc.1.2
  refine e_X11_reachedNow (lp_0 (X := fx (LY pl tl) (d + 2) m_X11_reachedNow (qI Q)) (fun a => (4, [some (.ref 52), some (.int (mk (fun a => decide (0 < rfG f (M.1 53) a)) a)), some (.int (nI a))], [], M)) 12 (fun a ha hx => ?_) ?_)
  · refine c_X11_reachedNow_4 (br_f (nI_ge ha (by omega)) (s_readyForG hc ha h59 hs8 ?_))
    have := rfG_le f (M.1 53) a
    rw [nI_add, or_0]
    refine ⟨fun c => ?_, fun c => ?_⟩
    · rw [z_le0 (by omega)] at c
      have e : mk (fun a => decide (0 < rfG f (M.1 53) a)) (a + 1) = mk (fun a => decide (0 < rfG f (M.1 53) a)) a := if_neg (by simp [c])
      rw [e] at hx; exact hx
    · rw [z_le0 (by omega)] at c
      have e : mk (fun a => decide (0 < rfG f (M.1 53) a)) (a + 1) = mk (fun a => decide (0 < rfG f (M.1 53) a)) a ||| b1 a := if_pos (by simp; omega)
      rw [e] at hx; exact hx
  · exact c_X11_reachedNow_4 (br_t (nI_le (Nat.le_refl _) (by omega)) h)
theorem s_rnF {F : Int32 → Mem → Prop} {X : Mem} {w : Nat → Int32} {f : Nat → Int32} (hw : X.1 53 = w) (hv : V w t) (h59 : ∀ s, s < sN w → X.1 59 s = f s) (h : F (wS w (o1 (fun e => f (po w e)) (rdy w) (eN w)) 12) X) : exI (LY pl tl) (d + 3) 189 [.ref 52] X (fun r1 M1 => exI (LY pl tl) (d + 3) 166 [.ref 52, .int r1] M1 F) := by
  subst hw
  refine s_reachedNowG (f := f) hv.2.1 h59 hv.1.1.2 (s_weightOf ?_)
  have e : wS (X.1 53) (mk (fun a => decide (0 < rfG f (X.1 53) a)) 12) 12 = wS (X.1 53) (o1 (fun e => f (po (X.1 53) e)) (rdy (X.1 53)) (eN (X.1 53))) 12 := wS_congr 12 (fun a ha => rfl) (fun a ha => by
    rw [mk_tb _ (by omega) (by omega), o1_tb _ _ (by omega)]
    simp [ha]
    exact Iff.rfl)
  rw [e]; exact h
/-- shut, and opened again -/
theorem upS_back {w : Nat → Int32} (hr : VRd w) {a b : Nat} (ha : a < 12) (hb : b < 12) (h0 : sh w a b = 0) (v : Int32) : upS (upS w a b v) a b (nI 0) = w := by
  have e1 : w (156 + 12 * a + b) = nI 0 := by rw [(hr a b ha hb).2.1, h0]
  have e2 : w (156 + 12 * b + a) = nI 0 := by rw [(hr b a hb ha).2.1, ← (hr a b ha hb).2.2.2, h0]
  funext j
  unfold upS
  by_cases q : j = 156 + 12 * b + a
  · subst q; rw [upd_eq, e2]
  · rw [upd_ne q]
    by_cases q' : j = 156 + 12 * a + b
    · subst q'; rw [upd_eq, e1]
    · rw [upd_ne q', upd_ne q, upd_ne q']
end S38
