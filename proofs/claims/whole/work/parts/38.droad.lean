/-! DEAREST ROAD: reaches of their own -/
def rfG (f : Nat → Int32) (w : Nat → Int32) (a : Nat) : Nat := cn (fun e => rdy w e && decide (tb (f (po w e)) a)) (eN w)
theorem rfG_le (f : Nat → Int32) (w : Nat → Int32) (a : Nat) : rfG f w a ≤ eN w := cn_le _ _
section S38
variable {pl : Option Nat} {tl : List LC} {d : Nat} {M : Mem} {t : Nat}
theorem s_readyForG {Q : Int32 → Mem → Prop} {f : Nat → Int32} {a : Nat} (hc : VC (M.1 53)) (ha : a < 12) (h59 : ∀ s, s < sN (M.1 53) → M.1 59 s = f s) (hs8 : sN (M.1 53) ≤ 8) (h : Q (nI (rfG f (M.1 53) a)) M) : exI (LY pl tl) (d + 2) 169 [.ref 52, .int (nI a)] M Q := by
  have hn6 := hc.1.2
  refine e_X11_readyFor (lp_0 (X := fx (LY pl tl) (d + 1) m_X11_readyFor (qI Q)) (fun e => (4, [some (.ref 52), some (.int (nI a)), some (.int (nI (cn (fun e => rdy (M.1 53) e && decide (tb (f (po (M.1 53) e)) a)) e))), some (.int (nI e))], [], M)) (eN (M.1 53)) (fun e he hx => ?_) ?_)
  · obtain ⟨⟨p1, p2⟩, m1, m2⟩ := hc.2 e he
    refine c_X11_readyFor_4 ?_
    rw [hc.1.1]
    refine br_f (nI_ge he (by omega)) (s_isReady (by omega) ?_)
    rw [nI_add, nI_add, nI_add, nI_add, Nat.add_zero, z_cl (show 308 + e < 2147483648 by omega), p1, z_cl (by omega), h59 _ p2]
    by_cases q : M.1 53 (320 + e) = nI 0
    · rw [if_pos q]
      refine ⟨fun c => absurd c (by decide), fun _ => ⟨(z_in (by omega) (by omega)).mpr (by omega), (z_in (by omega) (by omega)).mpr (by omega), fun c => ?_, fun c => ?_⟩⟩
      · have : cn (fun e => rdy (M.1 53) e && decide (tb (f (po (M.1 53) e)) a)) (e + 1) = cn (fun e => rdy (M.1 53) e && decide (tb (f (po (M.1 53) e)) a)) e := if_neg (by simp; intro _; exact c)
        rw [this] at hx
        exact hx
      · have : cn (fun e => rdy (M.1 53) e && decide (tb (f (po (M.1 53) e)) a)) (e + 1) = cn (fun e => rdy (M.1 53) e && decide (tb (f (po (M.1 53) e)) a)) e + 1 := if_pos (by simp [rdy, q]; exact c)
        rw [this] at hx
        exact hx
    · rw [if_neg q]
      refine ⟨fun _ => ?_, fun c => absurd rfl c⟩
      have : cn (fun e => rdy (M.1 53) e && decide (tb (f (po (M.1 53) e)) a)) (e + 1) = cn (fun e => rdy (M.1 53) e && decide (tb (f (po (M.1 53) e)) a)) e := if_neg (by simp [rdy, q])
      rw [this] at hx
      exact hx
  · refine c_X11_readyFor_4 ?_
    rw [hc.1.1]
    exact br_t (nI_le (Nat.le_refl _) (by omega)) h
theorem s_reachedNowG {Q : Int32 → Mem → Prop} {f : Nat → Int32} (hc : VC (M.1 53)) (h59 : ∀ s, s < sN (M.1 53) → M.1 59 s = f s) (hs8 : sN (M.1 53) ≤ 8) (h : Q (mk (fun a => decide (0 < rfG f (M.1 53) a)) 12) M) : exI (LY pl tl) (d + 3) 189 [.ref 52] M Q := by
  have hn6 := hc.1.2
  refine e_X11_reachedNow (lp_0 (X := fx (LY pl tl) (d + 2) m_X11_reachedNow (qI Q)) (fun a => (4, [some (.ref 52), some (.int (mk (fun a => decide (0 < rfG f (M.1 53) a)) a)), some (.int (nI a))], [], M)) 12 (fun a ha hx => ?_) ?_)
  · refine c_X11_reachedNow_4 (br_f (nI_ge ha (by omega)) (s_readyForG hc ha h59 hs8 ?_))
    have := rfG_le f (M.1 53) a
    rw [nI_add, or_0]
    refine ⟨fun c => ?_, fun c => ?_⟩
    · rw [z_le0 (by omega)] at c
      have e : mk (fun a => decide (0 < rfG f (M.1 53) a)) (a + 1) = mk (fun a => decide (0 < rfG f (M.1 53) a)) a := if_neg (by simp [c])
      rw [e] at hx; exact hx
    · rw [z_le0 (by omega)] at c
      have e : mk (fun a => decide (0 < rfG f (M.1 53) a)) (a + 1) = mk (fun a => decide (0 < rfG f (M.1 53) a)) a ||| b1 a := if_pos (by simp; omega)
      rw [e] at hx; exact hx
  · exact c_X11_reachedNow_4 (br_t (nI_le (Nat.le_refl _) (by omega)) h)
theorem s_rnF {F : Int32 → Mem → Prop} {X : Mem} {w : Nat → Int32} {f : Nat → Int32} (hw : X.1 53 = w) (hv : V w t) (h59 : ∀ s, s < sN w → X.1 59 s = f s) (h : F (wS w (o1 (fun e => f (po w e)) (rdy w) (eN w)) 12) X) : exI (LY pl tl) (d + 3) 189 [.ref 52] X (fun r1 M1 => exI (LY pl tl) (d + 3) 166 [.ref 52, .int r1] M1 F) := by
  subst hw
  refine s_reachedNowG (f := f) hv.2.1 h59 hv.1.1.2 (s_weightOf ?_)
  have e : wS (X.1 53) (mk (fun a => decide (0 < rfG f (X.1 53) a)) 12) 12 = wS (X.1 53) (o1 (fun e => f (po (X.1 53) e)) (rdy (X.1 53)) (eN (X.1 53))) 12 := wS_congr 12 (fun a ha => rfl) (fun a ha => by
    rw [mk_tb _ (by omega) (by omega), o1_tb _ _ (by omega)]
    simp [ha]
    exact Iff.rfl)
  rw [e]; exact h
/-- shut, and opened again -/
theorem upS_back {w : Nat → Int32} (hr : VRd w) {a b : Nat} (ha : a < 12) (hb : b < 12) (h0 : sh w a b = 0) (v : Int32) : upS (upS w a b v) a b (nI 0) = w := by
  have e1 : w (156 + 12 * a + b) = nI 0 := by rw [(hr a b ha hb).2.1, h0]
  have e2 : w (156 + 12 * b + a) = nI 0 := by rw [(hr b a hb ha).2.1, ← (hr a b ha hb).2.2.2, h0]
  funext j
  unfold upS
  by_cases q : j = 156 + 12 * b + a
  · subst q; rw [upd_eq, e2]
  · rw [upd_ne q]
    by_cases q' : j = 156 + 12 * a + b
    · subst q'; rw [upd_eq, e1]
    · rw [upd_ne q', upd_ne q, upd_ne q']
theorem s_setsL {Q : Mem → Prop} {N : Mem} {u f g : Nat → Int32} {a b : Nat} {v : Int32} (ha : a < 12) (hb : b < 12) (h : Q (lM N (upS u a b v) f g)) : exV (LY pl tl) (d + 1) 162 [.ref 52, .int (nI a), .int (nI b), .int v] (lM N u f g) Q := by
  refine e_X11_setsShut ?_
  simp only [pk_mul, nI_add]
  rw [z_cl (by omega), z_cl (by omega), lM_si, lM_si]
  exact ⟨(z_in (by omega) (by omega)).mpr (by omega), (z_in (by omega) (by omega)).mpr (by omega), h⟩
theorem s_isOpen {Q : Int32 → Mem → Prop} {X : Mem} {w : Nat → Int32} {a b : Nat} (hw : X.1 53 = w) (hr : VRd w) (ha : a < 12) (hb : b < 12) (hp : 0 < rd w a b) (h0 : sh w a b = 0 → Q (nI 1) X) (h1 : ¬ sh w a b = 0 → Q (nI 0) X) : exI (LY pl tl) (d + 1) 158 [.ref 52, .int (nI a), .int (nI b)] X Q := by
  subst hw
  have x := hr a b ha hb
  refine e_X11_isOpen ?_
  simp only [pk_mul, nI_add]
  rw [z_cl (by omega), z_cl (by omega), x.1.1, x.2.1, z_le0 (by omega), z_eq0 (by omega)]
  exact ⟨(z_in (by omega) (by omega)).mpr (by omega), fun c => absurd c (by omega), fun _ => ⟨(z_in (by omega) (by omega)).mpr (by omega), h1, h0⟩⟩
def DR (w : Nat → Int32) (k : Nat) : Int32 := wS w (o1 (fun e => rM (upS w (lo w k) (hi w k) (nI 1)) (rcN w) (po w e)) (rdy w) (eN w)) 12
def drN (w : Nat → Int32) (k : Nat) : Nat := tn (DR w k)
theorem DR_ok {w : Nat → Int32} (hv : VL w) (k : Nat) : DR w k = nI (drN w k) ∧ drN w k ≤ 1188 := by
  obtain ⟨n, hn, e⟩ := V_wS hv (o1 (fun e => rM (upS w (lo w k) (hi w k) (nI 1)) (rcN w) (po w e)) (rdy w) (eN w))
  have e' : DR w k = nI n := e
  have : drN w k = n := by unfold drN; rw [e', tn_nI (by omega)]
  rw [this]; exact ⟨e', hn⟩
/-- the road whose loss leaves the least -/
def dB (w : Nat → Int32) : Nat → Option Nat
  | 0 => none
  | k + 1 => if sh w (lo w k) (hi w k) = 0 then (match dB w k with
    | none => some k
    | some j => if drN w k < drN w j then some k else some j) else dB w k
end S38
