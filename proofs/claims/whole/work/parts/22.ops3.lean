/-! BEST, TWICE, REGRET, NESTED -/
theorem lk44 (M : Mem) (w : Nat → Int32) (r : Nat) : nA w r (nA w r (M.1 44)) = nA w r (M.1 44) := by
  funext s
  unfold nA
  by_cases h : s < 8
  · rw [pfx_lt h, pfx_lt h]
  · rw [pfx_ge h]
section S22
variable {pl : Option Nat} {tl : List LC} {d : Nat} {M : Mem} {t : Nat}
/-- 0 .. n, as the reference asks -/
theorem s_inN1 {Q : Int32 → Mem → Prop} {x : Int32} {n : Nat} (hn : n < 2147483647) (hy : ∀ j, j ≤ n → x = nI j → Q (nI 1) M) (hno : (x < 0 ∨ ¬ x ≤ nI n) → Q (nI 0) M) : exI (LY pl tl) (d + 1) 134 [.long x.toInt64, .long (lN 0), .long (nI n).toInt64] M Q := by
  refine s_in ?_
  rw [show lN 0 = (nI 0).toInt64 from rfl]
  simp only [z_wle]
  by_cases h0 : x < 0
  · rw [if_neg]
    · exact hno (Or.inl h0)
    · intro q
      have := q.1
      rw [Int32.lt_iff_toInt_lt] at h0
      rw [Int32.le_iff_toInt_le] at this
      have e1 : (nI 0).toInt = 0 := by decide
      have e2 : (0 : Int32).toInt = 0 := by decide
      omega
  · by_cases h1 : x ≤ nI n
    · obtain ⟨j, hj, e⟩ := z_0 h0 (by omega) h1
      subst e
      rw [if_pos ⟨nI_le (Nat.zero_le _) (by omega), h1⟩]
      exact hy j hj rfl
    · rw [if_neg (fun q => h1 q.2)]
      exact hno (Or.inr h1)
theorem s_lk {Q : Mem → Prop} {w : Nat → Int32} (hv : V w t) (hr : RC 15 M w) (h : Q (lkC M w)) : exV (LY pl tl) (d + 3) 49 [.ref 0] M Q := s_look hv hr h
/-- the class's best, over what it looked at -/
theorem s_best {Q : Int32 → Mem → Prop} {w : Nat → Int32} {k : Nat} {dbl : Bool} (hv : V w t) (hr : RC 15 M w) (hk : k ≤ sN w) {o0 t0 : Int32} (h : ∀ b o t, (if dbl then BT w (rcN w) k else BS w (rcN w) k) = some b → b < 2 ^ sN w → Q (nI b) (pM (lkC M w) o t)) : exI (LY pl tl) (d + 4) 120 [.ref 43, .ref 16, .int (nI k), .int (nI (if dbl then 1 else 0))] (pM (lkC M w) o0 t0) Q := by
  refine s_bestStations (M := pM (lkC M w) o0 t0) (w := w) (r := rcN w) hv.1 (hr.1.2.1.trans hv.1.1.1) (fun a ha => hr.1.1 a ha) (lk44 M w (rcN w)).symm hk (fun b o t hb hb2 => ?_)
  rw [pM_2]
  exact h b o t hb hb2
theorem m_best_n {Q : Int32 → Mem → Prop} {x : Int32} (hv : V (M.1 53) t) (hx : x < 0 ∨ ¬ x ≤ nI (sN (M.1 53))) (h : Q (-1) (thr M)) : exI (LY pl tl) (d + 4) 197 [.ref 52, .int x] M Q := by
  have hs8 := hv.1.1.2
  refine e_X11_best ?_
  rw [hv.1.1.1]
  refine s_inN1 (by omega) (fun j hj e => ?_) (fun _ => ⟨fun c => absurd rfl c, fun _ => h⟩)
  subst e
  rcases hx with q | q
  · exact (nI_pos (by omega) q).elim
  · exact (q (nI_le hj (by omega))).elim
theorem m_best_y {Q : Int32 → Mem → Prop} {k b : Nat} (hv : V (M.1 53) t) (hk : k ≤ sN (M.1 53)) (hb : BS (M.1 53) (rcN (M.1 53)) k = some b) (h : Q (SCv (M.1 53) (rcN (M.1 53)) b) (rwM (lyM (thr M) (rcN (M.1 53))) 2 (fun j => if j = 0 then (nI b).toInt64 else (SDv (M.1 53) (rcN (M.1 53)) b).toInt64))) : exI (LY pl tl) (d + 6) 197 [.ref 52, .int (nI k)] M Q := by
  have hs8 := hv.1.1.2
  refine e_X11_best ?_
  rw [hv.1.1.1]
  refine s_inN1 (by omega) (fun j hj e => ⟨fun _ => s_ly (t := t) hv (s_bestSet (r := rcN (M.1 53)) hv.1 (ly59 (M := thr M)) hk (fun b' hb' _ => ?_)), fun c => absurd c (by decide)⟩) (fun q => ?_)
  · have : b' = b := Option.some.inj (hb'.symm.trans hb)
    subst this
    rw [rwM_0 _ (fun j => if j = 0 then (nI b').toInt64 else (SDv (M.1 53) (rcN (M.1 53)) b').toInt64)]
    exact s_mtell 1 rfl (by omega) rfl (s_twiceBy (r := rcN (M.1 53)) hv.1.1.1 hs8 (ly59 (M := thr M)) (s_weightOf (s_mtell 2 rfl (by omega) rfl (s_reachedBy (r := rcN (M.1 53)) hv.1.1.1 hs8 (ly59 (M := thr M)) (s_weightOf h)))))
  · rcases q with q | q
    · exact (nI_pos (by omega) q).elim
    · exact (q (nI_le hk (by omega))).elim
theorem SO_44 {w : Nat → Int32} (hs8 : sN w ≤ 8) (o0 t0 : Int32) (b : Nat) : o1 ((pM (lkC M w) o0 t0).1 44) (fun s => decide (tb (nI b) s)) 8 = SO w (rcN w) (nI b) := nA_o1 hs8 _
theorem ST_44 {w : Nat → Int32} (hs8 : sN w ≤ 8) (o0 t0 : Int32) (b : Nat) : o2 ((pM (lkC M w) o0 t0).1 44) (fun s => decide (tb (nI b) s)) 8 = ST2 w (rcN w) (nI b) := nA_o2 hs8 _
theorem wS_17 {w : Nat → Int32} (hr : RC 15 M w) (x : Int32) : wS (M.1 17) x 12 = wS w x 12 := wS_congr 12 (fun a ha => hr.1.1 a ha) (fun a ha => Iff.rfl)
theorem op_best {x : Int32} (h : Inv t M) (ht : t < 512) : Op pl tl (d + 12) 23 [.ref 0, .int x] 197 [.ref 52, .int x] t M := by
  have hI := h.up (t' := t + 1) (by omega) (by omega)
  obtain ⟨⟨hv, hr⟩, -⟩ := h
  have hs8 := hv.1.1.2
  have hM : M.1 16 8 = nI (sN (M.1 53)) := hr.1.2.1.trans hv.1.1.1
  refine e_X10_best ⟨fun c => m_best_n (t := t) hv (Or.inl c) ⟨rfl, hI⟩, fun c => ?_⟩
  rw [hM]
  refine ⟨fun c2 => ?_, fun c2 => m_best_n (t := t) hv (Or.inr c2) ⟨rfl, hI⟩⟩
  obtain ⟨k, hk, e⟩ := z_0 c (by omega) c2
  subst e
  refine s_lk hv hr ?_
  rw [← pM_id (lkC M (M.1 53))]
  refine s_best (dbl := false) hv hr hk (fun b o' t' hb hb2 => s_putStations ?_)
  rw [pM_2, SO_44 hs8, ST_44 hs8]
  refine s_doubled (s_tell2 (s_covered (m_best_y (t := t) hv hk hb ⟨(wS_17 hr _).symm, hI.1, rows_ok (n := 2) (by omega) rfl rfl rfl rfl (fun j hj => ?_), hI.2.2⟩)))
  show (if j = 0 then (nI b).toInt64 else (wS (M.1 17) (ST2 (M.1 53) (rcN (M.1 53)) (nI b)) 12).toInt64) = (if j = 0 then (nI b).toInt64 else (SDv (M.1 53) (rcN (M.1 53)) b).toInt64)
  rw [wS_17 hr]
  rfl
theorem m_twice_n {Q : Int32 → Mem → Prop} {x : Int32} (hv : V (M.1 53) t) (hx : x < 0 ∨ ¬ x ≤ nI (sN (M.1 53))) (h : Q (-1) (thr M)) : exI (LY pl tl) (d + 4) 198 [.ref 52, .int x] M Q := by
  have hs8 := hv.1.1.2
  refine e_X11_twice ?_
  rw [hv.1.1.1]
  refine s_inN1 (by omega) (fun j hj e => ?_) (fun _ => ⟨fun c => absurd rfl c, fun _ => h⟩)
  subst e
  rcases hx with q | q
  · exact (nI_pos (by omega) q).elim
  · exact (q (nI_le hj (by omega))).elim
theorem m_twice_y {Q : Int32 → Mem → Prop} {k b : Nat} (hv : V (M.1 53) t) (hk : k ≤ sN (M.1 53)) (hb : BT (M.1 53) (rcN (M.1 53)) k = some b) (h : Q (SDv (M.1 53) (rcN (M.1 53)) b) (rwM (lyM (thr M) (rcN (M.1 53))) 2 (fun j => if j = 0 then (nI b).toInt64 else (SCv (M.1 53) (rcN (M.1 53)) b).toInt64))) : exI (LY pl tl) (d + 6) 198 [.ref 52, .int (nI k)] M Q := by
  have hs8 := hv.1.1.2
  have hp := pow8 hs8
  have hpw : nI 1 <<< (nI (sN (M.1 53)) &&& 31) = nI (2 ^ sN (M.1 53)) := b1_pow _ (by omega)
  refine e_X11_twice ?_
  rw [hv.1.1.1]
  refine s_inN1 (by omega) (fun j hj e => ⟨fun _ => s_ly (t := t) hv ?_, fun c => absurd c (by decide)⟩) (fun q => ?_)
  · have h59 : ∀ s, s < sN (M.1 53) → (lyM (thr M) (rcN (M.1 53))).1 59 s = rM (M.1 53) (rcN (M.1 53)) s := ly59 (M := thr M)
    have q1 : (lyM (thr M) (rcN (M.1 53))).1 53 456 = nI (sN (M.1 53)) := hv.1.1.1
    refine lp_0 (X := fx (LY pl tl) (d + 5) m_X11_twice (qI Q)) (fun m => (33, [some (.ref 52), some (.int (nI k)), some (.int (oM1 (bb (SDv (M.1 53) (rcN (M.1 53))) (fun m => decide (pcn m = k)) m))), some (.int (nI m))], [], lyM (thr M) (rcN (M.1 53)))) (2 ^ sN (M.1 53)) (fun m hm hx => ?_) ?_
    · refine c_X11_twice_33 ?_
      rw [q1, hpw]
      have h1 : pcn m ≤ 8 := cn_le _ _
      refine br_f (nI_ge hm (by omega)) (s_ones (by omega) ⟨fun c => ?_, fun c => ?_⟩)
      · have hok : decide (pcn m = k) = true := by
          rw [z_eq (by omega) (by omega)] at c
          simpa using c
        have e : bb (SDv (M.1 53) (rcN (M.1 53))) (fun m => decide (pcn m = k)) (m + 1) = (match bb (SDv (M.1 53) (rcN (M.1 53))) (fun m => decide (pcn m = k)) m with
          | none => some m
          | some b => if SDv (M.1 53) (rcN (M.1 53)) b < SDv (M.1 53) (rcN (M.1 53)) m then some m else some b) := by
          show (if decide (pcn m = k) = true then _ else _) = _
          exact if_pos hok
        rw [e] at hx
        rw [nI_add m 1]
        cases hbb : bb (SDv (M.1 53) (rcN (M.1 53))) (fun m => decide (pcn m = k)) m with
        | none =>
          rw [hbb] at hx
          exact br_t rfl hx
        | some b' =>
          rw [hbb] at hx
          have hb2 := (bb_lt hbb).1
          refine br_f (show ¬ nI b' = -1 by rw [z_m1 (by omega)]; exact id) ?_
          refine s_twiceBy hv.1.1.1 hs8 h59 (s_weightOf (s_twiceBy hv.1.1.1 hs8 h59 (s_weightOf ⟨fun c => ?_, fun c => ?_⟩)))
          · have c : SDv (M.1 53) (rcN (M.1 53)) m ≤ SDv (M.1 53) (rcN (M.1 53)) b' := c
            have this : ¬ SDv (M.1 53) (rcN (M.1 53)) b' < SDv (M.1 53) (rcN (M.1 53)) m := by rw [Int32.lt_iff_toInt_lt]; rw [Int32.le_iff_toInt_le] at c; omega
            have hx : fx (LY pl tl) (d + 5) m_X11_twice (qI Q) (33, [some (.ref 52), some (.int (nI k)), some (.int (oM1 (if SDv (M.1 53) (rcN (M.1 53)) b' < SDv (M.1 53) (rcN (M.1 53)) m then some m else some b'))), some (.int (nI (m + 1)))], [], lyM (thr M) (rcN (M.1 53))) := hx
            rw [if_neg this] at hx
            exact hx
          · have c : ¬ SDv (M.1 53) (rcN (M.1 53)) m ≤ SDv (M.1 53) (rcN (M.1 53)) b' := c
            have this : SDv (M.1 53) (rcN (M.1 53)) b' < SDv (M.1 53) (rcN (M.1 53)) m := by rw [Int32.lt_iff_toInt_lt]; rw [Int32.le_iff_toInt_le] at c; omega
            have hx : fx (LY pl tl) (d + 5) m_X11_twice (qI Q) (33, [some (.ref 52), some (.int (nI k)), some (.int (oM1 (if SDv (M.1 53) (rcN (M.1 53)) b' < SDv (M.1 53) (rcN (M.1 53)) m then some m else some b'))), some (.int (nI (m + 1)))], [], lyM (thr M) (rcN (M.1 53))) := hx
            rw [if_pos this] at hx
            exact hx
      · have hok : ¬ decide (pcn m = k) = true := by
          rw [z_eq (by omega) (by omega)] at c
          simpa using c
        have e : bb (SDv (M.1 53) (rcN (M.1 53))) (fun m => decide (pcn m = k)) (m + 1) = bb (SDv (M.1 53) (rcN (M.1 53))) (fun m => decide (pcn m = k)) m := by
          show (if decide (pcn m = k) = true then _ else _) = _
          rw [if_neg hok]
        rw [e] at hx
        rw [nI_add m 1]
        exact hx
    · refine c_X11_twice_33 ?_
      rw [q1, hpw]
      refine br_t (nI_le (Nat.le_refl _) (by omega)) ?_
      have hb' : bb (SDv (M.1 53) (rcN (M.1 53))) (fun m => decide (pcn m = k)) (2 ^ sN (M.1 53)) = some b := hb
      rw [hb', rwM_0 _ (fun j => if j = 0 then (nI b).toInt64 else (SCv (M.1 53) (rcN (M.1 53)) b).toInt64)]
      exact s_mtell 1 rfl (by omega) rfl (s_reachedBy (r := rcN (M.1 53)) hv.1.1.1 hs8 (ly59 (M := thr M)) (s_weightOf (s_mtell 2 rfl (by omega) rfl (s_twiceBy (r := rcN (M.1 53)) hv.1.1.1 hs8 (ly59 (M := thr M)) (s_weightOf h)))))
  · rcases q with q | q
    · exact (nI_pos (by omega) q).elim
    · exact (q (nI_le hk (by omega))).elim
theorem op_twice {x : Int32} (h : Inv t M) (ht : t < 512) : Op pl tl (d + 12) 29 [.ref 0, .int x] 198 [.ref 52, .int x] t M := by
  have hI := h.up (t' := t + 1) (by omega) (by omega)
  obtain ⟨⟨hv, hr⟩, -⟩ := h
  have hs8 := hv.1.1.2
  have hM : M.1 16 8 = nI (sN (M.1 53)) := hr.1.2.1.trans hv.1.1.1
  refine e_X10_twice ⟨fun c => m_twice_n (t := t) hv (Or.inl c) ⟨rfl, hI⟩, fun c => ?_⟩
  rw [hM]
  refine ⟨fun c2 => ?_, fun c2 => m_twice_n (t := t) hv (Or.inr c2) ⟨rfl, hI⟩⟩
  obtain ⟨k, hk, e⟩ := z_0 c (by omega) c2
  subst e
  refine s_lk hv hr ?_
  rw [← pM_id (lkC M (M.1 53))]
  refine s_best (dbl := true) hv hr hk (fun b o' t' hb hb2 => s_putStations ?_)
  rw [pM_2, SO_44 hs8, ST_44 hs8]
  refine s_covered (s_tell2 (s_doubled (m_twice_y (t := t) hv hk hb ⟨(wS_17 hr _).symm, hI.1, rows_ok (n := 2) (by omega) rfl rfl rfl rfl (fun j hj => ?_), hI.2.2⟩)))
  show (if j = 0 then (nI b).toInt64 else (wS (M.1 17) (SO (M.1 53) (rcN (M.1 53)) (nI b)) 12).toInt64) = (if j = 0 then (nI b).toInt64 else (SCv (M.1 53) (rcN (M.1 53)) b).toInt64)
  rw [wS_17 hr]
  rfl
/-! regret -/
def rdN (w : Nat → Int32) : Nat := cn (rdy w) (eN w)
theorem rdN_le (w : Nat → Int32) : rdN w ≤ eN w := cn_le _ _
theorem s_readyMany {Q : Int32 → Mem → Prop} (hc : VC (M.1 53)) (h : Q (nI (rdN (M.1 53))) M) : exI (LY pl tl) (d + 2) 214 [.ref 52] M Q := by
  have hn6 := hc.1.2
  refine e_X11_readyMany (lp_0 (X := fx (LY pl tl) (d + 1) m_X11_readyMany (qI Q)) (fun e => (4, [some (.ref 52), some (.int (nI (cn (rdy (M.1 53)) e))), some (.int (nI e))], [], M)) (eN (M.1 53)) (fun e he hx => ?_) ?_)
  · refine c_X11_readyMany_4 ?_
    rw [hc.1.1]
    refine br_f (nI_ge he (by omega)) (s_isReady (by omega) ?_)
    rw [nI_add, nI_add, nI_add, Nat.add_zero]
    by_cases q : M.1 53 (320 + e) = nI 0
    · rw [if_pos q]
      have : cn (rdy (M.1 53)) (e + 1) = cn (rdy (M.1 53)) e + 1 := if_pos (by simp [rdy, q])
      rw [this] at hx
      exact ⟨fun c => absurd c (by decide), fun _ => hx⟩
    · rw [if_neg q]
      have : cn (rdy (M.1 53)) (e + 1) = cn (rdy (M.1 53)) e := if_neg (by simp [rdy, q])
      rw [this] at hx
      exact ⟨fun _ => hx, fun c => absurd rfl c⟩
  · refine c_X11_readyMany_4 ?_
    rw [hc.1.1]
    exact br_t (nI_le (Nat.le_refl _) (by omega)) h
/-- how many ready ones the class counts -/
theorem s_readyBits {Q : Int32 → Mem → Prop} {w : Nat → Int32} (hv : V w t) (hr : RC 15 M w) (h : Q (nI (mkN (rdy w) (eN w))) M) : exI (LY pl tl) (d + 1) 69 [.ref 24, .int (nI 0)] M Q := by
  have hn6 := hv.2.1.1.2
  refine s_inMode hn6 (hr.2.1.1.trans hv.2.1.1.1) ?_
  have e : inM (M.1 26) (nI 0) (eN w) = nI (mkN (rdy w) (eN w)) := by
    rw [← (mkN_ok (rdy w) (eN w) (by omega)).2.1]
    refine mk_congr _ (fun e he => ?_)
    unfold rdy
    rw [(hr.2.1.2.1 e he).2.1]
  rw [e]
  exact h
def gC (w : Nat → Int32) (r : Nat) : Int32 := SCv w r ((BS w r (min (rdN w) (sN w))).getD 0)
theorem nI_min (a b : Nat) (ha : a < 2147483648) (hb : b < 2147483648) : (if nI b < nI a then nI b else nI a) = nI (min a b) := by
  by_cases h : b < a
  · rw [if_pos (nI_lt h (by omega)), Nat.min_eq_right (by omega)]
  · rw [if_neg (nI_nlt (by omega) (by omega)), Nat.min_eq_left (by omega)]
theorem s_greatestC {Q : Int32 → Mem → Prop} {w : Nat → Int32} (hv : V w t) (hr : RC 15 M w) (h : ∀ o t, Q (gC w (rcN w)) (pM (lkC M w) o t)) : exI (LY pl tl) (d + 5) 52 [.ref 0] M Q := by
  have hs8 := hv.1.1.2
  have hn6 := hv.2.1.1.2
  have hrn := rdN_le w
  obtain ⟨q1, q2, q3⟩ := mkN_ok (rdy w) (eN w) (by omega)
  have hp := (pow8 (n := eN w) (by omega)).2
  refine e_X10_greatestCover (s_lk hv hr (s_readyBits (t := t) (M := lkC M w) hv hr (s_bitCount (by omega) ?_)))
  have e16 : (lkC M w).1 16 8 = nI (sN w) := hr.1.2.1.trans hv.1.1.1
  have hq : cn (rdy w) (eN w) < 2147483648 := by have := cn_le (rdy w) (eN w); omega
  rw [q3, e16, nI_min _ _ hq (by omega), ← pM_id (lkC M w)]
  refine s_best (dbl := false) hv hr (Nat.min_le_right _ _) (fun b o t hb hb2 => s_coverOf ?_)
  rw [pM_2, SO_44 hs8]
  have e1 : wS ((pM (lkC M w) o t).1 17) (SO w (rcN w) (nI b)) 12 = gC w (rcN w) := by
    have : (BS w (rcN w) (min (rdN w) (sN w))) = some b := hb
    unfold gC
    rw [this]
    exact wS_17 hr _
  rw [e1]
  exact h _ _
theorem s_greatestM {Q : Int32 → Mem → Prop} {r : Nat} (hv : V (M.1 53) t) (h59 : ∀ s, s < sN (M.1 53) → M.1 59 s = rM (M.1 53) r s) (h : Q (gC (M.1 53) r) M) : exI (LY pl tl) (d + 3) 218 [.ref 52] M Q := by
  have hs8 := hv.1.1.2
  have hn6 := hv.2.1.1.2
  have hrn := rdN_le (M.1 53)
  refine e_X11_greatestCover (s_readyMany hv.2.1 ?_)
  rw [hv.1.1.1, nI_min _ _ (by omega) (by omega)]
  refine s_bestSet hv.1 h59 (Nat.min_le_right _ _) (fun b hb hb2 => s_reachedBy hv.1.1.1 hs8 h59 (s_weightOf ?_))
  have e1 : gC (M.1 53) r = wS (M.1 53) (SO (M.1 53) r (nI b)) 12 := by unfold gC; rw [hb]; rfl
  rw [e1] at h
  exact h
theorem m_regret {Q : Int32 → Mem → Prop} (hv : V (M.1 53) t) (h : Q (gC (M.1 53) (rcN (M.1 53)) - CV (M.1 53) (rcN (M.1 53))) (rwM (lyM (thr M) (rcN (M.1 53))) 2 (fun j => if j = 0 then (CV (M.1 53) (rcN (M.1 53))).toInt64 else (gC (M.1 53) (rcN (M.1 53))).toInt64))) : exI (LY pl tl) (d + 6) 219 [.ref 52] M Q := by
  have hs8 := hv.1.1.2
  refine e_X11_regret (s_ly (t := t) hv (s_reachedNow (r := rcN (M.1 53)) hv.2.1 (ly59 (M := thr M)) hs8 (s_nowW (s_greatestM (t := t) (r := rcN (M.1 53)) hv (ly59 (M := thr M)) ?_))))
  rw [rwM_0 _ (fun j => if j = 0 then (CV (M.1 53) (rcN (M.1 53))).toInt64 else (gC (M.1 53) (rcN (M.1 53))).toInt64)]
  exact s_mtell 1 rfl (by omega) rfl (s_mtell 2 rfl (by omega) rfl h)
theorem op_regret (h : Inv t M) (ht : t < 512) : Op pl tl (d + 12) 36 [.ref 0] 219 [.ref 52] t M := by
  have hI := h.up (t' := t + 1) (by omega) (by omega)
  obtain ⟨⟨hv, hr⟩, -⟩ := h
  refine e_X10_regret (s_coverNow hv hr (s_greatestC (t := t) (w := M.1 53) hv hr (fun o t' => s_tell2 (m_regret (t := t) hv ⟨rfl, hI.1, rows_ok (n := 2) (by omega) rfl rfl rfl rfl (fun j hj => rfl), hI.2.2⟩))))
end S22
