/-! MINUTES AND CALLS: what they do to the reference's row, and that the class does the same -/
theorem RC_cells {b : Nat} {A B : Mem} {w : Nat → Int32} (h : ∀ c, b ≤ c → c ≤ b + 13 → B.1 c = A.1 c) (hr : RC b A w) : RC b B w := by
  unfold RC RLd RK RP RH at hr ⊢
  rw [h b (by omega) (by omega), h (b + 1) (by omega) (by omega), h (b + 2) (by omega) (by omega), h (b + 3) (by omega) (by omega), h (b + 4) (by omega) (by omega), h (b + 5) (by omega) (by omega), h (b + 6) (by omega) (by omega), h (b + 7) (by omega) (by omega), h (b + 8) (by omega) (by omega), h (b + 9) (by omega) (by omega), h (b + 10) (by omega) (by omega), h (b + 11) (by omega) (by omega), h (b + 12) (by omega) (by omega), h (b + 13) (by omega) (by omega)]
  exact hr
/-- only the class's world has changed -/
def Fr15 (A B : Mem) : Prop := B.2 = A.2 ∧ ∀ c, (c < 15 ∨ 28 < c) → B.1 c = A.1 c
theorem Fr15.rfl' (A : Mem) : Fr15 A A := ⟨rfl, fun _ _ => rfl⟩
theorem Fr15.trans' {A B C : Mem} (h : Fr15 A B) (g : Fr15 B C) : Fr15 A C := ⟨g.1.trans h.1, fun c hc => (g.2 c hc).trans (h.2 c hc)⟩
theorem Inv_step {A B C : Mem} {w : Nat → Int32} {t : Nat} (hI : Inv t A) (hF : Fr15 A B) (hv : V w t) (hr : RC 15 B w) (h53 : C.1 53 = w) (hc : ∀ c, c ≠ 1 → (c < 43 ∨ c = 54 ∨ c = 55) → C.1 c = B.1 c) (h52 : C.1 52 2 = B.1 52 2 ∧ C.1 52 4 = B.1 52 4) (hrow : RowOk C) : Inv t C := by
  obtain ⟨-, -, htx, hkp, h512⟩ := hI
  refine ⟨⟨by rw [h53]; exact hv, by rw [h53]; exact RC_cells (fun c h1 h2 => hc c (by omega) (by omega)) hr⟩, hrow, ?_, ?_, h512⟩
  · unfold TxtOk at htx ⊢
    rw [hc 4 (by omega) (by omega), hc 5 (by omega) (by omega), hc 55 (by omega) (by omega), h52.2, hF.2 4 (by omega), hF.2 5 (by omega), hF.2 55 (by omega), hF.2 52 (by omega)]
    exact htx
  · unfold KpOk at hkp ⊢
    rw [hc 0 (by omega) (by omega), hc 54 (by omega) (by omega), h52.1, hF.2 0 (by omega), hF.2 52 (by omega), hF.2 54 (by omega)]
    rcases hkp with q | ⟨q1, q2, q3, q4⟩
    · exact Or.inl q
    · exact Or.inr ⟨q1, q2, q3, RC_cells (fun c h1 h2 => (hc c (by omega) (by omega)).trans (hF.2 c (by omega))) q4⟩
/-- who becomes ready as a minute passes -/
def due (w : Nat → Int32) (e : Nat) : Bool := decide (¬ w (320 + e) = nI 0) && decide (w (314 + e) ≤ w 462 + nI 1)
def pmA (w : Nat → Int32) (k : Nat) : Nat → Int32 := fun j => if j = 462 then w 462 + nI 1 else if 320 ≤ j ∧ j < 320 + k ∧ due w (j - 320) = true then nI 0 else w j
theorem pmA_ne {w : Nat → Int32} {k j : Nat} (h : j ≠ 462) (h2 : j < 320 ∨ 320 + k ≤ j) : pmA w k j = w j := by
  unfold pmA
  rw [if_neg h, if_neg (by omega)]
theorem pmA_m (w : Nat → Int32) (k : Nat) : pmA w k 462 = w 462 + nI 1 := if_pos rfl
theorem pmA_e {w : Nat → Int32} {k e : Nat} (he : e < k) (hk : k ≤ 6) : pmA w k (320 + e) = if due w e = true then nI 0 else w (320 + e) := by
  unfold pmA
  rw [if_neg (by omega)]
  by_cases q : due w e = true
  · rw [if_pos ⟨by omega, by omega, by rw [Nat.add_sub_cancel_left]; exact q⟩, if_pos q]
  · rw [if_neg (fun z => q (by have := z.2.2; rw [Nat.add_sub_cancel_left] at this; exact this)), if_neg q]
theorem pmA_s0 {w : Nat → Int32} {k : Nat} (hk : k < 6) (h : ¬ due w k = true) : pmA w (k + 1) = pmA w k := by
  funext j
  unfold pmA
  by_cases h1 : j = 462
  · rw [if_pos h1, if_pos h1]
  · rw [if_neg h1, if_neg h1]
    by_cases h2 : j = 320 + k
    · subst h2
      rw [if_neg (fun z => h (by have := z.2.2; rw [Nat.add_sub_cancel_left] at this; exact this)), if_neg (by omega)]
    · by_cases h3 : 320 ≤ j ∧ j < 320 + k ∧ due w (j - 320) = true
      · rw [if_pos h3, if_pos ⟨h3.1, by omega, h3.2.2⟩]
      · rw [if_neg h3, if_neg (fun z => h3 ⟨z.1, by omega, z.2.2⟩)]
theorem pmA_s1 {w : Nat → Int32} {k : Nat} (hk : k < 6) (h : due w k = true) : upd (pmA w k) (320 + k) (nI 0) = pmA w (k + 1) := by
  funext j
  unfold upd pmA
  by_cases h2 : j = 320 + k
  · subst h2
    rw [if_pos rfl, if_neg (by omega), if_pos ⟨by omega, by omega, by rw [Nat.add_sub_cancel_left]; exact h⟩]
  · rw [if_neg h2]
    by_cases h1 : j = 462
    · rw [if_pos h1, if_pos h1]
    · rw [if_neg h1, if_neg h1]
      by_cases h3 : 320 ≤ j ∧ j < 320 + k ∧ due w (j - 320) = true
      · rw [if_pos h3, if_pos ⟨h3.1, by omega, h3.2.2⟩]
      · rw [if_neg h3, if_neg (fun z => h3 ⟨z.1, by omega, z.2.2⟩)]
def pmW (w : Nat → Int32) : Nat → Int32 := pmA w (eN w)
theorem pmA_0 (w : Nat → Int32) : pmA w 0 = upd w 462 (w 462 + nI 1) := by
  funext j
  unfold upd pmA
  by_cases h1 : j = 462
  · subst h1; rfl
  · rw [if_neg h1, if_neg h1, if_neg (by omega)]
theorem pmW_V {w : Nat → Int32} {T : Nat} (hv : V w T) (hm : miN w + 1 ≤ 600 * T) (hT : T ≤ 512) : V (pmW w) T ∧ miN (pmW w) = miN w + 1 := by
  obtain ⟨v1, v2, v3, v4⟩ := hv
  have hn6 := v2.1.2
  have e1 : w 462 = nI (miN w) := v4.1.1
  have e2 : pmW w 462 = nI (miN w + 1) := by unfold pmW; rw [pmA_m, e1, nI_add]
  have e3 : miN (pmW w) = miN w + 1 := by show tn (pmW w 462) = _; rw [e2, tn_nI (by omega)]
  have ne : ∀ j, j ≠ 462 → (j < 320 ∨ 326 ≤ j) → pmW w j = w j := fun j h1 h2 => pmA_ne h1 (by omega)
  have eE : eN (pmW w) = eN w := by unfold eN; rw [ne 457 (by omega) (by omega)]
  have eS : sN (pmW w) = sN w := by unfold sN; rw [ne 456 (by omega) (by omega)]
  refine ⟨⟨(VL_cg (fun j hj => ne j (by omega) (by omega))).1.mpr v1, ?_, VP_cg (fun j hj => ne j (by omega) (by omega)) v3, ?_⟩, e3⟩
  · unfold VC
    rw [eE, eS, ne 457 (by omega) (by omega)]
    refine ⟨v2.1, fun e he => ?_⟩
    obtain ⟨p1, m1, m2⟩ := v2.2 e he
    have x1 : po (pmW w) e = po w e := by unfold po; rw [ne (308 + e) (by omega) (by omega)]
    rw [x1, ne (308 + e) (by omega) (by omega)]
    refine ⟨p1, ?_⟩
    have x2 : pmW w (320 + e) = if due w e = true then nI 0 else w (320 + e) := pmA_e he hn6
    have x3 : mo (pmW w) e = tn (pmW w (320 + e)) := rfl
    rw [x3, x2]
    split
    · exact ⟨by rw [tn_nI (by omega)], by rw [tn_nI (by omega)]; omega⟩
    · exact ⟨m1, m2⟩
  · have eB : bN (pmW w) = bN w := by unfold bN; rw [ne 468 (by omega) (by omega)]
    have eH : ∀ i, hs (pmW w) i = hs w i := fun i => by unfold hs; rw [ne (392 + i % 64) (by omega) (by omega)]
    unfold VM
    rw [e3, eB, e2, ne 468 (by omega) (by omega)]
    refine ⟨⟨rfl, hm⟩, v4.2.1, fun i hi hb => ?_, fun i j hij hj hb => ?_⟩
    · rw [eH, ne (392 + i % 64) (by omega) (by omega)]
      obtain ⟨a1, a2⟩ := v4.2.2.1 i hi hb
      exact ⟨a1, by omega⟩
    · rw [eH, eH]; exact v4.2.2.2 i j hij hj hb
section S24
variable {pl : Option Nat} {tl : List LC} {d : Nat} {M : Mem} {t : Nat}
theorem s_passesOne {Q : Int32 → Mem → Prop} (hc : VC (M.1 53)) (h : Q (nI (cn (due (M.1 53)) (eN (M.1 53)))) (sa M 53 (pmW (M.1 53)))) : exI (LY pl tl) (d + 2) 182 [.ref 52] M Q := by
  have hn6 := hc.1.2
  refine e_X11_passesOne ?_
  have e0 : si M 53 462 (M.1 53 462 + nI 1) = sa M 53 (pmA (M.1 53) 0) := by rw [pmA_0]; rfl
  rw [e0]
  refine lp_0 (X := fx (LY pl tl) (d + 1) m_X11_passesOne (qI Q)) (fun e => (16, [some (.ref 52), some (.int (nI (cn (due (M.1 53)) e))), some (.int (nI e))], [], sa M 53 (pmA (M.1 53) e))) (eN (M.1 53)) (fun e he hx => ?_) ?_
  · refine c_X11_passesOne_16 ?_
    have q1 : (sa M 53 (pmA (M.1 53) e)).1 53 457 = nI (eN (M.1 53)) := by rw [sa_s, pmA_ne (by omega) (by omega)]; exact hc.1.1
    rw [q1]
    refine br_f (nI_ge he (by omega)) (s_isReady (by omega) ?_)
    have q2 : (sa M 53 (pmA (M.1 53) e)).1 53 (320 + e) = M.1 53 (320 + e) := by rw [sa_s, pmA_ne (by omega) (by omega)]
    have q3 : (sa M 53 (pmA (M.1 53) e)).1 53 (314 + e) = M.1 53 (314 + e) := by rw [sa_s, pmA_ne (by omega) (by omega)]
    have q4 : (sa M 53 (pmA (M.1 53) e)).1 53 462 = M.1 53 462 + nI 1 := by rw [sa_s, pmA_m]
    rw [q2, nI_add 314 e, nI_add 320 e, z_cl (show 314 + e < 2147483648 by omega), z_cl (show 320 + e < 2147483648 by omega), q3, q4, nI_add e 1, nI_add _ 1]
    by_cases hr : M.1 53 (320 + e) = nI 0
    · rw [if_pos hr]
      have hd : ¬ due (M.1 53) e = true := by unfold due; simp [hr]
      rw [pmA_s0 (by omega) hd, show cn (due (M.1 53)) (e + 1) = cn (due (M.1 53)) e from if_neg hd] at hx
      exact ⟨fun _ => hx, fun c => absurd c (by decide)⟩
    · rw [if_neg hr]
      refine ⟨fun c => absurd rfl c, fun _ => ⟨(z_in (by omega) (by omega)).mpr (by omega), fun c => ⟨(z_in (by omega) (by omega)).mpr (by omega), ?_⟩, fun c => ?_⟩⟩
      · have hd : due (M.1 53) e = true := by unfold due; simp [hr, c]
        rw [sa_upd, pmA_s1 (by omega) hd]
        rw [show cn (due (M.1 53)) (e + 1) = cn (due (M.1 53)) e + 1 from if_pos hd] at hx
        exact hx
      · have hd : ¬ due (M.1 53) e = true := by unfold due; simp [hr, c]
        rw [pmA_s0 (by omega) hd, show cn (due (M.1 53)) (e + 1) = cn (due (M.1 53)) e from if_neg hd] at hx
        exact hx
  · refine c_X11_passesOne_16 ?_
    have q1 : (sa M 53 (pmA (M.1 53) (eN (M.1 53)))).1 53 457 = nI (eN (M.1 53)) := by rw [sa_s, pmA_ne (by omega) (by omega)]; exact hc.1.1
    rw [q1]
    exact br_t (nI_le (Nat.le_refl _) (by omega)) h
theorem s_nextMinute {Q : Int32 → Mem → Prop} {w : Nat → Int32} (hv : V w t) (hr : RC 15 M w) (h : ∀ B, Fr15 M B → RC 15 B (pmW w) → Q (nI (cn (due w) (eN w))) B) : exI (LY pl tl) (d + 1) 68 [.ref 24] M Q := by
  have hn6 := hv.2.1.1.2
  obtain ⟨r1, ⟨k1, k2, k3, k4⟩, r3, r4⟩ := id hr
  have hM : M.1 24 4 = nI (eN w) := k1.trans hv.2.1.1.1
  have hmin : M.1 24 6 = w 462 := k3
  refine e_X2_nextMinute ?_
  have e0 : si M 24 6 (M.1 24 6 + nI 1) = sa (si M 24 6 (M.1 24 6 + nI 1)) 26 (pfx 0 (fun e => if due w e = true then nI 0 else M.1 26 e) (M.1 26)) := by rw [pfx_0]; exact (sa_id _ 26).symm
  rw [e0]
  refine lp_0 (X := fx (LY pl tl) d m_X2_nextMinute (qI Q)) (fun e => (14, [some (.ref 24), some (.int (nI (cn (due w) e))), some (.int (nI e))], [], sa (si M 24 6 (M.1 24 6 + nI 1)) 26 (pfx e (fun e => if due w e = true then nI 0 else M.1 26 e) (M.1 26)))) (eN w) (fun e he hx => ?_) ?_
  · refine c_X2_nextMinute_14 ?_
    obtain ⟨w1, w2, w3⟩ := k2 e he
    have hv6 : vp_in (nI e) 6 := (z_in (by omega) (by omega)).mpr (by omega)
    have q1 : (sa (si M 24 6 (M.1 24 6 + nI 1)) 26 (pfx e (fun e => if due w e = true then nI 0 else M.1 26 e) (M.1 26))).1 24 4 = nI (eN w) := hM
    have q2 : (sa (si M 24 6 (M.1 24 6 + nI 1)) 26 (pfx e (fun e => if due w e = true then nI 0 else M.1 26 e) (M.1 26))).1 26 e = w (320 + e) := by rw [sa_s, pfx_ge (by omega)]; exact w2
    have q3 : (sa (si M 24 6 (M.1 24 6 + nI 1)) 26 (pfx e (fun e => if due w e = true then nI 0 else M.1 26 e) (M.1 26))).1 27 e = w (314 + e) := w3
    have q4 : (sa (si M 24 6 (M.1 24 6 + nI 1)) 26 (pfx e (fun e => if due w e = true then nI 0 else M.1 26 e) (M.1 26))).1 24 6 = w 462 + nI 1 := by rw [← hmin]; rfl
    rw [q1, z_cl (by omega), q2, q3, q4, nI_add e 1, nI_add _ 1]
    have w2' : M.1 26 e = w (320 + e) := w2
    have same : ¬ due w e = true → pfx (e + 1) (fun e => if due w e = true then nI 0 else M.1 26 e) (M.1 26) = pfx e (fun e => if due w e = true then nI 0 else M.1 26 e) (M.1 26) := by
      intro hd
      rw [← pfx_s e _ _ (v := M.1 26 e) (by rw [if_neg hd])]
      funext j
      unfold upd
      split
      · next z => subst z; rw [pfx_ge (by omega)]
      · rfl
    refine br_f (nI_ge he (by omega)) ⟨hv6, fun c => ?_, fun c => ⟨hv6, fun c2 => ?_, fun c2 => ⟨hv6, ?_⟩⟩⟩
    · have c' : w (320 + e) = nI 0 := c
      have hd : ¬ due w e = true := by unfold due; simp [c']
      rw [same hd, show cn (due w) (e + 1) = cn (due w) e from if_neg hd] at hx
      exact hx
    · have hd : ¬ due w e = true := by
        unfold due
        rw [Bool.and_eq_true, decide_eq_true_eq, decide_eq_true_eq]
        intro z
        have := z.2
        rw [Int32.lt_iff_toInt_lt] at c2
        rw [Int32.le_iff_toInt_le] at this
        omega
      rw [same hd, show cn (due w) (e + 1) = cn (due w) e from if_neg hd] at hx
      exact hx
    · have hd : due w e = true := by
        unfold due
        rw [Bool.and_eq_true, decide_eq_true_eq, decide_eq_true_eq]
        refine ⟨c, ?_⟩
        rw [Int32.lt_iff_toInt_lt] at c2
        rw [Int32.le_iff_toInt_le]
        omega
      rw [sa_upd, pfx_s _ _ _ (by rw [if_pos hd])]
      rw [show cn (due w) (e + 1) = cn (due w) e + 1 from if_pos hd] at hx
      exact hx
  · refine c_X2_nextMinute_14 ?_
    have q1 : (sa (si M 24 6 (M.1 24 6 + nI 1)) 26 (pfx (eN w) (fun e => if due w e = true then nI 0 else M.1 26 e) (M.1 26))).1 24 4 = nI (eN w) := hM
    rw [q1]
    refine br_t (nI_le (Nat.le_refl _) (by omega)) (h _ ⟨rfl, fun c hc => ?_⟩ ?_)
    · rw [sa_n (by omega), si_c (by omega)]
    · have ne : ∀ j, j ≠ 462 → (j < 320 ∨ 326 ≤ j) → pmW w j = w j := fun j h1 h2 => pmA_ne h1 (by omega)
      have eE : eN (pmW w) = eN w := by unfold eN; rw [ne 457 (by omega) (by omega)]
      refine ⟨RLd_cg (b := 15) (M := M) (fun j hj => ne j (by omega) (by omega)) hv.1 r1, ?_, RP_cg (b := 15) (M := M) (fun j hj => ne j (by omega) (by omega)) r3, RH_cg (b := 15) (M := M) (fun j hj => ne j (by omega) (by omega)) r4⟩
      unfold RK
      rw [eE, ne 457 (by omega) (by omega), ne 463 (by omega) (by omega), ne 464 (by omega) (by omega), ne 465 (by omega) (by omega), ne 466 (by omega) (by omega), ne 467 (by omega) (by omega)]
      refine ⟨k1, fun e he => ?_, ?_, k4⟩
      · obtain ⟨w1, w2, w3⟩ := k2 e he
        rw [ne (308 + e) (by omega) (by omega), ne (314 + e) (by omega) (by omega)]
        refine ⟨w1, ?_, w3⟩
        have x2 : pmW w (320 + e) = if due w e = true then nI 0 else w (320 + e) := pmA_e he hn6
        rw [x2]
        show pfx (eN w) (fun e => if due w e = true then nI 0 else M.1 26 e) (M.1 26) e = _
        rw [pfx_lt he]
        have w2 : M.1 26 e = w (320 + e) := w2
        rw [w2]
      · show M.1 24 6 + nI 1 = pmW w 462
        rw [hmin]
        exact (pmA_m w _).symm
def itW (w : Nat → Int32) : Nat → (Nat → Int32)
  | 0 => w
  | k + 1 => pmW (itW w k)
def itS (w : Nat → Int32) : Nat → Int32
  | 0 => nI 0
  | k + 1 => itS w k + nI (cn (due (itW w k)) (eN (itW w k)))
theorem itW_V {w : Nat → Int32} (hv : V w t) (ht : t < 512) : ∀ k, k ≤ 600 → V (itW w k) (t + 1) ∧ miN (itW w k) = miN w + k
  | 0, _ => ⟨V_up (by omega) hv, rfl⟩
  | k + 1, h => by
    obtain ⟨i1, i2⟩ := itW_V hv ht k (by omega)
    have hb := hv.2.2.2.1.2
    obtain ⟨j1, j2⟩ := pmW_V i1 (by omega) (by omega)
    exact ⟨j1, by show miN (pmW (itW w k)) = _; omega⟩
theorem s_inR {Q : Int32 → Mem → Prop} {x : Int32} {a b : Nat} (ha : a < 2147483648) (hb : b < 2147483648) (hy : ∀ j, a ≤ j → j ≤ b → x = nI j → Q (nI 1) M) (hno : (x < nI a ∨ ¬ x ≤ nI b) → Q (nI 0) M) : exI (LY pl tl) (d + 1) 134 [.long x.toInt64, .long (lN a), .long (lN b)] M Q := by
  refine s_in ?_
  rw [← z_i2l ha, ← z_i2l hb]
  simp only [z_wle]
  by_cases h0 : x < nI a
  · rw [if_neg]
    · exact hno (Or.inl h0)
    · intro q
      have := q.1
      rw [Int32.lt_iff_toInt_lt] at h0
      rw [Int32.le_iff_toInt_le] at this
      omega
  · by_cases h1 : x ≤ nI b
    · have h2 : nI a ≤ x := by rw [Int32.le_iff_toInt_le]; rw [Int32.lt_iff_toInt_lt] at h0; omega
      rw [if_pos ⟨h2, h1⟩]
      have h3 : ¬ x < 0 := by
        intro z
        rw [Int32.lt_iff_toInt_lt] at z
        rw [Int32.le_iff_toInt_le, nI_toInt ha] at h2
        have e2 : (0 : Int32).toInt = 0 := by decide
        omega
      obtain ⟨j, hj, e⟩ := z_0 h3 hb h1
      subst e
      exact hy j ((nI_leI ha (by omega)).mp h2) hj rfl
    · rw [if_neg (fun q => h1 q.2)]
      exact hno (Or.inr h1)
theorem op_pass {x : Int32} (h : Inv t M) (ht : t < 512) : Op pl tl (d + 12) 17 [.ref 0, .int x] 183 [.ref 52, .int x] t M := by
  have hI := h.up (t' := t + 1) (by omega) (by omega)
  obtain ⟨⟨hv, hr⟩, -⟩ := h
  have no : ∀ Q : Int32 → Mem → Prop, (x < nI 1 ∨ ¬ x ≤ nI 600) → Q (-1) (thr M) → exI (LY pl tl) (d + 12) 183 [.ref 52, .int x] M Q := by
    intro Q hx hq
    refine e_X11_pass (s_inR (by omega) (by omega) (fun j h1 h2 e => ?_) (fun _ => ⟨fun c => absurd rfl c, fun _ => hq⟩))
    subst e
    rcases hx with z | z
    · rw [z_lt (by omega) (by omega)] at z; omega
    · exact (z (nI_le h2 (by omega))).elim
  refine e_X10_pass ⟨fun c => no _ (Or.inl c) ⟨rfl, hI⟩, fun c => ⟨fun c2 => ?_, fun c2 => no _ (Or.inr c2) ⟨rfl, hI⟩⟩⟩
  obtain ⟨n, h1, h2, e⟩ := z_1 c (by omega) c2
  subst e
  -- the class
  have cls : ∀ Q : Int32 → Mem → Prop, (∀ B, Fr15 M B → RC 15 B (itW (M.1 53) n) → Q (itS (M.1 53) n) B) → fx (LY pl tl) (d + 11) m_X10_pass (qI Q) (18, [some (.ref 0), some (.int (nI n)), some (.int (nI 0)), some (.int (nI 0))], [], M) := by
    intro Q hQ
    have key : ∀ k i, i + k = n → ∀ B, Fr15 M B → RC 15 B (itW (M.1 53) i) → fx (LY pl tl) (d + 11) m_X10_pass (qI Q) (18, [some (.ref 0), some (.int (nI n)), some (.int (itS (M.1 53) i)), some (.int (nI i))], [], B) := by
      intro k
      induction k with
      | zero =>
        intro i hi B hF hR
        have : i = n := by omega
        subst this
        exact c_X10_pass_18 (br_t (nI_le (Nat.le_refl _) (by omega)) (hQ B hF hR))
      | succ k ih =>
        intro i hi B hF hR
        refine c_X10_pass_18 (br_f (nI_ge (by omega) (by omega)) (s_nextMinute (itW_V hv ht i (by omega)).1 hR (fun B' hF' hR' => ?_)))
        rw [nI_add]
        exact ih (i + 1) (by omega) B' (hF.trans' hF') hR'
    exact key n 0 (by omega) M (Fr15.rfl' M) hr
  refine cls _ (fun B hF hR => ?_)
  have h53 : B.1 53 = M.1 53 := hF.2 53 (by omega)
  refine e_X11_pass (s_inR (by omega) (by omega) (fun j _ _ _ => ⟨fun _ => ?_, fun c => absurd c (by decide)⟩) (fun q => ?_))
  · have key : ∀ k i, i + k = n → fx (LY pl tl) (d + 11) m_X11_pass (qI (fun r2 M2 => r2 = itS (M.1 53) n ∧ Inv (t + 1) M2)) (23, [some (.ref 52), some (.int (nI n)), some (.int (itS (M.1 53) i)), some (.int (nI i))], [], sa (thr B) 53 (itW (M.1 53) i)) := by
      intro k
      induction k with
      | zero =>
        intro i hi
        have : i = n := by omega
        subst this
        refine c_X11_pass_23 (br_t (nI_le (Nat.le_refl _) (by omega)) ⟨rfl, ?_⟩)
        refine Inv_step hI hF (itW_V hv ht i (by omega)).1 hR (sa_s _ _ _) (fun c h1 h2 => ?_) ⟨rfl, rfl⟩ ?_
        · rw [sa_n (by omega)]; exact si_c (by omega)
        · have hrow := hI.2.1
          unfold RowOk at hrow ⊢
          rw [← hF.1, ← hF.2 1 (by omega), ← hF.2 52 (by omega)] at hrow
          exact hrow
      | succ k ih =>
        intro i hi
        refine c_X11_pass_23 (br_f (nI_ge (by omega) (by omega)) (s_passesOne ?_ ?_))
        · rw [sa_s]; exact (itW_V hv ht i (by omega)).1.2.1
        · rw [nI_add, sa_s, sa_sa]
          exact ih (i + 1) (by omega)
    have := key n 0 (by omega)
    have e0 : sa (thr B) 53 (itW (M.1 53) 0) = si B 52 7 (nI 0) := sa_eq (fun j => by show M.1 53 j = _; rw [← h53]; rfl)
    rw [e0] at this
    exact this
  · rcases q with q | q
    · rw [z_lt (by omega) (by omega)] at q; omega
    · exact (q (nI_le h2 (by omega))).elim
end S24
