/-! DEAREST -/
def cbC (w : Nat → Int32) (s e : Nat) : Bool := rdy w e && !decide (po w e = s)
def cbO (w : Nat → Int32) (r s : Nat) : Int32 := o1 (fun e => rM w r (po w e)) (cbC w s) (eN w)
def cbT (w : Nat → Int32) (r s : Nat) : Int32 := o2 (fun e => rM w r (po w e)) (cbC w s) (eN w)
def cb (w : Nat → Int32) (r s : Nat) : Int32 := wS w (cbO w r s) 12
theorem cn_mono {c c' : Nat → Bool} (h : ∀ e, c e = true → c' e = true) : ∀ n, cn c n ≤ cn c' n
  | 0 => Nat.le_refl _
  | n + 1 => by
    have ih := cn_mono h n
    unfold cn
    by_cases q : c n = true
    · rw [if_pos q, if_pos (h n q)]; omega
    · rw [if_neg q]; split <;> omega
theorem wS_mono {f : Nat → Int32} {x y : Int32} (h : ∀ a, a < 12 → ∃ k, k ≤ 99 ∧ f a = nI k) (hxy : ∀ a, a < 12 → tb x a → tb y a) : ∀ n, n ≤ 12 → ∃ p q, p ≤ q ∧ q ≤ 99 * n ∧ wS f x n = nI p ∧ wS f y n = nI q
  | 0, _ => ⟨0, 0, Nat.le_refl _, Nat.le_refl _, rfl, rfl⟩
  | n + 1, hn => by
    obtain ⟨p, q, h1, h2, e1, e2⟩ := wS_mono h hxy n (by omega)
    obtain ⟨k, hk, e⟩ := h n (by omega)
    unfold wS
    by_cases hx : tb x n
    · rw [if_pos hx, if_pos (hxy n (by omega) hx), e1, e2, e, nI_add, nI_add]
      exact ⟨p + k, q + k, by omega, by omega, rfl, rfl⟩
    · rw [if_neg hx, e1]
      by_cases hy : tb y n
      · rw [if_pos hy, e2, e, nI_add]
        exact ⟨p, q + k, by omega, by omega, rfl, rfl⟩
      · rw [if_neg hy, e2]
        exact ⟨p, q, by omega, by omega, rfl, rfl⟩
theorem cb_le {w : Nat → Int32} (hv : VL w) (r s : Nat) : ∃ p q, p ≤ q ∧ q ≤ 1188 ∧ cb w r s = nI p ∧ CV w r = nI q := by
  refine wS_mono (fun a ha => ⟨wt w a, (hv.2.2.1 a ha).2, (hv.2.2.1 a ha).1⟩) (fun a ha => ?_) 12 (Nat.le_refl _)
  unfold cbO cvO
  rw [o1_tb _ _ (by omega), o1_tb _ _ (by omega)]
  intro q
  refine Nat.lt_of_lt_of_le q (cn_mono (fun e he => ?_) _)
  simp only [cbC, Bool.and_eq_true] at he ⊢
  exact ⟨he.1.1, he.2⟩
def cbN (w : Nat → Int32) (s : Nat) : Nat := tn (cb w (rcN w) s)
def cvN (w : Nat → Int32) : Nat := tn (CV w (rcN w))
theorem cb_ok {w : Nat → Int32} (hv : VL w) (s : Nat) : cb w (rcN w) s = nI (cbN w s) ∧ CV w (rcN w) = nI (cvN w) ∧ cbN w s ≤ cvN w ∧ cvN w ≤ 1188 := by
  obtain ⟨p, q, h1, h2, e1, e2⟩ := cb_le hv (rcN w) s
  have a : cbN w s = p := by unfold cbN; rw [e1, tn_nI (by omega)]
  have b : cvN w = q := by unfold cvN; rw [e2, tn_nI (by omega)]
  rw [a, b]
  exact ⟨e1, e2, h1, h2⟩
/-- the first of the least -/
def dS (c : Nat → Nat) : Nat → Nat
  | 0 => 0
  | k + 1 => if c (dS c k) ≤ c k then dS c k else k
theorem dS_1 (c : Nat → Nat) : dS c 1 = 0 := by unfold dS; split <;> rfl
theorem dS_lt (c : Nat → Nat) : ∀ k, 0 < k → dS c k < k
  | 0, h => absurd h (by omega)
  | k + 1, _ => by
    unfold dS
    split
    · rcases Nat.eq_zero_or_pos k with h | h
      · subst h; exact Nat.one_pos
      · have := dS_lt c k h; omega
    · omega
section S35
variable {pl : Option Nat} {tl : List LC} {d : Nat} {M : Mem} {t : Nat}
theorem s_coverBut {Q : Int32 → Mem → Prop} {X : Mem} {w : Nat → Int32} {r s : Nat} (hw : X.1 53 = w) (hv : V w t) (hs : s < 8) (h59 : ∀ s, s < sN w → X.1 59 s = rM w r s) (h : Q (cb w r s) X) : exI (LY pl tl) (d + 2) 203 [.ref 52, .int (nI s)] X Q := by
  subst hw
  have n6 := hv.2.1.1.2
  have s8 := hv.1.1.2
  refine e_X11_coverBut (lp_0 (X := fx (LY pl tl) (d + 1) m_X11_coverBut (qI Q)) (fun k => (4, [some (.ref 52), some (.int (nI s)), some (.int (o1 (fun e => rM (X.1 53) r (po (X.1 53) e)) (cbC (X.1 53) s) k)), some (.int (nI k))], [], X)) (eN (X.1 53)) (fun k hk hx => ?_) ?_)
  · refine c_X11_coverBut_4 ?_
    rw [hv.2.1.1.1]
    refine br_f (nI_ge hk (by omega)) (s_isReady (by omega) ?_)
    have hp := (hv.2.1.2 k hk).1
    by_cases q : X.1 53 (320 + k) = nI 0
    · rw [if_pos q, nI_add 308 k, z_cl (by omega), hp.1, z_eq (by omega) (by omega), z_cl (by omega), nI_add k 1, or_0]
      have hr : rdy (X.1 53) k = true := decide_eq_true q
      refine ⟨fun c => absurd c (by decide), fun _ => ⟨(z_in (by omega) (by omega)).mpr (by omega), fun c => ?_, fun c => ⟨(z_in (by omega) (by omega)).mpr (by omega), (z_in (by omega) (by omega)).mpr (by omega), ?_⟩⟩⟩
      · rw [show o1 (fun e => rM (X.1 53) r (po (X.1 53) e)) (cbC (X.1 53) s) (k + 1) = o1 (fun e => rM (X.1 53) r (po (X.1 53) e)) (cbC (X.1 53) s) k from if_neg (by unfold cbC; rw [decide_eq_true c]; simp)] at hx
        exact hx
      · rw [show o1 (fun e => rM (X.1 53) r (po (X.1 53) e)) (cbC (X.1 53) s) (k + 1) = o1 (fun e => rM (X.1 53) r (po (X.1 53) e)) (cbC (X.1 53) s) k ||| rM (X.1 53) r (po (X.1 53) k) from if_pos (by unfold cbC; rw [decide_eq_false c, hr]; rfl)] at hx
        rw [h59 _ hp.2]
        exact hx
    · rw [if_neg q, nI_add k 1, or_0]
      have hr : rdy (X.1 53) k = false := decide_eq_false q
      refine ⟨fun _ => ?_, fun c => absurd rfl c⟩
      rw [show o1 (fun e => rM (X.1 53) r (po (X.1 53) e)) (cbC (X.1 53) s) (k + 1) = o1 (fun e => rM (X.1 53) r (po (X.1 53) e)) (cbC (X.1 53) s) k from if_neg (by unfold cbC; rw [hr]; simp)] at hx
      exact hx
  · refine c_X11_coverBut_4 ?_
    rw [hv.2.1.1.1]
    exact br_t (nI_le (Nat.le_refl _) (by omega)) (s_weightOf h)
theorem s_postedAt {Q : Int32 → Mem → Prop} {X : Mem} {w : Nat → Int32} {s : Nat} (hv : V w t) (hr : RC 15 X w) (hs : s < 8) (h : Q (mk (fun e => decide (po w e = s)) (eN w)) X) : exI (LY pl tl) (d + 1) 70 [.ref 24, .int (nI s)] X Q := by
  have n6 := hv.2.1.1.2
  have s8 := hv.1.1.2
  have q1 : X.1 24 4 = nI (eN w) := hr.2.1.1.trans hv.2.1.1.1
  refine e_X2_postedAt (lp_0 (X := fx (LY pl tl) d m_X2_postedAt (qI Q)) (fun k => (4, [some (.ref 24), some (.int (nI s)), some (.int (mk (fun e => decide (po w e = s)) k)), some (.int (nI k))], [], X)) (eN w) (fun k hk hx => ?_) ?_)
  · refine c_X2_postedAt_4 ?_
    have hp := (hv.2.1.2 k hk).1
    rw [q1, z_cl (by omega), (hr.2.1.2.1 k hk).1.trans hp.1, z_eq (by omega) (by omega), nI_add k 1]
    refine br_f (nI_ge hk (by omega)) ⟨(z_in (by omega) (by omega)).mpr (by omega), fun c => ?_, fun c => ?_⟩
    · rw [show mk (fun e => decide (po w e = s)) (k + 1) = mk (fun e => decide (po w e = s)) k from if_neg (by simp [c])] at hx
      exact hx
    · rw [show mk (fun e => decide (po w e = s)) (k + 1) = mk (fun e => decide (po w e = s)) k ||| b1 k from if_pos (by simp [c])] at hx
      exact hx
  · refine c_X2_postedAt_4 ?_
    rw [q1]
    exact br_t (nI_le (Nat.le_refl _) (by omega)) h
theorem s_putBut {Q : Mem → Prop} {X : Mem} {w : Nat → Int32} {r s : Nat} {o0 t0 : Int32} (hv : V w t) (hr : RC 15 X w) (h44 : ∀ s, s < sN w → X.1 44 s = rM w r s) (h : Q (pM X (cbO w r s) (cbT w r s))) : exV (LY pl tl) (d + 2) 115 [.ref 43, .ref 24, .int (nI (mkN (rdy w) (eN w)) &&& (mk (fun e => decide (po w e = s)) (eN w) ^^^ (-1)))] (pM X o0 t0) Q := by
  have n6 := hv.2.1.1.2
  have s8 := hv.1.1.2
  refine s_putEngines (M := pM X o0 t0) (p := po w) n6 (hr.2.1.1.trans hv.2.1.1.1) (fun e he => ⟨(hr.2.1.2.1 e he).1.trans (hv.2.1.2 e he).1.1, by have := (hv.2.1.2 e he).1.2; omega⟩) ?_
  have hb : ∀ e, e < eN w → decide (tb (nI (mkN (rdy w) (eN w)) &&& (mk (fun e => decide (po w e = s)) (eN w) ^^^ (-1))) e) = cbC w s e := fun e he => by
    have e1 : bt (nI (mkN (rdy w) (eN w))) e = rdy w e := by
      have := tb_mkN (c := rdy w) (n := eN w) (by omega) he
      rw [← this, Bool.eq_iff_iff, decide_eq_true_eq, tb_iff _ (by omega)]
    rw [Bool.eq_iff_iff, decide_eq_true_eq, tb_iff _ (by omega), b_and, b_xor, b_m1 e (by omega), mk_bt _ _ (by omega) e (by omega), e1]
    simp [cbC, he]
  have hf : ∀ e, e < eN w → (pM X o0 t0).1 44 (po w e) = rM w r (po w e) := fun e he => h44 _ (hv.2.1.2 e he).1.2
  rw [o1_congr (f' := fun e => rM w r (po w e)) (c' := cbC w s) _ hb (fun e he _ => hf e he), o2_congr (f' := fun e => rM w r (po w e)) (c' := cbC w s) _ hb (fun e he _ => hf e he), pM_2]
  exact h
theorem s_rnG {F : Int32 → Mem → Prop} {X : Mem} {w : Nat → Int32} (hw : X.1 53 = w) (hv : V w t) (h59 : ∀ s, s < sN w → X.1 59 s = rM w (rcN w) s) (h : F (CV w (rcN w)) X) : exI (LY pl tl) (d + 3) 189 [.ref 52] X (fun r1 M1 => exI (LY pl tl) (d + 3) 166 [.ref 52, .int r1] M1 F) := by
  subst hw
  exact s_reachedNow (r := rcN (X.1 53)) hv.2.1 h59 hv.1.1.2 (s_nowW h)
theorem m_dearest0 {Q : Int32 → Mem → Prop} (hv : V (M.1 53) t) (h0 : sN (M.1 53) = 0) (h : Q (-2) (thr M)) : exI (LY pl tl) (d + 6) 204 [.ref 52] M Q := by
  refine e_X11_dearest ?_
  rw [hv.1.1.1, h0]
  exact ⟨fun c => absurd rfl c, fun _ => h⟩
theorem m_dearest {Q : Int32 → Mem → Prop} (hv : V (M.1 53) t) (h0 : 0 < sN (M.1 53)) (h : Q (nI (dS (cbN (M.1 53)) (sN (M.1 53)))) (rwM (lyM (thr M) (rcN (M.1 53))) 1 (fun _ => (nI (cvN (M.1 53) - cbN (M.1 53) (dS (cbN (M.1 53)) (sN (M.1 53))))).toInt64))) : exI (LY pl tl) (d + 6) 204 [.ref 52] M Q := by
  have s8 := hv.1.1.2
  have ok := fun s => cb_ok hv.1 s
  refine e_X11_dearest ?_
  rw [hv.1.1.1, z_eq0 (by omega)]
  refine ⟨fun _ => s_lyT (t := t) hv ?_, fun c => absurd c (by omega)⟩
  generalize hA : lyM (thr M) (rcN (M.1 53)) = A at h
  have a53 : A.1 53 = M.1 53 := by rw [← hA]; rfl
  have a59 : ∀ s, s < sN (M.1 53) → A.1 59 s = rM (M.1 53) (rcN (M.1 53)) s := by rw [← hA]; exact ly59 (M := thr M)
  have q1 : A.1 53 456 = nI (sN (M.1 53)) := (congrFun a53 456).trans hv.1.1.1
  have lt := lp_up (X := fx (LY pl tl) (d + 5) m_X11_dearest (qI Q)) (fun k => (27, [some (.ref 52), some (.int (nI (dS (cbN (M.1 53)) k))), some (.int (nI k))], [], A)) (sN (M.1 53)) (fun k hk hx => ?_) ?_ 1 h0
  · rw [dS_1] at lt
    exact lt
  · have hd : k = 0 ∨ dS (cbN (M.1 53)) k < k := by
      rcases Nat.eq_zero_or_pos k with q | q
      · exact Or.inl q
      · exact Or.inr (dS_lt _ _ q)
    have hd8 : dS (cbN (M.1 53)) k < 8 := by
      rcases hd with q | q
      · subst q; exact (by decide : 0 < 8)
      · omega
    refine c_X11_dearest_27 ?_
    rw [q1]
    refine br_f (nI_ge hk (by omega)) (s_coverBut (t := t) a53 hv (by omega) a59 (s_coverBut (t := t) a53 hv hd8 a59 ?_))
    have b1 := ok k
    have b2 := ok (dS (cbN (M.1 53)) k)
    rw [b1.1, b2.1, z_le (by omega) (by omega), nI_add k 1]
    refine ⟨fun c => ?_, fun c => ?_⟩
    · rw [show dS (cbN (M.1 53)) (k + 1) = dS (cbN (M.1 53)) k from if_pos c] at hx
      exact hx
    · rw [show dS (cbN (M.1 53)) (k + 1) = k from if_neg c] at hx
      exact hx
  · have hl := dS_lt (cbN (M.1 53)) _ h0
    refine c_X11_dearest_27 ?_
    rw [q1]
    refine br_t (nI_le (Nat.le_refl _) (by omega)) ?_
    have b := ok (dS (cbN (M.1 53)) (sN (M.1 53)))
    rw [rwM_0 _ (fun _ => (nI (cvN (M.1 53) - cbN (M.1 53) (dS (cbN (M.1 53)) (sN (M.1 53))))).toInt64)]
    refine s_rnG (t := t) (X := rwM A 0 _) a53 hv a59 (s_coverBut (t := t) (X := rwM A 0 _) a53 hv (by omega) a59 ?_)
    rw [b.1, b.2.1, z_sub b.2.2.1]
    exact s_mtell 1 rfl (by omega) rfl h
def dV (w : Nat → Int32) (k : Nat) : Int32 := if k = 0 then -1 else nI (cvN w - cbN w (dS (cbN w) k))
def dW (w : Nat → Int32) (k : Nat) : Int32 := if k = 0 then -1 else nI (dS (cbN w) k)
theorem op_dearest (h : Inv t M) (ht : t < 512) : Op pl tl (d + 12) 26 [.ref 0] 204 [.ref 52] t M := by
  have hI := h.up (t' := t + 1) (by omega) (by omega)
  obtain ⟨⟨hv, hr⟩, -⟩ := h
  have s8 := hv.1.1.2
  have ok := fun s => cb_ok hv.1 s
  have m8 : M.1 16 8 = nI (sN (M.1 53)) := hr.1.2.1.trans hv.1.1.1
  refine e_X10_dearest ?_
  rw [m8, z_eq0 (by omega)]
  refine ⟨fun h0 => s_coverNow hv hr (s_readyBits (t := t) (w := M.1 53) hv hr ?_), fun h0 => m_dearest0 (t := t) hv h0 ⟨rfl, hI⟩⟩
  have h0 : 0 < sN (M.1 53) := by omega
  rw [(ok 0).2.1]
  generalize hA : sa M 44 (nA (M.1 53) (rcN (M.1 53)) (M.1 44)) = A
  have rA : RC 15 A (M.1 53) := by rw [← hA]; exact hr
  have a44 : ∀ s, s < sN (M.1 53) → A.1 44 s = rM (M.1 53) (rcN (M.1 53)) s := fun s hs => by rw [← hA, sa_s]; exact nA_at hs s8
  have q1 : ∀ o t', (pM A o t').1 16 8 = nI (sN (M.1 53)) := fun o t' => rA.1.2.1.trans hv.1.1.1
  refine lp_s (σ := Int32 × Int32) (X := fx (LY pl tl) (d + 11) m_X10_dearest (qI (fun r M1 => exI (LY pl tl) (d + 12) 204 [.ref 52] M1 (fun r2 M2 => r2 = r ∧ Inv (t + 1) M2)))) (fun k s => (41, [some (.ref 0), some (.int (nI (cvN (M.1 53)))), some (.int (nI (mkN (rdy (M.1 53)) (eN (M.1 53))))), some (.int (dV (M.1 53) k)), some (.int (dW (M.1 53) k)), some (.int (nI k)), none], [], pM A s.1 s.2)) (sN (M.1 53)) (fun k s hk hx => ?_) (fun s => ?_) (cvO (M.1 53) (rcN (M.1 53)), cvT (M.1 53) (rcN (M.1 53)))
  · refine c_X10_dearest_41 ?_
    rw [q1]
    refine br_f (nI_ge hk (by omega)) (s_postedAt (t := t) (w := M.1 53) hv rA (by omega) (s_putBut (t := t) (r := rcN (M.1 53)) hv rA a44 (s_covered ?_)))
    have b1 := ok k
    have hx := hx (cbO (M.1 53) (rcN (M.1 53)) k, cbT (M.1 53) (rcN (M.1 53)) k)
    have e1 : wS ((pM A (cbO (M.1 53) (rcN (M.1 53)) k) (cbT (M.1 53) (rcN (M.1 53)) k)).1 17) ((pM A (cbO (M.1 53) (rcN (M.1 53)) k) (cbT (M.1 53) (rcN (M.1 53)) k)).1 43 2) 12 = nI (cbN (M.1 53) k) := (wS_17 rA _).trans b1.1
    rw [e1, z_sub b1.2.2.1, nI_add k 1]
    rcases Nat.eq_zero_or_pos k with q | q
    · subst q
      refine ⟨fun c => absurd c ?_, fun _ => ?_⟩
      · rw [show dV (M.1 53) 0 = -1 from rfl, z_m1lt (by omega)]
        exact id
      · rw [show dV (M.1 53) (0 + 1) = nI (cvN (M.1 53) - cbN (M.1 53) (dS (cbN (M.1 53)) 1)) from rfl, show dW (M.1 53) (0 + 1) = nI (dS (cbN (M.1 53)) 1) from rfl, dS_1] at hx
        exact hx
    · have b2 := ok (dS (cbN (M.1 53)) k)
      have d1 : dV (M.1 53) k = nI (cvN (M.1 53) - cbN (M.1 53) (dS (cbN (M.1 53)) k)) := if_neg (by omega)
      have d2 : dW (M.1 53) k = nI (dS (cbN (M.1 53)) k) := if_neg (by omega)
      rw [show dV (M.1 53) (k + 1) = nI (cvN (M.1 53) - cbN (M.1 53) (dS (cbN (M.1 53)) (k + 1))) from rfl, show dW (M.1 53) (k + 1) = nI (dS (cbN (M.1 53)) (k + 1)) from rfl] at hx
      rw [d1, d2, z_le (by omega) (by omega)]
      refine ⟨fun c => ?_, fun c => ?_⟩
      · rw [show dS (cbN (M.1 53)) (k + 1) = dS (cbN (M.1 53)) k from if_pos (by omega)] at hx
        exact hx
      · rw [show dS (cbN (M.1 53)) (k + 1) = k from if_neg (by omega)] at hx
        exact hx
  · refine c_X10_dearest_41 ?_
    rw [q1]
    have d1 : dV (M.1 53) (sN (M.1 53)) = nI (cvN (M.1 53) - cbN (M.1 53) (dS (cbN (M.1 53)) (sN (M.1 53)))) := if_neg (by omega)
    have d2 : dW (M.1 53) (sN (M.1 53)) = nI (dS (cbN (M.1 53)) (sN (M.1 53))) := if_neg (by omega)
    rw [d1, d2]
    refine br_t (nI_le (Nat.le_refl _) (by omega)) (s_tell1 ?_)
    have e53 : ∀ n g, (rwC (pM A s.1 s.2) n g).1 53 = M.1 53 := fun n g => by rw [← hA]; rfl
    refine m_dearest (t := t) (by rw [e53]; exact hv) (by rw [e53]; exact h0) ⟨by rw [e53], ?_⟩
    rw [e53]
    refine ⟨?_, rows_ok (B := pM A s.1 s.2) (n := 1) (by omega) rfl rfl rfl rfl (fun j hj => rfl), ?_⟩
    · rw [← hA]; exact hI.1
    · rw [← hA]; exact hI.2.2
end S35
