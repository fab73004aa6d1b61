/-! STATES COUNTED; NESTED -/
theorem si_cc {M : Mem} {i j k l : Nat} {v w : Int32} (h : i ≠ j) : si (si M i k v) j l w = si (si M j l w) i k v := by
  refine Prod.ext (funext fun c => ?_) rfl
  by_cases h1 : c = j
  · subst h1
    rw [si_s, si_c (Ne.symm h), si_c (Ne.symm h), si_s]
  · by_cases h2 : c = i
    · subst h2
      rw [si_c h, si_s, si_s, si_c h]
    · rw [si_c h1, si_c h2, si_c h2, si_c h1]
theorem pM_rwC (X : Mem) (k : Nat) (g : Nat → Int64) (o t : Int32) : pM (rwC X k g) o t = rwC (pM X o t) k g := by
  unfold pM rwC
  rw [si_cc (i := 1) (j := 43) (by omega), si_cc (i := 1) (j := 43) (by omega)]
  rfl
theorem sM_rwM (X : Mem) (k : Nat) (g : Nat → Int64) (o t : Int32) : sM (rwM X k g) o t = rwM (sM X o t) k g := by
  unfold sM rwM
  rw [si_comm (i := 52) (k := 6) (l := 22) (by omega), si_comm (i := 52) (k := 6) (l := 21) (by omega)]
  rfl
section S30
variable {pl : Option Nat} {tl : List LC} {d : Nat} {M : Mem} {t : Nat}
theorem s_cwG {Q : Int32 → Mem → Prop} {X : Mem} {w : Nat → Int32} {x : Int32} {o0 t0 : Int32} (hv : V w t) (hr : RC 15 X w) (h44 : ∀ s, s < sN w → X.1 44 s = rM w (rcN w) s) (h : Q (wS w (stO w (rcN w) x) 12) (pM X (stO w (rcN w) x) (stT w (rcN w) x))) : exI (LY pl tl) (d + 3) 51 [.ref 0, .int x] (pM X o0 t0) Q := by
  have n6 := hv.2.1.1.2
  have s8 := hv.1.1.2
  have hM : (pM X o0 t0).1 24 4 = nI (eN w) := hr.2.1.1.trans hv.2.1.1.1
  refine e_X10_coverWithout ?_
  rw [hM]
  refine s_putEngines (p := po w) n6 hM (fun e he => ⟨(hr.2.1.2.1 e he).1.trans (hv.2.1.2 e he).1.1, by have := (hv.2.1.2 e he).1.2; omega⟩) ?_
  have hb : ∀ e, e < eN w → decide (tb (((nI 1 <<< (nI (eN w) &&& 31)) - nI 1) &&& (x ^^^ (-1))) e) = (!decide (tb x e)) := fun e he => by
    rw [Bool.eq_iff_iff, decide_eq_true_eq, tb_out n6 he]
    simp
  have hf : ∀ e, e < eN w → (pM X o0 t0).1 44 (po w e) = rM w (rcN w) (po w e) := fun e he => h44 _ (hv.2.1.2 e he).1.2
  rw [o1_congr (f' := fun e => rM w (rcN w) (po w e)) (c' := fun e => !decide (tb x e)) _ hb (fun e he _ => hf e he), o2_congr (f' := fun e => rM w (rcN w) (po w e)) (c' := fun e => !decide (tb x e)) _ hb (fun e he _ => hf e he), pM_2]
  refine s_covered ?_
  have e1 : wS ((pM X (stO w (rcN w) x) (stT w (rcN w) x)).1 17) ((pM X (stO w (rcN w) x) (stT w (rcN w) x)).1 43 2) 12 = wS w (stO w (rcN w) x) 12 := wS_17 hr _
  show Q (wS ((pM X (stO w (rcN w) x) (stT w (rcN w) x)).1 17) ((pM X (stO w (rcN w) x) (stT w (rcN w) x)).1 43 2) 12) _
  rw [e1]
  exact h
def csC (w : Nat → Int32) (v : Int32) (k m : Nat) : Bool := decide (pcn m = k) && !decide (stV w (rcN w) m < v)
def csN (w : Nat → Int32) (v : Int32) (k : Nat) : Nat := cn (csC w v k) (2 ^ eN w)
def csS (w : Nat → Int32) (v : Int32) : Nat → Int32
  | 0 => nI 0
  | k + 1 => csS w v k + nI (csN w v k)
theorem s_statesOf {Q : Int32 → Mem → Prop} {X : Mem} {w : Nat → Int32} {v o0 t0 : Int32} {k : Nat} (hv : V w t) (hr : RC 15 X w) (h44 : ∀ s, s < sN w → X.1 44 s = rM w (rcN w) s) (hk : k ≤ 8) (h : ∀ o t', Q (nI (csN w v k)) (pM X o t')) : exI (LY pl tl) (d + 4) 54 [.ref 0, .int (nI k), .int v] (pM X o0 t0) Q := by
  have n6 := hv.2.1.1.2
  have hp := pow8 (n := eN w) (by omega)
  have hpw : nI 1 <<< (nI (eN w) &&& 31) = nI (2 ^ eN w) := b1_pow _ (by omega)
  have q1 : ∀ o t', (pM X o t').1 24 4 = nI (eN w) := fun o t' => hr.2.1.1.trans hv.2.1.1.1
  refine e_X10_statesOf (lp_s (σ := Int32 × Int32) (X := fx (LY pl tl) (d + 3) m_X10_statesOf (qI Q)) (fun m s => (5, [some (.ref 0), some (.int (nI k)), some (.int v), some (.int (nI (cn (csC w v k) m))), some (.int (nI m))], [], pM X s.1 s.2)) (2 ^ eN w) (fun m s hm hx => ?_) (fun s => ?_) (o0, t0))
  · refine c_X10_statesOf_5 ?_
    rw [q1, hpw]
    have h1 : pcn m ≤ 8 := cn_le _ _
    refine br_f (nI_ge hm (by omega)) (s_bitCount (by omega) ⟨fun cc => ?_, fun cc => s_cwG hv hr h44 ?_⟩)
    · rw [z_eq (by omega) (by omega)] at cc
      have hx := hx s
      rw [show cn (csC w v k) (m + 1) = cn (csC w v k) m from if_neg (by simp [csC, cc])] at hx
      rw [nI_add m 1]
      exact hx
    · rw [z_eq (by omega) (by omega)] at cc
      have vE : wS w (stO w (rcN w) (nI m)) 12 = stV w (rcN w) m := rfl
      rw [vE, nI_add m 1, nI_add _ 1]
      have hx := hx (stO w (rcN w) (nI m), stT w (rcN w) (nI m))
      refine ⟨fun q => ?_, fun q => ?_⟩
      · rw [show cn (csC w v k) (m + 1) = cn (csC w v k) m from if_neg (by simp [csC, q])] at hx
        exact hx
      · rw [show cn (csC w v k) (m + 1) = cn (csC w v k) m + 1 from if_pos (by simp [csC, cc, q])] at hx
        exact hx
  · refine c_X10_statesOf_5 ?_
    rw [q1, hpw]
    exact br_t (nI_le (Nat.le_refl _) (by omega)) (h _ _)
theorem s_scG {Q : Int32 → Mem → Prop} {X : Mem} {w : Nat → Int32} {r : Nat} {x o0 t0 : Int32} (hw : X.1 53 = w) (hv : V w t) (h59 : ∀ s, s < sN w → X.1 59 s = rM w r s) (h : Q (wS w (stO w r x) 12) (sM X (stO w r x) (stT w r x))) : exI (LY pl tl) (d + 2) 207 [.ref 52, .int x] (sM X o0 t0) Q := by
  subst hw
  exact s_stateCover hv h59 h
theorem m_states {Q : Int32 → Mem → Prop} {v : Int32} (hv : V (M.1 53) t) (h0 : 0 ≤ v) (h : ∀ o t', Q (csS (M.1 53) v (eN (M.1 53) + 1)) (rwM (sM (lyM (thr M) (rcN (M.1 53))) o t') (eN (M.1 53) + 1) (fun k => (nI (csN (M.1 53) v k)).toInt64))) : exI (LY pl tl) (d + 6) 210 [.ref 52, .int v] M Q := by
  have n6 := hv.2.1.1.2
  have hp := pow8 (n := eN (M.1 53)) (by omega)
  have hpw : nI 1 <<< (nI (eN (M.1 53)) &&& 31) = nI (2 ^ eN (M.1 53)) := b1_pow _ (by omega)
  refine e_X11_states (br_t h0 (s_lyT (t := t) hv ?_))
  generalize hA : lyM (thr M) (rcN (M.1 53)) = A at h
  have a53 : A.1 53 = M.1 53 := by rw [← hA]; rfl
  have a59 : ∀ s, s < sN (M.1 53) → A.1 59 s = rM (M.1 53) (rcN (M.1 53)) s := by rw [← hA]; exact ly59 (M := thr M)
  rw [rwM_0 _ (fun k => (nI (csN (M.1 53) v k)).toInt64)]
  have q1 : ∀ o t' n g, (rwM (sM A o t') n g).1 53 457 = nI (eN (M.1 53)) := fun o t' n g => (congrFun a53 457).trans hv.2.1.1.1
  have st := lp_s (σ := Int32 × Int32) (X := fx (LY pl tl) (d + 5) m_X11_states (qI Q)) (fun k s => (24, [some (.ref 52), some (.int v), some (.int (csS (M.1 53) v k)), some (.int (nI k)), none, none], [], rwM (sM A s.1 s.2) k (fun k => (nI (csN (M.1 53) v k)).toInt64))) (eN (M.1 53) + 1) (fun k s hk hx => ?_) (fun s => ?_)
  · have := st (A.1 52 21, A.1 52 22)
    simp only [sM_id] at this
    exact this
  · refine c_X11_states_24 ?_
    rw [q1]
    refine br_f (nI_nlt (by omega) (by omega)) ?_
    refine lp_s (σ := Int32 × Int32) (X := fx (LY pl tl) (d + 5) m_X11_states (qI Q)) (fun m s => (42, [some (.ref 52), some (.int v), some (.int (csS (M.1 53) v k)), some (.int (nI k)), some (.int (nI (cn (csC (M.1 53) v k) m))), some (.int (nI m))], [], rwM (sM A s.1 s.2) k (fun k => (nI (csN (M.1 53) v k)).toInt64))) (2 ^ eN (M.1 53)) (fun m s hm hy => ?_) (fun s => ?_) s
    · refine c_X11_states_42 ?_
      rw [q1, hpw]
      have h1 : pcn m ≤ 8 := cn_le _ _
      refine br_f (nI_ge hm (by omega)) (s_ones (by omega) ⟨fun cc => ?_, fun cc => ?_⟩)
      · rw [z_eq (by omega) (by omega)] at cc
        have hy := hy s
        rw [show cn (csC (M.1 53) v k) (m + 1) = cn (csC (M.1 53) v k) m from if_neg (by simp [csC, cc])] at hy
        rw [nI_add m 1, z_add0]
        exact hy
      · rw [z_eq (by omega) (by omega)] at cc
        rw [← sM_rwM]
        refine s_scG (t := t) (w := M.1 53) (r := rcN (M.1 53)) a53 hv a59 ?_
        have vE : wS (M.1 53) (stO (M.1 53) (rcN (M.1 53)) (nI m)) 12 = stV (M.1 53) (rcN (M.1 53)) m := rfl
        rw [vE, nI_add m 1, nI_add _ 1, z_add0, sM_rwM]
        have hy := hy (stO (M.1 53) (rcN (M.1 53)) (nI m), stT (M.1 53) (rcN (M.1 53)) (nI m))
        refine ⟨fun q => ?_, fun q => ?_⟩
        · rw [show cn (csC (M.1 53) v k) (m + 1) = cn (csC (M.1 53) v k) m from if_neg (by simp [csC, q])] at hy
          exact hy
        · rw [show cn (csC (M.1 53) v k) (m + 1) = cn (csC (M.1 53) v k) m + 1 from if_pos (by simp [csC, cc, q])] at hy
          exact hy
    · refine c_X11_states_42 ?_
      rw [q1, hpw]
      refine br_t (nI_le (Nat.le_refl _) (by omega)) (s_mtell (k + 1) rfl (by omega) rfl ?_)
      rw [nI_add k 1]
      exact hx s
  · refine c_X11_states_24 ?_
    rw [q1]
    exact br_t (nI_lt (by omega) (by omega)) (h _ _)
theorem op_states {v : Int32} (h : Inv t M) (ht : t < 512) : Op pl tl (d + 12) 33 [.ref 0, .int v] 210 [.ref 52, .int v] t M := by
  have hI := h.up (t' := t + 1) (by omega) (by omega)
  obtain ⟨⟨hv, hr⟩, -⟩ := h
  have n6 := hv.2.1.1.2
  have s8 := hv.1.1.2
  refine e_X10_states ⟨fun c => s_lk hv hr (s_clear (fun k => (nI (csN (M.1 53) v k)).toInt64) ?_), fun c => e_X11_states (br_f c ⟨rfl, hI⟩)⟩
  generalize hA : lkC M (M.1 53) = A
  have rA : RC 15 A (M.1 53) := by rw [← hA]; exact hr
  have a44 : ∀ s, s < sN (M.1 53) → A.1 44 s = rM (M.1 53) (rcN (M.1 53)) s := by rw [← hA]; exact fun s hs => nA_at (old := M.1 44) hs s8
  have q1 : ∀ o t' n g, (rwC (pM A o t') n g).1 24 4 = nI (eN (M.1 53)) := fun o t' n g => rA.2.1.1.trans hv.2.1.1.1
  have st := lp_s (σ := Int32 × Int32) (X := fx (LY pl tl) (d + 11) m_X10_states (qI (fun r M1 => exI (LY pl tl) (d + 12) 210 [.ref 52, .int v] M1 (fun r2 M2 => r2 = r ∧ Inv (t + 1) M2)))) (fun k s => (21, [some (.ref 0), some (.int v), some (.int (csS (M.1 53) v k)), some (.int (nI k)), none], [], rwC (pM A s.1 s.2) k (fun k => (nI (csN (M.1 53) v k)).toInt64))) (eN (M.1 53) + 1) (fun k s hk hx => ?_) (fun s => ?_)
  · have := st (A.1 43 2, A.1 43 3)
    simp only [pM_id] at this
    exact this
  · refine c_X10_states_21 ?_
    rw [q1, ← pM_rwC]
    refine br_f (nI_nlt (by omega) (by omega)) (s_statesOf (X := rwC A k (fun k => (nI (csN (M.1 53) v k)).toInt64)) hv rA a44 (by omega) (fun o t' => ?_))
    rw [pM_rwC]
    refine s_add (by omega) rfl ?_
    rw [nI_add k 1]
    exact hx (o, t')
  · refine c_X10_states_21 ?_
    rw [q1]
    refine br_t (nI_lt (by omega) (by omega)) ?_
    have e53 : ∀ n g, (rwC (pM A s.1 s.2) n g).1 53 = M.1 53 := fun n g => by rw [← hA]; rfl
    refine m_states (t := t) (by rw [e53]; exact hv) c (fun o t' => ⟨by rw [e53], ?_⟩)
    rw [e53]
    refine ⟨?_, rows_ok (B := pM A s.1 s.2) (n := eN (M.1 53) + 1) (by omega) rfl rfl rfl rfl (fun j hj => rfl), ?_⟩
    · rw [← hA]; exact hI.1
    · rw [← hA]; exact hI.2.2
end S30
