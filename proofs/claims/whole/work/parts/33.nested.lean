/-! NESTED, DEAREST -/
theorem z_weq (a b : Int32) : a.toInt64 = b.toInt64 ↔ a = b := by
  refine ⟨fun h => ?_, fun h => by rw [h]⟩
  have := congrArg Int64.toInt h
  rw [Int32.toInt_toInt64, Int32.toInt_toInt64] at this
  exact Int32.toInt_inj.mp this
def bsN (w : Nat → Int32) (k : Nat) : Nat := (BS w (rcN w) k).getD 0
def bfN (w : Nat → Int32) : Nat → Int32
  | 0 => nI 0
  | k + 1 => nI (bsN w k)
def ncC (w : Nat → Int32) (k : Nat) : Bool := decide (0 < k) && decide (bfN w k &&& (nI (bsN w k) ^^^ (-1)) = 0)
section S33
variable {pl : Option Nat} {tl : List LC} {d : Nat} {M : Mem} {t : Nat}
theorem s_bestG {Q : Int32 → Mem → Prop} {X : Mem} {w : Nat → Int32} {k : Nat} (hv : V w t) (hr : RC 15 X w) (h44 : X.1 44 = nA w (rcN w) (X.1 44)) (hk : k ≤ sN w) {o0 t0 : Int32} (h : ∀ o t', bsN w k < 2 ^ sN w → Q (nI (bsN w k)) (pM X o t')) : exI (LY pl tl) (d + 4) 120 [.ref 43, .ref 16, .int (nI k), .int (nI 0)] (pM X o0 t0) Q := by
  refine s_bestStations (M := pM X o0 t0) (w := w) (r := rcN w) (dbl := false) hv.1 (hr.1.2.1.trans hv.1.1.1) (fun a ha => hr.1.1 a ha) h44 hk (fun b o t' hb hb2 => ?_)
  have hb : BS w (rcN w) k = some b := hb
  have e : bsN w k = b := by unfold bsN; rw [hb]; rfl
  rw [pM_2, ← e]
  exact h o t' (by rw [e]; exact hb2)
theorem s_bestSetG {Q : Int32 → Mem → Prop} {w : Nat → Int32} {k : Nat} (hw : M.1 53 = w) (hv : V w t) (h59 : ∀ s, s < sN w → M.1 59 s = rM w (rcN w) s) (hk : k ≤ sN w) (h : bsN w k < 2 ^ sN w → Q (nI (bsN w k)) M) : exI (LY pl tl) (d + 2) 196 [.ref 52, .int (nI k)] M Q := by
  subst hw
  refine s_bestSet hv.1 h59 hk (fun b hb hb2 => ?_)
  have e : bsN (M.1 53) k = b := by unfold bsN; rw [hb]; rfl
  rw [← e]
  exact h (by rw [e]; exact hb2)
theorem m_nested {Q : Int32 → Mem → Prop} (hv : V (M.1 53) t) (h : Q (nI (cn (ncC (M.1 53)) (sN (M.1 53) + 1))) (rwM (lyM (thr M) (rcN (M.1 53))) (sN (M.1 53) + 1) (fun k => (nI (bsN (M.1 53) k)).toInt64))) : exI (LY pl tl) (d + 6) 201 [.ref 52] M Q := by
  have s8 := hv.1.1.2
  refine e_X11_nested (s_lyT (t := t) hv ?_)
  generalize hA : lyM (thr M) (rcN (M.1 53)) = A at h
  have a53 : A.1 53 = M.1 53 := by rw [← hA]; rfl
  have a59 : ∀ s, s < sN (M.1 53) → A.1 59 s = rM (M.1 53) (rcN (M.1 53)) s := by rw [← hA]; exact ly59 (M := thr M)
  rw [rwM_0 _ (fun k => (nI (bsN (M.1 53) k)).toInt64)]
  have q1 : ∀ n g, (rwM A n g).1 53 456 = nI (sN (M.1 53)) := fun n g => (congrFun a53 456).trans hv.1.1.1
  refine lp_0 (X := fx (LY pl tl) (d + 5) m_X11_nested (qI Q)) (fun k => (18, [some (.ref 52), some (.int (nI (cn (ncC (M.1 53)) k))), some (.int (nI k)), none], [], rwM A k (fun k => (nI (bsN (M.1 53) k)).toInt64))) (sN (M.1 53) + 1) (fun k hk hx => ?_) ?_
  · refine c_X11_nested_18 ?_
    rw [q1]
    refine br_f (nI_nlt (by omega) (by omega)) (s_bestSetG (t := t) (w := M.1 53) a53 hv a59 (by omega) (fun hb2 => ?_))
    have hp := pow8 s8
    refine ⟨fun c => ?_, fun c => ?_⟩
    · rw [z_le0 (by omega)] at c
      subst c
      refine s_mtell 1 rfl (by omega) rfl ?_
      exact hx
    · rw [z_le0 (by omega)] at c
      rw [z_sub (by omega), z_cl (by omega)]
      refine ⟨(z_in (by omega) (by omega)).mpr (by omega), ?_⟩
      rw [rwM_at (by omega), lg_cmp_eq, show lN 0 = (nI 0).toInt64 from rfl, ← Int32.toInt64_and, z_weq, nI_add k 1, nI_add _ 1, z_add0]
      have ebf : bfN (M.1 53) k = nI (bsN (M.1 53) (k - 1)) := by
        obtain ⟨k', rfl⟩ : ∃ k', k = k' + 1 := ⟨k - 1, by omega⟩
        rfl
      refine ⟨fun q => s_mtell (k + 1) rfl (by omega) rfl ?_, fun q => s_mtell (k + 1) rfl (by omega) rfl ?_⟩
      · have q' : ¬ bfN (M.1 53) k &&& (nI (bsN (M.1 53) k) ^^^ (-1)) = 0 := by rw [ebf]; exact q
        rw [show cn (ncC (M.1 53)) (k + 1) = cn (ncC (M.1 53)) k from if_neg (by unfold ncC; rw [decide_eq_false q']; simp)] at hx
        exact hx
      · have q' : bfN (M.1 53) k &&& (nI (bsN (M.1 53) k) ^^^ (-1)) = 0 := by rw [ebf]; exact q
        rw [show cn (ncC (M.1 53)) (k + 1) = cn (ncC (M.1 53)) k + 1 from if_pos (by unfold ncC; rw [decide_eq_true q', decide_eq_true (show 0 < k by omega)]; rfl)] at hx
        exact hx
  · refine c_X11_nested_18 ?_
    rw [q1]
    exact br_t (nI_lt (by omega) (by omega)) h
theorem op_nested (h : Inv t M) (ht : t < 512) : Op pl tl (d + 12) 24 [.ref 0] 201 [.ref 52] t M := by
  have hI := h.up (t' := t + 1) (by omega) (by omega)
  obtain ⟨⟨hv, hr⟩, -⟩ := h
  have s8 := hv.1.1.2
  refine e_X10_nested (s_lk hv hr (s_clear (fun k => (nI (bsN (M.1 53) k)).toInt64) ?_))
  generalize hA : lkC M (M.1 53) = A
  have rA : RC 15 A (M.1 53) := by rw [← hA]; exact hr
  have a44 : A.1 44 = nA (M.1 53) (rcN (M.1 53)) (A.1 44) := by rw [← hA]; exact (lk44 M (M.1 53) (rcN (M.1 53))).symm
  have q1 : ∀ o t' n g, (rwC (pM A o t') n g).1 16 8 = nI (sN (M.1 53)) := fun o t' n g => rA.1.2.1.trans hv.1.1.1
  have st := lp_s (σ := Int32 × Int32) (X := fx (LY pl tl) (d + 11) m_X10_nested (qI (fun r M1 => exI (LY pl tl) (d + 12) 201 [.ref 52] M1 (fun r2 M2 => r2 = r ∧ Inv (t + 1) M2)))) (fun k s => (17, [some (.ref 0), some (.int (nI (cn (ncC (M.1 53)) k))), some (.int (bfN (M.1 53) k)), some (.int (nI k)), none], [], rwC (pM A s.1 s.2) k (fun k => (nI (bsN (M.1 53) k)).toInt64))) (sN (M.1 53) + 1) (fun k s hk hx => ?_) (fun s => ?_)
  · have := st (A.1 43 2, A.1 43 3)
    simp only [pM_id] at this
    exact this
  · refine c_X10_nested_17 ?_
    rw [q1, ← pM_rwC]
    refine br_f (nI_nlt (by omega) (by omega)) (s_bestG (X := rwC A k (fun k => (nI (bsN (M.1 53) k)).toInt64)) hv rA a44 (by omega) (fun o t' hb2 => ?_))
    have hp := pow8 s8
    rw [pM_rwC, nI_add k 1, nI_add _ 1]
    have hx := hx (o, t')
    refine ⟨fun c => ?_, fun c => ⟨fun q => ?_, fun q => ?_⟩⟩
    · rw [z_le0 (by omega)] at c
      subst c
      exact s_add (by omega) rfl hx
    · rw [z_le0 (by omega)] at c
      rw [show cn (ncC (M.1 53)) (k + 1) = cn (ncC (M.1 53)) k from if_neg (by unfold ncC; rw [decide_eq_false q]; simp)] at hx
      exact s_add (by omega) rfl hx
    · rw [z_le0 (by omega)] at c
      rw [show cn (ncC (M.1 53)) (k + 1) = cn (ncC (M.1 53)) k + 1 from if_pos (by unfold ncC; rw [decide_eq_true q, decide_eq_true (show 0 < k by omega)]; rfl)] at hx
      exact s_add (by omega) rfl hx
  · refine c_X10_nested_17 ?_
    rw [q1]
    refine br_t (nI_lt (by omega) (by omega)) ?_
    have e53 : ∀ n g, (rwC (pM A s.1 s.2) n g).1 53 = M.1 53 := fun n g => by rw [← hA]; rfl
    refine m_nested (t := t) (by rw [e53]; exact hv) ⟨by rw [e53], ?_⟩
    rw [e53]
    refine ⟨?_, rows_ok (B := pM A s.1 s.2) (n := sN (M.1 53) + 1) (by omega) rfl rfl rfl rfl (fun j hj => rfl), ?_⟩
    · rw [← hA]; exact hI.1
    · rw [← hA]; exact hI.2.2
end S33
