/-! SPREAD, LEAST -/
def nwN (w : Nat → Int32) (a : Nat) : Nat := oL (fun e => ew w e a) (gW w a)
def spS (w : Nat → Int32) : Nat → Int32
  | 0 => nI 0
  | a + 1 => spS w a + w a * nI (nwN w a)
/-- the farthest node with weight, the first -/
def spF (w : Nat → Int32) : Nat → Option Nat
  | 0 => none
  | a + 1 => if wt w a = 0 then spF w a else match spF w a with
    | none => some a
    | some b => if nwN w b < nwN w a then some a else some b
def spV (w : Nat → Int32) (z : Int32) (o : Option Nat) : Int32 := match o with
  | none => z
  | some b => nI (nwN w b)
theorem nwN_le {w : Nat → Int32} {t : Nat} (hv : V w t) {a : Nat} (ha : a < 12) : nwN w a ≤ 999 := by
  unfold nwN
  cases hg : gW w a with
  | none => exact Nat.le_refl _
  | some e => exact ew_le hv (fm_lt hg).1 ha
theorem spF_lt {w : Nat → Int32} : ∀ {n b : Nat}, spF w n = some b → b < n
  | 0, _, h => by cases h
  | n + 1, b, h => by
    unfold spF at h
    split at h
    · have := spF_lt h; omega
    · split at h
      · cases h; omega
      · next b' hb =>
        have := spF_lt hb
        split at h
        · cases h; omega
        · cases h; omega
theorem spF_0 {w : Nat → Int32} {a : Nat} (h : wt w a = 0) : spF w (a + 1) = spF w a := if_pos h
theorem spF_n {w : Nat → Int32} {a : Nat} (h : ¬ wt w a = 0) (hn : spF w a = none) : spF w (a + 1) = some a := by
  show (if _ then _ else match spF w a with
    | none => some a
    | some b => if nwN w b < nwN w a then some a else some b) = _
  rw [if_neg h, hn]
theorem spF_s {w : Nat → Int32} {a b : Nat} (h : ¬ wt w a = 0) (hn : spF w a = some b) : spF w (a + 1) = if nwN w b < nwN w a then some a else some b := by
  show (if _ then _ else match spF w a with
    | none => some a
    | some b => if nwN w b < nwN w a then some a else some b) = _
  rw [if_neg h, hn]
section S31
variable {pl : Option Nat} {tl : List LC} {d : Nat} {M : Mem} {t : Nat}
theorem s_nearestWay {Q : Int32 → Mem → Prop} {w : Nat → Int32} {a : Nat} (hv : V w t) (hr : RC 15 M w) (ha : a < 12) (h : Q (nI (nwN w a)) M) : exI (LY pl tl) (d + 5) 130 [.ref 15, .int (nI a)] M Q := by
  refine e_X9_nearestWay (s_whoGoes hv hr ha ?_)
  have hgw : fm (fun e => ew w e a) (eN w) = gW w a := rfl
  unfold nwN at h
  cases hg : gW w a with
  | none =>
    rw [hgw, hg]
    rw [hg] at h
    exact s_readyWay_n h
  | some e =>
    rw [hgw, hg]
    rw [hg] at h
    exact s_readyWay hv hr (fm_lt hg).1 ha h
theorem m_spread {Q : Int32 → Mem → Prop} (hv : V (M.1 53) t) (h : Q (spS (M.1 53) 12) (rwM (lyM (thr M) (rcN (M.1 53))) 2 (fun j => if j = 0 then (spV (M.1 53) (nI 0) (spF (M.1 53) 12)).toInt64 else (oM1 (spF (M.1 53) 12)).toInt64))) : exI (LY pl tl) (d + 6) 200 [.ref 52] M Q := by
  refine e_X11_spread (s_lyT (t := t) hv ?_)
  generalize hA : lyM (thr M) (rcN (M.1 53)) = A at h
  have a53 : A.1 53 = M.1 53 := by rw [← hA]; rfl
  have a58 : ∀ a b, a < 12 → b < 12 → A.1 58 (12 * a + b) = nI (dist (A.1 53) a b) := by rw [← hA]; exact ly58 (M := thr M)
  have vA : V (A.1 53) t := by rw [a53]; exact hv
  refine lp_0 (X := fx (LY pl tl) (d + 5) m_X11_spread (qI Q)) (fun a => (18, [some (.ref 52), some (.int (spS (M.1 53) a)), some (.int (spV (M.1 53) (nI 0) (spF (M.1 53) a))), some (.int (oM1 (spF (M.1 53) a))), some (.int (nI a)), none, none], [], A)) 12 (fun a ha hx => ?_) ?_
  · obtain ⟨w1, w2⟩ := hv.1.2.2.1 a ha
    have hE := nwN_le hv ha
    have hv480 : vp_in (nI 0 + nI a) 480 := by rw [z_0add]; exact (z_in (by omega) (by omega)).mpr (by omega)
    -- what follows once the way is known
    have fin : ∀ x : Int32, x = nI (nwN (M.1 53) a) → vp_in (nI 0 + nI a) 480 ∧ vp_in (nI 0 + nI a) 480 ∧ (A.1 53 (nI 0 + nI a).toNatClampNeg = 0 → fx (LY pl tl) (d + 5) m_X11_spread (qI Q) (18, [some (.ref 52), some (.int (spS (M.1 53) a + A.1 53 (nI 0 + nI a).toNatClampNeg * x)), some (.int (spV (M.1 53) (nI 0) (spF (M.1 53) a))), some (.int (oM1 (spF (M.1 53) a))), some (.int (nI a + nI 1)), none, none], [], A)) ∧ (¬ A.1 53 (nI 0 + nI a).toNatClampNeg = 0 → (oM1 (spF (M.1 53) a) = -1 → fx (LY pl tl) (d + 5) m_X11_spread (qI Q) (18, [some (.ref 52), some (.int (spS (M.1 53) a + A.1 53 (nI 0 + nI a).toNatClampNeg * x)), some (.int x), some (.int (nI a)), some (.int (nI a + nI 1)), none, none], [], A)) ∧ (¬ oM1 (spF (M.1 53) a) = -1 → (spV (M.1 53) (nI 0) (spF (M.1 53) a) < x → fx (LY pl tl) (d + 5) m_X11_spread (qI Q) (18, [some (.ref 52), some (.int (spS (M.1 53) a + A.1 53 (nI 0 + nI a).toNatClampNeg * x)), some (.int x), some (.int (nI a)), some (.int (nI a + nI 1)), none, none], [], A)) ∧ (¬ spV (M.1 53) (nI 0) (spF (M.1 53) a) < x → fx (LY pl tl) (d + 5) m_X11_spread (qI Q) (18, [some (.ref 52), some (.int (spS (M.1 53) a + A.1 53 (nI 0 + nI a).toNatClampNeg * x)), some (.int (spV (M.1 53) (nI 0) (spF (M.1 53) a))), some (.int (oM1 (spF (M.1 53) a))), some (.int (nI a + nI 1)), none, none], [], A)))) := by
      intro x hxx
      subst hxx
      rw [z_0add, z_cl (by omega), a53, nI_add a 1]
      have hx : fx (LY pl tl) (d + 5) m_X11_spread (qI Q) (18, [some (.ref 52), some (.int (spS (M.1 53) a + M.1 53 a * nI (nwN (M.1 53) a))), some (.int (spV (M.1 53) (nI 0) (spF (M.1 53) (a + 1)))), some (.int (oM1 (spF (M.1 53) (a + 1)))), some (.int (nI (a + 1))), none, none], [], A) := hx
      rw [z_0add] at hv480
      refine ⟨hv480, hv480, fun c => ?_, fun c => ?_⟩
      · rw [w1, z_eq0 (by omega)] at c
        rw [spF_0 c] at hx
        exact hx
      · rw [w1, z_eq0 (by omega)] at c
        cases hf : spF (M.1 53) a with
        | none =>
          rw [spF_n c hf] at hx
          exact ⟨fun _ => hx, fun z => absurd rfl z⟩
        | some b =>
          have hb := spF_lt hf
          have hE2 := nwN_le hv (a := b) (by omega)
          rw [spF_s c hf] at hx
          refine ⟨fun z => ((z_m1 (show b < 2147483648 by omega)).mp z).elim, fun _ => ⟨fun z => ?_, fun z => ?_⟩⟩
          · have z : nI (nwN (M.1 53) b) < nI (nwN (M.1 53) a) := z
            rw [z_lt (by omega) (by omega)] at z
            rw [if_pos z] at hx
            exact hx
          · have z : ¬ nI (nwN (M.1 53) b) < nI (nwN (M.1 53) a) := z
            rw [z_lt (by omega) (by omega)] at z
            rw [if_neg z] at hx
            exact hx
    refine c_X11_spread_18 (br_f (nI_ge ha (by omega)) (s_goer (t := t) vA a58 ha ?_))
    have hgw : fm (fun e => ew (A.1 53) e a) (eN (A.1 53)) = gW (M.1 53) a := by rw [a53]
    rw [hgw]
    cases hg : gW (M.1 53) a with
    | none =>
      refine ⟨fun c => absurd rfl c, fun _ => fin (nI 999) ?_⟩
      unfold nwN; rw [hg]; rfl
    | some e =>
      obtain ⟨f1, f2⟩ := fm_lt hg
      have f2 : ew (M.1 53) e a < 999 := f2
      have n6 := hv.2.1.1.2
      refine ⟨fun _ => s_wayT (t := t) (w := M.1 53) a53 hv (by rw [← a53]; exact a58) f1 ha (k := nwN (M.1 53) a) ?_ (fin _ rfl), fun c => ((z_m1 (show e < 2147483648 by omega)).mp c).elim⟩
      unfold nwN
      rw [hg]
      show _ = ew (M.1 53) e a
      unfold ew
      by_cases q : rdy (M.1 53) e = true
      · rw [if_pos q]
      · exfalso
        have : ew (M.1 53) e a = 999 := if_neg q
        omega
  · refine c_X11_spread_18 (br_t (nI_le (Nat.le_refl _) (by omega)) ?_)
    rw [rwM_0 _ (fun j => if j = 0 then (spV (M.1 53) (nI 0) (spF (M.1 53) 12)).toInt64 else (oM1 (spF (M.1 53) 12)).toInt64)]
    exact s_mtell 1 rfl (by omega) rfl (s_mtell 2 rfl (by omega) rfl h)
theorem op_spread (h : Inv t M) (ht : t < 512) : Op pl tl (d + 12) 30 [.ref 0] 200 [.ref 52] t M := by
  have hI := h.up (t' := t + 1) (by omega) (by omega)
  obtain ⟨⟨hv, hr⟩, -⟩ := h
  refine e_X10_spread (lp_0 (X := fx (LY pl tl) (d + 11) m_X10_spread (qI (fun r M1 => exI (LY pl tl) (d + 12) 200 [.ref 52] M1 (fun r2 M2 => r2 = r ∧ Inv (t + 1) M2)))) (fun a => (9, [some (.ref 0), some (.int (spS (M.1 53) a)), some (.int (spV (M.1 53) (-1) (spF (M.1 53) a))), some (.int (oM1 (spF (M.1 53) a))), some (.int (nI a)), none, none], [], M)) 12 (fun a ha hx => ?_) ?_)
  · obtain ⟨w1, w2⟩ := hv.1.2.2.1 a ha
    have hE := nwN_le hv ha
    have q17 : M.1 17 a = nI (wt (M.1 53) a) := (hr.1.1 a ha).trans w1
    refine c_X10_spread_9 ?_
    rw [z_cl (by omega), q17]
    refine br_f (nI_ge ha (by omega)) ⟨(z_in (by omega) (by omega)).mpr ha, s_nearestWay hv hr ha ?_⟩
    rw [nI_add a 1]
    have hx : fx (LY pl tl) (d + 11) m_X10_spread (qI (fun r M1 => exI (LY pl tl) (d + 12) 200 [.ref 52] M1 (fun r2 M2 => r2 = r ∧ Inv (t + 1) M2))) (9, [some (.ref 0), some (.int (spS (M.1 53) a + M.1 53 a * nI (nwN (M.1 53) a))), some (.int (spV (M.1 53) (-1) (spF (M.1 53) (a + 1)))), some (.int (oM1 (spF (M.1 53) (a + 1)))), some (.int (nI (a + 1))), none, none], [], M) := hx
    rw [w1] at hx
    refine ⟨fun c => ?_, fun c => ?_⟩
    · rw [z_le0 (by omega)] at c
      rw [spF_0 c] at hx
      exact hx
    · rw [z_le0 (by omega)] at c
      cases hf : spF (M.1 53) a with
      | none =>
        rw [spF_n c hf] at hx
        refine br_f ?_ hx
        show ¬ nI (nwN (M.1 53) a) ≤ -1
        rw [z_m1lt (by omega)]; exact id
      | some b =>
        have hb := spF_lt hf
        have hE2 := nwN_le hv (a := b) (by omega)
        rw [spF_s c hf] at hx
        refine ⟨fun z => ?_, fun z => ?_⟩
        · have z : nI (nwN (M.1 53) a) ≤ nI (nwN (M.1 53) b) := z
          rw [z_le (by omega) (by omega)] at z
          rw [if_neg (by omega)] at hx
          exact hx
        · have z : ¬ nI (nwN (M.1 53) a) ≤ nI (nwN (M.1 53) b) := z
          rw [z_le (by omega) (by omega)] at z
          rw [if_pos (by omega)] at hx
          exact hx
  · refine c_X10_spread_9 (br_t (nI_le (Nat.le_refl _) (by omega)) (s_tell2 (m_spread (t := t) hv ⟨rfl, hI.1, rows_ok (n := 2) (by omega) rfl rfl rfl rfl (fun j hj => ?_), hI.2.2⟩)))
    have e1 : (if spV (M.1 53) (-1) (spF (M.1 53) 12) < nI 0 then nI 0 else spV (M.1 53) (-1) (spF (M.1 53) 12)) = spV (M.1 53) (nI 0) (spF (M.1 53) 12) := by
      cases hf : spF (M.1 53) 12 with
      | none => rfl
      | some b =>
        have hE2 := nwN_le hv (a := b) (spF_lt hf)
        show (if nI (nwN (M.1 53) b) < nI 0 then nI 0 else nI (nwN (M.1 53) b)) = nI (nwN (M.1 53) b)
        rw [if_neg (by rw [z_lt (by omega) (by omega)]; omega)]
    show (if j = 0 then (if spV (M.1 53) (-1) (spF (M.1 53) 12) < nI 0 then nI 0 else spV (M.1 53) (-1) (spF (M.1 53) 12)).toInt64 else (oM1 (spF (M.1 53) 12)).toInt64) = (if j = 0 then (spV (M.1 53) (nI 0) (spF (M.1 53) 12)).toInt64 else (oM1 (spF (M.1 53) 12)).toInt64)
    rw [e1]
end S31
