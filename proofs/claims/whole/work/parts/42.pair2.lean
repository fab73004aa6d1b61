/-! pair, worstPair -/
theorem rwC_cg {M : Mem} {n : Nat} {g g' : Nat → Int64} (h : ∀ j, j < n → g j = g' j) : rwC M n g = rwC M n g' := by
  have e : pfxL n g (M.2 2) = pfxL n g' (M.2 2) := funext (fun j => by
    unfold pfxL
    by_cases q : j < n
    · rw [if_pos q, if_pos q, h j q]
    · rw [if_neg q, if_neg q])
  unfold rwC
  rw [e]
section S42
variable {pl : Option Nat} {tl : List LC} {d : Nat} {M : Mem} {t : Nat}
theorem oVp_some_ne {v u : Nat → Nat} {x y : Nat} (h1 : v x < 999) (h2 : u y < 999) : ¬ oVp v u (some (x, y)) = -2 := fun z => by
  have : ¬ nI (v x + u y) < 0 := nI_pos (by omega)
  rw [show nI (v x + u y) = -2 from z] at this
  exact this (by decide)
theorem m_pair {Q : Int32 → Mem → Prop} {a b : Nat} (hv : V (M.1 53) t) (ha : a < 12) (hb : b < 12) (hno : pW (M.1 53) a b = none → ∀ s, Q (-2) (pw (lyM (thr M) (rcN (M.1 53))) s)) (hy : ∀ x y, pW (M.1 53) a b = some (x, y) → ∀ s, Q (nI (ew (M.1 53) x a + ew (M.1 53) y b)) (rwM (pw (lyM (thr M) (rcN (M.1 53))) s) 3 (fun j => if j = 0 then (nI x).toInt64 else if j = 1 then (nI y).toInt64 else (nI (max (ew (M.1 53) x a) (ew (M.1 53) y b))).toInt64))) : exI (LY pl tl) (d + 6) 180 [.ref 52, .int (nI a), .int (nI b)] M Q := by
  refine e_X11_pair (s_mNode (fun _ _ _ => ⟨fun c => absurd c (by decide), fun _ => s_mNode (fun _ _ _ => ⟨fun _ => s_ly (M := thr M) (t := t) hv ?_, fun c => absurd c (by decide)⟩) (fun q => (out_nI hb (by omega) q).elim)⟩) (fun q => (out_nI ha (by omega) q).elim))
  generalize hA : lyM (thr M) (rcN ((thr M).1 53)) = A
  have hA' : lyM (thr M) (rcN (M.1 53)) = A := hA
  rw [hA'] at hno hy
  have a53 : A.1 53 = M.1 53 := by rw [← hA]; rfl
  have a58 : ∀ a b, a < 12 → b < 12 → A.1 58 (12 * a + b) = nI (dist (A.1 53) a b) := by rw [a53, ← hA]; exact ly58 (M := thr M)
  rw [← pw_id A]
  refine s_pairOf (t := t) (M := A) (by rw [a53]; exact hv) a58 ha hb _ (fun s hs => ?_)
  rw [a53] at hs ⊢
  cases ho : pW (M.1 53) a b with
  | none => exact ⟨fun c => absurd rfl c, fun _ => hno ho s⟩
  | some p =>
    obtain ⟨x, y⟩ := p
    rw [ho] at hs
    obtain ⟨⟨h1, h2, h3⟩, h4, h5, h6, h7⟩ := hs
    refine ⟨fun _ => ?_, fun c => absurd c (oVp_some_ne h6 h7)⟩
    rw [rwM_0 (pw A s) (fun j => if j = 0 then (nI x).toInt64 else if j = 1 then (nI y).toInt64 else (nI (max (ew (M.1 53) x a) (ew (M.1 53) y b))).toInt64)]
    refine s_mtell 1 rfl (by omega) (by show (s.1).toInt64 = _; rw [h1]; rfl) (s_mtell 2 rfl (by omega) (by show (s.2.1).toInt64 = _; rw [h2]; rfl) (s_mtell 3 rfl (by omega) (by show (s.2.2).toInt64 = _; rw [h3]; rfl) (hy x y ho s)))
theorem op_pair {x y : Int32} (h : Inv t M) (ht : t < 512) : Op pl tl (d + 12) 15 [.ref 0, .int x, .int y] 180 [.ref 52, .int x, .int y] t M := by
  have hI := h.up (t' := t + 1) (by omega) (by omega)
  obtain ⟨⟨hv, hr⟩, -⟩ := h
  have no : ∀ M1 : Mem, M1 = M → ((x < 0 ∨ nI 12 ≤ x) ∨ (y < 0 ∨ nI 12 ≤ y)) → exI (LY pl tl) (d + 12) 180 [.ref 52, .int x, .int y] M1 (fun r2 M2 => r2 = -1 ∧ Inv (t + 1) M2) := by
    intro M1 e hq
    subst e
    refine e_X11_pair (s_mNode (fun j hj e => ⟨fun c => absurd c (by decide), fun _ => s_mNode (fun j' hj' e' => ?_) (fun _ => ⟨fun c => absurd rfl c, fun _ => ⟨rfl, hI⟩⟩)⟩) (fun _ => ⟨fun _ => ⟨rfl, hI⟩, fun c => absurd rfl c⟩))
    subst e; subst e'
    rcases hq with q | q
    · exact (out_nI hj (by omega) q).elim
    · exact (out_nI hj' (by omega) q).elim
  refine e_X10_pair (s_cNode (fun a ha e => ⟨fun c => absurd c (by decide), fun _ => s_cNode (fun b hb e' => ⟨fun _ => ?_, fun c => absurd c (by decide)⟩) (fun q => ⟨fun c => absurd rfl c, fun _ => no M rfl (Or.inr q)⟩)⟩) (fun q => ⟨fun _ => no M rfl (Or.inl q), fun c => absurd rfl c⟩))
  subst e; subst e'
  rw [← sa_id M 46]
  refine s_find hv hr ha hb (fun F hF => ?_)
  cases ho : pW (M.1 53) a b with
  | none =>
    refine ⟨fun c => absurd rfl c, fun _ => ?_⟩
    exact m_pair (t := t) (M := sa M 46 F) hv ha hb (fun _ s => ⟨rfl, hI⟩) (fun x y z => absurd (ho.symm.trans z) (by simp))
  | some p =>
    obtain ⟨e, f⟩ := p
    rw [ho] at hF
    obtain ⟨⟨h1, h2, h3, h4⟩, h5, h6, h7, h8⟩ := hF
    refine ⟨fun _ => s_tell2 ?_, fun c => absurd c (show ¬ nI 1 = 0 by decide)⟩
    have e0 : (sa M 46 F).1 46 = F := sa_s _ _ _
    have e1 : (rwC (sa M 46 F) 2 (fun j => if j = 0 then ((sa M 46 F).1 46 0).toInt64 else ((sa M 46 F).1 46 1).toInt64)).1 46 = F := by show (sa M 46 F).1 46 = F; exact e0
    have e2 : rwC (sa M 46 F) 2 (fun j => if j = 0 then ((sa M 46 F).1 46 0).toInt64 else ((sa M 46 F).1 46 1).toInt64) = rwC (sa M 46 F) 2 (fun j => if j = 0 then (F 0).toInt64 else if j = 1 then (F 1).toInt64 else (F 2).toInt64) := by
      rw [e0]
      refine rwC_cg (fun j hj => ?_)
      by_cases q : j = 0
      · rw [if_pos q, if_pos q]
      · rw [if_neg q, if_neg q, if_pos (by omega)]
    rw [e1, e2]
    refine s_add (by omega) rfl ?_
    have e3 : (rwC (sa M 46 F) (2 + 1) (fun j => if j = 0 then (F 0).toInt64 else if j = 1 then (F 1).toInt64 else (F 2).toInt64)).1 46 3 = nI (ew (M.1 53) e a + ew (M.1 53) f b) := by
      show (sa M 46 F).1 46 3 = _
      rw [e0]; exact h4
    rw [e3]
    refine m_pair (t := t) (M := rwC (sa M 46 F) (2 + 1) (fun j => if j = 0 then (F 0).toInt64 else if j = 1 then (F 1).toInt64 else (F 2).toInt64)) hv ha hb (fun z => absurd (ho.symm.trans z) (by simp)) (fun x y z s => ?_)
    have z' : some (e, f) = some (x, y) := ho.symm.trans z
    obtain ⟨rfl, rfl⟩ : e = x ∧ f = y := by simpa using z'
    refine ⟨rfl, hI.1, rows_ok (n := 3) (by omega) rfl rfl rfl rfl (fun i hi => ?_), hI.2.2⟩
    rw [h1, h2, h3]; rfl
/-- the minutes of two calls -/
def pv (w : Nat → Int32) (a b : Nat) : Nat := match pW w a b with
  | none => 1998
  | some (e, f) => ew w e a + ew w f b
def wlt (x : Nat) : Option (Nat × Nat × Nat) → Bool
  | none => true
  | some p => decide (p.1 < x)
theorem wlt_s {x : Nat} {p : Nat × Nat × Nat} : wlt x (some p) = true ↔ p.1 < x := decide_eq_true_iff
def wSt (w : Nat → Int32) (a b : Nat) (o : Option (Nat × Nat × Nat)) : Option (Nat × Nat × Nat) := if (0 < wt w a ∧ 0 < wt w b) ∧ wlt (pv w a b) o = true then some (pv w a b, a, b) else o
def wIn (w : Nat → Int32) (a : Nat) (o : Option (Nat × Nat × Nat)) : Nat → Option (Nat × Nat × Nat)
  | 0 => o
  | i + 1 => wSt w a (a + i) (wIn w a o i)
def wOut (w : Nat → Int32) : Nat → Option (Nat × Nat × Nat)
  | 0 => none
  | a + 1 => wIn w a (wOut w a) (12 - a)
theorem pS_ok {v u : Nat → Nat} {e f : Nat} {o : Option (Nat × Nat)} (h : ∀ x y, o = some (x, y) → v x < 999 ∧ u y < 999) : ∀ x y, pS v u e f o = some (x, y) → v x < 999 ∧ u y < 999 := by
  intro x y q
  unfold pS at q
  split at q
  · next z =>
    obtain ⟨rfl, rfl⟩ : e = x ∧ f = y := by simpa using q
    exact ⟨z.1.2.1, z.1.2.2⟩
  · exact h x y q
theorem pI_ok {v u : Nat → Nat} {e : Nat} {o : Option (Nat × Nat)} (h : ∀ x y, o = some (x, y) → v x < 999 ∧ u y < 999) : ∀ n x y, pI v u e o n = some (x, y) → v x < 999 ∧ u y < 999
  | 0 => h
  | n + 1 => pS_ok (pI_ok h n)
theorem pO_ok {v u : Nat → Nat} {n : Nat} : ∀ k x y, pO v u n k = some (x, y) → v x < 999 ∧ u y < 999
  | 0 => fun x y q => by simp [pO] at q
  | k + 1 => pI_ok (pO_ok k) n
theorem pv_none {w : Nat → Int32} {a b : Nat} (h : pW w a b = none) : pv w a b = 1998 := by unfold pv; rw [h]
theorem pv_some {w : Nat → Int32} {a b x y : Nat} (h : pW w a b = some (x, y)) : pv w a b = ew w x a + ew w y b ∧ pv w a b < 1998 := by
  have e : pv w a b = ew w x a + ew w y b := by unfold pv; rw [h]
  obtain ⟨h1, h2⟩ := pO_ok _ x y h
  have h1 : ew w x a < 999 := h1
  have h2 : ew w y b < 999 := h2
  exact ⟨e, by omega⟩
theorem pv_le (w : Nat → Int32) (a b : Nat) : pv w a b ≤ 1998 := by
  cases h : pW w a b with
  | none => rw [pv_none h]; omega
  | some p => obtain ⟨x, y⟩ := p; have := (pv_some h).2; omega
/-- what has been found is in range -/
def wOk (o : Option (Nat × Nat × Nat)) : Prop := ∀ p, o = some p → p.1 ≤ 1998
theorem wSt_ok {w : Nat → Int32} {a b : Nat} {o : Option (Nat × Nat × Nat)} (h : wOk o) : wOk (wSt w a b o) := by
  intro p q
  unfold wSt at q
  split at q
  · have := Option.some.inj q
    rw [← this]; exact pv_le w a b
  · exact h p q
theorem wIn_ok {w : Nat → Int32} {a : Nat} {o : Option (Nat × Nat × Nat)} (h : wOk o) : ∀ n, wOk (wIn w a o n)
  | 0 => h
  | n + 1 => wSt_ok (wIn_ok h n)
theorem wOut_ok (w : Nat → Int32) : ∀ n, wOk (wOut w n)
  | 0 => fun p q => by simp [wOut] at q
  | n + 1 => wIn_ok (wOut_ok w n) _
def cV1 : Option (Nat × Nat × Nat) → Int32
  | none => -1
  | some p => nI p.1
def cV2 (x : Int32) : Option (Nat × Nat × Nat) → Int32
  | none => x
  | some p => nI p.2.1
def cV3 (x : Int32) : Option (Nat × Nat × Nat) → Int32
  | none => x
  | some p => nI p.2.2
def mV1 : Option (Nat × Nat × Nat) → Int32
  | none => -3
  | some p => if p.1 = 1998 then -2 else nI p.1
theorem m_worstPair {Q : Int32 → Mem → Prop} (hv : V (M.1 53) t) (hno : wOut (M.1 53) 12 = none → ∀ s, Q (-3) (pw (lyM (thr M) (rcN (M.1 53))) s)) (hy : ∀ p, wOut (M.1 53) 12 = some p → ∀ s, Q (mV1 (some p)) (rwM (pw (lyM (thr M) (rcN (M.1 53))) s) 2 (fun j => if j = 0 then (nI p.2.1).toInt64 else (nI p.2.2).toInt64))) : exI (LY pl tl) (d + 6) 181 [.ref 52] M Q := by
  refine e_X11_worstPair (s_ly (M := thr M) (t := t) hv ?_)
  generalize hA : lyM (thr M) (rcN ((thr M).1 53)) = A
  have hA' : lyM (thr M) (rcN (M.1 53)) = A := hA
  rw [hA'] at hno hy
  have a53 : A.1 53 = M.1 53 := by rw [← hA]; rfl
  have a58 : ∀ a b, a < 12 → b < 12 → A.1 58 (12 * a + b) = nI (dist (A.1 53) a b) := by rw [a53, ← hA]; exact ly58 (M := thr M)
  rw [← pw_id A]
  generalize hw : M.1 53 = w at hv hno hy a53
  have hwt : ∀ (s : Int32 × Int32 × Int32) (a : Nat), a < 12 → (pw A s).1 53 a = nI (wt w a) ∧ wt w a ≤ 99 := fun s a ha => by
    have e : (pw A s).1 53 a = w a := by rw [← a53]; rfl
    rw [e]; exact hv.1.2.2.1 a ha
  refine lp_s (σ := Int32 × Int32 × Int32) (X := fx (LY pl tl) (d + 5) m_X11_worstPair (qI Q)) (fun a s => (19, [some (.ref 52), some (.int (mV1 (wOut w a))), some (.int (cV2 (nI 0) (wOut w a))), some (.int (cV3 (nI 0) (wOut w a))), some (.int (nI a)), none, none], [], pw A s)) 12 (fun a s ha hx => ?_) (fun s => ?_) _
  · refine c_X11_worstPair_19 (br_f (nI_ge ha (by omega)) ?_)
    refine lp_s (σ := Int32 × Int32 × Int32) (X := fx (LY pl tl) (d + 5) m_X11_worstPair (qI Q)) (fun i s => (30, [some (.ref 52), some (.int (mV1 (wIn w a (wOut w a) i))), some (.int (cV2 (nI 0) (wIn w a (wOut w a) i))), some (.int (cV3 (nI 0) (wIn w a (wOut w a) i))), some (.int (nI a)), some (.int (nI (a + i))), none], [], pw A s)) (12 - a) (fun i s hi hx2 => ?_) (fun s => ?_) s
    · have ok := wIn_ok (w := w) (a := a) (wOut_ok w a) i
      generalize hO : wIn w a (wOut w a) i = o at ok
      have hstep : ∀ s, fx (LY pl tl) (d + 5) m_X11_worstPair (qI Q) (30, [some (.ref 52), some (.int (mV1 (wSt w a (a + i) o))), some (.int (cV2 (nI 0) (wSt w a (a + i) o))), some (.int (cV3 (nI 0) (wSt w a (a + i) o))), some (.int (nI a)), some (.int (nI (a + i + 1))), none], [], pw A s) := fun s => by
        rw [← hO]; exact hx2 s
      clear hx2 hx
      have stay : ¬ ((0 < wt w a ∧ 0 < wt w (a + i)) ∧ wlt (pv w a (a + i)) o) → ∀ s, fx (LY pl tl) (d + 5) m_X11_worstPair (qI Q) (30, [some (.ref 52), some (.int (mV1 o)), some (.int (cV2 (nI 0) o)), some (.int (cV3 (nI 0) o)), some (.int (nI a)), some (.int (nI (a + i + 1))), none], [], pw A s) := fun z s => by
        have := hstep s
        unfold wSt at this
        rw [if_neg z] at this
        exact this
      have take : (0 < wt w a ∧ 0 < wt w (a + i)) → wlt (pv w a (a + i)) o → ∀ s, fx (LY pl tl) (d + 5) m_X11_worstPair (qI Q) (30, [some (.ref 52), some (.int (mV1 (some (pv w a (a + i), a, a + i)))), some (.int (nI a)), some (.int (nI (a + i))), some (.int (nI a)), some (.int (nI (a + i + 1))), none], [], pw A s) := fun z z2 s => by
        have := hstep s
        unfold wSt at this
        rw [if_pos ⟨z, z2⟩] at this
        exact this
      clear hstep
      obtain ⟨g1, g2⟩ := hwt s a ha
      obtain ⟨g3, g4⟩ := hwt s (a + i) (by omega)
      refine c_X11_worstPair_30 ?_
      rw [z_0add, z_0add, z_cl (show a < 2147483648 by omega), z_cl (show a + i < 2147483648 by omega), g1, g3, z_eq0 (by omega), z_eq0 (by omega), nI_add (a + i) 1]
      refine br_f (nI_ge (by omega) (by omega)) ⟨(z_in (by omega) (by omega)).mpr (by omega), fun c => stay (fun q => by omega) s, fun c => ⟨(z_in (by omega) (by omega)).mpr (by omega), fun c2 => stay (fun q => by omega) s, fun c2 => ?_⟩⟩
      have w0 : 0 < wt w a ∧ 0 < wt w (a + i) := by omega
      have le := pv_le w a (a + i)
      have fnd : ∀ {Q : Int32 → Mem → Prop}, (∀ s, Q (mV1 (some (pv w a (a + i), a, a + i))) (pw A s)) → exI (LY pl tl) (d + 5) 179 [.ref 52, .int (nI a), .int (nI (a + i))] (pw A s) Q := fun {Q} hq => by
        refine s_pairOf (t := t) (M := A) (by rw [a53]; exact hv) a58 ha (by omega) s (fun s' _ => ?_)
        rw [a53]
        have := hq s'
        cases ho : pW w a (a + i) with
        | none =>
          rw [pv_none ho] at this
          exact this
        | some p =>
          obtain ⟨x, y⟩ := p
          have z := pv_some ho
          have e1 : mV1 (some (pv w a (a + i), a, a + i)) = nI (pv w a (a + i)) := if_neg (by omega)
          rw [e1, z.1] at this
          exact this
      cases o with
      | none =>
        refine ⟨fun _ => fnd (fun s' => br_t (by decide) (take w0 rfl s')), fun c => absurd c (by decide)⟩
      | some p =>
        have okp : p.1 ≤ 1998 := ok p rfl
        by_cases h8 : p.1 = 1998
        · have e1 : mV1 (some p) = -2 := if_pos h8
          rw [e1] at stay ⊢
          refine ⟨fun c => absurd rfl c, fun _ => stay (fun q => by have := wlt_s.mp q.2; omega) s⟩
        · have e1 : mV1 (some p) = nI p.1 := if_neg h8
          rw [e1] at stay ⊢
          refine ⟨fun _ => fnd (fun s' => br_f (nI_pos (by omega)) ?_), fun c => ?_⟩
          · by_cases h9 : pv w a (a + i) = 1998
            · have e2 : mV1 (some (pv w a (a + i), a, a + i)) = -2 := if_pos h9
              rw [e2] at take ⊢
              exact br_t rfl (take w0 (wlt_s.mpr (by omega)) s')
            · have e2 : mV1 (some (pv w a (a + i), a, a + i)) = nI (pv w a (a + i)) := if_neg h9
              rw [e2] at take ⊢
              refine br_f (fun z => ?_) ?_
              · have : ¬ nI (pv w a (a + i)) < 0 := nI_pos (by omega)
                rw [z] at this
                exact this (by decide)
              · rw [z_lt (by omega) (by omega)]
                exact ⟨fun c4 => take w0 (wlt_s.mpr c4) s', fun c4 => stay (fun q => c4 (wlt_s.mp q.2)) s'⟩
          · have : ¬ nI p.1 < 0 := nI_pos (by omega)
            rw [c] at this
            exact absurd (by decide) this
    · refine c_X11_worstPair_30 (br_t (nI_le (by omega) (by omega)) ?_)
      rw [nI_add a 1]
      exact hx s
  · refine c_X11_worstPair_19 (br_t (nI_le (Nat.le_refl _) (by omega)) ?_)
    cases ho : wOut w 12 with
    | none => exact ⟨fun c => absurd rfl c, fun _ => hno ho s⟩
    | some p =>
      have okp : p.1 ≤ 1998 := wOut_ok w 12 p ho
      refine ⟨fun _ => ?_, fun c => ?_⟩
      · rw [rwM_0 (pw A s) (fun j => if j = 0 then (nI p.2.1).toInt64 else (nI p.2.2).toInt64)]
        exact s_mtell 1 rfl (by omega) rfl (s_mtell 2 rfl (by omega) rfl (hy p ho s))
      · exfalso
        have c : (if p.1 = 1998 then (-2 : Int32) else nI p.1) = -3 := c
        by_cases h8 : p.1 = 1998
        · rw [if_pos h8] at c
          exact absurd c (by decide)
        · rw [if_neg h8] at c
          have : ¬ nI p.1 < 0 := nI_pos (by omega)
          rw [c] at this
          exact this (by decide)
theorem op_worstPair (h : Inv t M) (ht : t < 512) : Op pl tl (d + 12) 16 [.ref 0] 181 [.ref 52] t M := by
  have hI := h.up (t' := t + 1) (by omega) (by omega)
  obtain ⟨⟨hv, hr⟩, -⟩ := h
  generalize hw : M.1 53 = w at hv hr
  have hwt : ∀ (F : Nat → Int32) (a : Nat), a < 12 → (sa M 46 F).1 17 a = nI (wt w a) ∧ wt w a ≤ 99 := fun F a ha => by
    have e : (sa M 46 F).1 17 a = w a := hr.1.1 a ha
    rw [e]; exact hv.1.2.2.1 a ha
  refine e_X10_worstPair ?_
  rw [← sa_id M 46]
  refine lp_s (σ := Nat → Int32) (X := fx (LY pl tl) (d + 11) m_X10_worstPair (qI (fun r M1 => exI (LY pl tl) (d + 12) 181 [.ref 52] M1 (fun r2 M2 => r2 = r ∧ Inv (t + 1) M2)))) (fun a F => (9, [some (.ref 0), some (.int (cV1 (wOut w a))), some (.int (cV2 (-1) (wOut w a))), some (.int (cV3 (-1) (wOut w a))), some (.int (nI a)), none, none], [], sa M 46 F)) 12 (fun a F ha hx => ?_) (fun F => ?_) _
  · refine c_X10_worstPair_9 (br_f (nI_ge ha (by omega)) ?_)
    refine lp_s (σ := Nat → Int32) (X := fx (LY pl tl) (d + 11) m_X10_worstPair (qI (fun r M1 => exI (LY pl tl) (d + 12) 181 [.ref 52] M1 (fun r2 M2 => r2 = r ∧ Inv (t + 1) M2)))) (fun i F => (20, [some (.ref 0), some (.int (cV1 (wIn w a (wOut w a) i))), some (.int (cV2 (-1) (wIn w a (wOut w a) i))), some (.int (cV3 (-1) (wIn w a (wOut w a) i))), some (.int (nI a)), some (.int (nI (a + i))), none], [], sa M 46 F)) (12 - a) (fun i F hi hx2 => ?_) (fun F => ?_) F
    · have ok := wIn_ok (w := w) (a := a) (wOut_ok w a) i
      generalize hO : wIn w a (wOut w a) i = o at ok
      generalize hX : fx (LY pl tl) (d + 11) m_X10_worstPair (qI (fun r M1 => exI (LY pl tl) (d + 12) 181 [.ref 52] M1 (fun r2 M2 => r2 = r ∧ Inv (t + 1) M2))) = X at hx hx2 ⊢
      have hstep : ∀ F, X (20, [some (.ref 0), some (.int (cV1 (wSt w a (a + i) o))), some (.int (cV2 (-1) (wSt w a (a + i) o))), some (.int (cV3 (-1) (wSt w a (a + i) o))), some (.int (nI a)), some (.int (nI (a + i + 1))), none], [], sa M 46 F) := fun F => by
        rw [← hO]; exact hx2 F
      clear hx2 hx
      have stay : ¬ ((0 < wt w a ∧ 0 < wt w (a + i)) ∧ wlt (pv w a (a + i)) o) → ∀ F, X (20, [some (.ref 0), some (.int (cV1 o)), some (.int (cV2 (-1) o)), some (.int (cV3 (-1) o)), some (.int (nI a)), some (.int (nI (a + i + 1))), none], [], sa M 46 F) := fun z F => by
        have := hstep F
        unfold wSt at this
        rw [if_neg z] at this
        exact this
      have take : (0 < wt w a ∧ 0 < wt w (a + i)) → wlt (pv w a (a + i)) o → ∀ F, X (20, [some (.ref 0), some (.int (nI (pv w a (a + i)))), some (.int (nI a)), some (.int (nI (a + i))), some (.int (nI a)), some (.int (nI (a + i + 1))), none], [], sa M 46 F) := fun z z2 F => by
        have := hstep F
        unfold wSt at this
        rw [if_pos ⟨z, z2⟩] at this
        exact this
      clear hstep
      subst hX
      obtain ⟨g1, g2⟩ := hwt F a ha
      obtain ⟨g3, g4⟩ := hwt F (a + i) (by omega)
      refine c_X10_worstPair_20 ?_
      rw [z_cl (show a < 2147483648 by omega), z_cl (show a + i < 2147483648 by omega), g1, g3, z_le0 (by omega), z_le0 (by omega), nI_add (a + i) 1]
      refine br_f (nI_ge (by omega) (by omega)) ⟨(z_in (by omega) (by omega)).mpr (by omega), fun c => stay (fun q => by omega) F, fun c => ⟨(z_in (by omega) (by omega)).mpr (by omega), fun c2 => stay (fun q => by omega) F, fun c2 => ?_⟩⟩
      have w0 : 0 < wt w a ∧ 0 < wt w (a + i) := by omega
      refine s_find hv hr ha (by omega) (fun F' hF' => ?_)
      have e46 : (sa M 46 F').1 46 = F' := sa_s _ _ _
      rw [e46]
      have cmp : ∀ k : Nat, k ≤ 1998 → (nI k ≤ cV1 o ↔ ¬ wlt k o = true) := fun k hk => by
        cases o with
        | none => exact ⟨fun z => ((z_m1lt (by omega)).mp z).elim, fun z => absurd rfl z⟩
        | some p =>
          have := ok p rfl
          rw [wlt_s]
          show nI k ≤ nI p.1 ↔ ¬ p.1 < k
          rw [z_le (by omega) (by omega)]; omega
      cases ho : pW w a (a + i) with
      | none =>
        rw [pv_none ho] at take stay
        refine ⟨fun _ => ⟨fun c4 => stay (fun q => ((cmp 1998 (by omega)).mp c4) q.2) F', fun c4 => take w0 (Classical.byContradiction (fun q => c4 ((cmp 1998 (by omega)).mpr q))) F'⟩, fun c => absurd rfl c⟩
      | some p =>
        obtain ⟨x, y⟩ := p
        obtain ⟨z1, z2⟩ := pv_some ho
        rw [ho] at hF'
        have h4 : F' 3 = nI (pv w a (a + i)) := by rw [z1]; exact hF'.1.2.2.2
        rw [h4]
        refine ⟨fun c => absurd c (show ¬ nI 1 = 0 by decide), fun _ => ⟨fun c4 => stay (fun q => ((cmp _ (by omega)).mp c4) q.2) F', fun c4 => take w0 (Classical.byContradiction (fun q => c4 ((cmp _ (by omega)).mpr q))) F'⟩⟩
    · refine c_X10_worstPair_20 (br_t (nI_le (by omega) (by omega)) ?_)
      rw [nI_add a 1]
      exact hx F
  · refine c_X10_worstPair_9 (br_t (nI_le (Nat.le_refl _) (by omega)) ?_)
    cases ho : wOut w 12 with
    | none => exact ⟨fun c => absurd rfl c, fun _ => m_worstPair (t := t) (M := sa M 46 F) (by show V (M.1 53) t; rw [hw]; exact hv) (fun _ s => ⟨rfl, hI⟩) (fun p z => absurd (ho.symm.trans (show wOut w 12 = some p by rw [← hw]; exact z)) (by simp))⟩
    | some p =>
      have okp : p.1 ≤ 1998 := wOut_ok w 12 p ho
      have fin : exI (LY pl tl) (d + 12) 181 [.ref 52] (rwC (sa M 46 F) 2 (fun j => if j = 0 then (nI p.2.1).toInt64 else (nI p.2.2).toInt64)) (fun r2 M2 => r2 = mV1 (some p) ∧ Inv (t + 1) M2) := by
        refine m_worstPair (t := t) (M := rwC (sa M 46 F) 2 (fun j => if j = 0 then (nI p.2.1).toInt64 else (nI p.2.2).toInt64)) (by show V (M.1 53) t; rw [hw]; exact hv) (fun z => absurd (ho.symm.trans (show wOut w 12 = none by rw [← hw]; exact z)) (by simp)) (fun p' z s => ?_)
        have e : p = p' := Option.some.inj (ho.symm.trans (show wOut w 12 = some p' by rw [← hw]; exact z))
        subst e
        exact ⟨rfl, hI.1, rows_ok (n := 2) (by omega) rfl rfl rfl rfl (fun i hi => rfl), hI.2.2⟩
      refine ⟨fun _ => s_tell2 ?_, fun c => ((z_m1 (show p.1 < 2147483648 by omega)).mp c).elim⟩
      show (¬ nI p.1 = nI 1998 → _) ∧ _
      rw [z_eq (by omega) (by omega)]
      refine ⟨fun c => ?_, fun c => ?_⟩
      · have e1 : mV1 (some p) = nI p.1 := if_neg c
        rw [e1] at fin
        exact fin
      · have e1 : mV1 (some p) = -2 := if_pos ((z_eq (show p.1 < 2147483648 by omega) (by omega)).mp c)
        rw [e1] at fin
        exact fin
end S42
