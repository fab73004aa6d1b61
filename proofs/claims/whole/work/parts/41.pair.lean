/-! TWO CALLS AT ONCE: pair -/
theorem lp_p {σ : Type} {X : pFr → Prop} (L : Nat → σ → pFr) (P : Nat → σ → Prop) (n : Nat) (hs : ∀ i s, i < n → P i s → (∀ s', P (i + 1) s' → X (L (i + 1) s')) → X (L i s)) (he : ∀ s, P n s → X (L n s)) : ∀ s, P 0 s → X (L 0 s) := by
  have key : ∀ k i, i + k = n → ∀ s, P i s → X (L i s) := by
    intro k
    induction k with
    | zero => intro i hi s hp; have : i = n := by omega
              subst this; exact he s hp
    | succ k ih => intro i hi s hp; exact hs i s (by omega) hp (fun s' hp' => ih (i + 1) (by omega) s' hp')
  exact key n 0 (by omega)
/-- is it better than the two so far -/
def ltP (v u : Nat → Nat) (e f : Nat) : Option (Nat × Nat) → Bool
  | none => true
  | some (a, b) => decide (v e + u f < v a + u b ∨ (v e + u f = v a + u b ∧ max (v e) (u f) < max (v a) (u b)))
theorem ltP_s {v u : Nat → Nat} {e f a b : Nat} : ltP v u e f (some (a, b)) = true ↔ (v e + u f < v a + u b ∨ (v e + u f = v a + u b ∧ max (v e) (u f) < max (v a) (u b))) := by unfold ltP; exact decide_eq_true_iff
def pS (v u : Nat → Nat) (e f : Nat) (o : Option (Nat × Nat)) : Option (Nat × Nat) := if (e ≠ f ∧ v e < 999 ∧ u f < 999) ∧ ltP v u e f o = true then some (e, f) else o
def pI (v u : Nat → Nat) (e : Nat) (o : Option (Nat × Nat)) : Nat → Option (Nat × Nat)
  | 0 => o
  | f + 1 => pS v u e f (pI v u e o f)
def pO (v u : Nat → Nat) (n : Nat) : Nat → Option (Nat × Nat)
  | 0 => none
  | e + 1 => pI v u e (pO v u n e) n
theorem pI_no {v u : Nat → Nat} {e : Nat} (h : ¬ v e < 999) (o : Option (Nat × Nat)) : ∀ n, pI v u e o n = o
  | 0 => rfl
  | n + 1 => by
    show pS v u e n (pI v u e o n) = o
    unfold pS
    rw [if_neg (fun q => h q.1.2.1), pI_no h o n]
/-- what the class keeps of the two -/
def C46 (v u : Nat → Nat) (F : Nat → Int32) : Option (Nat × Nat) → Prop
  | none => F 0 = -1
  | some (a, b) => (F 0 = nI a ∧ F 1 = nI b ∧ F 2 = nI (max (v a) (u b)) ∧ F 3 = nI (v a + u b)) ∧ a < 6 ∧ b < 6 ∧ v a < 999 ∧ u b < 999
/-- what the reference keeps of them -/
def oVp (v u : Nat → Nat) : Option (Nat × Nat) → Int32
  | none => -2
  | some (a, b) => nI (v a + u b)
def C52 (v u : Nat → Nat) (s : Int32 × Int32 × Int32) : Option (Nat × Nat) → Prop
  | none => True
  | some (a, b) => (s.1 = nI a ∧ s.2.1 = nI b ∧ s.2.2 = nI (max (v a) (u b))) ∧ a < 6 ∧ b < 6 ∧ v a < 999 ∧ u b < 999
def pw (M : Mem) (s : Int32 × Int32 × Int32) : Mem := si (si (si M 52 20 s.2.2) 52 18 s.1) 52 19 s.2.1
theorem pw_pw (M : Mem) (s s' : Int32 × Int32 × Int32) : pw (pw M s) s' = pw M s' := by
  unfold pw
  simp only [si_sa, sa_s, sa_sa]
  refine sa_cg (fun j => ?_)
  unfold upd
  by_cases h1 : j = 19
  · simp [h1]
  · by_cases h2 : j = 18
    · simp [h1, h2]
    · by_cases h3 : j = 20
      · simp [h1, h2, h3]
      · simp [h1, h2, h3]
theorem pw_id (M : Mem) : pw M (M.1 52 18, M.1 52 19, M.1 52 20) = M := by
  unfold pw
  simp only [si_sa, sa_s, sa_sa]
  refine sa_eq (fun j => ?_)
  unfold upd
  by_cases h1 : j = 19
  · simp [h1]
  · by_cases h2 : j = 18
    · simp [h1, h2]
    · by_cases h3 : j = 20
      · simp [h1, h2, h3]
      · simp [h1, h2, h3]
section S41
variable {pl : Option Nat} {tl : List LC} {d : Nat} {M : Mem} {t : Nat}
theorem s_isLess {Q : Int32 → Mem → Prop} {v u : Nat → Nat} {e f a b : Nat} (hv : v e < 999) (hu : u f < 999) (hc : C46 v u (M.1 46) (some (a, b))) (hy : ltP v u e f (some (a, b)) → Q (nI 1) M) (hno : ¬ ltP v u e f (some (a, b)) → Q (nI 0) M) : exI (LY pl tl) (d + 1) 65 [.ref 46, .int (nI (v e)), .int (nI (u f))] M Q := by
  obtain ⟨⟨-, -, h2, h3⟩, -, -, h4, h5⟩ := hc
  refine e_X1_isLess ?_
  rw [nI_max _ _ (by omega) (by omega), nI_add, h2, h3, z_eq (by omega) (by omega), z_le (by omega) (by omega), z_le (by omega) (by omega)]
  rw [ltP_s] at hy hno
  exact ⟨fun c => ⟨fun c2 => hno (by omega), fun c2 => hy (by omega)⟩, fun c => ⟨fun c2 => hno (by omega), fun c2 => hy (by omega)⟩⟩
theorem C46_set {v u : Nat → Nat} {e f : Nat} (he : e < 6) (hf : f < 6) (hv : v e < 999) (hu : u f < 999) (F : Nat → Int32) : C46 v u (upd (upd (upd (upd F 0 (nI e)) 1 (nI f)) 2 (nI (max (v e) (u f)))) 3 (nI (v e + u f))) (some (e, f)) := by
  refine ⟨⟨?_, ?_, ?_, ?_⟩, he, hf, hv, hu⟩
  · rw [upd_ne (by omega), upd_ne (by omega), upd_ne (by omega), upd_eq]
  · rw [upd_ne (by omega), upd_ne (by omega), upd_eq]
  · rw [upd_ne (by omega), upd_eq]
  · rw [upd_eq]
theorem s_tryBeside {Q : Mem → Prop} {w : Nat → Int32} {e a b : Nat} {F : Nat → Int32} {o : Option (Nat × Nat)} (hv : V w t) (hr : RC 15 M w) (he : e < eN w) (ha : ew w e a < 999) (hb : b < 12) (hF : C46 (fun e => ew w e a) (fun e => ew w e b) F o) (h : ∀ F', C46 (fun e => ew w e a) (fun e => ew w e b) F' (pI (fun e => ew w e a) (fun e => ew w e b) e o (eN w)) → Q (sa M 46 F')) : exV (LY pl tl) (d + 4) 64 [.ref 46, .ref 15, .int (nI e), .int (nI (ew w e a)), .int (nI b)] (sa M 46 F) Q := by
  have n6 := hv.2.1.1.2
  have hM : M.1 24 4 = nI (eN w) := hr.2.1.1.trans hv.2.1.1.1
  refine e_X1_tryBeside_15 (lp_p (σ := Nat → Int32) (X := fx (LY pl tl) (d + 3) m_X1_tryBeside (qV Q)) (fun f F => (3, [some (.ref 46), some (.ref 15), some (.int (nI e)), some (.int (nI (ew w e a))), some (.int (nI b)), some (.int (nI f)), none], [], sa M 46 F)) (fun f F => C46 (fun e => ew w e a) (fun e => ew w e b) F (pI (fun e => ew w e a) (fun e => ew w e b) e o f)) (eN w) (fun f F hf hc hx => ?_) (fun F hc => ?_) F hF)
  · refine c_X1_tryBeside_15_3 ?_
    have q1 : (sa M 46 F).1 24 4 = nI (eN w) := hM
    have hw := ew_le hv hf hb
    rw [q1, nI_add f 1, z_eq (by omega) (by omega)]
    have stay : ¬ (e ≠ f ∧ ew w e a < 999 ∧ ew w f b < 999) → pI (fun e => ew w e a) (fun e => ew w e b) e o (f + 1) = pI (fun e => ew w e a) (fun e => ew w e b) e o f := fun z => if_neg (fun q => z q.1)
    refine br_f (nI_ge hf (by omega)) ⟨fun c => s_readyWay (M := sa M 46 F) hv hr hf hb ?_, fun c => br_t (nI_le (Nat.le_refl _) (by omega)) (hx F (by rw [stay (fun q => q.1 c)]; exact hc))⟩
    rw [z_le (by omega) (by omega)]
    refine ⟨fun c2 => hx F (by rw [stay (fun q => by omega)]; exact hc), fun c2 => ?_⟩
    have hset : si (si (si (si (sa M 46 F) 46 0 (nI e)) 46 1 (nI f)) 46 2 (if nI (ew w e a) < nI (ew w f b) then nI (ew w f b) else nI (ew w e a))) 46 3 (nI (ew w e a) + nI (ew w f b)) = sa M 46 (upd (upd (upd (upd F 0 (nI e)) 1 (nI f)) 2 (nI (max (ew w e a) (ew w f b)))) 3 (nI (ew w e a + ew w f b))) := by
      rw [nI_max _ _ (by omega) (by omega), nI_add]
      simp only [si_sa, sa_s, sa_sa]
    have hset' := C46_set (v := fun e => ew w e a) (u := fun e => ew w e b) (e := e) (f := f) (by omega) (by omega) ha (by show ew w f b < 999; omega) F
    have q46 : (sa M 46 F).1 46 = F := sa_s _ _ _
    rw [q46]
    cases ho : pI (fun e => ew w e a) (fun e => ew w e b) e o f with
    | none =>
      rw [ho] at hc
      have hc' : F 0 = -1 := hc
      refine br_t hc' ?_
      rw [hset]
      refine hx _ ?_
      have : pI (fun e => ew w e a) (fun e => ew w e b) e o (f + 1) = some (e, f) := by
        show pS _ _ e f (pI _ _ e o f) = _
        rw [ho]
        exact if_pos ⟨⟨c, ha, by show ew w f b < 999; omega⟩, rfl⟩
      rw [this]
      exact hset'
    | some p =>
      obtain ⟨x, y⟩ := p
      rw [ho] at hc
      refine br_f (fun z => ?_) (s_isLess (v := fun e => ew w e a) (u := fun e => ew w e b) (a := x) (b := y) ha (by show ew w f b < 999; omega) (by rw [q46]; exact hc) (fun c3 => ⟨fun q => absurd q (by decide), fun _ => ?_⟩) (fun c3 => ⟨fun _ => ?_, fun q => absurd rfl q⟩))
      · rw [hc.1.1] at z
        exact (z_m1 (by have := hc.2.1; omega)).mp z
      · rw [hset]
        refine hx _ ?_
        have : pI (fun e => ew w e a) (fun e => ew w e b) e o (f + 1) = some (e, f) := by
          show pS _ _ e f (pI _ _ e o f) = _
          rw [ho]
          exact if_pos ⟨⟨c, ha, by show ew w f b < 999; omega⟩, c3⟩
        rw [this]
        exact hset'
      · refine hx F ?_
        have : pI (fun e => ew w e a) (fun e => ew w e b) e o (f + 1) = some (x, y) := by
          show pS _ _ e f (pI _ _ e o f) = _
          rw [ho]
          exact if_neg (fun q => c3 q.2)
        rw [this]
        exact hc
  · refine c_X1_tryBeside_15_3 ?_
    have q1 : (sa M 46 F).1 24 4 = nI (eN w) := hM
    rw [q1]
    exact br_t (nI_le (Nat.le_refl _) (by omega)) (h F hc)
/-- the two that go -/
abbrev pW (w : Nat → Int32) (a b : Nat) : Option (Nat × Nat) := pO (fun e => ew w e a) (fun e => ew w e b) (eN w) (eN w)
theorem s_find {Q : Int32 → Mem → Prop} {w : Nat → Int32} {a b : Nat} {F : Nat → Int32} (hv : V w t) (hr : RC 15 M w) (ha : a < 12) (hb : b < 12) (h : ∀ F', C46 (fun e => ew w e a) (fun e => ew w e b) F' (pW w a b) → Q (if (pW w a b).isSome then nI 1 else nI 0) (sa M 46 F')) : exI (LY pl tl) (d + 5) 63 [.ref 46, .ref 15, .int (nI a), .int (nI b)] (sa M 46 F) Q := by
  have n6 := hv.2.1.1.2
  have hM : M.1 24 4 = nI (eN w) := hr.2.1.1.trans hv.2.1.1.1
  refine e_X1_find_15 ?_
  rw [sa_upd]
  refine lp_p (σ := Nat → Int32) (X := fx (LY pl tl) (d + 4) m_X1_find (qI Q)) (fun e F => (8, [some (.ref 46), some (.ref 15), some (.int (nI a)), some (.int (nI b)), some (.int (nI e)), none], [], sa M 46 F)) (fun e F => C46 (fun e => ew w e a) (fun e => ew w e b) F (pO (fun e => ew w e a) (fun e => ew w e b) (eN w) e)) (eN w) (fun e F he hc hx => ?_) (fun F hc => ?_) _ (upd_eq _ _ _)
  · refine c_X1_find_15_8 ?_
    have q1 : (sa M 46 F).1 24 4 = nI (eN w) := hM
    have hw := ew_le hv he ha
    rw [q1, nI_add e 1]
    refine br_f (nI_ge he (by omega)) (s_readyWay (M := sa M 46 F) hv hr he ha ?_)
    rw [z_le (by omega) (by omega)]
    refine ⟨fun c => hx F ?_, fun c => s_tryBeside hv hr he (by omega) hb hc (fun F' hF' => hx F' hF')⟩
    have : pO (fun e => ew w e a) (fun e => ew w e b) (eN w) (e + 1) = pO (fun e => ew w e a) (fun e => ew w e b) (eN w) e := pI_no (by show ¬ ew w e a < 999; omega) _ _
    rw [this]
    exact hc
  · refine c_X1_find_15_8 ?_
    have q1 : (sa M 46 F).1 24 4 = nI (eN w) := hM
    have q46 : (sa M 46 F).1 46 = F := sa_s _ _ _
    have h := h F hc
    rw [q1, q46]
    refine br_t (nI_le (Nat.le_refl _) (by omega)) ?_
    cases ho : pO (fun e => ew w e a) (fun e => ew w e b) (eN w) (eN w) with
    | none =>
      rw [ho] at hc
      rw [show pW w a b = none from ho] at h
      exact br_t hc h
    | some p =>
      obtain ⟨x, y⟩ := p
      rw [ho] at hc
      rw [show pW w a b = some (x, y) from ho] at h
      refine br_f (fun z => ?_) h
      rw [hc.1.1] at z
      exact (z_m1 (by have := hc.2.1; omega)).mp z
theorem s_canGo {Q : Int32 → Mem → Prop} {e a : Nat} (hv : V (M.1 53) t) (h58 : ∀ a b, a < 12 → b < 12 → M.1 58 (12 * a + b) = nI (dist (M.1 53) a b)) (he : e < eN (M.1 53)) (ha : a < 12) (hy : ew (M.1 53) e a < 999 → ew (M.1 53) e a = dist (M.1 53) (sp (M.1 53) (po (M.1 53) e)) a → Q (nI 1) M) (hno : ¬ ew (M.1 53) e a < 999 → Q (nI 0) M) : exI (LY pl tl) (d + 3) 178 [.ref 52, .int (nI e), .int (nI a)] M Q := by
  have n6 := hv.2.1.1.2
  have hw := ew_le hv he ha
  refine e_X11_canGo (s_isReady (by omega) ?_)
  by_cases c : M.1 53 (320 + e) = nI 0
  · rw [if_pos c]
    have er : rdy (M.1 53) e = true := decide_eq_true c
    have ee : ew (M.1 53) e a = dist (M.1 53) (sp (M.1 53) (po (M.1 53) e)) a := if_pos er
    refine ⟨fun q => absurd q (by decide), fun _ => s_wayM hv h58 he ha ?_⟩
    rw [← ee, z_le (by omega) (by omega)]
    exact ⟨fun q => hno (by omega), fun q => hy (by omega) ee⟩
  · rw [if_neg c]
    have er : ¬ rdy (M.1 53) e = true := fun z => c (of_decide_eq_true z)
    have ee : ew (M.1 53) e a = 999 := if_neg er
    exact ⟨fun _ => hno (by omega), fun q => absurd rfl q⟩
theorem s_pairOf {Q : Int32 → Mem → Prop} {a b : Nat} (hv : V (M.1 53) t) (h58 : ∀ a b, a < 12 → b < 12 → M.1 58 (12 * a + b) = nI (dist (M.1 53) a b)) (ha : a < 12) (hb : b < 12) (s : Int32 × Int32 × Int32) (h : ∀ s, C52 (fun e => ew (M.1 53) e a) (fun e => ew (M.1 53) e b) s (pW (M.1 53) a b) → Q (oVp (fun e => ew (M.1 53) e a) (fun e => ew (M.1 53) e b) (pW (M.1 53) a b)) (pw M s)) : exI (LY pl tl) (d + 4) 179 [.ref 52, .int (nI a), .int (nI b)] (pw M s) Q := by
  have n6 := hv.2.1.1.2
  generalize hw : M.1 53 = w at hv h58 h n6
  have q1 : ∀ s, (pw M s).1 53 457 = nI (eN w) := fun s => by rw [← hv.2.1.1.1, ← hw]; rfl
  have q53 : ∀ s, (pw M s).1 53 = w := fun s => hw
  have q58 : ∀ s, ∀ a b, a < 12 → b < 12 → (pw M s).1 58 (12 * a + b) = nI (dist w a b) := fun s => h58
  refine e_X11_pairOf (lp_p (σ := Int32 × Int32 × Int32) (X := fx (LY pl tl) (d + 3) m_X11_pairOf (qI Q)) (fun e s => (6, [some (.ref 52), some (.int (nI a)), some (.int (nI b)), some (.int (oVp (fun e => ew w e a) (fun e => ew w e b) (pO (fun e => ew w e a) (fun e => ew w e b) (eN w) e))), some (.int (nI e)), none, none, none], [], pw M s)) (fun e s => C52 (fun e => ew w e a) (fun e => ew w e b) s (pO (fun e => ew w e a) (fun e => ew w e b) (eN w) e)) (eN w) (fun e s he hc hx => ?_) (fun s hc => ?_) s trivial)
  · refine c_X11_pairOf_6 ?_
    rw [q1]
    refine br_f (nI_ge he (by omega)) ?_
    refine lp_p (σ := Int32 × Int32 × Int32) (X := fx (LY pl tl) (d + 3) m_X11_pairOf (qI Q)) (fun f s => (22, [some (.ref 52), some (.int (nI a)), some (.int (nI b)), some (.int (oVp (fun e => ew w e a) (fun e => ew w e b) (pI (fun e => ew w e a) (fun e => ew w e b) e (pO (fun e => ew w e a) (fun e => ew w e b) (eN w) e) f))), some (.int (nI e)), some (.int (nI f)), none, none], [], pw M s)) (fun f s => C52 (fun e => ew w e a) (fun e => ew w e b) s (pI (fun e => ew w e a) (fun e => ew w e b) e (pO (fun e => ew w e a) (fun e => ew w e b) (eN w) e) f)) (eN w) (fun f s hf hc hy => ?_) (fun s hc => ?_) s hc
    · refine c_X11_pairOf_22 ?_
      generalize hO : pO (fun e => ew w e a) (fun e => ew w e b) (eN w) e = o at hc hy ⊢
      rw [q1, nI_add f 1, z_eq (by omega) (by omega)]
      have stay : ¬ ((e ≠ f ∧ ew w e a < 999 ∧ ew w f b < 999) ∧ ltP (fun e => ew w e a) (fun e => ew w e b) e f (pI (fun e => ew w e a) (fun e => ew w e b) e o f)) → fx (LY pl tl) (d + 3) m_X11_pairOf (qI Q) (22, [some (.ref 52), some (.int (nI a)), some (.int (nI b)), some (.int (oVp (fun e => ew w e a) (fun e => ew w e b) (pI (fun e => ew w e a) (fun e => ew w e b) e o f))), some (.int (nI e)), some (.int (nI (f + 1))), none, none], [], pw M s) := fun z => by
        have e1 : pI (fun e => ew w e a) (fun e => ew w e b) e o (f + 1) = pI (fun e => ew w e a) (fun e => ew w e b) e o f := if_neg z
        have := hy s (by rw [e1]; exact hc)
        rw [e1] at this
        exact this
      have take : (e ≠ f ∧ ew w e a < 999 ∧ ew w f b < 999) → ltP (fun e => ew w e a) (fun e => ew w e b) e f (pI (fun e => ew w e a) (fun e => ew w e b) e o f) → fx (LY pl tl) (d + 3) m_X11_pairOf (qI Q) (22, [some (.ref 52), some (.int (nI a)), some (.int (nI b)), some (.int (nI (ew w e a + ew w f b))), some (.int (nI e)), some (.int (nI (f + 1))), none, none], [], si (si (si (pw M s) 52 20 (nI (max (ew w e a) (ew w f b)))) 52 18 (nI e)) 52 19 (nI f)) := fun z z2 => by
        have e1 : pI (fun e => ew w e a) (fun e => ew w e b) e o (f + 1) = some (e, f) := if_pos ⟨z, z2⟩
        have e2 : si (si (si (pw M s) 52 20 (nI (max (ew w e a) (ew w f b)))) 52 18 (nI e)) 52 19 (nI f) = pw M (nI e, nI f, nI (max (ew w e a) (ew w f b))) := pw_pw M s (nI e, nI f, nI (max (ew w e a) (ew w f b)))
        have := hy (nI e, nI f, nI (max (ew w e a) (ew w f b))) (by rw [e1]; exact ⟨⟨rfl, rfl, rfl⟩, by omega, by omega, z.2.1, z.2.2⟩)
        rw [e1] at this
        rw [e2]
        exact this
      refine br_f (nI_ge hf (by omega)) ⟨fun c => stay (fun q => q.1.1 c), fun c => s_canGo (t := t) (by rw [q53]; exact hv) (by rw [q53]; exact q58 s) (by rw [q53]; exact he) ha (fun z1 z2 => ?_) (fun z1 => ?_)⟩
      · rw [q53] at z1 z2
        refine ⟨fun q => absurd q (by decide), fun _ => s_canGo (t := t) (by rw [q53]; exact hv) (by rw [q53]; exact q58 s) (by rw [q53]; exact hf) hb (fun z3 z4 => ⟨fun _ => ?_, fun q => absurd q (by decide)⟩) (fun z3 => ⟨fun q => absurd rfl q, fun _ => stay (fun q => by rw [q53] at z3; exact z3 q.1.2.2)⟩)⟩
        rw [q53] at z3 z4
        have w1 : ∀ {Q : Int32 → Mem → Prop}, Q (nI (ew w e a)) (pw M s) → exI (LY pl tl) (d + 3) 170 [.ref 52, .int (nI e), .int (nI a)] (pw M s) Q := fun {Q} hq => s_wayM (t := t) (by rw [q53]; exact hv) (by rw [q53]; exact q58 s) (by rw [q53]; exact he) ha (by rw [q53, ← z2]; exact hq)
        have w2 : ∀ {Q : Int32 → Mem → Prop}, Q (nI (ew w f b)) (pw M s) → exI (LY pl tl) (d + 3) 170 [.ref 52, .int (nI f), .int (nI b)] (pw M s) Q := fun {Q} hq => s_wayM (t := t) (by rw [q53]; exact hv) (by rw [q53]; exact q58 s) (by rw [q53]; exact hf) hb (by rw [q53, ← z4]; exact hq)
        refine w1 (w2 (w1 (w2 ?_)))
        have cond : e ≠ f ∧ ew w e a < 999 ∧ ew w f b < 999 := ⟨c, z1, z3⟩
        rw [nI_max _ _ (by omega) (by omega), nI_add]
        cases ho : pI (fun e => ew w e a) (fun e => ew w e b) e o f with
        | none =>
          rw [ho] at take stay
          exact br_t rfl (take cond rfl)
        | some p =>
          obtain ⟨x, y⟩ := p
          rw [ho] at hc take stay
          obtain ⟨⟨h1, h2, h3⟩, h4, h5, h6, h7⟩ := hc
          have h6 : ew w x a < 999 := h6
          have h7 : ew w y b < 999 := h7
          have e20 : (pw M s).1 52 20 = nI (max (ew w x a) (ew w y b)) := h3
          rw [e20]
          show (nI (ew w x a + ew w y b) = -2 → _) ∧ _
          rw [show oVp (fun e => ew w e a) (fun e => ew w e b) (some (x, y)) = nI (ew w x a + ew w y b) from rfl] at stay ⊢
          rw [z_lt (by omega) (by omega), z_eq (by omega) (by omega), z_lt (by omega) (by omega)]
          have take' := take cond
          rw [ltP_s] at take' stay
          refine br_f (fun z => ?_) ⟨fun c1 => stay (fun q => by have := q.2; omega), fun c1 => ⟨fun c2 => take' (by omega), fun c2 => ⟨fun c3 => take' (by omega), fun c3 => stay (fun q => by have := q.2; omega)⟩⟩⟩
          have : ¬ nI (ew w x a + ew w y b) < 0 := nI_pos (by omega)
          rw [z] at this
          exact this (by decide)
      · rw [q53] at z1
        exact ⟨fun _ => stay (fun q => z1 q.1.2.1), fun q => absurd rfl q⟩
    · refine c_X11_pairOf_22 ?_
      rw [q1, nI_add e 1]
      exact br_t (nI_le (Nat.le_refl _) (by omega)) (hx s hc)
  · refine c_X11_pairOf_6 ?_
    rw [q1]
    exact br_t (nI_le (Nat.le_refl _) (by omega)) (h s hc)
end S41
