/-! STATES OF ENGINES OUT -/
theorem full_bits : ∀ n, n ≤ 6 → ∀ e, e < n → bt ((nI 1 <<< (nI n &&& 31)) - nI 1) e = true := by decide +kernel
theorem tb_out {n e : Nat} (hn : n ≤ 6) (he : e < n) (x : Int32) : tb (((nI 1 <<< (nI n &&& 31)) - nI 1) &&& (x ^^^ (-1))) e ↔ ¬ tb x e := by
  rw [tb_iff _ (by omega), tb_iff _ (by omega), b_and, b_xor, full_bits n hn e he, b_m1 e (by omega)]
  simp
def stO (w : Nat → Int32) (r : Nat) (x : Int32) : Int32 := o1 (fun e => rM w r (po w e)) (fun e => !decide (tb x e)) (eN w)
def stT (w : Nat → Int32) (r : Nat) (x : Int32) : Int32 := o2 (fun e => rM w r (po w e)) (fun e => !decide (tb x e)) (eN w)
def stV (w : Nat → Int32) (r m : Nat) : Int32 := wS w (stO w r (nI m)) 12
/-- the first least, and how many are like it -/
def wl (v : Nat → Int32) (ok : Nat → Bool) : Nat → Option (Nat × Nat)
  | 0 => none
  | m + 1 => if ok m then (match wl v ok m with
    | none => some (m, 1)
    | some (b, c) => if v m < v b then some (m, 1) else if v m = v b then some (b, c + 1) else some (b, c)) else wl v ok m
theorem wl_lt {v : Nat → Int32} {ok : Nat → Bool} : ∀ {n b c : Nat}, wl v ok n = some (b, c) → b < n ∧ c ≤ n
  | 0, _, _, h => by cases h
  | n + 1, b, c, h => by
    unfold wl at h
    split at h
    · split at h
      · cases h; exact ⟨by omega, by omega⟩
      · next b' c' hw =>
        obtain ⟨i1, i2⟩ := wl_lt hw
        split at h
        · cases h; exact ⟨by omega, by omega⟩
        · split at h
          · cases h; exact ⟨by omega, by omega⟩
          · cases h; exact ⟨by omega, by omega⟩
    · obtain ⟨i1, i2⟩ := wl_lt h
      exact ⟨by omega, by omega⟩
theorem wl_some {v : Nat → Int32} {ok : Nat → Bool} : ∀ {n m : Nat}, m < n → ok m = true → ∃ b c, wl v ok n = some (b, c)
  | n + 1, m, h, hm => by
    unfold wl
    by_cases e : m = n
    · subst e
      rw [if_pos hm]
      split
      · exact ⟨_, _, rfl⟩
      · split
        · exact ⟨_, _, rfl⟩
        · split <;> exact ⟨_, _, rfl⟩
    · obtain ⟨b, c, hb⟩ := wl_some (v := v) (n := n) (m := m) (by omega) hm
      split
      · rw [hb]
        show ∃ b' c', (if v n < v b then some (n, 1) else if v n = v b then some (b, c + 1) else some (b, c)) = some (b', c')
        split
        · exact ⟨_, _, rfl⟩
        · split <;> exact ⟨_, _, rfl⟩
      · exact ⟨b, c, hb⟩
def wlV (v : Nat → Int32) (z : Int32) (o : Option (Nat × Nat)) : Int32 := match o with
  | none => z
  | some q => v q.1
def wlB (z : Int32) (o : Option (Nat × Nat)) : Int32 := match o with
  | none => z
  | some q => nI q.1
def wlC (o : Option (Nat × Nat)) : Int32 := match o with
  | none => nI 0
  | some q => nI q.2
/-- how the three numbers go on -/
theorem wl_step {v : Nat → Int32} {ok : Nat → Bool} {m : Nat} (h : ok m = true) : (wl v ok m = none → wl v ok (m + 1) = some (m, 1)) ∧ ∀ b c, wl v ok m = some (b, c) → (v m < v b → wl v ok (m + 1) = some (m, 1)) ∧ (¬ v m < v b → v m = v b → wl v ok (m + 1) = some (b, c + 1)) ∧ (¬ v m < v b → ¬ v m = v b → wl v ok (m + 1) = some (b, c)) := by
  have e : wl v ok (m + 1) = (match wl v ok m with
    | none => some (m, 1)
    | some (b, c) => if v m < v b then some (m, 1) else if v m = v b then some (b, c + 1) else some (b, c)) := by
    show (if ok m then _ else _) = _
    rw [if_pos h]
  refine ⟨fun q => by rw [e, q], fun b c q => ?_⟩
  rw [e, q]
  exact ⟨fun z => if_pos z, fun z z2 => by show (if _ then _ else if _ then _ else _) = _; rw [if_neg z, if_pos z2], fun z z2 => by show (if _ then _ else if _ then _ else _) = _; rw [if_neg z, if_neg z2]⟩
theorem wl_no {v : Nat → Int32} {ok : Nat → Bool} {m : Nat} (h : ¬ ok m = true) : wl v ok (m + 1) = wl v ok m := if_neg h
section S28
variable {pl : Option Nat} {tl : List LC} {d : Nat} {M : Mem} {t : Nat}
theorem s_coverWithout {Q : Int32 → Mem → Prop} {w : Nat → Int32} {x : Int32} {o0 t0 : Int32} (hv : V w t) (hr : RC 15 M w) (h : Q (wS w (stO w (rcN w) x) 12) (pM (lkC M w) (stO w (rcN w) x) (stT w (rcN w) x))) : exI (LY pl tl) (d + 3) 51 [.ref 0, .int x] (pM (lkC M w) o0 t0) Q := by
  have n6 := hv.2.1.1.2
  have s8 := hv.1.1.2
  have hM : (pM (lkC M w) o0 t0).1 24 4 = nI (eN w) := hr.2.1.1.trans hv.2.1.1.1
  refine e_X10_coverWithout ?_
  rw [hM]
  refine s_putEngines (p := po w) n6 hM (fun e he => ⟨(hr.2.1.2.1 e he).1.trans (hv.2.1.2 e he).1.1, by have := (hv.2.1.2 e he).1.2; omega⟩) ?_
  have hb : ∀ e, e < eN w → decide (tb (((nI 1 <<< (nI (eN w) &&& 31)) - nI 1) &&& (x ^^^ (-1))) e) = (!decide (tb x e)) := fun e he => by
    rw [Bool.eq_iff_iff, decide_eq_true_eq, tb_out n6 he]
    simp
  have hf : ∀ e, e < eN w → (pM (lkC M w) o0 t0).1 44 (po w e) = rM w (rcN w) (po w e) := fun e he => nA_at (hv.2.1.2 e he).1.2 s8
  rw [o1_congr (f' := fun e => rM w (rcN w) (po w e)) (c' := fun e => !decide (tb x e)) _ hb (fun e he _ => hf e he), o2_congr (f' := fun e => rM w (rcN w) (po w e)) (c' := fun e => !decide (tb x e)) _ hb (fun e he _ => hf e he), pM_2]
  refine s_covered ?_
  have e1 : wS ((pM (lkC M w) (stO w (rcN w) x) (stT w (rcN w) x)).1 17) ((pM (lkC M w) (stO w (rcN w) x) (stT w (rcN w) x)).1 43 2) 12 = wS w (stO w (rcN w) x) 12 := wS_17 hr _
  show Q (wS ((pM (lkC M w) (stO w (rcN w) x) (stT w (rcN w) x)).1 17) ((pM (lkC M w) (stO w (rcN w) x) (stT w (rcN w) x)).1 43 2) 12) _
  rw [e1]
  exact h
def sM (M : Mem) (o t : Int32) : Mem := si (si M 52 22 t) 52 21 o
theorem sM_2 (M : Mem) (o t o' t' : Int32) : si (si (sM M o t) 52 22 t') 52 21 o' = sM M o' t' := by
  unfold sM
  rw [si_comm (i := 52) (k := 21) (l := 22) (by omega), si_si, si_si]
theorem sM_0 (M : Mem) (o t o' t' : Int32) : si (si (sM M o t) 52 21 o') 52 22 t' = sM M o' t' := by
  rw [si_comm (by omega), sM_2]
theorem sM_id (M : Mem) : sM M (M.1 52 21) (M.1 52 22) = M := by
  unfold sM
  rw [si_sa, si_sa, sa_s, sa_sa]
  refine sa_eq (fun j => ?_)
  unfold upd
  split
  · next e => subst e; rfl
  · split
    · next e => subst e; rfl
    · rfl
theorem s_stateCover {Q : Int32 → Mem → Prop} {r : Nat} {x o0 t0 : Int32} (hv : V (M.1 53) t) (h59 : ∀ s, s < sN (M.1 53) → M.1 59 s = rM (M.1 53) r s) (h : Q (wS (M.1 53) (stO (M.1 53) r x) 12) (sM M (stO (M.1 53) r x) (stT (M.1 53) r x))) : exI (LY pl tl) (d + 2) 207 [.ref 52, .int x] (sM M o0 t0) Q := by
  have n6 := hv.2.1.1.2
  have s8 := hv.1.1.2
  refine e_X11_stateCover (e_X11_laysState ?_)
  rw [sM_0]
  refine lp_0 (X := fx (LY pl tl) d m_X11_laysState (qV (fun M1 => exI (LY pl tl) (d + 1) 166 [.ref 52, .int (M1.1 52 21)] M1 (fun r2 M2 => Q r2 M2)))) (fun e => (12, [some (.ref 52), some (.int x), some (.int (nI e))], [], sM M (o1 (fun e => rM (M.1 53) r (po (M.1 53) e)) (fun e => !decide (tb x e)) e) (o2 (fun e => rM (M.1 53) r (po (M.1 53) e)) (fun e => !decide (tb x e)) e))) (eN (M.1 53)) (fun e he hx => ?_) ?_
  · obtain ⟨⟨p1, p2⟩, -⟩ := hv.2.1.2 e he
    refine c_X11_laysState_12 ?_
    have q1 : ∀ o t, (sM M o t).1 53 457 = nI (eN (M.1 53)) := fun o t => hv.2.1.1.1
    have q2 : ∀ o t, (sM M o t).1 53 (308 + e) = nI (po (M.1 53) e) := fun o t => p1
    have q3 : ∀ o t, (sM M o t).1 59 (po (M.1 53) e) = rM (M.1 53) r (po (M.1 53) e) := fun o t => h59 _ p2
    have q4 : ∀ o t, (sM M o t).1 52 21 = o := fun o t => rfl
    have q5 : ∀ o t, (sM M o t).1 52 22 = t := fun o t => rfl
    rw [q1, nI_add 308 e, z_cl (show 308 + e < 2147483648 by omega), q2, z_cl (show po (M.1 53) e < 2147483648 by omega), q3, q4, q5, sM_2, nI_add e 1]
    have a1 : vp_in (nI (308 + e)) 480 := (z_in (by omega) (by omega)).mpr (by omega)
    have a2 : vp_in (nI (po (M.1 53) e)) 8 := (z_in (by omega) (by omega)).mpr (by omega)
    refine br_f (nI_ge he (by omega)) ⟨fun c => ⟨a1, a2, a1, a2, ?_⟩, fun c => ?_⟩
    · have c' : (!decide (tb x e)) = true := by simpa using c
      have e1 : o1 (fun e => rM (M.1 53) r (po (M.1 53) e)) (fun e => !decide (tb x e)) (e + 1) = o1 (fun e => rM (M.1 53) r (po (M.1 53) e)) (fun e => !decide (tb x e)) e ||| rM (M.1 53) r (po (M.1 53) e) := if_pos c'
      have e2 : o2 (fun e => rM (M.1 53) r (po (M.1 53) e)) (fun e => !decide (tb x e)) (e + 1) = o2 (fun e => rM (M.1 53) r (po (M.1 53) e)) (fun e => !decide (tb x e)) e ||| (o1 (fun e => rM (M.1 53) r (po (M.1 53) e)) (fun e => !decide (tb x e)) e &&& rM (M.1 53) r (po (M.1 53) e)) := if_pos c'
      rw [e1, e2] at hx
      exact hx
    · have c' : ¬ (!decide (tb x e)) = true := by simpa using c
      have e1 : o1 (fun e => rM (M.1 53) r (po (M.1 53) e)) (fun e => !decide (tb x e)) (e + 1) = o1 (fun e => rM (M.1 53) r (po (M.1 53) e)) (fun e => !decide (tb x e)) e := if_neg c'
      have e2 : o2 (fun e => rM (M.1 53) r (po (M.1 53) e)) (fun e => !decide (tb x e)) (e + 1) = o2 (fun e => rM (M.1 53) r (po (M.1 53) e)) (fun e => !decide (tb x e)) e := if_neg c'
      rw [e1, e2] at hx
      exact hx
  · refine c_X11_laysState_12 ?_
    have q1 : ∀ o t, (sM M o t).1 53 457 = nI (eN (M.1 53)) := fun o t => hv.2.1.1.1
    rw [q1]
    exact br_t (nI_le (Nat.le_refl _) (by omega)) (s_weightOf h)
theorem m_state_n {Q : Int32 → Mem → Prop} {x : Int32} (hv : V (M.1 53) t) (hx : x < 0 ∨ nI (2 ^ eN (M.1 53)) ≤ x) (h : Q (-1) (thr M)) : exI (LY pl tl) (d + 4) 208 [.ref 52, .int x] M Q := by
  have n6 := hv.2.1.1.2
  have hp := pow8 (n := eN (M.1 53)) (by omega)
  refine e_X11_state (e_X11_isSet ?_)
  rw [hv.2.1.1.1, show nI 1 <<< (nI (eN (M.1 53)) &&& 31) = nI (2 ^ eN (M.1 53)) from b1_pow _ (by omega)]
  exact s_inN (by omega) (fun j hj e => by subst e; exact (out_nI hj (by omega) hx).elim) (fun _ => ⟨Or.inl rfl, fun c => absurd rfl c, fun _ => h⟩)
theorem m_state_y {Q : Int32 → Mem → Prop} {j : Nat} (hv : V (M.1 53) t) (hj : j < 2 ^ eN (M.1 53)) (h : ∀ o t', Q (stV (M.1 53) (rcN (M.1 53)) j) (rwM (sM (lyM (thr M) (rcN (M.1 53))) o t') 1 (fun _ => (wS (M.1 53) (stT (M.1 53) (rcN (M.1 53)) (nI j)) 12).toInt64))) : exI (LY pl tl) (d + 6) 208 [.ref 52, .int (nI j)] M Q := by
  have n6 := hv.2.1.1.2
  have hp := pow8 (n := eN (M.1 53)) (by omega)
  refine e_X11_state (e_X11_isSet ?_)
  rw [hv.2.1.1.1, show nI 1 <<< (nI (eN (M.1 53)) &&& 31) = nI (2 ^ eN (M.1 53)) from b1_pow _ (by omega)]
  refine s_inN (by omega) (fun _ _ _ => ⟨Or.inr rfl, fun _ => s_lyT (t := t) hv ?_, fun c => absurd c (by decide)⟩) (fun q => (out_nI hj (by omega) q).elim)
  rw [← sM_id (lyM (thr M) (rcN (M.1 53)))]
  refine s_stateCover (t := t) (r := rcN (M.1 53)) (M := lyM (thr M) (rcN (M.1 53))) hv (ly59 (M := thr M)) (s_weightOf ?_)
  rw [rwM_0 _ (fun _ => (wS (M.1 53) (stT (M.1 53) (rcN (M.1 53)) (nI j)) 12).toInt64)]
  exact s_mtell 1 rfl (by omega) rfl (h _ _)
theorem op_state {x : Int32} (h : Inv t M) (ht : t < 512) : Op pl tl (d + 12) 31 [.ref 0, .int x] 208 [.ref 52, .int x] t M := by
  have hI := h.up (t' := t + 1) (by omega) (by omega)
  obtain ⟨⟨hv, hr⟩, -⟩ := h
  have n6 := hv.2.1.1.2
  have hM : M.1 24 4 = nI (eN (M.1 53)) := hr.2.1.1.trans hv.2.1.1.1
  have hp := pow8 (n := eN (M.1 53)) (by omega)
  refine e_X10_state ⟨fun c => m_state_n (t := t) hv (Or.inl c) ⟨rfl, hI⟩, fun c => ?_⟩
  rw [hM, show nI 1 <<< (nI (eN (M.1 53)) &&& 31) = nI (2 ^ eN (M.1 53)) from b1_pow _ (by omega)]
  refine ⟨fun c2 => ?_, fun c2 => m_state_n (t := t) hv (Or.inr (by rw [Int32.lt_iff_toInt_lt] at c2; rw [Int32.le_iff_toInt_le]; omega)) ⟨rfl, hI⟩⟩
  obtain ⟨j, hj, e⟩ := nI_of c
  subst e
  rw [z_lt hj (by omega)] at c2
  refine s_lk hv hr ?_
  rw [← pM_id (lkC M (M.1 53))]
  refine s_coverWithout hv hr (s_doubled (s_tell1 (m_state_y (t := t) hv c2 (fun o t' => ⟨rfl, hI.1, rows_ok (n := 1) (by omega) rfl rfl rfl rfl (fun i hi => ?_), hI.2.2⟩))))
  show (wS (M.1 17) (stT (M.1 53) (rcN (M.1 53)) (nI j)) 12).toInt64 = (wS (M.1 53) (stT (M.1 53) (rcN (M.1 53)) (nI j)) 12).toInt64
  rw [wS_17 hr]
end S28
