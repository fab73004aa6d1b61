/-! THE CLASS'S PLANNER: its table -/
abbrev LPl : List LC := LY (some 65) PT
theorem ix_lt {l : List Nat} (x : Nat) : ∀ j, j < l.length → ix (l ++ [x]) j = ix l j := by
  induction l with
  | nil => intro j h; cases h
  | cons y r ih =>
    intro j h
    cases j with
    | zero => rfl
    | succ j => exact ih j (by have : (y :: r).length = r.length + 1 := rfl; omega)
theorem ix_eq (l : List Nat) (x : Nat) : ix (l ++ [x]) l.length = x := by
  induction l with
  | nil => rfl
  | cons y r ih => exact ih
theorem ix_drop : ∀ (l : List Nat) (i : Nat), i < l.length → l.drop i = ix l i :: l.drop (i + 1)
  | [], i, h => by cases h
  | x :: r, 0, _ => rfl
  | x :: r, i + 1, h => ix_drop r i (by have : (x :: r).length = r.length + 1 := rfl; omega)
theorem ix_mem : ∀ (l : List Nat) (i : Nat), i < l.length → ix l i ∈ l
  | [], i, h => by cases h
  | x :: r, 0, _ => List.mem_cons_self ..
  | x :: r, i + 1, h => List.mem_cons_of_mem _ (ix_mem r i (by have : (x :: r).length = r.length + 1 := rfl; omega))
def lpr (w : Nat → Int32) : Nat → List Nat
  | 0 => []
  | e + 1 => if rdy w e = true then lpr w e ++ [e] else lpr w e
theorem lpr_rl (w : Nat → Int32) : ∀ e, e ≤ eN w → lpr w e ++ rlk w (eN w - e) = RLs w
  | 0, _ => rfl
  | e + 1, h => by
    have ih := lpr_rl w e (by omega)
    obtain ⟨k, hk⟩ : ∃ k, eN w = e + 1 + k := ⟨eN w - (e + 1), by omega⟩
    have e1 : eN w - e = k + 1 := by omega
    have e2 : eN w - (e + 1) = k := by omega
    have e3 : eN w - (k + 1) = e := by omega
    rw [← ih, e1, e2]
    have e4 : rlk w (k + 1) = if rdy w e = true then e :: rlk w k else rlk w k := by
      show (if rdy w (eN w - (k + 1)) = true then (eN w - (k + 1)) :: rlk w k else rlk w k) = _
      rw [e3]
    rw [e4]
    show (if rdy w e = true then lpr w e ++ [e] else lpr w e) ++ rlk w k = _
    by_cases q : rdy w e = true
    · rw [if_pos q, if_pos q, List.append_assoc]; rfl
    · rw [if_neg q, if_neg q]
theorem lpr_all (w : Nat → Int32) : lpr w (eN w) = RLs w := by
  have := lpr_rl w (eN w) (Nat.le_refl _)
  rw [show eN w - eN w = 0 by omega, show rlk w 0 = [] from rfl, List.append_nil] at this
  exact this
theorem lpr_len (w : Nat → Int32) : ∀ e, (lpr w e).length ≤ e
  | 0 => Nat.le_refl _
  | e + 1 => by
    have := lpr_len w e
    unfold lpr
    split
    · rw [List.length_append]; show (lpr w e).length + 1 ≤ e + 1; omega
    · omega
/-- only the planner's own cells have changed -/
def PF (A B : Mem) : Prop := B.2 = A.2 ∧ ∀ c, c ≠ 65 → c ≠ 66 → c ≠ 67 → c ≠ 69 → B.1 c = A.1 c
/-- what the planner has gathered -/
def GOk (w : Nat → Int32) (L : List Nat) (B : Mem) : Prop := B.1 65 3 = nI L.length ∧ B.1 65 8 = nI (sN w) ∧ ∀ i, i < L.length → B.1 66 i = nI (ix L i) ∧ B.1 67 i = nI (po w (ix L i)) ∧ ∀ s, s < sN w → B.1 69 (i * 8 + s) = nI (wy w (ix L i) s)
section S52
variable {d : Nat} {M : Mem} {t : Nat}
theorem s_gather {Q : Mem → Prop} {w : Nat → Int32} (hv : V w t) (hr : RC 15 M w) (h : ∀ B, PF M B → GOk w (RLs w) B → Q B) : exV LPl (d + 4) 91 [.ref 65, .ref 15] M Q := by
  have n6 := hv.2.1.1.2
  have s8 := hv.1.1.2
  have q8 : M.1 16 8 = nI (sN w) := hr.1.2.1.trans hv.1.1.1
  refine e_X4_gather_15 ?_
  have e8 : (if nI 8 < M.1 16 8 then nI 8 else M.1 16 8) = nI (sN w) := by rw [q8, if_neg (nI_nlt s8 (by omega))]
  rw [e8]
  refine lp_p (σ := Mem) (X := fx LPl (d + 3) m_X4_gather (qV Q)) (fun e B => (23, [some (.ref 65), some (.ref 15), some (.int (nI e)), none], [], B)) (fun e B => PF M B ∧ GOk w (lpr w e) B) (eN w) (fun e B he hP hx => ?_) (fun B hP => ?_) _ ⟨⟨rfl, fun c h1 h2 h3 h4 => by rw [si_c h1, si_c h1]⟩, ?_⟩
  · obtain ⟨hF, g1, g2, g3⟩ := hP
    have ll := lpr_len w e
    have rB : RC 15 B w := RC_cells (fun c h1 h2 => hF.2 c (by omega) (by omega) (by omega) (by omega)) hr
    obtain ⟨k1, k2, -⟩ := rB.2.1.2.1 e he
    obtain ⟨⟨p1, p2⟩, -⟩ := hv.2.1.2 e he
    have k1 : B.1 25 e = nI (po w e) := k1.trans p1
    have k2 : B.1 26 e = w (320 + e) := k2
    have k4 : B.1 24 4 = nI (eN w) := rB.2.1.1.trans hv.2.1.1.1
    refine c_X4_gather_15_23 ?_
    have v6 := (z_in (n := e) (N := 6) (by omega) (by omega)).mpr (by omega)
    have v6' := (z_in (n := (lpr w e).length) (N := 6) (by omega) (by omega)).mpr (by omega)
    rw [k4, z_cl (show e < 2147483648 by omega), k1, k2, g1, z_cl (show (lpr w e).length < 2147483648 by omega), nI_add e 1]
    refine br_f (nI_ge he (by omega)) ⟨v6, fun c => ?_, fun c => br_f (nI_ge (by omega) (by omega)) ⟨v6', v6, v6', ?_⟩⟩
    · have c : ¬ w (320 + e) = nI 0 := c
      refine hx B ⟨hF, ?_⟩
      rw [show lpr w (e + 1) = lpr w e from if_neg (fun z => c (of_decide_eq_true z))]
      exact ⟨g1, g2, g3⟩
    · have c : w (320 + e) = nI 0 := c
      have el : lpr w (e + 1) = lpr w e ++ [e] := if_pos (decide_eq_true c)
      generalize hl : lpr w e = l at *
      have ell : (l ++ [e]).length = l.length + 1 := by rw [List.length_append]; rfl
      generalize hA : si (si B 66 l.length (nI e)) 67 l.length (nI (po w e)) = A
      have aF : PF M A := ⟨by rw [← hA]; exact hF.1, fun c h1 h2 h3 h4 => by rw [← hA, si_c h3, si_c h2]; exact hF.2 c h1 h2 h3 h4⟩
      have a65 : A.1 65 = B.1 65 := by rw [← hA]; rfl
      have a69 : A.1 69 = B.1 69 := by rw [← hA]; rfl
      have a66 : A.1 66 = upd (B.1 66) l.length (nI e) := by rw [← hA, si_c (by omega), si_s]
      have a67 : A.1 67 = upd (B.1 67) l.length (nI (po w e)) := by rw [← hA, si_s]; rfl
      have rA : RC 15 A w := RC_cells (fun c h1 h2 => aF.2 c (by omega) (by omega) (by omega) (by omega)) hr
      clear hA
      have st := lp_0 (X := fx LPl (d + 3) m_X4_gather (qV Q)) (fun s => (85, [some (.ref 65), some (.ref 15), some (.int (nI e)), some (.int (nI s))], [], sa A 69 (fun j => if l.length * 8 ≤ j ∧ j < l.length * 8 + s then nI (wy w e (j - l.length * 8)) else A.1 69 j))) (sN w) (fun s hs hy => ?_) ?_
      · have e0 : sa A 69 (fun j => if l.length * 8 ≤ j ∧ j < l.length * 8 + 0 then nI (wy w e (j - l.length * 8)) else A.1 69 j) = A := sa_eq (fun j => if_neg (by omega))
        rw [e0] at st
        exact st
      · refine c_X4_gather_15_85 ?_
        have q3 : (sa A 69 (fun j => if l.length * 8 ≤ j ∧ j < l.length * 8 + s then nI (wy w e (j - l.length * 8)) else A.1 69 j)).1 65 3 = nI l.length := (congrFun a65 3).trans g1
        have q8 : (sa A 69 (fun j => if l.length * 8 ≤ j ∧ j < l.length * 8 + s then nI (wy w e (j - l.length * 8)) else A.1 69 j)).1 65 8 = nI (sN w) := (congrFun a65 8).trans g2
        have q67 : (sa A 69 (fun j => if l.length * 8 ≤ j ∧ j < l.length * 8 + s then nI (wy w e (j - l.length * 8)) else A.1 69 j)).1 67 l.length = nI (po w e) := (congrFun a67 _).trans (upd_eq _ _ _)
        rw [q3, q8, z_cl (show l.length < 2147483648 by omega), q67, pk_mul, nI_add (l.length * 8) s, z_cl (show l.length * 8 + s < 2147483648 by omega), nI_add s 1]
        refine br_f (nI_ge hs (by omega)) ⟨v6', s_wayOfSt (t := t) hv (M := sa A 69 (fun j => if l.length * 8 ≤ j ∧ j < l.length * 8 + s then nI (wy w e (j - l.length * 8)) else A.1 69 j)) rA p2 hs ⟨(z_in (by omega) (by omega)).mpr (by omega), ?_⟩⟩
        rw [sa_upd]
        have e1 : upd (fun j => if l.length * 8 ≤ j ∧ j < l.length * 8 + s then nI (wy w e (j - l.length * 8)) else A.1 69 j) (l.length * 8 + s) (nI (dist w (sp w (po w e)) (sp w s))) = (fun j => if l.length * 8 ≤ j ∧ j < l.length * 8 + (s + 1) then nI (wy w e (j - l.length * 8)) else A.1 69 j) := by
          funext j
          unfold upd
          by_cases q : j = l.length * 8 + s
          · rw [if_pos q, if_pos (by omega), show j - l.length * 8 = s by omega]; rfl
          · rw [if_neg q]
            dsimp only
            by_cases q2 : l.length * 8 ≤ j ∧ j < l.length * 8 + s
            · rw [if_pos q2, if_pos (by omega)]
            · rw [if_neg q2, if_neg (by omega)]
        rw [e1]
        exact hy
      · refine c_X4_gather_15_85 ?_
        have q3 : (sa A 69 (fun j => if l.length * 8 ≤ j ∧ j < l.length * 8 + sN w then nI (wy w e (j - l.length * 8)) else A.1 69 j)).1 65 3 = nI l.length := (congrFun a65 3).trans g1
        have q8 : (sa A 69 (fun j => if l.length * 8 ≤ j ∧ j < l.length * 8 + sN w then nI (wy w e (j - l.length * 8)) else A.1 69 j)).1 65 8 = nI (sN w) := (congrFun a65 8).trans g2
        rw [q3, q8, nI_add l.length 1, nI_add e 1]
        refine br_t (nI_le (Nat.le_refl _) (by omega)) (hx _ ⟨⟨aF.1, fun c h1 h2 h3 h4 => ?_⟩, ?_⟩)
        · rw [si_c h1, sa_n h4]; exact aF.2 c h1 h2 h3 h4
        · rw [el]
          refine ⟨?_, ?_, fun i hi => ?_⟩
          · rw [si_s, upd_eq, ell]
          · rw [si_s, upd_ne (by omega)]; exact q8
          · rw [ell] at hi
            rw [si_c (show (66 : Nat) ≠ 65 by omega), si_c (show (67 : Nat) ≠ 65 by omega), si_c (show (69 : Nat) ≠ 65 by omega), sa_n (show (66 : Nat) ≠ 69 by omega), sa_n (show (67 : Nat) ≠ 69 by omega), sa_s, a66, a67]
            by_cases q : i = l.length
            · subst q
              rw [upd_eq, upd_eq, ix_eq]
              refine ⟨rfl, rfl, fun s hs => ?_⟩
              rw [if_pos (by omega), show l.length * 8 + s - l.length * 8 = s by omega]
            · rw [upd_ne q, upd_ne q, ix_lt e i (by omega)]
              obtain ⟨b1, b2, b3⟩ := g3 i (by omega)
              refine ⟨b1, b2, fun s hs => ?_⟩
              rw [if_neg (by omega), a69]
              exact b3 s hs
  · obtain ⟨hF, hG⟩ := hP
    have k4 : B.1 24 4 = nI (eN w) := (congrFun (hF.2 24 (by omega) (by omega) (by omega) (by omega)) 4).trans (hr.2.1.1.trans hv.2.1.1.1)
    refine c_X4_gather_15_23 ?_
    rw [k4]
    refine br_t (nI_le (Nat.le_refl _) (by omega)) (h B hF ?_)
    rw [← lpr_all]
    exact hG
  · refine ⟨?_, ?_, fun i hi => by cases hi⟩
    · rw [si_s, upd_eq]; rfl
    · rw [si_s, upd_ne (by omega), si_s, upd_eq]
end S52
