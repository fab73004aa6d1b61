/-! moves, needs: the class -/
section S56
variable {d : Nat} {M : Mem} {t : Nat}
theorem op_moves {x : Int32} (h : Inv t M) (ht : t < 512) : Op (some 65) PT (d + 12) 37 [.ref 0, .int x] 223 [.ref 52, .int x] t M := by
  have hI := h.up (t' := t + 1) (by omega) (by omega)
  obtain ⟨⟨hv, hr⟩, -⟩ := h
  have n6 := hv.2.1.1.2
  have s8 := hv.1.1.2
  refine e_X10_moves ⟨fun c => m_moves_n (Or.inl c) ⟨rfl, hI⟩, fun c => ⟨fun c2 => ?_, fun c2 => m_moves_n (Or.inr c2) ⟨rfl, hI⟩⟩⟩
  obtain ⟨n, hn, e⟩ := z_0 c (by omega) c2
  subst e
  have hl : (RLs (M.1 53)).length ≤ eN (M.1 53) := rlk_len (M.1 53) (eN (M.1 53))
  have hL : ∀ e, e ∈ RLs (M.1 53) → po (M.1 53) e < sN (M.1 53) := rlk_po hv (Nat.le_refl _)
  refine s_planned hv hr (fun B F o t' bF bG bT => ?_)
  refine s_choose (M := pM (sa B 70 F) o t') (r := rcN (M.1 53)) (n := n) hv.1 hL (by omega) bG bT hn (fun Y yF y4 y5 y68 => ?_)
  have hR := mvR_le hv n
  have hgg : g2 (M.1 53) (RLs (M.1 53)) (GLs (M.1 53) n) := (PP_val (r := rcN (M.1 53)) (RLs (M.1 53)) n 0 hL).2
  have gl := g2_len _ _ hgg
  have y4 : Y.1 65 4 = nI (mns (M.1 53) (RLs (M.1 53)) (GLs (M.1 53) n)) := y4
  have y5 : Y.1 65 5 = nI (cvM (M.1 53) (rcN (M.1 53)) (fk (GLs (M.1 53) n) 0)) := y5
  have y68 : ∀ i, i < (RLs (M.1 53)).length → Y.1 68 i = nI (ix (GLs (M.1 53) n) i) := y68
  have yC : ∀ c, (c < 43 ∨ (46 ≤ c ∧ c < 65)) → Y.1 c = M.1 c := fun c hc => by
    rw [yF.2.1 c (by omega) (by omega)]
    unfold pM
    rw [si_c (by omega), si_c (by omega), sa_n (by omega), bF.2 c (by omega) (by omega) (by omega) (by omega)]
    unfold lkC
    rw [sa_n (by omega)]
  have y2 : Y.2 = M.2 := yF.1.trans bF.1
  have y3 : Y.1 65 3 = nI (RLs (M.1 53)).length := (yF.2.2 3 (by omega) (by omega)).trans bG.1
  have y66 : ∀ i, i < (RLs (M.1 53)).length → Y.1 66 i = nI (ix (RLs (M.1 53)) i) ∧ Y.1 67 i = nI (po (M.1 53) (ix (RLs (M.1 53)) i)) := fun i hi => by
    rw [yF.2.1 66 (by omega) (by omega), yF.2.1 67 (by omega) (by omega)]
    exact ⟨(bG.2.2 i hi).1, (bG.2.2 i hi).2.1⟩
  have hgm : ∀ i, i < (RLs (M.1 53)).length → ix (GLs (M.1 53) n) i < sN (M.1 53) := by
    have : ∀ (L gs : List Nat), g2 (M.1 53) L gs → ∀ i, i < L.length → ix gs i < sN (M.1 53) := by
      intro L
      induction L with
      | nil => intro gs _ i hi; cases hi
      | cons e L ih =>
        intro gs hg i hi
        cases gs with
        | nil => exact hg.elim
        | cons s gs =>
          cases i with
          | zero => exact hg.1.1
          | succ i => exact ih gs hg.2 i (by have : (e :: L).length = L.length + 1 := rfl; omega)
    exact this _ _ hgg
  rw [y4]
  refine s_tell1 ?_
  have st := lp_p (σ := Nat × (Nat → Int64)) (X := fx LPl (d + 11) m_X10_moves (qI (fun r M1 => exI LPl (d + 12) 223 [.ref 52, .int (nI n)] M1 (fun r2 M2 => r2 = r ∧ Inv (t + 1) M2)))) (fun i σ => (36, [some (.ref 0), none, some (.ref 65), some (.int (nI i))], [], rwC Y σ.1 σ.2)) (fun i σ => rowS (M.1 53) ((RLs (M.1 53)).drop i) ((GLs (M.1 53) n).drop i) σ = mvR (M.1 53) n) (RLs (M.1 53)).length (fun i σ hi hP hx => ?_) (fun σ hP => ?_) (1, fun _ => (nI (mns (M.1 53) (RLs (M.1 53)) (GLs (M.1 53) n))).toInt64) rfl
  · exact st
  · obtain ⟨k, g⟩ := σ
    dsimp only at hP ⊢
    refine c_X10_moves_36 ?_
    have r3 : (rwC Y k g).1 65 3 = nI (RLs (M.1 53)).length := y3
    have r68 : ∀ k g, (rwC Y k g).1 68 i = nI (ix (GLs (M.1 53) n) i) := fun k g => y68 i hi
    have r66 : (rwC Y k g).1 66 i = nI (ix (RLs (M.1 53)) i) := (y66 i hi).1
    have r67 : (rwC Y k g).1 67 i = nI (po (M.1 53) (ix (RLs (M.1 53)) i)) := (y66 i hi).2
    have pl' := hL _ (ix_mem _ i hi)
    have gi := hgm i hi
    have v6 := (z_in (n := i) (N := 6) (by omega) (by omega)).mpr (by omega)
    rw [ix_drop _ i hi, ix_drop (GLs (M.1 53) n) i (by omega)] at hP
    rw [r3, z_cl (by omega), r68, r66, r67, z_eq (by omega) (by omega), nI_add i 1]
    have hP : rowS (M.1 53) ((RLs (M.1 53)).drop (i + 1)) ((GLs (M.1 53) n).drop (i + 1)) (if ix (GLs (M.1 53) n) i = po (M.1 53) (ix (RLs (M.1 53)) i) then (k, g) else (k + 2, vp_updL (vp_updL g k (nI (ix (RLs (M.1 53)) i)).toInt64) (k + 1) (nI (ix (GLs (M.1 53) n) i)).toInt64)) = mvR (M.1 53) n := hP
    refine br_f (nI_ge hi (by omega)) ⟨v6, v6, fun c => ?_, fun c => ⟨v6, ?_⟩⟩
    · rw [if_pos c] at hP
      exact hx (k, g) hP
    · rw [if_neg c] at hP
      have hk := (rowS_le (M.1 53) ((RLs (M.1 53)).drop (i + 1)) ((GLs (M.1 53) n).drop (i + 1)) (k + 2, vp_updL (vp_updL g k (nI (ix (RLs (M.1 53)) i)).toInt64) (k + 1) (nI (ix (GLs (M.1 53) n) i)).toInt64)).2
      rw [hP] at hk
      dsimp only at hk
      refine s_addU (by omega) ⟨v6, ?_⟩
      rw [r68]
      refine s_addU (by omega) ?_
      exact hx (k + 1 + 1, vp_updL (vp_updL g k (nI (ix (RLs (M.1 53)) i)).toInt64) (k + 1) (nI (ix (GLs (M.1 53) n) i)).toInt64) hP
  · obtain ⟨k, g⟩ := σ
    dsimp only at hP ⊢
    rw [List.drop_length] at hP
    have hP : (k, g) = mvR (M.1 53) n := by rw [← hP]; cases (GLs (M.1 53) n).drop (RLs (M.1 53)).length <;> rfl
    have e1 : k = (mvR (M.1 53) n).1 := by rw [← hP]
    have e2 : g = (mvR (M.1 53) n).2 := by rw [← hP]
    refine c_X10_moves_36 ?_
    have r3 : (rwC Y k g).1 65 3 = nI (RLs (M.1 53)).length := y3
    have r5 : (rwC Y k g).1 65 5 = nI (cvM (M.1 53) (rcN (M.1 53)) (fk (GLs (M.1 53) n) 0)) := y5
    rw [r3, r5]
    refine br_t (nI_le (Nat.le_refl _) (by omega)) ?_
    generalize hC : rwC Y k g = C
    have cC : ∀ c, c ≠ 1 → (c < 43 ∨ (46 ≤ c ∧ c < 65)) → C.1 c = M.1 c := fun c h1 h2 => by
      rw [← hC]
      show (si _ 1 1 _).1 c = _
      rw [si_c h1]
      exact yC c h2
    have c53 : C.1 53 = M.1 53 := cC 53 (by omega) (by omega)
    refine m_moves (t := t) (M := C) (by rw [c53]; exact hv) hn (fun A aC a52 a2 => ?_)
    rw [c53]
    refine ⟨rfl, ?_⟩
    generalize hD : rwM A (mvR (M.1 53) n).1 (mvR (M.1 53) n).2 = D
    have dC : ∀ c, c < 58 → c ≠ 52 → D.1 c = C.1 c := fun c h1 h2 => by
      rw [← hD]
      show (si _ 52 6 _).1 c = _
      rw [si_c h2]
      exact aC c h1 h2
    have d52 : ∀ j, j < 6 → D.1 52 j = M.1 52 j := fun j h1 => by
      rw [← hD]
      show (si _ 52 6 _).1 52 j = _
      rw [si_s, upd_ne (by omega)]
      show A.1 52 j = _
      rw [a52 j (by omega), cC 52 (by omega) (by omega)]
    refine Inv_step (A := M) (B := M) (w := M.1 53) hI (Fr15.rfl' M) hI.1.1 hI.1.2 ((dC 53 (by omega) (by omega)).trans c53) (fun i h1 h2 => (dC i (by omega) (by omega)).trans (cC i h1 (by omega))) ⟨d52 2 (by omega), d52 4 (by omega)⟩ ?_
    refine rows_ok (B := Y) (C := A) (n := (mvR (M.1 53) n).1) (g := (mvR (M.1 53) n).2) (g' := (mvR (M.1 53) n).2) hR ?_ ?_ ?_ ?_ (fun j hj => rfl)
    · rw [dC 1 (by omega) (by omega), ← hC, e1]; rfl
    · rw [← hD]; rfl
    · rw [← hD]
      show A.2 2 = _
      rw [a2, ← hC, e1, e2]
    · rw [← hD]
/-- so many moves are enough -/
def ndP (w : Nat → Int32) (n : Nat) : Prop := nI (cvM w (rcN w) (fk (GLs w n) 0)) = gC w (rcN w)
theorem m_needs {pl : Option Nat} {tl : List LC} {Q : Int32 → Mem → Prop} (hv : V (M.1 53) t) (N : Nat) (hN : N ≤ 7) (hno : ∀ n, n < N → ¬ ndP (M.1 53) n) (hend : N = 7 ∨ ndP (M.1 53) N) (h : ∀ D, (∀ c, c < 58 → c ≠ 52 → D.1 c = M.1 c) → (∀ j, j < 7 → D.1 52 j = M.1 52 j) → D.2 = M.2 → Q (if N = 7 then -2 else nI N) D) : exI (LY pl tl) (d + 11) 231 [.ref 52] M Q := by
  refine e_X11_needs ?_
  have step : ∀ (D : Mem) (n : Nat) {Q : Mem → Prop}, n ≤ 6 → ((∀ c, c < 58 → c ≠ 52 → D.1 c = M.1 c) ∧ (∀ j, j < 7 → D.1 52 j = M.1 52 j) ∧ D.2 = M.2) → (∀ D' : Mem, ((∀ c, c < 58 → c ≠ 52 → D'.1 c = M.1 c) ∧ (∀ j, j < 7 → D'.1 52 j = M.1 52 j) ∧ D'.2 = M.2) → D'.1 52 28 = nI (cvM (M.1 53) (rcN (M.1 53)) (fk (GLs (M.1 53) n) 0)) → (∀ s, s < sN (M.1 53) → D'.1 59 s = rM (M.1 53) (rcN (M.1 53)) s) → Q D') → exV (LY pl tl) (d + 10) 222 [.ref 52, .int (nI n)] D Q := by
    intro D n Q hn ⟨d1, d2, d3⟩ hq
    have d53 : D.1 53 = M.1 53 := d1 53 (by omega) (by omega)
    refine s_laysMoves (t := t) (M := D) (by rw [d53]; exact hv) hn (fun T B F fO f28 f30 fB => hq _ ⟨fun c hc h52 => ?_, fun j hj => ?_, d3⟩ ?_ ?_)
    · unfold tM
      rw [sa_n h52, sa_n (by omega), sa_n (by omega)]
      unfold lyM
      rw [sa_n (by omega), sa_n (by omega)]
      exact d1 c hc h52
    · show F j = _
      rw [fO j (by omega) (by omega) (by omega)]
      exact d2 j hj
    · rw [d53] at f28; exact f28
    · rw [d53]
      have := ly59 (M := D) (r := rcN (M.1 53))
      rw [d53] at this
      exact this
  have lp := lp_p (σ := Mem) (X := fx (LY pl tl) (d + 10) m_X11_needs (qI Q)) (fun n D => (7, [some (.ref 52), some (.int (nI n))], [], D)) (fun n D => (∀ c, c < 58 → c ≠ 52 → D.1 c = M.1 c) ∧ (∀ j, j < 7 → D.1 52 j = M.1 52 j) ∧ D.2 = M.2) N (fun n D hn hP hx => ?_) (fun D hP => ?_) (thr M) ⟨fun c h1 h2 => si_c h2, fun j hj => by show (si M 52 7 (nI 0)).1 52 j = _; rw [si_s, upd_ne (by omega)], rfl⟩
  · exact lp
  · refine c_X11_needs_7 (br_f (nI_nlt (by omega) (by omega)) (step D n (by omega) hP (fun D' hD' e28 e59 => ?_)))
    have d53 : D'.1 53 = M.1 53 := hD'.1 53 (by omega) (by omega)
    refine s_greatestM (t := t) (r := rcN (M.1 53)) (by rw [d53]; exact hv) (by rw [d53]; exact e59) ?_
    rw [d53, e28, nI_add n 1]
    exact ⟨fun _ => hx D' hD', fun c => absurd c (hno n hn)⟩
  · by_cases q : N = 7
    · subst q
      exact c_X11_needs_7 (br_t (nI_lt (by omega) (by omega)) (h D hP.1 hP.2.1 hP.2.2))
    · refine c_X11_needs_7 (br_f (nI_nlt (by omega) (by omega)) (step D N (by omega) hP (fun D' hD' e28 e59 => ?_)))
      have d53 : D'.1 53 = M.1 53 := hD'.1 53 (by omega) (by omega)
      refine s_greatestM (t := t) (r := rcN (M.1 53)) (by rw [d53]; exact hv) (by rw [d53]; exact e59) ?_
      rw [d53, e28]
      have h := h D' hD'.1 hD'.2.1 hD'.2.2
      rw [if_neg q] at h
      refine ⟨fun c => absurd (hend.resolve_left q) c, fun _ => h⟩
theorem op_needs (h : Inv t M) (ht : t < 512) : Op (some 65) PT (d + 12) 42 [.ref 0] 231 [.ref 52] t M := by
  have hI := h.up (t' := t + 1) (by omega) (by omega)
  obtain ⟨⟨hv, hr⟩, -⟩ := h
  have n6 := hv.2.1.1.2
  have s8 := hv.1.1.2
  have hl : (RLs (M.1 53)).length ≤ eN (M.1 53) := rlk_len (M.1 53) (eN (M.1 53))
  have hL : ∀ e, e ∈ RLs (M.1 53) → po (M.1 53) e < sN (M.1 53) := rlk_po hv (Nat.le_refl _)
  refine e_X10_needs (s_planned hv hr (fun B F o t' bF bG bT => ?_))
  have rB : RC 15 (pM (sa B 70 F) o t') (M.1 53) := RC_cells (A := M) (fun c h1 h2 => by
    unfold pM
    rw [si_c (by omega), si_c (by omega), sa_n (by omega), bF.2 c (by omega) (by omega) (by omega) (by omega)]
    unfold lkC
    rw [sa_n (by omega)]) hr
  refine s_greatestC (M := pM (sa B 70 F) o t') hv rB (fun o2 t2 => ?_)
  generalize hX : pM (lkC (pM (sa B 70 F) o t') (M.1 53)) o2 t2 = X
  have xG : GOk (M.1 53) (RLs (M.1 53)) X := by rw [← hX]; exact bG
  have xT : AllTab (M.1 53) (rcN (M.1 53)) (RLs (M.1 53)) (X.1 70) (RLs (M.1 53)).length := by rw [← hX]; exact bT
  have xC : ∀ c, (c < 43 ∨ (46 ≤ c ∧ c < 65)) → X.1 c = M.1 c := fun c hc => by
    rw [← hX]
    unfold pM
    rw [si_c (by omega), si_c (by omega)]
    unfold lkC
    rw [sa_n (by omega), si_c (by omega), si_c (by omega), sa_n (by omega), bF.2 c (by omega) (by omega) (by omega) (by omega)]
    unfold lkC
    rw [sa_n (by omega)]
  have x2 : X.2 = M.2 := by rw [← hX]; exact bF.1
  clear hX
  -- the end, whatever was found
  have fin : ∀ (Y : Mem) (N : Nat), CF X Y → N ≤ 7 → (∀ n, n < N → ¬ ndP (M.1 53) n) → (N = 7 ∨ ndP (M.1 53) N) → exI LPl (d + 12) 231 [.ref 52] Y (fun r2 M2 => r2 = (if N = 7 then -2 else nI N) ∧ Inv (t + 1) M2) := by
    intro Y N yF hN hno hend
    have yC : ∀ c, (c < 43 ∨ (46 ≤ c ∧ c < 65)) → Y.1 c = M.1 c := fun c hc => (yF.2.1 c (by omega) (by omega)).trans (xC c hc)
    have y53 : Y.1 53 = M.1 53 := yC 53 (by omega)
    refine m_needs (t := t) (M := Y) (by rw [y53]; exact hv) N hN (by rw [y53]; exact hno) (by rw [y53]; exact hend) (fun D dC d52 d2 => ⟨rfl, ?_⟩)
    refine Inv_step (A := M) (B := M) (w := M.1 53) hI (Fr15.rfl' M) hI.1.1 hI.1.2 ((dC 53 (by omega) (by omega)).trans y53) (fun i h1 h2 => (dC i (by omega) (by omega)).trans (yC i (by omega))) ⟨(d52 2 (by omega)).trans (congrFun (yC 52 (by omega)) 2), (d52 4 (by omega)).trans (congrFun (yC 52 (by omega)) 4)⟩ ?_
    have hrow := hI.2.1
    unfold RowOk at hrow ⊢
    rw [d2, yF.1, x2, dC 1 (by omega) (by omega), yC 1 (by omega), d52 6 (by omega), yC 52 (by omega)]
    exact hrow
  refine lp_p (σ := Mem) (X := fx LPl (d + 11) m_X10_needs (qI (fun r M1 => exI LPl (d + 12) 231 [.ref 52] M1 (fun r2 M2 => r2 = r ∧ Inv (t + 1) M2)))) (fun n Y => (12, [none, some (.ref 65), some (.int (gC (M.1 53) (rcN (M.1 53)))), some (.int (nI n))], [], Y)) (fun n Y => CF X Y ∧ ∀ m, m < n → ¬ ndP (M.1 53) m) 7 (fun n Y hn hP hx => ?_) (fun Y hP => ?_) X ⟨⟨rfl, fun _ _ _ => rfl, fun _ _ _ => rfl⟩, fun m hm => by omega⟩
  · obtain ⟨yF, hno⟩ := hP
    have yG : GOk (M.1 53) (RLs (M.1 53)) Y := by
      refine ⟨(yF.2.2 3 (by omega) (by omega)).trans xG.1, (yF.2.2 8 (by omega) (by omega)).trans xG.2.1, fun i hi => ?_⟩
      rw [yF.2.1 66 (by omega) (by omega), yF.2.1 67 (by omega) (by omega), yF.2.1 69 (by omega) (by omega)]
      exact xG.2.2 i hi
    have yT : AllTab (M.1 53) (rcN (M.1 53)) (RLs (M.1 53)) (Y.1 70) (RLs (M.1 53)).length := by rw [yF.2.1 70 (by omega) (by omega)]; exact xT
    refine c_X10_needs_12 (br_f (nI_nlt (by omega) (by omega)) (s_choose (M := Y) (r := rcN (M.1 53)) (n := n) hv.1 hL (by omega) yG yT (by omega) (fun Z zF z4 z5 z68 => ?_)))
    have zX : CF X Z := ⟨zF.1.trans yF.1, fun c h1 h2 => (zF.2.1 c h1 h2).trans (yF.2.1 c h1 h2), fun j h1 h2 => (zF.2.2 j h1 h2).trans (yF.2.2 j h1 h2)⟩
    have z5 : Z.1 65 5 = nI (cvM (M.1 53) (rcN (M.1 53)) (fk (GLs (M.1 53) n) 0)) := z5
    rw [z5, nI_add n 1]
    refine ⟨fun c => hx Z ⟨zX, fun m hm => ?_⟩, fun c => ?_⟩
    · by_cases q : m = n
      · subst q; exact c
      · exact hno m (by omega)
    · have := fin Z n zX (by omega) hno (Or.inr c)
      rw [if_neg (by omega)] at this
      exact this
  · obtain ⟨yF, hno⟩ := hP
    have := fin Y 7 yF (by omega) hno (Or.inl rfl)
    rw [if_pos rfl] at this
    exact c_X10_needs_12 (br_t (nI_lt (by omega) (by omega)) this)
end S56
