/-! moves, needs, up WHERE THE PLANNER IS MADE: what planned() does behind the making (exP), what they do behind planned() -/
def exP (d : Nat) (M : Mem) (Q : Mem → Prop) : Prop := exV LPl d 49 [.ref 0] M (fun M1 => exV LPl d 90 [.ref 65, .ref 15, .ref 43] M1 Q)
section S83
variable {d : Nat} {M : Mem} {t : Nat}
theorem s_planned0 {Q : Mem → Prop} {w : Nat → Int32} (hv : V w t) (hr : RC 15 M w) (h : ∀ B F o t', PF (lkC M w) B → GOk w (RLs w) B → AllTab w (rcN w) (RLs w) F (RLs w).length → Q (pM (sa B 70 F) o t')) : exP (d + 5) M Q := by
  refine s_lk hv hr (s_prepareT (M := lkC M w) hv hr ?_ h)
  exact (lk44 M w (rcN w)).symm
def KMv (d t : Nat) (x : Int32) (M1 : Mem) : Prop := exV LPl (d + 11) 96 [.ref 65, .int x] M1 (fun M2 => exV LPl (d + 11) 111 [.ref 1, .long (Int32.toInt64 (M2.1 65 4))] M2 (fun M3 => fx LPl (d + 11) m_X10_moves (qI (fun r M1 => exI LPl (d + 12) 223 [.ref 52, .int x] M1 (fun r2 M2 => r2 = r ∧ Inv (t + 1) M2))) (36, [some (.ref 0), none, some (.ref 65), some (.int (nI 0))], [], M3)))
def KUp (d t : Nat) (x : Int32) (M1 : Mem) : Prop := exI LPl (d + 11) 127 [.ref 15] M1 (fun r2 M2 => exV LPl (d + 11) 96 [.ref 65, .int (if r2 < x then r2 else x)] M2 (fun M3 => fx LPl (d + 11) m_X10_up (qI (fun r M1 => exI LPl (d + 12) 227 [.ref 52, .int x] M1 (fun r2 M2 => r2 = r ∧ Inv (t + 1) M2))) (37, [some (.ref 0), none, some (.ref 65), some (.int (nI 0)), some (.int (nI 0))], [], M3)))
def KNe (d t : Nat) (M1 : Mem) : Prop := exI LPl (d + 11) 52 [.ref 0] M1 (fun r2 M2 => fx LPl (d + 11) m_X10_needs (qI (fun r M1 => exI LPl (d + 12) 231 [.ref 52] M1 (fun r2 M2 => r2 = r ∧ Inv (t + 1) M2))) (12, [none, some (.ref 65), some (.int r2), some (.int (nI 0))], [], M2))
theorem nv_moves {x : Int32} (h : Inv t M) (ht : t < 512) (c : ¬ x < 0) (c2 : x ≤ nI 6) : exP (d + 10) M (KMv d t x) := by
  unfold KMv
  have hI := h.up (t' := t + 1) (by omega) (by omega)
  obtain ⟨⟨hv, hr⟩, -⟩ := h
  have n6 := hv.2.1.1.2
  have s8 := hv.1.1.2
  obtain ⟨n, hn, e⟩ := z_0 c (by omega) c2
  subst e
  have hl : (RLs (M.1 53)).length ≤ eN (M.1 53) := rlk_len (M.1 53) (eN (M.1 53))
  have hL : ∀ e, e ∈ RLs (M.1 53) → po (M.1 53) e < sN (M.1 53) := rlk_po hv (Nat.le_refl _)
  refine s_planned0 hv hr (fun B F o t' bF bG bT => ?_)
  refine s_choose (M := pM (sa B 70 F) o t') (r := rcN (M.1 53)) (n := n) hv.1 hL (by omega) bG bT hn (fun Y yF y4 y5 y68 => ?_)
  have hR := mvR_le hv n
  have hgg : g2 (M.1 53) (RLs (M.1 53)) (GLs (M.1 53) n) := (PP_val (r := rcN (M.1 53)) (RLs (M.1 53)) n 0 hL).2
  have gl := g2_len _ _ hgg
  have y4 : Y.1 65 4 = nI (mns (M.1 53) (RLs (M.1 53)) (GLs (M.1 53) n)) := y4
  have y5 : Y.1 65 5 = nI (cvM (M.1 53) (rcN (M.1 53)) (fk (GLs (M.1 53) n) 0)) := y5
  have y68 : ∀ i, i < (RLs (M.1 53)).length → Y.1 68 i = nI (ix (GLs (M.1 53) n) i) := y68
  have yC : ∀ c, (c < 43 ∨ (46 ≤ c ∧ c < 65)) → Y.1 c = M.1 c := fun c hc => by
    rw [yF.2.1 c (by omega) (by omega)]
    unfold pM
    rw [si_c (by omega), si_c (by omega), sa_n (by omega), bF.2 c (by omega) (by omega) (by omega) (by omega)]
    unfold lkC
    rw [sa_n (by omega)]
  have y2 : Y.2 = M.2 := yF.1.trans bF.1
  have y3 : Y.1 65 3 = nI (RLs (M.1 53)).length := (yF.2.2 3 (by omega) (by omega)).trans bG.1
  have y66 : ∀ i, i < (RLs (M.1 53)).length → Y.1 66 i = nI (ix (RLs (M.1 53)) i) ∧ Y.1 67 i = nI (po (M.1 53) (ix (RLs (M.1 53)) i)) := fun i hi => by
    rw [yF.2.1 66 (by omega) (by omega), yF.2.1 67 (by omega) (by omega)]
    exact ⟨(bG.2.2 i hi).1, (bG.2.2 i hi).2.1⟩
  have hgm : ∀ i, i < (RLs (M.1 53)).length → ix (GLs (M.1 53) n) i < sN (M.1 53) := by
    have : ∀ (L gs : List Nat), g2 (M.1 53) L gs → ∀ i, i < L.length → ix gs i < sN (M.1 53) := by
      intro L
      induction L with
      | nil => intro gs _ i hi; cases hi
      | cons e L ih =>
        intro gs hg i hi
        cases gs with
        | nil => exact hg.elim
        | cons s gs =>
          cases i with
          | zero => exact hg.1.1
          | succ i => exact ih gs hg.2 i (by have : (e :: L).length = L.length + 1 := rfl; omega)
    exact this _ _ hgg
  rw [y4]
  refine s_tell1 ?_
  have st := lp_p (σ := Nat × (Nat → Int64)) (X := fx LPl (d + 11) m_X10_moves (qI (fun r M1 => exI LPl (d + 12) 223 [.ref 52, .int (nI n)] M1 (fun r2 M2 => r2 = r ∧ Inv (t + 1) M2)))) (fun i σ => (36, [some (.ref 0), none, some (.ref 65), some (.int (nI i))], [], rwC Y σ.1 σ.2)) (fun i σ => rowS (M.1 53) ((RLs (M.1 53)).drop i) ((GLs (M.1 53) n).drop i) σ = mvR (M.1 53) n) (RLs (M.1 53)).length (fun i σ hi hP hx => ?_) (fun σ hP => ?_) (1, fun _ => (nI (mns (M.1 53) (RLs (M.1 53)) (GLs (M.1 53) n))).toInt64) rfl
  · exact st
  · obtain ⟨k, g⟩ := σ
    dsimp only at hP ⊢
    refine c_X10_moves_36 ?_
    have r3 : (rwC Y k g).1 65 3 = nI (RLs (M.1 53)).length := y3
    have r68 : ∀ k g, (rwC Y k g).1 68 i = nI (ix (GLs (M.1 53) n) i) := fun k g => y68 i hi
    have r66 : (rwC Y k g).1 66 i = nI (ix (RLs (M.1 53)) i) := (y66 i hi).1
    have r67 : (rwC Y k g).1 67 i = nI (po (M.1 53) (ix (RLs (M.1 53)) i)) := (y66 i hi).2
    have pl' := hL _ (ix_mem _ i hi)
    have gi := hgm i hi
    have v6 := (z_in (n := i) (N := 6) (by omega) (by omega)).mpr (by omega)
    rw [ix_drop _ i hi, ix_drop (GLs (M.1 53) n) i (by omega)] at hP
    rw [r3, z_cl (by omega), r68, r66, r67, z_eq (by omega) (by omega), nI_add i 1]
    have hP : rowS (M.1 53) ((RLs (M.1 53)).drop (i + 1)) ((GLs (M.1 53) n).drop (i + 1)) (if ix (GLs (M.1 53) n) i = po (M.1 53) (ix (RLs (M.1 53)) i) then (k, g) else (k + 2, vp_updL (vp_updL g k (nI (ix (RLs (M.1 53)) i)).toInt64) (k + 1) (nI (ix (GLs (M.1 53) n) i)).toInt64)) = mvR (M.1 53) n := hP
    refine br_f (nI_ge hi (by omega)) ⟨v6, v6, fun c => ?_, fun c => ⟨v6, ?_⟩⟩
    · rw [if_pos c] at hP
      exact hx (k, g) hP
    · rw [if_neg c] at hP
      have hk := (rowS_le (M.1 53) ((RLs (M.1 53)).drop (i + 1)) ((GLs (M.1 53) n).drop (i + 1)) (k + 2, vp_updL (vp_updL g k (nI (ix (RLs (M.1 53)) i)).toInt64) (k + 1) (nI (ix (GLs (M.1 53) n) i)).toInt64)).2
      rw [hP] at hk
      dsimp only at hk
      refine s_addU (by omega) ⟨v6, ?_⟩
      rw [r68]
      refine s_addU (by omega) ?_
      exact hx (k + 1 + 1, vp_updL (vp_updL g k (nI (ix (RLs (M.1 53)) i)).toInt64) (k + 1) (nI (ix (GLs (M.1 53) n) i)).toInt64) hP
  · obtain ⟨k, g⟩ := σ
    dsimp only at hP ⊢
    rw [List.drop_length] at hP
    have hP : (k, g) = mvR (M.1 53) n := by rw [← hP]; cases (GLs (M.1 53) n).drop (RLs (M.1 53)).length <;> rfl
    have e1 : k = (mvR (M.1 53) n).1 := by rw [← hP]
    have e2 : g = (mvR (M.1 53) n).2 := by rw [← hP]
    refine c_X10_moves_36 ?_
    have r3 : (rwC Y k g).1 65 3 = nI (RLs (M.1 53)).length := y3
    have r5 : (rwC Y k g).1 65 5 = nI (cvM (M.1 53) (rcN (M.1 53)) (fk (GLs (M.1 53) n) 0)) := y5
    rw [r3, r5]
    refine br_t (nI_le (Nat.le_refl _) (by omega)) ?_
    generalize hC : rwC Y k g = C
    have cC : ∀ c, c ≠ 1 → (c < 43 ∨ (46 ≤ c ∧ c < 65)) → C.1 c = M.1 c := fun c h1 h2 => by
      rw [← hC]
      show (si _ 1 1 _).1 c = _
      rw [si_c h1]
      exact yC c h2
    have c53 : C.1 53 = M.1 53 := cC 53 (by omega) (by omega)
    refine m_moves (t := t) (M := C) (by rw [c53]; exact hv) hn (fun A aC a52 a2 => ?_)
    rw [c53]
    refine ⟨rfl, ?_⟩
    generalize hD : rwM A (mvR (M.1 53) n).1 (mvR (M.1 53) n).2 = D
    have dC : ∀ c, c < 58 → c ≠ 52 → D.1 c = C.1 c := fun c h1 h2 => by
      rw [← hD]
      show (si _ 52 6 _).1 c = _
      rw [si_c h2]
      exact aC c h1 h2
    have d52 : ∀ j, j < 6 → D.1 52 j = M.1 52 j := fun j h1 => by
      rw [← hD]
      show (si _ 52 6 _).1 52 j = _
      rw [si_s, upd_ne (by omega)]
      show A.1 52 j = _
      rw [a52 j (by omega), cC 52 (by omega) (by omega)]
    refine Inv_step (A := M) (B := M) (w := M.1 53) hI (Fr15.rfl' M) hI.1.1 hI.1.2 ((dC 53 (by omega) (by omega)).trans c53) (fun i h1 h2 => (dC i (by omega) (by omega)).trans (cC i h1 (by omega))) ⟨d52 2 (by omega), d52 4 (by omega)⟩ ?_
    refine rows_ok (B := Y) (C := A) (n := (mvR (M.1 53) n).1) (g := (mvR (M.1 53) n).2) (g' := (mvR (M.1 53) n).2) hR ?_ ?_ ?_ ?_ (fun j hj => rfl)
    · rw [dC 1 (by omega) (by omega), ← hC, e1]; rfl
    · rw [← hD]; rfl
    · rw [← hD]
      show A.2 2 = _
      rw [a2, ← hC, e1, e2]
    · rw [← hD]
theorem nv_needs (h : Inv t M) (ht : t < 512) : exP (d + 10) M (KNe d t) := by
  unfold KNe
  have hI := h.up (t' := t + 1) (by omega) (by omega)
  obtain ⟨⟨hv, hr⟩, -⟩ := h
  have n6 := hv.2.1.1.2
  have s8 := hv.1.1.2
  have hl : (RLs (M.1 53)).length ≤ eN (M.1 53) := rlk_len (M.1 53) (eN (M.1 53))
  have hL : ∀ e, e ∈ RLs (M.1 53) → po (M.1 53) e < sN (M.1 53) := rlk_po hv (Nat.le_refl _)
  refine s_planned0 hv hr (fun B F o t' bF bG bT => ?_)
  have rB : RC 15 (pM (sa B 70 F) o t') (M.1 53) := RC_cells (A := M) (fun c h1 h2 => by
    unfold pM
    rw [si_c (by omega), si_c (by omega), sa_n (by omega), bF.2 c (by omega) (by omega) (by omega) (by omega)]
    unfold lkC
    rw [sa_n (by omega)]) hr
  refine s_greatestC (M := pM (sa B 70 F) o t') hv rB (fun o2 t2 => ?_)
  generalize hX : pM (lkC (pM (sa B 70 F) o t') (M.1 53)) o2 t2 = X
  have xG : GOk (M.1 53) (RLs (M.1 53)) X := by rw [← hX]; exact bG
  have xT : AllTab (M.1 53) (rcN (M.1 53)) (RLs (M.1 53)) (X.1 70) (RLs (M.1 53)).length := by rw [← hX]; exact bT
  have xC : ∀ c, (c < 43 ∨ (46 ≤ c ∧ c < 65)) → X.1 c = M.1 c := fun c hc => by
    rw [← hX]
    unfold pM
    rw [si_c (by omega), si_c (by omega)]
    unfold lkC
    rw [sa_n (by omega), si_c (by omega), si_c (by omega), sa_n (by omega), bF.2 c (by omega) (by omega) (by omega) (by omega)]
    unfold lkC
    rw [sa_n (by omega)]
  have x2 : X.2 = M.2 := by rw [← hX]; exact bF.1
  clear hX
  -- the end, whatever was found
  have fin : ∀ (Y : Mem) (N : Nat), CF X Y → N ≤ 7 → (∀ n, n < N → ¬ ndP (M.1 53) n) → (N = 7 ∨ ndP (M.1 53) N) → exI LPl (d + 12) 231 [.ref 52] Y (fun r2 M2 => r2 = (if N = 7 then -2 else nI N) ∧ Inv (t + 1) M2) := by
    intro Y N yF hN hno hend
    have yC : ∀ c, (c < 43 ∨ (46 ≤ c ∧ c < 65)) → Y.1 c = M.1 c := fun c hc => (yF.2.1 c (by omega) (by omega)).trans (xC c hc)
    have y53 : Y.1 53 = M.1 53 := yC 53 (by omega)
    refine m_needs (t := t) (M := Y) (by rw [y53]; exact hv) N hN (by rw [y53]; exact hno) (by rw [y53]; exact hend) (fun D dC d52 d2 => ⟨rfl, ?_⟩)
    refine Inv_step (A := M) (B := M) (w := M.1 53) hI (Fr15.rfl' M) hI.1.1 hI.1.2 ((dC 53 (by omega) (by omega)).trans y53) (fun i h1 h2 => (dC i (by omega) (by omega)).trans (yC i (by omega))) ⟨(d52 2 (by omega)).trans (congrFun (yC 52 (by omega)) 2), (d52 4 (by omega)).trans (congrFun (yC 52 (by omega)) 4)⟩ ?_
    have hrow := hI.2.1
    unfold RowOk at hrow ⊢
    rw [d2, yF.1, x2, dC 1 (by omega) (by omega), yC 1 (by omega), d52 6 (by omega), yC 52 (by omega)]
    exact hrow
  refine lp_p (σ := Mem) (X := fx LPl (d + 11) m_X10_needs (qI (fun r M1 => exI LPl (d + 12) 231 [.ref 52] M1 (fun r2 M2 => r2 = r ∧ Inv (t + 1) M2)))) (fun n Y => (12, [none, some (.ref 65), some (.int (gC (M.1 53) (rcN (M.1 53)))), some (.int (nI n))], [], Y)) (fun n Y => CF X Y ∧ ∀ m, m < n → ¬ ndP (M.1 53) m) 7 (fun n Y hn hP hx => ?_) (fun Y hP => ?_) X ⟨⟨rfl, fun _ _ _ => rfl, fun _ _ _ => rfl⟩, fun m hm => by omega⟩
  · obtain ⟨yF, hno⟩ := hP
    have yG : GOk (M.1 53) (RLs (M.1 53)) Y := by
      refine ⟨(yF.2.2 3 (by omega) (by omega)).trans xG.1, (yF.2.2 8 (by omega) (by omega)).trans xG.2.1, fun i hi => ?_⟩
      rw [yF.2.1 66 (by omega) (by omega), yF.2.1 67 (by omega) (by omega), yF.2.1 69 (by omega) (by omega)]
      exact xG.2.2 i hi
    have yT : AllTab (M.1 53) (rcN (M.1 53)) (RLs (M.1 53)) (Y.1 70) (RLs (M.1 53)).length := by rw [yF.2.1 70 (by omega) (by omega)]; exact xT
    refine c_X10_needs_12 (br_f (nI_nlt (by omega) (by omega)) (s_choose (M := Y) (r := rcN (M.1 53)) (n := n) hv.1 hL (by omega) yG yT (by omega) (fun Z zF z4 z5 z68 => ?_)))
    have zX : CF X Z := ⟨zF.1.trans yF.1, fun c h1 h2 => (zF.2.1 c h1 h2).trans (yF.2.1 c h1 h2), fun j h1 h2 => (zF.2.2 j h1 h2).trans (yF.2.2 j h1 h2)⟩
    have z5 : Z.1 65 5 = nI (cvM (M.1 53) (rcN (M.1 53)) (fk (GLs (M.1 53) n) 0)) := z5
    rw [z5, nI_add n 1]
    refine ⟨fun c => hx Z ⟨zX, fun m hm => ?_⟩, fun c => ?_⟩
    · by_cases q : m = n
      · subst q; exact c
      · exact hno m (by omega)
    · have := fin Z n zX (by omega) hno (Or.inr c)
      rw [if_neg (by omega)] at this
      exact this
  · obtain ⟨yF, hno⟩ := hP
    have := fin Y 7 yF (by omega) hno (Or.inl rfl)
    rw [if_pos rfl] at this
    exact c_X10_needs_12 (br_t (nI_lt (by omega) (by omega)) this)
theorem nv_up {x : Int32} (h : Inv t M) (ht : t < 512) (c : ¬ x < 0) (c2 : x ≤ nI 6) : exP (d + 10) M (KUp d t x) := by
  unfold KUp
  have hI := h.up (t' := t + 1) (by omega) (by omega)
  obtain ⟨⟨hv0, hr⟩, -⟩ := h
  have hv := hI.1.1
  have hB : bN (M.1 53) ≤ 6 * t := hv0.2.2.2.2.1.2
  have n6 := hv.2.1.1.2
  have s8 := hv.1.1.2
  have hlm : lmN (M.1 53) ≤ 20 := hv.2.2.1.2.2.2
  have hmv : mvN (M.1 53) ≤ lmN (M.1 53) := by unfold mvN; omega
  obtain ⟨n, hn, e⟩ := z_0 c (by omega) c2
  subst e
  generalize hw : M.1 53 = w0 at *
  have hl : (RLs w0).length ≤ eN w0 := rlk_len w0 (eN w0)
  have hL : ∀ e, e ∈ RLs w0 → po w0 e < sN w0 := rlk_po hv (Nat.le_refl _)
  have hLe : ∀ e, e ∈ RLs w0 → e < eN w0 := fun e he => (rlk_mem (eN w0) (Nat.le_refl _) e he).1
  refine s_planned0 hv hr (fun B F o t' bF bG bT => ?_)
  have xC : ∀ c, (c < 43 ∨ (46 ≤ c ∧ c < 65)) → (pM (sa B 70 F) o t').1 c = M.1 c := fun c hc => by
    unfold pM
    rw [si_c (by omega), si_c (by omega), sa_n (by omega), bF.2 c (by omega) (by omega) (by omega) (by omega)]
    unfold lkC
    rw [sa_n (by omega)]
  have xR : RC 15 (pM (sa B 70 F) o t') w0 := RC_cells (A := M) (fun c h1 h2 => xC c (by omega)) hr
  refine s_mayC (t := t + 1) hv (by omega) xR ?_
  rw [nI_min n (mvN w0) (by omega) (by omega)]
  generalize hn' : min n (mvN w0) = n'
  have hn6 : n' ≤ 6 := by omega
  refine s_choose (M := pM (sa B 70 F) o t') (r := rcN w0) (n := n') hv.1 hL (by omega) bG bT hn6 (fun Y yF y4 y5 y68 => ?_)
  have hgg : g2 w0 (RLs w0) (GLs w0 n') := (PP_val (r := rcN w0) (RLs w0) n' 0 hL).2
  have gl := g2_len _ _ hgg
  have z5g : Y.1 65 5 = nI (cvM w0 (rcN w0) (fk (GLs w0 n') 0)) := y5
  have z68g : ∀ i, i < (RLs w0).length → Y.1 68 i = nI (ix (GLs w0 n') i) := y68
  have yC : ∀ c, (c < 43 ∨ (46 ≤ c ∧ c < 65)) → Y.1 c = M.1 c := fun c hc => (yF.2.1 c (by omega) (by omega)).trans (xC c hc)
  have y2 : Y.2 = M.2 := yF.1.trans bF.1
  have yG : GOk w0 (RLs w0) Y := by
    refine ⟨(yF.2.2 3 (by omega) (by omega)).trans bG.1, (yF.2.2 8 (by omega) (by omega)).trans bG.2.1, fun i hi => ?_⟩
    rw [yF.2.1 66 (by omega) (by omega), yF.2.1 67 (by omega) (by omega), yF.2.1 69 (by omega) (by omega)]
    exact bG.2.2 i hi
  have yR : RC 15 Y w0 := RC_cells (A := M) (fun c h1 h2 => yC c (by omega)) hr
  generalize hgs : GLs w0 n' = gs at *
  generalize hLL : RLs w0 = L at *
  refine lp_p (σ := Mem × (Nat → Int32) × Nat) (X := fx LPl (d + 11) m_X10_up (qI (fun r M1 => exI LPl (d + 12) 227 [.ref 52, .int (nI n)] M1 (fun r2 M2 => r2 = r ∧ Inv (t + 1) M2)))) (fun i σ => (37, [some (.ref 0), none, some (.ref 65), some (.int (nI σ.2.2)), some (.int (nI i))], [], σ.1)) (fun i σ => (Fr15 Y σ.1 ∧ RC 15 σ.1 σ.2.1 ∧ V σ.2.1 (t + 1) ∧ bN σ.2.1 + (L.length - i) ≤ 6 * (t + 1) ∧ eN σ.2.1 = eN w0 ∧ sN σ.2.1 = sN w0 ∧ rcN σ.2.1 = rcN w0) ∧ mvS w0 (L.drop i) (gs.drop i) σ.2.1 = mvS w0 L gs w0 ∧ σ.2.2 + mvd w0 (L.drop i) (gs.drop i) = mvd w0 L gs) L.length (fun i σ hi hP hx => ?_) (fun σ hP => ?_) (Y, w0, 0) ⟨⟨Fr15.rfl' Y, yR, hv, by show bN w0 + (L.length - 0) ≤ 6 * (t + 1); omega, rfl, rfl, rfl⟩, rfl, by show 0 + mvd w0 L gs = _; omega⟩
  · obtain ⟨Z, w, k⟩ := σ
    obtain ⟨⟨f1, f2, f3, f4, f5, f6, f7⟩, h1, h2⟩ := hP
    dsimp only at f1 f2 f3 f4 f5 f6 f7 h1 h2 ⊢
    have zG : GOk w0 L Z := by
      refine ⟨(congrFun (f1.2 65 (by omega)) 3).trans yG.1, (congrFun (f1.2 65 (by omega)) 8).trans yG.2.1, fun i hi => ?_⟩
      rw [f1.2 66 (by omega), f1.2 67 (by omega), f1.2 69 (by omega)]
      exact yG.2.2 i hi
    obtain ⟨b1, b2, -⟩ := zG.2.2 i hi
    have z68 : Z.1 68 i = nI (ix gs i) := (congrFun (f1.2 68 (by omega)) i).trans (z68g i hi)
    have pl' := hL _ (ix_mem L i hi)
    have el := hLe _ (ix_mem L i hi)
    obtain ⟨gi, gv'⟩ := ix_g2 L gs hgg i hi
    have v6 := (z_in (n := i) (N := 6) (by omega) (by omega)).mpr (by omega)
    rw [ix_drop L i hi, ix_drop gs i (by omega)] at h1 h2
    have h1 : mvS w0 (L.drop (i + 1)) (gs.drop (i + 1)) (if ix gs i = po w0 (ix L i) then w else mvW w (ix L i) (ix gs i) (wy w0 (ix L i) (ix gs i))) = mvS w0 L gs w0 := h1
    have h2 : k + ((if ix gs i = po w0 (ix L i) then 0 else 1) + mvd w0 (L.drop (i + 1)) (gs.drop (i + 1))) = mvd w0 L gs := h2
    refine c_X10_up_37 ?_
    rw [zG.1, z_cl (by omega), z68, b1, b2, z_eq (by omega) (by omega), nI_add i 1, nI_add k 1]
    refine br_f (nI_ge hi (by omega)) ⟨v6, v6, fun c => ?_, fun c => ⟨v6, v6, v6, s_wayTo zG (by omega) s8 hi gi ?_⟩⟩
    · rw [if_pos c] at h1 h2
      refine hx (Z, w, k) ⟨⟨f1, f2, f3, ?_, f5, f6, f7⟩, h1, ?_⟩
      · show bN w + (L.length - (i + 1)) ≤ 6 * (t + 1); omega
      · show k + mvd w0 (L.drop (i + 1)) (gs.drop (i + 1)) = _; omega
    · rw [if_neg c] at h1 h2
      have z2 := (hv.1.2.2.2.1 _ pl').2
      have y2' := (hv.1.2.2.2.1 _ gi).2
      have hne : sp w0 (po w0 (ix L i)) ≠ sp w0 (ix gs i) := fun z => c (hv.1.2.2.2.2.1 _ _ pl' gi z).symm
      have dp : 1 ≤ wy w0 (ix L i) (ix gs i) := dist_pos w0 hne
      have dl : wy w0 (ix L i) (ix gs i) ≤ 999 := dist_le hv.1.2.2.2.2.2.1 z2 y2'
      refine s_move (t := t + 1) f3 (by omega) f2 (by rw [f5]; exact el) (by rw [f6]; exact gi) (by omega) dp dl (fun Z' zF' zR' => ?_)
      obtain ⟨V1, B1⟩ := mvW_V (e := ix L i) (s := ix gs i) (way := wy w0 (ix L i) (ix gs i)) f3 (by omega) (by rw [f5]; exact el) (by rw [f6]; exact gi) (by omega)
      refine hx (Z', mvW w (ix L i) (ix gs i) (wy w0 (ix L i) (ix gs i)), k + 1) ⟨⟨f1.trans' zF', zR', V1, ?_, ?_, ?_, ?_⟩, h1, ?_⟩
      · show bN (mvW w (ix L i) (ix gs i) (wy w0 (ix L i) (ix gs i))) + (L.length - (i + 1)) ≤ 6 * (t + 1); omega
      · show eN (mvW w _ _ _) = _
        unfold eN; rw [mvW_ne (by omega) (by omega) (by omega) (by omega) (by omega)]; exact f5
      · show sN (mvW w _ _ _) = _
        unfold sN; rw [mvW_ne (by omega) (by omega) (by omega) (by omega) (by omega)]; exact f6
      · show rcN (mvW w _ _ _) = _
        unfold rcN; rw [mvW_ne (by omega) (by omega) (by omega) (by omega) (by omega)]; exact f7
      · show k + 1 + mvd w0 (L.drop (i + 1)) (gs.drop (i + 1)) = _; omega
  · obtain ⟨Z, w, k⟩ := σ
    obtain ⟨⟨f1, f2, f3, f4, f5, f6, f7⟩, h1, h2⟩ := hP
    dsimp only at f1 f2 f3 f4 f5 f6 f7 h1 h2 ⊢
    rw [List.drop_length] at h1 h2
    have h1 : w = mvS w0 L gs w0 := by rw [← h1]; cases gs.drop L.length <;> rfl
    have h2 : k = mvd w0 L gs := by rw [← h2]; cases gs.drop L.length <;> rfl
    have z3 : Z.1 65 3 = nI L.length := (congrFun (f1.2 65 (by omega)) 3).trans yG.1
    have z5 : Z.1 65 5 = nI (cvM w0 (rcN w0) (fk gs 0)) := (congrFun (f1.2 65 (by omega)) 5).trans z5g
    refine c_X10_up_37 ?_
    rw [z3, z5]
    refine br_t (nI_le (Nat.le_refl _) (by omega)) (s_coverNow (t := t + 1) f3 f2 (s_tell2 ?_))
    rw [f7]
    generalize hC : rwC (pM (sa Z 44 (nA w (rcN w0) (Z.1 44))) (cvO w (rcN w0)) (cvT w (rcN w0))) 2 (fun j => if j = 0 then (nI (cvM w0 (rcN w0) (fk gs 0))).toInt64 else (CV w (rcN w0)).toInt64) = C
    have cC : ∀ c, c ≠ 1 → (c < 43 ∨ (46 ≤ c ∧ c < 65)) → C.1 c = Z.1 c := fun c g1 g2' => by
      rw [← hC]
      show (si _ 1 1 _).1 c = _
      rw [si_c g1]
      show (pM _ _ _).1 c = _
      unfold pM
      rw [si_c (by omega), si_c (by omega), sa_n (by omega)]
    have c53 : C.1 53 = w0 := (cC 53 (by omega) (by omega)).trans ((f1.2 53 (by omega)).trans ((yC 53 (by omega)).trans hw))
    have c52 : C.1 52 = M.1 52 := (cC 52 (by omega) (by omega)).trans ((f1.2 52 (by omega)).trans (yC 52 (by omega)))
    refine m_up (t := t + 1) (M := C) (by rw [c53]; exact hv) (by omega) (by rw [c53]; omega) hn ?_
    rw [c53, hn', hLL, hgs]
    refine fun A aC a52 a2 a53 => ?_
    refine ⟨by rw [h2], ?_⟩
    rw [← h1]
    generalize hD : rwM A 2 (fun j => if j = 0 then (nI (cvM w0 (rcN w0) (fk gs 0))).toInt64 else (CV w (rcN w0)).toInt64) = D
    have dC : ∀ c, c < 58 → c ≠ 52 → c ≠ 53 → D.1 c = C.1 c := fun c g1 g2' g3 => by
      rw [← hD]
      show (si _ 52 6 _).1 c = _
      rw [si_c g2']
      exact aC c g1 g2' g3
    have d53 : D.1 53 = w := by
      rw [← hD]
      show A.1 53 = w
      rw [a53, h1]
    have d52 : ∀ j, j < 6 → D.1 52 j = M.1 52 j := fun j g1 => by
      rw [← hD]
      show (si _ 52 6 _).1 52 j = _
      rw [si_s, upd_ne (by omega)]
      show A.1 52 j = _
      rw [a52 j (by omega), c52]
    -- the class's world, the rest as it was
    have bW : Fr15 M ((fun c => if 15 ≤ c ∧ c ≤ 28 then Z.1 c else M.1 c, M.2) : Mem) := ⟨rfl, fun c hc => if_neg (by omega)⟩
    have bW2 : RC 15 ((fun c => if 15 ≤ c ∧ c ≤ 28 then Z.1 c else M.1 c, M.2) : Mem) w := RC_cells (A := Z) (fun c g1 g2' => if_pos (by omega)) f2
    refine Inv_step (A := M) (B := ((fun c => if 15 ≤ c ∧ c ≤ 28 then Z.1 c else M.1 c, M.2) : Mem)) (w := w) hI bW f3 bW2 d53 (fun i g1 g2' => ?_) ⟨d52 2 (by omega), d52 4 (by omega)⟩ ?_
    · rw [dC i (by omega) (by omega) (by omega), cC i g1 (by omega)]
      show Z.1 i = if 15 ≤ i ∧ i ≤ 28 then Z.1 i else M.1 i
      by_cases q : 15 ≤ i ∧ i ≤ 28
      · rw [if_pos q]
      · rw [if_neg q, f1.2 i (by omega), yC i (by omega)]
    · refine rows_ok (B := pM (sa Z 44 (nA w (rcN w0) (Z.1 44))) (cvO w (rcN w0)) (cvT w (rcN w0))) (C := A) (n := 2) (g := fun j => if j = 0 then (nI (cvM w0 (rcN w0) (fk gs 0))).toInt64 else (CV w (rcN w0)).toInt64) (g' := fun j => if j = 0 then (nI (cvM w0 (rcN w0) (fk gs 0))).toInt64 else (CV w (rcN w0)).toInt64) (by omega) ?_ ?_ ?_ ?_ (fun j hj => rfl)
      · rw [dC 1 (by omega) (by omega) (by omega), ← hC]; rfl
      · rw [← hD]; rfl
      · rw [← hD]
        show A.2 2 = _
        rw [a2, ← hC]
      · rw [← hD]
/-- the frames behind planned() -/
theorem fr_moves {x : Int32} {Q : Int32 → Mem → Prop} (h : exV LPl d 96 [.ref 65, .int x] M (fun M2 => exV LPl d 111 [.ref 1, .long (Int32.toInt64 (M2.1 65 4))] M2 (fun M3 => fx LPl d m_X10_moves (qI Q) (36, [some (.ref 0), none, some (.ref 65), some (.int (nI 0))], [], M3)))) : fx LPl d m_X10_moves (qI Q) (16, [some (.ref 0), some (.int x), none, none], [.ref 65], M) :=
  fx_astore_n rfl rfl (fx_aload_n rfl rfl (fx_iload_n rfl rfl (fx_cvV rfl rfl rfl (Nat.le_of_ble_eq_true rfl) rfl (ex_mono MT _ _ _ _ _ _ _ (fun _ M2 ⟨he, h⟩ => ⟨he, fx_aload_n rfl rfl (fx_getR rfl rfl rfl (fx_aload_n rfl rfl (fx_getI (v := (M2.1 65 4)) rfl rfl rfl rfl (fx_i2l rfl (fx_cvV rfl rfl rfl (Nat.le_of_ble_eq_true rfl) rfl (ex_mono MT _ _ _ _ _ _ _ (fun _ M3 ⟨he, h⟩ => ⟨he, fx_iconst (v := (nI 0)) rfl rfl (fx_istore_n rfl rfl (fx_cut (by exact ⟨rfl, rfl, rfl, trivial⟩) h))⟩) h))))))⟩) h))))
theorem fr_up {x : Int32} {Q : Int32 → Mem → Prop} (h : exI LPl d 127 [.ref 15] M (fun r2 M2 => exV LPl d 96 [.ref 65, .int (if r2 < x then r2 else x)] M2 (fun M3 => fx LPl d m_X10_up (qI Q) (37, [some (.ref 0), none, some (.ref 65), some (.int (nI 0)), some (.int (nI 0))], [], M3)))) : fx LPl d m_X10_up (qI Q) (16, [some (.ref 0), some (.int x), none, none, none], [.ref 65], M) :=
  fx_astore_n rfl rfl (fx_aload_n rfl rfl (fx_iload_n rfl rfl (fx_aload_n rfl rfl (fx_getR rfl rfl rfl (fx_cvI rfl rfl rfl (Nat.le_of_ble_eq_true rfl) rfl (ex_mono MT _ _ _ _ _ _ _ (fun _ M2 ⟨r2, he, h⟩ => ⟨r2, he, fx_min rfl rfl (Nat.le_of_ble_eq_true rfl) (fx_cvV rfl rfl rfl (Nat.le_of_ble_eq_true rfl) rfl (ex_mono MT _ _ _ _ _ _ _ (fun _ M3 ⟨he, h⟩ => ⟨he, fx_iconst (v := (nI 0)) rfl rfl (fx_istore_n rfl rfl (fx_iconst (v := (nI 0)) rfl rfl (fx_istore rfl rfl (fx_cut (by exact ⟨rfl, rfl, rfl, rfl, trivial⟩) h))))⟩) h))⟩) h))))))
theorem fr_needs {Q : Int32 → Mem → Prop} (h : exI LPl d 52 [.ref 0] M (fun r2 M2 => fx LPl d m_X10_needs (qI Q) (12, [none, some (.ref 65), some (.int r2), some (.int (nI 0))], [], M2))) : fx LPl d m_X10_needs (qI Q) (4, [some (.ref 0), none, none, none], [.ref 65], M) :=
  fx_astore_n rfl rfl (fx_aload_n rfl rfl (fx_cvI rfl rfl rfl (Nat.le_of_ble_eq_true rfl) rfl (ex_mono MT _ _ _ _ _ _ _ (fun _ M2 ⟨r2, he, h⟩ => ⟨r2, he, fx_istore_n rfl rfl (fx_iconst (v := (nI 0)) rfl rfl (fx_istore_n rfl rfl (fx_cut (by exact ⟨rfl, rfl, rfl, trivial⟩) h)))⟩) h)))
theorem fr_planned {Q : Mem → Prop} (h : exP d M Q) : fx LPl d m_X10_planned (qR 65 Q) (22, [some (.ref 0), some (.ref 65)], [], M) :=
  fx_aload_n rfl rfl (fx_cvV rfl rfl rfl (Nat.le_of_ble_eq_true rfl) rfl (ex_mono MT _ _ _ _ _ _ _ (fun _ M1 ⟨he, h⟩ => ⟨he, fx_aload_n rfl rfl (fx_aload_n rfl rfl (fx_getR rfl rfl rfl (fx_aload_n rfl rfl (fx_getR rfl rfl rfl (fx_cvV rfl rfl rfl (Nat.le_of_ble_eq_true rfl) rfl (ex_mono MT _ _ _ _ _ _ _ (fun _ M2 ⟨he, h⟩ => ⟨he, fx_aload_n rfl rfl (fx_aret rfl rfl h)⟩) h))))))⟩) h))
/-- a number out of range: no planner is made -/
theorem opn_moves {pl : Option Nat} {tl : List LC} {x : Int32} (hx : x < 0 ∨ ¬ x ≤ nI 6) (h : Inv t M) (ht : t < 512) : Op pl tl (d + 12) 37 [.ref 0, .int x] 223 [.ref 52, .int x] t M := by
  have hI := h.up (t' := t + 1) (by omega) (by omega)
  have hm : exI (LY pl tl) (d + 12) 223 [.ref 52, .int x] M (fun r2 M2 => r2 = -1 ∧ Inv (t + 1) M2) := m_moves_n hx ⟨rfl, hI⟩
  exact fx_ex t_X10_moves rfl (Nat.le_of_ble_eq_true rfl) rfl (fx_iload_n rfl rfl (fx_if_lt rfl ⟨fun hc => fx_iconst (v := (-1)) rfl rfl (fx_iret rfl rfl hm), fun hc => fx_iload_n rfl rfl (fx_bipush (v := (nI 6)) rfl rfl (fx_icmp_le rfl ⟨fun hc2 => absurd hx (fun q => q.elim hc (fun z => z hc2)), fun hc2 => fx_iconst (v := (-1)) rfl rfl (fx_iret rfl rfl hm)⟩))⟩))
theorem opn_up {pl : Option Nat} {tl : List LC} {x : Int32} (hx : x < 0 ∨ ¬ x ≤ nI 6) (h : Inv t M) (ht : t < 512) : Op pl tl (d + 12) 38 [.ref 0, .int x] 227 [.ref 52, .int x] t M := by
  have hI := h.up (t' := t + 1) (by omega) (by omega)
  have hm : exI (LY pl tl) (d + 12) 227 [.ref 52, .int x] M (fun r2 M2 => r2 = -1 ∧ Inv (t + 1) M2) := m_up_n hx ⟨rfl, hI⟩
  exact fx_ex t_X10_up rfl (Nat.le_of_ble_eq_true rfl) rfl (fx_iload_n rfl rfl (fx_if_lt rfl ⟨fun hc => fx_iconst (v := (-1)) rfl rfl (fx_iret rfl rfl hm), fun hc => fx_iload_n rfl rfl (fx_bipush (v := (nI 6)) rfl rfl (fx_icmp_le rfl ⟨fun hc2 => absurd hx (fun q => q.elim hc (fun z => z hc2)), fun hc2 => fx_iconst (v := (-1)) rfl rfl (fx_iret rfl rfl hm)⟩))⟩))
/-- what holds between calls speaks of the first 65 cells -/
theorem Inv_c {M' : Mem} (h1 : ∀ c, c < 65 → M'.1 c = M.1 c) (h2 : ∀ c, c < 65 → M'.2 c = M.2 c) (h : Inv t M) : Inv t M' := by
  obtain ⟨⟨hv, hr⟩, ⟨n, r1, r2, r3, r4⟩, ⟨k, t1, t2, t3, t4⟩, hk, ht⟩ := h
  refine ⟨⟨by rw [h1 53 (by omega)]; exact hv, by rw [h1 53 (by omega)]; exact RC_cells (fun c _ _ => h1 c (by omega)) hr⟩, ⟨n, r1, by rw [h1 1 (by omega)]; exact r2, by rw [h1 52 (by omega)]; exact r3, fun j hj => by rw [h2 2 (by omega), h2 56 (by omega)]; exact r4 j hj⟩, ⟨k, t1, by rw [h1 4 (by omega)]; exact t2, by rw [h1 52 (by omega)]; exact t3, fun j hj => by rw [h1 5 (by omega), h1 55 (by omega)]; exact t4 j hj⟩, ?_, ht⟩
  rcases hk with ⟨a, b⟩ | ⟨a, b, c, d⟩
  · exact Or.inl ⟨by rw [h1 0 (by omega)]; exact a, by rw [h1 52 (by omega)]; exact b⟩
  · exact Or.inr ⟨by rw [h1 0 (by omega)]; exact a, by rw [h1 52 (by omega)]; exact b, by rw [h1 54 (by omega)]; exact c, by rw [h1 54 (by omega)]; exact RC_cells (fun c _ _ => h1 c (by omega)) d⟩
end S83
