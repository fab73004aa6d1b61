/-! up: the class -/
section S58
variable {d : Nat} {M : Mem} {t : Nat}
theorem ix_g2 {w : Nat → Int32} : ∀ (L gs : List Nat), g2 w L gs → ∀ i, i < L.length → ix gs i < sN w ∧ (ix gs i = po w (ix L i) ∨ wy w (ix L i) (ix gs i) < 999) := by
  intro L
  induction L with
  | nil => intro gs _ i hi; cases hi
  | cons e L ih =>
    intro gs hg i hi
    cases gs with
    | nil => exact hg.elim
    | cons s gs =>
      cases i with
      | zero => exact hg.1
      | succ i => exact ih gs hg.2 i (by have : (e :: L).length = L.length + 1 := rfl; omega)
theorem op_up {x : Int32} (h : Inv t M) (ht : t < 512) : Op (some 65) PT (d + 12) 38 [.ref 0, .int x] 227 [.ref 52, .int x] t M := by
  have hI := h.up (t' := t + 1) (by omega) (by omega)
  obtain ⟨⟨hv0, hr⟩, -⟩ := h
  have hv := hI.1.1
  have hB : bN (M.1 53) ≤ 6 * t := hv0.2.2.2.2.1.2
  have n6 := hv.2.1.1.2
  have s8 := hv.1.1.2
  have hlm : lmN (M.1 53) ≤ 20 := hv.2.2.1.2.2.2
  have hmv : mvN (M.1 53) ≤ lmN (M.1 53) := by unfold mvN; omega
  refine e_X10_up ⟨fun c => m_up_n (Or.inl c) ⟨rfl, hI⟩, fun c => ⟨fun c2 => ?_, fun c2 => m_up_n (Or.inr c2) ⟨rfl, hI⟩⟩⟩
  obtain ⟨n, hn, e⟩ := z_0 c (by omega) c2
  subst e
  generalize hw : M.1 53 = w0 at *
  have hl : (RLs w0).length ≤ eN w0 := rlk_len w0 (eN w0)
  have hL : ∀ e, e ∈ RLs w0 → po w0 e < sN w0 := rlk_po hv (Nat.le_refl _)
  have hLe : ∀ e, e ∈ RLs w0 → e < eN w0 := fun e he => (rlk_mem (eN w0) (Nat.le_refl _) e he).1
  refine s_planned hv hr (fun B F o t' bF bG bT => ?_)
  have xC : ∀ c, (c < 43 ∨ (46 ≤ c ∧ c < 65)) → (pM (sa B 70 F) o t').1 c = M.1 c := fun c hc => by
    unfold pM
    rw [si_c (by omega), si_c (by omega), sa_n (by omega), bF.2 c (by omega) (by omega) (by omega) (by omega)]
    unfold lkC
    rw [sa_n (by omega)]
  have xR : RC 15 (pM (sa B 70 F) o t') w0 := RC_cells (A := M) (fun c h1 h2 => xC c (by omega)) hr
  refine s_mayC (t := t + 1) hv (by omega) xR ?_
  rw [nI_min n (mvN w0) (by omega) (by omega)]
  generalize hn' : min n (mvN w0) = n'
  have hn6 : n' ≤ 6 := by omega
  refine s_choose (M := pM (sa B 70 F) o t') (r := rcN w0) (n := n') hv.1 hL (by omega) bG bT hn6 (fun Y yF y4 y5 y68 => ?_)
  have hgg : g2 w0 (RLs w0) (GLs w0 n') := (PP_val (r := rcN w0) (RLs w0) n' 0 hL).2
  have gl := g2_len _ _ hgg
  have z5g : Y.1 65 5 = nI (cvM w0 (rcN w0) (fk (GLs w0 n') 0)) := y5
  have z68g : ∀ i, i < (RLs w0).length → Y.1 68 i = nI (ix (GLs w0 n') i) := y68
  have yC : ∀ c, (c < 43 ∨ (46 ≤ c ∧ c < 65)) → Y.1 c = M.1 c := fun c hc => (yF.2.1 c (by omega) (by omega)).trans (xC c hc)
  have y2 : Y.2 = M.2 := yF.1.trans bF.1
  have yG : GOk w0 (RLs w0) Y := by
    refine ⟨(yF.2.2 3 (by omega) (by omega)).trans bG.1, (yF.2.2 8 (by omega) (by omega)).trans bG.2.1, fun i hi => ?_⟩
    rw [yF.2.1 66 (by omega) (by omega), yF.2.1 67 (by omega) (by omega), yF.2.1 69 (by omega) (by omega)]
    exact bG.2.2 i hi
  have yR : RC 15 Y w0 := RC_cells (A := M) (fun c h1 h2 => yC c (by omega)) hr
  generalize hgs : GLs w0 n' = gs at *
  generalize hLL : RLs w0 = L at *
  refine lp_p (σ := Mem × (Nat → Int32) × Nat) (X := fx LPl (d + 11) m_X10_up (qI (fun r M1 => exI LPl (d + 12) 227 [.ref 52, .int (nI n)] M1 (fun r2 M2 => r2 = r ∧ Inv (t + 1) M2)))) (fun i σ => (37, [some (.ref 0), none, some (.ref 65), some (.int (nI σ.2.2)), some (.int (nI i))], [], σ.1)) (fun i σ => (Fr15 Y σ.1 ∧ RC 15 σ.1 σ.2.1 ∧ V σ.2.1 (t + 1) ∧ bN σ.2.1 + (L.length - i) ≤ 6 * (t + 1) ∧ eN σ.2.1 = eN w0 ∧ sN σ.2.1 = sN w0 ∧ rcN σ.2.1 = rcN w0) ∧ mvS w0 (L.drop i) (gs.drop i) σ.2.1 = mvS w0 L gs w0 ∧ σ.2.2 + mvd w0 (L.drop i) (gs.drop i) = mvd w0 L gs) L.length (fun i σ hi hP hx => ?_) (fun σ hP => ?_) (Y, w0, 0) ⟨⟨Fr15.rfl' Y, yR, hv, by show bN w0 + (L.length - 0) ≤ 6 * (t + 1); omega, rfl, rfl, rfl⟩, rfl, by show 0 + mvd w0 L gs = _; omega⟩
  · obtain ⟨Z, w, k⟩ := σ
    obtain ⟨⟨f1, f2, f3, f4, f5, f6, f7⟩, h1, h2⟩ := hP
    dsimp only at f1 f2 f3 f4 f5 f6 f7 h1 h2 ⊢
    have zG : GOk w0 L Z := by
      refine ⟨(congrFun (f1.2 65 (by omega)) 3).trans yG.1, (congrFun (f1.2 65 (by omega)) 8).trans yG.2.1, fun i hi => ?_⟩
      rw [f1.2 66 (by omega), f1.2 67 (by omega), f1.2 69 (by omega)]
      exact yG.2.2 i hi
    obtain ⟨b1, b2, -⟩ := zG.2.2 i hi
    have z68 : Z.1 68 i = nI (ix gs i) := (congrFun (f1.2 68 (by omega)) i).trans (z68g i hi)
    have pl' := hL _ (ix_mem L i hi)
    have el := hLe _ (ix_mem L i hi)
    obtain ⟨gi, gv'⟩ := ix_g2 L gs hgg i hi
    have v6 := (z_in (n := i) (N := 6) (by omega) (by omega)).mpr (by omega)
    rw [ix_drop L i hi, ix_drop gs i (by omega)] at h1 h2
    have h1 : mvS w0 (L.drop (i + 1)) (gs.drop (i + 1)) (if ix gs i = po w0 (ix L i) then w else mvW w (ix L i) (ix gs i) (wy w0 (ix L i) (ix gs i))) = mvS w0 L gs w0 := h1
    have h2 : k + ((if ix gs i = po w0 (ix L i) then 0 else 1) + mvd w0 (L.drop (i + 1)) (gs.drop (i + 1))) = mvd w0 L gs := h2
    refine c_X10_up_37 ?_
    rw [zG.1, z_cl (by omega), z68, b1, b2, z_eq (by omega) (by omega), nI_add i 1, nI_add k 1]
    refine br_f (nI_ge hi (by omega)) ⟨v6, v6, fun c => ?_, fun c => ⟨v6, v6, v6, s_wayTo zG (by omega) s8 hi gi ?_⟩⟩
    · rw [if_pos c] at h1 h2
      refine hx (Z, w, k) ⟨⟨f1, f2, f3, ?_, f5, f6, f7⟩, h1, ?_⟩
      · show bN w + (L.length - (i + 1)) ≤ 6 * (t + 1); omega
      · show k + mvd w0 (L.drop (i + 1)) (gs.drop (i + 1)) = _; omega
    · rw [if_neg c] at h1 h2
      have z2 := (hv.1.2.2.2.1 _ pl').2
      have y2' := (hv.1.2.2.2.1 _ gi).2
      have hne : sp w0 (po w0 (ix L i)) ≠ sp w0 (ix gs i) := fun z => c (hv.1.2.2.2.2.1 _ _ pl' gi z).symm
      have dp : 1 ≤ wy w0 (ix L i) (ix gs i) := dist_pos w0 hne
      have dl : wy w0 (ix L i) (ix gs i) ≤ 999 := dist_le hv.1.2.2.2.2.2.1 z2 y2'
      refine s_move (t := t + 1) f3 (by omega) f2 (by rw [f5]; exact el) (by rw [f6]; exact gi) (by omega) dp dl (fun Z' zF' zR' => ?_)
      obtain ⟨V1, B1⟩ := mvW_V (e := ix L i) (s := ix gs i) (way := wy w0 (ix L i) (ix gs i)) f3 (by omega) (by rw [f5]; exact el) (by rw [f6]; exact gi) (by omega)
      refine hx (Z', mvW w (ix L i) (ix gs i) (wy w0 (ix L i) (ix gs i)), k + 1) ⟨⟨f1.trans' zF', zR', V1, ?_, ?_, ?_, ?_⟩, h1, ?_⟩
      · show bN (mvW w (ix L i) (ix gs i) (wy w0 (ix L i) (ix gs i))) + (L.length - (i + 1)) ≤ 6 * (t + 1); omega
      · show eN (mvW w _ _ _) = _
        unfold eN; rw [mvW_ne (by omega) (by omega) (by omega) (by omega) (by omega)]; exact f5
      · show sN (mvW w _ _ _) = _
        unfold sN; rw [mvW_ne (by omega) (by omega) (by omega) (by omega) (by omega)]; exact f6
      · show rcN (mvW w _ _ _) = _
        unfold rcN; rw [mvW_ne (by omega) (by omega) (by omega) (by omega) (by omega)]; exact f7
      · show k + 1 + mvd w0 (L.drop (i + 1)) (gs.drop (i + 1)) = _; omega
  · obtain ⟨Z, w, k⟩ := σ
    obtain ⟨⟨f1, f2, f3, f4, f5, f6, f7⟩, h1, h2⟩ := hP
    dsimp only at f1 f2 f3 f4 f5 f6 f7 h1 h2 ⊢
    rw [List.drop_length] at h1 h2
    have h1 : w = mvS w0 L gs w0 := by rw [← h1]; cases gs.drop L.length <;> rfl
    have h2 : k = mvd w0 L gs := by rw [← h2]; cases gs.drop L.length <;> rfl
    have z3 : Z.1 65 3 = nI L.length := (congrFun (f1.2 65 (by omega)) 3).trans yG.1
    have z5 : Z.1 65 5 = nI (cvM w0 (rcN w0) (fk gs 0)) := (congrFun (f1.2 65 (by omega)) 5).trans z5g
    refine c_X10_up_37 ?_
    rw [z3, z5]
    refine br_t (nI_le (Nat.le_refl _) (by omega)) (s_coverNow (t := t + 1) f3 f2 (s_tell2 ?_))
    rw [f7]
    generalize hC : rwC (pM (sa Z 44 (nA w (rcN w0) (Z.1 44))) (cvO w (rcN w0)) (cvT w (rcN w0))) 2 (fun j => if j = 0 then (nI (cvM w0 (rcN w0) (fk gs 0))).toInt64 else (CV w (rcN w0)).toInt64) = C
    have cC : ∀ c, c ≠ 1 → (c < 43 ∨ (46 ≤ c ∧ c < 65)) → C.1 c = Z.1 c := fun c g1 g2' => by
      rw [← hC]
      show (si _ 1 1 _).1 c = _
      rw [si_c g1]
      show (pM _ _ _).1 c = _
      unfold pM
      rw [si_c (by omega), si_c (by omega), sa_n (by omega)]
    have c53 : C.1 53 = w0 := (cC 53 (by omega) (by omega)).trans ((f1.2 53 (by omega)).trans ((yC 53 (by omega)).trans hw))
    have c52 : C.1 52 = M.1 52 := (cC 52 (by omega) (by omega)).trans ((f1.2 52 (by omega)).trans (yC 52 (by omega)))
    refine m_up (t := t + 1) (M := C) (by rw [c53]; exact hv) (by omega) (by rw [c53]; omega) hn ?_
    rw [c53, hn', hLL, hgs]
    refine fun A aC a52 a2 a53 => ?_
    refine ⟨by rw [h2], ?_⟩
    rw [← h1]
    generalize hD : rwM A 2 (fun j => if j = 0 then (nI (cvM w0 (rcN w0) (fk gs 0))).toInt64 else (CV w (rcN w0)).toInt64) = D
    have dC : ∀ c, c < 58 → c ≠ 52 → c ≠ 53 → D.1 c = C.1 c := fun c g1 g2' g3 => by
      rw [← hD]
      show (si _ 52 6 _).1 c = _
      rw [si_c g2']
      exact aC c g1 g2' g3
    have d53 : D.1 53 = w := by
      rw [← hD]
      show A.1 53 = w
      rw [a53, h1]
    have d52 : ∀ j, j < 6 → D.1 52 j = M.1 52 j := fun j g1 => by
      rw [← hD]
      show (si _ 52 6 _).1 52 j = _
      rw [si_s, upd_ne (by omega)]
      show A.1 52 j = _
      rw [a52 j (by omega), c52]
    -- the class's world, the rest as it was
    have bW : Fr15 M ((fun c => if 15 ≤ c ∧ c ≤ 28 then Z.1 c else M.1 c, M.2) : Mem) := ⟨rfl, fun c hc => if_neg (by omega)⟩
    have bW2 : RC 15 ((fun c => if 15 ≤ c ∧ c ≤ 28 then Z.1 c else M.1 c, M.2) : Mem) w := RC_cells (A := Z) (fun c g1 g2' => if_pos (by omega)) f2
    refine Inv_step (A := M) (B := ((fun c => if 15 ≤ c ∧ c ≤ 28 then Z.1 c else M.1 c, M.2) : Mem)) (w := w) hI bW f3 bW2 d53 (fun i g1 g2' => ?_) ⟨d52 2 (by omega), d52 4 (by omega)⟩ ?_
    · rw [dC i (by omega) (by omega) (by omega), cC i g1 (by omega)]
      show Z.1 i = if 15 ≤ i ∧ i ≤ 28 then Z.1 i else M.1 i
      by_cases q : 15 ≤ i ∧ i ≤ 28
      · rw [if_pos q]
      · rw [if_neg q, f1.2 i (by omega), yC i (by omega)]
    · refine rows_ok (B := pM (sa Z 44 (nA w (rcN w0) (Z.1 44))) (cvO w (rcN w0)) (cvT w (rcN w0))) (C := A) (n := 2) (g := fun j => if j = 0 then (nI (cvM w0 (rcN w0) (fk gs 0))).toInt64 else (CV w (rcN w0)).toInt64) (g' := fun j => if j = 0 then (nI (cvM w0 (rcN w0) (fk gs 0))).toInt64 else (CV w (rcN w0)).toInt64) (by omega) ?_ ?_ ?_ ?_ (fun j hj => rfl)
      · rw [dC 1 (by omega) (by omega) (by omega), ← hC]; rfl
      · rw [← hD]; rfl
      · rw [← hD]
        show A.2 2 = _
        rw [a2, ← hC]
      · rw [← hD]
end S58
