/-! THE CLASS'S PLANNER: prepared, and what it chooses -/
theorem pM_70 (M : Mem) (o t : Int32) (F : Nat → Int32) : sa (pM M o t) 70 F = pM (sa M 70 F) o t := by
  unfold pM
  simp only [si_sa]
  have e1 : (sa M 43 (upd (M.1 43) 3 t)).1 43 = upd (M.1 43) 3 t := sa_s _ _ _
  have e2 : (sa M 70 F).1 43 = M.1 43 := sa_n (by omega)
  rw [e1, e2, sa_sa, sa_s, sa_sa, sa_comm (by omega)]
theorem drop_c : ∀ (l : List Nat) (i x : Nat) (r : List Nat), l.drop i = x :: r → l.drop (i + 1) = r ∧ ix l i = x ∧ i < l.length
  | [], i, x, r, h => by rw [List.drop_nil] at h; cases h
  | y :: l, 0, x, r, h => by
    have h : y :: l = x :: r := h
    injection h with h1 h2
    exact ⟨h2, h1, by show 0 < l.length + 1; omega⟩
  | y :: l, i + 1, x, r, h => by
    obtain ⟨h1, h2, h3⟩ := drop_c l i x r h
    exact ⟨h1, h2, by show i + 1 < l.length + 1; omega⟩
def AllTab (w : Nat → Int32) (r : Nat) (L : List Nat) (F : Nat → Int32) (R : Nat) : Prop := ∀ rest, rest ≤ R → ∀ may, may ≤ rest → TabOk w r L F rest may
section S54
variable {d : Nat} {M : Mem} {t : Nat}
theorem s_prepareT {Q : Mem → Prop} {w : Nat → Int32} (hv : V w t) (hr : RC 15 M w) (h44 : M.1 44 = nA w (rcN w) (M.1 44)) (h : ∀ B F o t', PF M B → GOk w (RLs w) B → AllTab w (rcN w) (RLs w) F (RLs w).length → Q (pM (sa B 70 F) o t')) : exV LPl (d + 5) 90 [.ref 65, .ref 15, .ref 43] M Q := by
  have n6 := hv.2.1.1.2
  have s8 := hv.1.1.2
  have p8 := pow8 s8
  have hpw : nI 1 <<< (nI (sN w) &&& 31) = nI (2 ^ sN w) := b1_pow _ (by omega)
  have hl : (RLs w).length ≤ eN w := rlk_len w (eN w)
  have hL : ∀ e, e ∈ RLs w → po w e < sN w := rlk_po (w := w) hv (Nat.le_refl _)
  refine e_X4_prepare_15_43 (s_gather hv hr (fun B hF hG => ?_))
  generalize hRL : RLs w = L at *
  have rB : RC 15 B w := RC_cells (fun c h1 h2 => hF.2 c (by omega) (by omega) (by omega) (by omega)) hr
  have b44 : B.1 44 = nA w (rcN w) (B.1 44) := by rw [hF.2 44 (by omega) (by omega) (by omega) (by omega)]; exact h44
  have q8 : ∀ F o t', (pM (sa B 70 F) o t').1 65 8 = nI (sN w) := fun F o t' => hG.2.1
  have q3 : ∀ F o t', (pM (sa B 70 F) o t').1 65 3 = nI L.length := fun F o t' => hG.1
  have e0 : B = pM (sa B 70 (B.1 70)) (B.1 43 2) (B.1 43 3) := by rw [sa_id, pM_id]
  rw [e0]
  refine lp_p (σ := (Nat → Int32) × Int32 × Int32) (X := fx LPl (d + 4) m_X4_prepare (qV Q)) (fun m σ => (7, [some (.ref 65), some (.ref 15), some (.ref 43), some (.int (nI m)), none], [], pM (sa B 70 σ.1) σ.2.1 σ.2.2)) (fun m σ => ∀ m', m' < m → σ.1 m' = nI (32768 * cvM w (rcN w) m')) (2 ^ sN w) (fun m σ hm hP hx => ?_) (fun σ hP => ?_) (B.1 70, B.1 43 2, B.1 43 3) (fun m' h' => by omega)
  · obtain ⟨F, o, t'⟩ := σ
    dsimp only at hP ⊢
    refine c_X4_prepare_15_43_7 ?_
    obtain ⟨c1, c2⟩ := cvM_ok hv.1 (rcN w) m
    rw [q8, hpw]
    refine br_f (nI_ge hm (by omega)) (s_indexOf (rest := 0) (may := 0) (by omega) (by omega) (by omega) (s_coverG (X := sa B 70 F) hv rB b44 (fun t2 => ?_)))
    have ei : ixT 0 0 m = m := by unfold ixT tri; omega
    have ec : wS w (SO w (rcN w) (nI m)) 12 = nI (cvM w (rcN w) m) := c1
    rw [ei, ec, pk_mul, z_cl (by omega), nI_add m 1, Nat.mul_comm]
    refine ⟨(z_in (by omega) (by omega)).mpr (by omega), ?_⟩
    have em : si (pM (sa B 70 F) (SO w (rcN w) (nI m)) t2) 70 m (nI (32768 * cvM w (rcN w) m)) = pM (sa B 70 (upd F m (nI (32768 * cvM w (rcN w) m)))) (SO w (rcN w) (nI m)) t2 := by
      have e1 : (pM (sa B 70 F) (SO w (rcN w) (nI m)) t2).1 70 = F := rfl
      rw [si_sa, e1, pM_70, sa_sa]
    rw [em]
    refine hx (upd F m (nI (32768 * cvM w (rcN w) m)), SO w (rcN w) (nI m), t2) (fun m' h' => ?_)
    show upd F m _ m' = _
    by_cases q : m' = m
    · subst q; rw [upd_eq]
    · rw [upd_ne q]; exact hP m' (by omega)
  · obtain ⟨F, o, t'⟩ := σ
    dsimp only at hP ⊢
    refine c_X4_prepare_15_43_7 ?_
    rw [q8, hpw]
    refine br_t (nI_le (Nat.le_refl _) (by omega)) ?_
    have A0 : AllTab w (rcN w) L F 0 := fun rest h1 may h2 m hm _ => by
      have r0 : rest = 0 := by omega
      have m0 : may = 0 := by omega
      subst r0; subst m0
      rw [show ixT 0 0 m = m by unfold ixT tri; omega, hP m hm]
      unfold pT Dr
      rw [show L.length - 0 = L.length by omega, List.drop_length]
      show _ = nI (32768 * (cvM w (rcN w) m : Int)).toNat
      congr 1
    refine lp_p (σ := Nat → Int32) (X := fx LPl (d + 4) m_X4_prepare (qV Q)) (fun i F => (48, [some (.ref 65), none, none, some (.int (nI (i + 1))), none], [], pM (sa B 70 F) o t')) (fun i F => AllTab w (rcN w) L F i) L.length (fun i F hi hA hx => ?_) (fun F hA => ?_) F A0
    · refine c_X4_prepare_15_43_48 ?_
      rw [q3]
      refine br_f (nI_nlt (by omega) (by omega)) ?_
      have tl := tri_lt (i + 1) (by omega)
      refine lp_p (σ := Nat → Int32) (X := fx LPl (d + 4) m_X4_prepare (qV Q)) (fun j F => (59, [some (.ref 65), none, none, some (.int (nI (i + 1))), some (.int (nI j))], [], pM (sa B 70 F) o t')) (fun j F => AllTab w (rcN w) L F i ∧ ∀ may, may < j → TabOk w (rcN w) L F (i + 1) may) (i + 2) (fun j F hj hP2 hy => ?_) (fun F hP2 => ?_) F ⟨hA, fun may h' => by omega⟩
      · obtain ⟨hA, hD⟩ := hP2
        refine c_X4_prepare_15_43_59 ?_
        rw [nI_add j 1, ← pM_70]
        refine br_f (nI_nlt (by omega) (by omega)) (s_fillT (M := pM B o t') (r := rcN w) (L := L) hv.1 hL (by omega) hG hi (fun may' hm' => hA i (Nat.le_refl _) may' hm') (by omega) (fun F' hF' hT' => ?_))
        rw [pM_70]
        refine hy F' ⟨fun rest h1 may h2 m hm hp => ?_, fun may hmay m hm hp => ?_⟩
        · have := tl rest (by omega)
          rw [hF' _ (Or.inl (by unfold ixT; omega))]
          exact hA rest h1 may h2 m hm hp
        · by_cases q : may = j
          · subst q; exact hT' m hm hp
          · rw [hF' _ (Or.inl (by unfold ixT; omega))]
            exact hD may (by omega) m hm hp
      · refine c_X4_prepare_15_43_59 (br_t (nI_lt (by omega) (by omega)) ?_)
        rw [nI_add (i + 1) 1]
        refine hx F (fun rest h1 may h2 => ?_)
        by_cases q : rest = i + 1
        · subst q; exact hP2.2 may (by omega)
        · exact hP2.1 rest (by omega) may h2
    · refine c_X4_prepare_15_43_48 ?_
      rw [q3]
      exact br_t (nI_lt (by omega) (by omega)) (h B F o t' hF hG hA)
theorem s_planned {Q : Mem → Prop} {w : Nat → Int32} (hv : V w t) (hr : RC 15 M w) (h : ∀ B F o t', PF (lkC M w) B → GOk w (RLs w) B → AllTab w (rcN w) (RLs w) F (RLs w).length → Q (pM (sa B 70 F) o t')) : exR LPl (d + 6) 55 [.ref 0] M 65 Q := by
  refine e_X10_planned (s_lk hv hr (s_prepareT (M := lkC M w) hv hr ?_ h))
  exact (lk44 M w (rcN w)).symm
theorem s_firstBest {Q : Int32 → Mem → Prop} {w : Nat → Int32} {r : Nat} {L : List Nat} {rest may m : Nat} {p : Nat × Int} (hv : VL w) (hL : ∀ e, e ∈ L → po w e < sN w) (hl : L.length ≤ 6) (hG : GOk w L M) (hr : rest < L.length) (hT : AllTab w r L (M.1 70) L.length) (hmay : may ≤ rest + 1) (hm : m < 2 ^ sN w) (hpc : pcn m + (rest + 1) ≤ L.length) (hp : bbI (opv w r (ix L (L.length - (rest + 1))) (Dr L rest) may m) (sN w) = some p) (h : Q (nI p.1) M) : exI LPl (d + 3) 97 [.ref 65, .int (nI (rest + 1)), .int (nI may), .int (nI m)] M Q := by
  have s8 := hv.1.2
  have p8 := pow8 s8
  have hil := ixT_lt (rest := rest + 1) (may := may) (m := m) (by omega) hmay (by omega)
  have pe := hL _ (ix_mem L (L.length - (rest + 1)) (by omega))
  obtain ⟨h1, h2, h3, h4⟩ := bbI_ok _ p hp
  have e1 : (PP w r (Dr L (rest + 1)) may m).1 = p.2 := by rw [Dr_s hr, PP_c hp]
  have n0 := PP_nn (r := r) (Dr L (rest + 1)) may m (Dr_po hL (rest + 1))
  have n1 := PP_le (r := r) hv (Dr L (rest + 1)) may m
  have ev : M.1 70 (ixT (rest + 1) may m) = Int32.ofInt p.2 := by
    rw [hT (rest + 1) (by omega) may hmay m hm (by omega)]
    unfold pT
    rw [e1] at n0 n1 ⊢
    exact io_n n0 (by omega)
  rw [e1] at n0 n1
  refine e_X4_firstBest (s_indexOf (by omega) hmay (by omega) ⟨(z_in (by omega) (by omega)).mpr hil, ?_⟩)
  rw [z_cl (by omega), ev]
  have wo : ∀ s, s < sN w → ∀ {Q : Int32 → Mem → Prop}, Q (enc (opv w r (ix L (L.length - (rest + 1))) (Dr L rest) may m s)) M → exI LPl (d + 2) 93 [.ref 65, .int (nI (rest + 1)), .int (nI may), .int (nI m), .int (nI s)] M Q := fun s hs Q hq => s_worthOf hv hL hl hG hr (fun may' hm' => hT rest (by omega) may' hm') hmay hm hpc hs hq
  refine lp_0 (X := fx LPl (d + 2) m_X4_firstBest (qI Q)) (fun s => (16, [some (.ref 65), some (.int (nI (rest + 1))), some (.int (nI may)), some (.int (nI m)), some (.int (Int32.ofInt p.2)), some (.int (nI s))], [], M)) p.1 (fun s hs hx => ?_) ?_
  · refine c_X4_firstBest_16 ?_
    rw [hG.2.1, nI_add s 1]
    refine br_f (nI_ge (by omega) (by omega)) (wo s (by omega) ⟨fun _ => hx, fun c => ?_⟩)
    exfalso
    have ct := congrArg Int32.toInt c
    rw [io_t (by omega) (by omega)] at ct
    cases ho : opv w r (ix L (L.length - (rest + 1))) (Dr L rest) may m s with
    | none =>
      rw [ho] at ct
      have : (enc none).toInt = -2147483648 := enc_min
      omega
    | some x =>
      rw [ho] at ct
      have hx' := opv_r hv (Dr_po hL rest) pe (by omega) ho
      have hlt := h4 s hs x ho
      have : (enc (some x)).toInt = x := io_t (by omega) (by omega)
      omega
  · refine c_X4_firstBest_16 ?_
    rw [hG.2.1]
    refine br_f (nI_ge h1 (by omega)) (wo p.1 h1 ⟨fun c => ?_, fun _ => h⟩)
    rw [h2] at c
    exact absurd rfl c
/-- only what is chosen has changed -/
def CF (A B : Mem) : Prop := B.2 = A.2 ∧ (∀ c, c ≠ 65 → c ≠ 68 → B.1 c = A.1 c) ∧ ∀ j, j ≠ 4 → j ≠ 5 → B.1 65 j = A.1 65 j
theorem mx0 (k : Nat) (h : k < 2147483648) : (if nI 0 < nI k then nI k else nI 0) = nI k := by
  by_cases q : 0 < k
  · rw [if_pos (nI_lt q h)]
  · rw [if_neg (nI_nlt (by omega) (by omega)), show k = 0 by omega]
theorem s_choose {Q : Mem → Prop} {w : Nat → Int32} {r : Nat} {L : List Nat} {n : Nat} (hv : VL w) (hL : ∀ e, e ∈ L → po w e < sN w) (hl : L.length ≤ 6) (hG : GOk w L M) (hT : AllTab w r L (M.1 70) L.length) (hn : n ≤ 6) (h : ∀ Y, CF M Y → Y.1 65 4 = nI (mns w L (PP w r L n 0).2) → Y.1 65 5 = nI (cvM w r (fk (PP w r L n 0).2 0)) → (∀ i, i < L.length → Y.1 68 i = nI (ix (PP w r L n 0).2 i)) → Q Y) : exV LPl (d + 4) 96 [.ref 65, .int (nI n)] M Q := by
  have s8 := hv.1.2
  have p8 := pow8 s8
  obtain ⟨k1, k2, k3⟩ := id hG
  refine e_X4_choose ?_
  rw [k1, nI_min n L.length (by omega) (by omega), mx0 _ (by omega)]
  generalize hgs : (PP w r L n 0).2 = gs at h
  have hgl : g2 w L gs := by rw [← hgs]; exact (PP_val (r := r) L n 0 hL).2
  have hml := mns_le hv L gs hL hgl
  have hgG : ∀ {Y}, CF M Y → GOk w L Y := fun {Y} hF => by
    refine ⟨(hF.2.2 3 (by omega) (by omega)).trans k1, (hF.2.2 8 (by omega) (by omega)).trans k2, fun i hi => ?_⟩
    rw [hF.2.1 66 (by omega) (by omega), hF.2.1 67 (by omega) (by omega), hF.2.1 69 (by omega) (by omega)]
    exact k3 i hi
  have hgT : ∀ {Y}, CF M Y → AllTab w r L (Y.1 70) L.length := fun {Y} hF => by rw [hF.2.1 70 (by omega) (by omega)]; exact hT
  refine lp_p (σ := Mem × Nat × Nat × Nat) (X := fx LPl (d + 3) m_X4_choose (qV Q)) (fun i σ => (23, [some (.ref 65), none, some (.int (nI σ.2.1)), some (.int (nI σ.2.2.1)), some (.int (nI i)), none, none], [], σ.1)) (fun i σ => (CF M σ.1 ∧ σ.2.1 + i ≤ L.length ∧ σ.2.2.1 < 2 ^ sN w ∧ pcn σ.2.2.1 ≤ i) ∧ gs.drop i = (PP w r (L.drop i) σ.2.1 σ.2.2.1).2 ∧ fk gs 0 = fk (gs.drop i) σ.2.2.1 ∧ σ.1.1 65 4 = nI σ.2.2.2 ∧ mns w L gs = σ.2.2.2 + mns w (L.drop i) (gs.drop i) ∧ ∀ j, j < i → σ.1.1 68 j = nI (ix gs j)) L.length (fun i σ hi hP hx => ?_) (fun σ hP => ?_) (si M 65 4 (nI 0), min n L.length, 0, 0) ⟨⟨⟨rfl, fun c h1 h2 => si_c h1, fun j h1 h2 => by show (si M 65 4 (nI 0)).1 65 j = _; rw [si_s, upd_ne h1]⟩, by show min n L.length + 0 ≤ L.length; omega, p8.1, by show pcn 0 ≤ 0; decide⟩, ?_, rfl, by show (si M 65 4 (nI 0)).1 65 4 = _; rw [si_s, upd_eq], by show mns w L gs = 0 + mns w (L.drop 0) (gs.drop 0); rw [Nat.zero_add]; rfl, fun j h' => by omega⟩
  · obtain ⟨Y, may, m, mi⟩ := σ
    obtain ⟨⟨c1, c2, c3, c4⟩, c5, c6, c7, c8, c9⟩ := hP
    dsimp only at c1 c2 c3 c4 c5 c6 c7 c8 c9 ⊢
    obtain ⟨y1, y2, y3⟩ := hgG c1
    have hr : L.length - (i + 1) < L.length := by omega
    have ei : L.length - (L.length - (i + 1) + 1) = i := by omega
    have eD : Dr L (L.length - (i + 1)) = L.drop (i + 1) := by unfold Dr; rw [show L.length - (L.length - (i + 1)) = i + 1 by omega]
    have pe := hL _ (ix_mem L i hi)
    obtain ⟨p, hp, -⟩ := PP_some (r := r) (L := L.drop (i + 1)) (may := may) (m := m) pe
    obtain ⟨b1, b2, -, -⟩ := bbI_ok _ p hp
    have dl : (L.drop (i + 1)).length = L.length - (i + 1) := List.length_drop
    rw [ix_drop L i hi, PP_c hp] at c5
    obtain ⟨t1, t2, t3⟩ := drop_c gs i _ _ c5
    rw [c5] at c6 c8
    rw [ix_drop L i hi] at c8
    refine c_X4_choose_23 ?_
    rw [y1, z_sub (show i ≤ L.length by omega), show L.length - i = L.length - (i + 1) + 1 by omega]
    refine br_f (nI_ge hi (by omega)) (s_firstBest hv hL hl (hgG c1) hr (hgT c1) (by omega) c3 (by omega) (p := p) (by rw [ei, eD]; exact hp) ?_)
    have v6 := (z_in (n := i) (N := 6) (by omega) (by omega)).mpr (by omega)
    rw [z_cl (by omega), (y3 i hi).2.1, z_eq (by omega) (by omega), z_sub (show 1 ≤ L.length - (i + 1) + 1 by omega), show L.length - (i + 1) + 1 - 1 = L.length - (i + 1) by omega, or_b1 m (by omega), nI_add i 1, nI_m1]
    have hor : m ||| 2 ^ p.1 < 2 ^ sN w := Nat.or_lt_two_pow c3 (Nat.pow_lt_pow_right (by decide) b1)
    have hpc := pcn_or m (by omega) p.1 (by omega)
    refine ⟨v6, fun c => ⟨v6, ?_⟩, fun c => s_wayTo (hgG c1) hl s8 hi b1 ⟨v6, ?_⟩⟩
    · rw [nI_min may (L.length - (i + 1)) (by omega) (by omega), mx0 _ (by omega)]
      rw [if_pos c] at t1
      refine hx (si Y 68 i (nI p.1), min may (L.length - (i + 1)), m ||| 2 ^ p.1, mi) ⟨⟨⟨c1.1, fun c' h1 h2 => (si_c h2).trans (c1.2.1 c' h1 h2), fun j h1 h2 => c1.2.2 j h1 h2⟩, by show min may (L.length - (i + 1)) + (i + 1) ≤ L.length; omega, hor, by show pcn (m ||| 2 ^ p.1) ≤ i + 1; omega⟩, ?_, ?_, c7, ?_, fun j hj => ?_⟩
      · show gs.drop (i + 1) = (PP w r (L.drop (i + 1)) (min may (L.length - (i + 1))) (m ||| 2 ^ p.1)).2
        rw [t1, PP_min, dl]
      · show fk gs 0 = fk (gs.drop (i + 1)) (m ||| 2 ^ p.1)
        rw [t1, c6, if_pos c]; rfl
      · show mns w L gs = mi + mns w (L.drop (i + 1)) (gs.drop (i + 1))
        rw [c8, t1, if_pos c]
        show mi + ((if p.1 = po w (ix L i) then 0 else wy w (ix L i) p.1) + _) = _
        rw [if_pos c, Nat.zero_add]
      · show (si Y 68 i (nI p.1)).1 68 j = _
        rw [si_s]
        by_cases q : j = i
        · subst q; rw [upd_eq, t2]
        · rw [upd_ne q]; exact c9 j (by omega)
    · have may0 : 0 < may := by
        have ho : opv w r (ix L i) (L.drop (i + 1)) may m p.1 = if 0 < may ∧ wy w (ix L i) p.1 < 999 then some ((PP w r (L.drop (i + 1)) (may - 1) (m ||| 2 ^ p.1)).1 - 4096 - (wy w (ix L i) p.1 : Int)) else none := if_neg c
        rw [b2] at ho
        by_cases q : 0 < may ∧ wy w (ix L i) p.1 < 999
        · exact q.1
        · rw [if_neg q] at ho; cases ho
      have wl : wy w (ix L i) p.1 ≤ 999 := dist_le hv.2.2.2.2.2.1 (hv.2.2.2.1 _ pe).2 (hv.2.2.2.1 _ b1).2
      rw [z_sub (show 1 ≤ may by omega), nI_min (may - 1) (L.length - (i + 1)) (by omega) (by omega), mx0 _ (by omega), c7, nI_add mi _]
      rw [if_neg c] at t1
      refine hx (si (si Y 65 4 (nI (mi + wy w (ix L i) p.1))) 68 i (nI p.1), min (may - 1) (L.length - (i + 1)), m ||| 2 ^ p.1, mi + wy w (ix L i) p.1) ⟨⟨⟨c1.1, fun c' h1 h2 => (si_c h2).trans ((si_c h1).trans (c1.2.1 c' h1 h2)), fun j h1 h2 => ?_⟩, by show min (may - 1) (L.length - (i + 1)) + (i + 1) ≤ L.length; omega, hor, by show pcn (m ||| 2 ^ p.1) ≤ i + 1; omega⟩, ?_, ?_, ?_, ?_, fun j hj => ?_⟩
      · show (si (si Y 65 4 _) 68 i _).1 65 j = _
        rw [si_c (by omega), si_s, upd_ne h1]; exact c1.2.2 j h1 h2
      · show gs.drop (i + 1) = (PP w r (L.drop (i + 1)) (min (may - 1) (L.length - (i + 1))) (m ||| 2 ^ p.1)).2
        rw [t1, PP_min, dl]
      · show fk gs 0 = fk (gs.drop (i + 1)) (m ||| 2 ^ p.1)
        rw [t1, c6, if_neg c]; rfl
      · show (si (si Y 65 4 _) 68 i _).1 65 4 = _
        rw [si_c (by omega), si_s, upd_eq]
      · show mns w L gs = mi + wy w (ix L i) p.1 + mns w (L.drop (i + 1)) (gs.drop (i + 1))
        rw [c8, t1, if_neg c]
        show mi + ((if p.1 = po w (ix L i) then 0 else wy w (ix L i) p.1) + _) = _
        rw [if_neg c, Nat.add_assoc]
      · show (si (si Y 65 4 _) 68 i _).1 68 j = _
        rw [si_s]
        by_cases q : j = i
        · subst q; rw [upd_eq, t2]
        · rw [upd_ne q]; exact c9 j (by omega)
  · obtain ⟨Y, may, m, mi⟩ := σ
    obtain ⟨⟨c1, c2, c3, c4⟩, c5, c6, c7, c8, c9⟩ := hP
    dsimp only at c1 c2 c3 c4 c5 c6 c7 c8 c9 ⊢
    obtain ⟨y1, y2, y3⟩ := hgG c1
    rw [List.drop_length] at c5 c8
    rw [c5] at c6 c8
    have c6 : fk gs 0 = m := c6
    have c8 : mns w L gs = mi := c8
    obtain ⟨v1, v2⟩ := cvM_ok hv r m
    refine c_X4_choose_23 ?_
    rw [y1]
    refine br_t (nI_le (Nat.le_refl _) (by omega)) (s_indexOf (rest := 0) (may := 0) (by omega) (by omega) (by omega) ⟨(z_in (by unfold ixT tri; omega) (by omega)).mpr (ixT_lt (by omega) (by omega) (by omega)), ?_⟩)
    have ev : Y.1 70 (ixT 0 0 m) = nI (32768 * cvM w r m) := by
      rw [hgT c1 0 (by omega) 0 (by omega) m c3 (by omega)]
      unfold pT Dr
      rw [show L.length - 0 = L.length by omega, List.drop_length]
      show nI (32768 * (cvM w r m : Int)).toNat = _
      congr 1
    rw [z_cl (by unfold ixT tri; omega), ev, pk_div (by omega) (by omega) (by omega), show 32768 * cvM w r m / 32768 = cvM w r m by omega]
    refine h _ ⟨c1.1, fun c' h1 h2 => (si_c h1).trans (c1.2.1 c' h1 h2), fun j h1 h2 => ?_⟩ ?_ ?_ (fun i hi => ?_)
    · rw [si_s, upd_ne h2]; exact c1.2.2 j h1 h2
    · rw [si_s, upd_ne (by omega), c7, c8]
    · rw [si_s, upd_eq, c6]
    · rw [si_c (by omega)]; exact c9 i hi
  · show gs.drop 0 = (PP w r (L.drop 0) (min n L.length) 0).2
    rw [List.drop_zero, List.drop_zero, ← PP_min, hgs]
end S54
