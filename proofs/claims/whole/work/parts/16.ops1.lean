/-! CALLS THAT READ OR SET A NUMBER -/
/-- a call of the class, then the same of the reference: like answers, and all holds again -/
def Op (pl : Option Nat) (tl : List LC) (d yc : Nat) (ac : List Value) (ym : Nat) (am : List Value) (t : Nat) (M : Mem) : Prop := exI (LY pl tl) d yc ac M (fun r M1 => exI (LY pl tl) d ym am M1 (fun r2 M2 => r2 = r ∧ Inv (t + 1) M2))
theorem z_1 {x : Int32} (h : ¬ x < nI 1) {n : Nat} (hn : n < 2147483648) (h2 : x ≤ nI n) : ∃ j, 1 ≤ j ∧ j ≤ n ∧ x = nI j := by
  rw [Int32.lt_iff_toInt_lt, nI_toInt (by omega)] at h
  rw [Int32.le_iff_toInt_le, nI_toInt hn] at h2
  rcases z_ix x (n := 2147483647) (by omega) with (q | q) | ⟨j, hj, e⟩
  · rw [Int32.lt_iff_toInt_lt] at q
    have : (0 : Int32).toInt = 0 := by decide
    omega
  · rw [Int32.le_iff_toInt_le, nI_toInt (by omega)] at q
    subst_vars
    have h3 := Int32.toInt_lt x
    refine ⟨2147483647, by omega, by omega, Int32.toInt_inj.mp ?_⟩
    rw [nI_toInt (by omega)]; omega
  · subst e
    rw [nI_toInt (by omega)] at h h2
    exact ⟨j, by omega, by omega, rfl⟩
theorem z_0 {x : Int32} (h : ¬ x < 0) {n : Nat} (hn : n < 2147483648) (h2 : x ≤ nI n) : ∃ j, j ≤ n ∧ x = nI j := by
  obtain ⟨j, hj, e⟩ := nI_of h
  subst e
  exact ⟨j, (nI_leI hj hn).mp h2, rfl⟩
section O1
variable {pl : Option Nat} {tl : List LC} {d : Nat} {M : Mem} {t : Nat}
theorem s_sets_y {Q : Int32 → Mem → Prop} {k x a b : Nat} (hk : k < 480) (ha : a ≤ x) (hb : x ≤ b) (hb2 : b < 2147483648) (h : Q (M.1 53 k) (si M 53 k (nI x))) : exI (LY pl tl) (d + 2) 154 [.ref 52, .int (nI k), .int (nI x), .int (nI a), .int (nI b)] M Q := by
  refine e_X11_sets (s_in ?_)
  simp only [z_wle]
  rw [if_pos ⟨nI_le ha (by omega), nI_le hb (by omega)⟩]
  rw [z_cl (by omega)]
  have hv : vp_in (nI k) 480 := (z_in (by omega) (by omega)).mpr hk
  exact ⟨fun _ => ⟨hv, hv, h⟩, fun c => absurd c (by decide)⟩
theorem s_sets_n {Q : Int32 → Mem → Prop} {k x a b : Int32} (hn : ¬ (a ≤ x ∧ x ≤ b)) (h : Q (-1) M) : exI (LY pl tl) (d + 2) 154 [.ref 52, .int k, .int x, .int a, .int b] M Q := by
  refine e_X11_sets (s_in ?_)
  simp only [z_wle]
  rw [if_neg hn]
  exact ⟨fun c => absurd rfl c, fun _ => h⟩
theorem Inv.thrown {M : Mem} {v : Int32} (h : Inv t M) : Inv t (si M 52 7 v) := h
theorem Inv_par {M M' : Mem} {k : Nat} {v : Int32} (h : Inv t M) (hk : k = 459 ∨ k = 460 ∨ k = 461 ∨ k = 469) (hw : M'.1 53 = upd (M.1 53) k v) (hp : VP (upd (M.1 53) k v)) (hr : RP 15 M' (upd (M.1 53) k v)) (hc : ∀ j, (0 < j ∧ j < 15) ∨ (16 ≤ j ∧ j < 52) ∨ (53 < j) → M'.1 j = M.1 j) (h0 : M'.1 0 8 = M.1 0 8) (h52 : ∀ j, j < 7 → M'.1 52 j = M.1 52 j) (h2 : M'.2 = M.2) : Inv t M' := by
  obtain ⟨⟨⟨v1, v2, v3, v4⟩, r1, r2, r3, r4⟩, hrow, htx, hkp, ht⟩ := h
  have hne : ∀ j, j ≠ k → upd (M.1 53) k v j = M.1 53 j := fun j hj => upd_ne hj
  refine ⟨⟨?_, ?_⟩, ?_, ?_, ?_, ht⟩
  · rw [hw]
    exact ⟨(VL_cg (fun j hj => hne j (by omega))).1.mpr v1, VC_cg (fun j hj => hne j (by omega)) v2, hp, VM_cg (fun j hj => hne j (by omega)) v4⟩
  · rw [hw]
    refine ⟨?_, ?_, hr, ?_⟩
    · have := RLd_cg (b := 15) (M := M) (fun j hj => hne j (by omega)) v1 r1
      unfold RLd at this ⊢
      simp only [hc (15 + 1) (by omega), hc (15 + 2) (by omega), hc (15 + 3) (by omega), hc (15 + 4) (by omega), hc (15 + 5) (by omega), hc (15 + 6) (by omega), hc (15 + 7) (by omega), hc (15 + 8) (by omega)]
      exact this
    · have := RK_cg (b := 15) (M := M) (fun j hj => hne j (by omega)) v2 r2
      unfold RK at this ⊢
      simp only [hc (15 + 9) (by omega), hc (15 + 10) (by omega), hc (15 + 11) (by omega), hc (15 + 12) (by omega)]
      exact this
    · have := RH_cg (b := 15) (M := M) (fun j hj => hne j (by omega)) r4
      unfold RH at this ⊢
      simp only [hc (15 + 9) (by omega), hc (15 + 13) (by omega)]
      exact this
  · unfold RowOk at hrow ⊢
    rw [h2, hc 1 (by omega), h52 6 (by omega)]; exact hrow
  · unfold TxtOk at htx ⊢
    rw [hc 4 (by omega), hc 5 (by omega), hc 55 (by omega), h52 4 (by omega)]; exact htx
  · unfold KpOk RC RLd RK RP RH at hkp ⊢
    simp only [h0, h52 2 (by omega), hc 54 (by omega), hc 29 (by omega), hc (29 + 1) (by omega), hc (29 + 2) (by omega), hc (29 + 3) (by omega), hc (29 + 4) (by omega), hc (29 + 5) (by omega), hc (29 + 6) (by omega), hc (29 + 7) (by omega), hc (29 + 8) (by omega), hc (29 + 9) (by omega), hc (29 + 10) (by omega), hc (29 + 11) (by omega), hc (29 + 12) (by omega), hc (29 + 13) (by omega)]
    exact hkp
theorem op_reach {x : Int32} (h : Inv t M) (ht : t < 512) : Op pl tl (d + 12) 5 [.ref 0, .int x] 155 [.ref 52, .int x] t M := by
  have hI := h.up (t' := t + 1) (by omega) (by omega)
  have hr := h.1.2.2.2.1
  refine e_X10_reach ⟨fun c => e_X11_reach (s_sets_n ?_ ⟨rfl, hI⟩), fun c => ⟨fun c2 => ?_, fun c2 => e_X11_reach (s_sets_n ?_ ⟨rfl, hI⟩)⟩⟩
  · intro q; have := q.1; rw [Int32.le_iff_toInt_le] at this; rw [Int32.lt_iff_toInt_lt] at c; omega
  · obtain ⟨j, h1, h2, e⟩ := z_1 c (by omega) c2
    subst e
    refine e_X11_reach (s_sets_y (by omega) h1 h2 (by omega) ⟨hr.1.symm, ?_⟩)
    refine Inv_par (k := 459) (v := nI j) hI (by omega) rfl ?_ ?_ (fun j hj => ?_) rfl (fun j hj => ?_) rfl
    · have hp := hI.1.1.2.2.1
      have e0 : rcN (upd (M.1 53) 459 (nI j)) = j := tn_nI (by omega)
      exact ⟨by rw [e0]; exact ⟨rfl, h1, h2⟩, hp.2⟩
    · exact ⟨rfl, hr.2⟩
    · rw [si_c (by omega), si_c (by omega), si_c (by omega)]
    · rw [si_c (by omega), si_1, if_neg (by omega), si_c (by omega)]
  · intro q; exact c2 q.2
theorem op_service {x : Int32} (h : Inv t M) (ht : t < 512) : Op pl tl (d + 12) 6 [.ref 0, .int x] 156 [.ref 52, .int x] t M := by
  have hI := h.up (t' := t + 1) (by omega) (by omega)
  have hr := h.1.2.2.2.1
  refine e_X10_service ⟨fun c => e_X11_service (s_sets_n ?_ ⟨rfl, hI⟩), fun c => ⟨fun c2 => ?_, fun c2 => e_X11_service (s_sets_n ?_ ⟨rfl, hI⟩)⟩⟩
  · intro q; have := q.1; rw [Int32.le_iff_toInt_le] at this; rw [Int32.lt_iff_toInt_lt] at c; omega
  · obtain ⟨j, h1, h2, e⟩ := z_1 c (by omega) c2
    subst e
    refine e_X11_service (s_sets_y (by omega) h1 h2 (by omega) ⟨hr.2.1.symm, ?_⟩)
    refine Inv_par (k := 460) (v := nI j) hI (by omega) rfl ?_ ?_ (fun j hj => ?_) rfl (fun j hj => ?_) rfl
    · have hp := hI.1.1.2.2.1
      have e0 : svN (upd (M.1 53) 460 (nI j)) = j := tn_nI (by omega)
      exact ⟨hp.1, by rw [e0]; exact ⟨rfl, h2⟩, hp.2.2⟩
    · exact ⟨hr.1, rfl, hr.2.2⟩
    · rw [si_c (by omega), si_c (by omega), si_c (by omega)]
    · rw [si_c (by omega), si_1, if_neg (by omega), si_c (by omega)]
  · intro q; exact c2 q.2
theorem op_limit {x : Int32} (h : Inv t M) (ht : t < 512) : Op pl tl (d + 12) 7 [.ref 0, .int x] 157 [.ref 52, .int x] t M := by
  have hI := h.up (t' := t + 1) (by omega) (by omega)
  have hr := h.1.2.2.2.1
  refine e_X10_limit ⟨fun c => e_X11_limit (s_sets_n ?_ ⟨rfl, hI⟩), fun c => ⟨fun c2 => ?_, fun c2 => e_X11_limit (s_sets_n ?_ ⟨rfl, hI⟩)⟩⟩
  · intro q; have := q.1; rw [Int32.le_iff_toInt_le] at this; rw [Int32.lt_iff_toInt_lt] at c
    have e1 : (nI 0).toInt = 0 := by decide
    have e2 : (0 : Int32).toInt = 0 := by decide
    omega
  · obtain ⟨j, h2, e⟩ := z_0 c (by omega) c2
    subst e
    refine e_X11_limit (s_sets_y (by omega) (Nat.zero_le j) h2 (by omega) ⟨hr.2.2.1.symm, ?_⟩)
    refine Inv_par (k := 461) (v := nI j) hI (by omega) rfl ?_ ?_ (fun j hj => ?_) rfl (fun j hj => ?_) rfl
    · have hp := hI.1.1.2.2.1
      have e0 : lmN (upd (M.1 53) 461 (nI j)) = j := tn_nI (by omega)
      exact ⟨hp.1, hp.2.1, by rw [e0]; exact ⟨rfl, h2⟩⟩
    · exact ⟨hr.1, hr.2.1, rfl, hr.2.2.2⟩
    · rw [si_c (by omega), si_c (by omega), si_c (by omega)]
    · rw [si_c (by omega), si_1, if_neg (by omega), si_c (by omega)]
  · intro q; exact c2 q.2
theorem op_seed {x : Int32} (h : Inv t M) (ht : t < 512) : Op pl tl (d + 12) 18 [.ref 0, .int x] 184 [.ref 52, .int x] t M := by
  have hI := h.up (t' := t + 1) (by omega) (by omega)
  have hr := h.1.2.2.2.1
  refine e_X10_seed (e_X11_seed ⟨hr.2.2.2.symm, ?_⟩)
  refine Inv_par (k := 469) (v := x) hI (by omega) rfl ?_ ?_ (fun j hj => ?_) rfl (fun j hj => ?_) rfl
  · exact hI.1.1.2.2.1
  · exact ⟨hr.1, hr.2.1, hr.2.2.1, rfl⟩
  · rw [si_c (by omega), si_c (by omega), si_c (by omega)]
  · rw [si_c (by omega), si_1, if_neg (by omega), si_c (by omega)]
theorem s_cStation {Q : Int32 → Mem → Prop} {x : Int32} {n : Nat} (hn : n ≤ 8) (hM : M.1 16 8 = nI n) (hy : ∀ j, j < n → x = nI j → Q (nI 1) M) (hno : (x < 0 ∨ nI n ≤ x) → Q (nI 0) M) : exI (LY pl tl) (d + 1) 47 [.ref 0, .int x] M Q := by
  refine e_X10_isStation ⟨fun c => hno (Or.inl c), fun c => ⟨fun c2 => hno (Or.inr (by rw [← hM]; exact c2)), fun c2 => ?_⟩⟩
  rw [hM] at c2
  rcases z_ix x (n := n) (by omega) with (h | h) | ⟨j, hj, e⟩
  · exact absurd h c
  · exact absurd h c2
  · exact hy j hj e
theorem s_cEngine {Q : Int32 → Mem → Prop} {x : Int32} {n : Nat} (hn : n ≤ 6) (hM : M.1 24 4 = nI n) (hy : ∀ j, j < n → x = nI j → Q (nI 1) M) (hno : (x < 0 ∨ nI n ≤ x) → Q (nI 0) M) : exI (LY pl tl) (d + 1) 48 [.ref 0, .int x] M Q := by
  refine e_X10_isEngine ⟨fun c => hno (Or.inl c), fun c => ⟨fun c2 => hno (Or.inr (by rw [← hM]; exact c2)), fun c2 => ?_⟩⟩
  rw [hM] at c2
  rcases z_ix x (n := n) (by omega) with (h | h) | ⟨j, hj, e⟩
  · exact absurd h c
  · exact absurd h c2
  · exact hy j hj e
/-- the NODE of a STATION -/
theorem s_placeOf_y {Q : Int32 → Mem → Prop} {n j : Nat} (hn : n ≤ 8) (hM : M.1 16 8 = nI n) (hj : j < n) (h : Q (M.1 23 j) M) : exI (LY pl tl) (d + 1) 86 [.ref 16, .int (nI j)] M Q := by
  refine e_X3_placeOf_16 ?_
  rw [hM, z_cl (by omega)]
  exact br_f (nI_pos (by omega)) (br_f (nI_ge hj (by omega)) ⟨(z_in (by omega) (by omega)).mpr (by omega), h⟩)
theorem s_placeOf_n {Q : Int32 → Mem → Prop} {n : Nat} {x : Int32} (hM : M.1 16 8 = nI n) (hx : x < 0 ∨ nI n ≤ x) (h : Q (-1) M) : exI (LY pl tl) (d + 1) 86 [.ref 16, .int x] M Q := by
  refine e_X3_placeOf_16 ?_
  rw [hM]
  rcases hx with q | q
  · exact br_t q h
  · exact ⟨fun _ => h, fun _ => br_t q h⟩
theorem op_station {x : Int32} (h : Inv t M) (ht : t < 512) : Op pl tl (d + 12) 13 [.ref 0, .int x] 175 [.ref 52, .int x] t M := by
  have hI := h.up (t' := t + 1) (by omega) (by omega)
  obtain ⟨⟨⟨v1, v2, v3, v4⟩, r1, r2, r3, r4⟩, -⟩ := h
  have hn := v1.1.2
  have hM : M.1 16 8 = nI (sN (M.1 53)) := r1.2.1.trans v1.1.1
  rcases z_ix x (n := sN (M.1 53)) (by omega) with q | ⟨j, hj, e⟩
  · refine e_X10_station (s_placeOf_n hM q (e_X11_station (s_mStation hn v1.1.1 (fun j hj e => ?_) (fun _ => ⟨fun _ => ⟨rfl, hI⟩, fun c => absurd rfl c⟩))))
    exfalso
    subst e
    rcases q with q | q
    · exact nI_pos (by omega) q
    · exact nI_ge hj (by omega) q
  · subst e
    refine e_X10_station (s_placeOf_y hn hM hj (e_X11_station (s_mStation hn v1.1.1 (fun i hi e => ⟨fun c => absurd c (by decide), fun _ => ?_⟩) (fun q => ?_))))
    · rw [nI_add, z_cl (by omega)]
      exact ⟨(z_in (by omega) (by omega)).mpr (by omega), (r1.2.2.2.1 j hj).symm, hI⟩
    · exfalso
      rcases q with q | q
      · exact nI_pos (by omega) q
      · exact nI_ge hj (by omega) q
theorem s_wayOf {Q : Int32 → Mem → Prop} {a b : Nat} (ha : a < 12) (hb : b < 12) (h : Q (M.1 22 (12 * a + b)) M) : exI (LY pl tl) (d + 2) 84 [.ref 16, .int (nI a), .int (nI b)] M Q := by
  refine e_X3_wayOf_16 (s_cNode (fun _ _ _ => ⟨fun c => absurd c (by decide), fun _ => ?_⟩) (fun q => ?_))
  · refine s_cNode (fun _ _ _ => ⟨fun c => absurd c (by decide), fun _ => ⟨?_, ?_⟩⟩) (fun q => ?_)
    · rw [pk_mul, nI_add]; exact (z_in (by omega) (by omega)).mpr (by omega)
    · rw [pk_mul, nI_add, z_cl (by omega)]; exact h
    · exfalso
      rcases q with q | q
      · exact nI_pos (by omega) q
      · exact nI_ge hb (by omega) q
  · exfalso
    rcases q with q | q
    · exact nI_pos (by omega) q
    · exact nI_ge ha (by omega) q
theorem s_farOf {Q : Int32 → Mem → Prop} {a b : Nat} (ha : a < 12) (hb : b < 12) (h : Q (M.1 58 (12 * a + b)) M) : exI (LY pl tl) (d + 1) 160 [.ref 52, .int (nI a), .int (nI b)] M Q := by
  refine e_X11_farOf ⟨?_, ?_⟩
  · rw [pk_mul, nI_add]; exact (z_in (by omega) (by omega)).mpr (by omega)
  · rw [pk_mul, nI_add, z_cl (by omega)]; exact h
theorem out_nI {n j : Nat} (hj : j < n) (hn : n < 2147483648) (q : nI j < 0 ∨ nI n ≤ nI j) : False := by
  rcases q with q | q
  · exact nI_pos (by omega) q
  · exact nI_ge hj hn q
theorem op_far {x y : Int32} (h : Inv t M) (ht : t < 512) : Op pl tl (d + 12) 9 [.ref 0, .int x, .int y] 164 [.ref 52, .int x, .int y] t M := by
  have hI := h.up (t' := t + 1) (by omega) (by omega)
  obtain ⟨⟨⟨v1, v2, v3, v4⟩, r1, r2, r3, r4⟩, -⟩ := h
  refine e_X10_far (s_cNode (fun a ha e => ?_) (fun q => ⟨fun _ => ?_, fun c => absurd rfl c⟩))
  · subst e
    refine ⟨fun c => absurd c (by decide), fun _ => s_cNode (fun b hb e => ?_) (fun q => ⟨fun c => absurd rfl c, fun _ => ?_⟩)⟩
    · subst e
      refine ⟨fun _ => s_wayOf ha hb ?_, fun c => absurd c (by decide)⟩
      refine e_X11_far (s_mNode (fun _ _ _ => ⟨fun c => absurd c (by decide), fun _ => s_mNode (fun _ _ _ => ⟨fun _ => ?_, fun c => absurd c (by decide)⟩) (fun q => (out_nI hb (by omega) q).elim)⟩) (fun q => (out_nI ha (by omega) q).elim))
      refine s_laysFar v1.2.2.2.2.2.1 (s_farOf ha hb ⟨?_, hI⟩)
      rw [sa_s, fA_at _ _ ha hb]
      exact (r1.2.2.2.2.2 a b ha hb).symm
    · refine e_X11_far (s_mNode (fun _ _ _ => ⟨fun c => absurd c (by decide), fun _ => s_mNode (fun j hj e => ?_) (fun q => ⟨fun c => absurd rfl c, fun _ => ⟨rfl, hI⟩⟩)⟩) (fun q => (out_nI ha (by omega) q).elim))
      subst e; exact (out_nI hj (by omega) q).elim
  · refine e_X11_far (s_mNode (fun j hj e => ?_) (fun _ => ⟨fun _ => ⟨rfl, hI⟩, fun c => absurd rfl c⟩))
    subst e; exact (out_nI hj (by omega) q).elim
end O1
