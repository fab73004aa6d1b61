/-! A CALL: who goes, what it leaves -/
theorem z_sub_l (x y : Int32) : x + y - x = y := by rw [Int32.add_comm, Int32.add_sub_cancel]
/-- counters and the seed aside, all is as it was -/
theorem cnt_cg {w w' : Nat → Int32} {t : Nat} (h : ∀ j, (j < 463 ∨ 470 ≤ j ∨ j = 468) → w' j = w j) (hv : V w t) : V w' t ∧ eN w' = eN w ∧ sN w' = sN w ∧ rcN w' = rcN w ∧ (∀ a b, a < 12 → b < 12 → dist w' a b = dist w a b) ∧ (∀ e, e < 6 → rdy w' e = rdy w e ∧ po w' e = po w e) ∧ (∀ s, s < 8 → sp w' s = sp w s) ∧ ∀ e a, e < eN w → a < 12 → ew w' e a = ew w e a := by
  have c := VL_cg (w := w) (w' := w') (fun j hj => h j (by omega))
  have e1 : eN w' = eN w := by unfold eN; rw [h 457 (by omega)]
  have e2 : ∀ e, e < 6 → rdy w' e = rdy w e ∧ po w' e = po w e := fun e he => by
    unfold rdy po
    rw [h (320 + e) (by omega), h (308 + e) (by omega)]
    exact ⟨rfl, rfl⟩
  have e3 : ∀ s, s < 8 → sp w' s = sp w s := fun s hs => by unfold sp; rw [h (300 + s) (by omega)]
  have n6 := hv.2.1.1.2
  have s8 := hv.1.1.2
  refine ⟨⟨c.1.mpr hv.1, VC_cg (fun j hj => h j (by omega)) hv.2.1, VP_cg (fun j hj => h j (by omega)) hv.2.2.1, VM_cg (fun j hj => h j (by omega)) hv.2.2.2⟩, e1, c.2.1, by unfold rcN; rw [h 459 (by omega)], c.2.2.2.2.2, e2, e3, fun e a he ha => ?_⟩
  have hp := (hv.2.1.2 e he).1.2
  have hs := (hv.1.2.2.2.1 _ hp).2
  unfold ew
  rw [(e2 e (by omega)).1, (e2 e (by omega)).2, e3 _ (by omega), c.2.2.2.2.2 _ _ hs ha]
theorem fm_cg {v v' : Nat → Nat} : ∀ n, (∀ e, e < n → v e = v' e) → fm v n = fm v' n
  | 0, _ => rfl
  | n + 1, h => by
    have ih := fm_cg n (fun e he => h e (by omega))
    show (match fm v n with
      | none => if v n < 999 then some n else none
      | some g => if v n < v g then some n else some g) = (match fm v' n with
      | none => if v' n < 999 then some n else none
      | some g => if v' n < v' g then some n else some g)
    rw [← ih, h n (by omega)]
    cases hf : fm v n with
    | none => rfl
    | some g => show (if v' n < v g then _ else _) = (if v' n < v' g then _ else _); rw [h g (by have := (fm_lt hf).1; omega)]
abbrev gW (w : Nat → Int32) (a : Nat) : Option Nat := fm (fun e => ew w e a) (eN w)
/-- a call done -/
def clW (w : Nat → Int32) (a : Nat) : Nat → Int32 := match gW w a with
  | none => upd (upd w 463 (w 463 + nI 1)) 465 (w 465 + nI 1)
  | some e => upd (upd (upd (upd (upd w 463 (w 463 + nI 1)) 466 (w 466 + nI (ew w e a))) 464 (w 464 + nI (if ew w e a ≤ rcN w then 0 else 1))) (320 + e) (nI 2)) (314 + e) (w 462 + nI 2 * nI (ew w e a) + w 460)
theorem clW_none {w : Nat → Int32} {a : Nat} (h : gW w a = none) : clW w a = upd (upd w 463 (w 463 + nI 1)) 465 (w 465 + nI 1) := by unfold clW; rw [h]
theorem clW_some {w : Nat → Int32} {a e : Nat} (h : gW w a = some e) : clW w a = upd (upd (upd (upd (upd w 463 (w 463 + nI 1)) 466 (w 466 + nI (ew w e a))) 464 (w 464 + nI (if ew w e a ≤ rcN w then 0 else 1))) (320 + e) (nI 2)) (314 + e) (w 462 + nI 2 * nI (ew w e a) + w 460) := by unfold clW; rw [h]
theorem clW_ne {w : Nat → Int32} {a : Nat} (hn : eN w ≤ 6) {j : Nat} (h1 : j < 314 ∨ 326 ≤ j) (h2 : j < 463 ∨ 466 < j) : clW w a j = w j := by
  cases hg : gW w a with
  | none => rw [clW_none hg, upd_ne (by omega), upd_ne (by omega)]
  | some e =>
    have := (fm_lt hg).1
    rw [clW_some hg, upd_ne (by omega), upd_ne (by omega), upd_ne (by omega), upd_ne (by omega), upd_ne (by omega)]
theorem clW_mode {w : Nat → Int32} {a e : Nat} (he : e < 6) (hn : eN w ≤ 6) : clW w a (320 + e) = if gW w a = some e then nI 2 else w (320 + e) := by
  cases hg : gW w a with
  | none => rw [clW_none hg, upd_ne (by omega), upd_ne (by omega)]; rfl
  | some g =>
    have := (fm_lt hg).1
    rw [clW_some hg, upd_ne (by omega)]
    by_cases q : g = e
    · subst q; rw [upd_eq, if_pos rfl]
    · rw [upd_ne (by omega), upd_ne (by omega), upd_ne (by omega), upd_ne (by omega), if_neg (fun z => q (Option.some.inj z))]
theorem clW_V {w : Nat → Int32} {t a : Nat} (hv : V w t) : V (clW w a) t ∧ miN (clW w a) = miN w := by
  have n6 := hv.2.1.1.2
  have ne : ∀ {j : Nat}, (j < 314 ∨ 326 ≤ j) → (j < 463 ∨ 466 < j) → clW w a j = w j := fun h1 h2 => clW_ne n6 h1 h2
  refine ⟨⟨(VL_cg (fun j hj => ne (by omega) (by omega))).1.mpr hv.1, ?_, VP_cg (fun j hj => ne (by omega) (by omega)) hv.2.2.1, VM_cg (fun j hj => ne (by omega) (by omega)) hv.2.2.2⟩, by unfold miN; rw [ne (by omega) (by omega)]⟩
  have e1 : eN (clW w a) = eN w := by unfold eN; rw [ne (by omega) (by omega)]
  have e2 : sN (clW w a) = sN w := by unfold sN; rw [ne (by omega) (by omega)]
  unfold VC
  rw [e1, e2, ne (by omega) (by omega)]
  refine ⟨hv.2.1.1, fun e he => ?_⟩
  obtain ⟨p1, m1, m2⟩ := hv.2.1.2 e he
  have x1 : po (clW w a) e = po w e := by unfold po; rw [ne (by omega) (by omega)]
  rw [x1, ne (by omega) (by omega)]
  refine ⟨p1, ?_⟩
  have x3 : mo (clW w a) e = tn (clW w a (320 + e)) := rfl
  rw [x3, clW_mode (by omega) n6]
  split
  · exact ⟨by rw [tn_nI (by omega)], by rw [tn_nI (by omega)]; omega⟩
  · exact ⟨m1, m2⟩
section S25
variable {pl : Option Nat} {tl : List LC} {d : Nat} {M : Mem} {t : Nat}
theorem s_callsM {Q : Int32 → Mem → Prop} {a : Nat} (hv : V (M.1 53) t) (h58 : ∀ a b, a < 12 → b < 12 → M.1 58 (12 * a + b) = nI (dist (M.1 53) a b)) (ha : a < 12) (h : Q (oM1 (gW (M.1 53) a)) (sa M 53 (clW (M.1 53) a))) : exI (LY pl tl) (d + 4) 176 [.ref 52, .int (nI a)] M Q := by
  have n6 := hv.2.1.1.2
  have s53 : (si M 53 463 (M.1 53 463 + nI 1)).1 53 = upd (M.1 53) 463 (M.1 53 463 + nI 1) := si_s _ _ _ _
  have cg := cnt_cg (w := M.1 53) (w' := upd (M.1 53) 463 (M.1 53 463 + nI 1)) (fun j hj => upd_ne (by omega)) hv
  have gE : gW (upd (M.1 53) 463 (M.1 53 463 + nI 1)) a = gW (M.1 53) a := by
    unfold gW
    rw [cg.2.1]
    exact fm_cg _ (fun e he => cg.2.2.2.2.2.2.2 e a he ha)
  have h58' : ∀ x y, x < 12 → y < 12 → (si M 53 463 (M.1 53 463 + nI 1)).1 58 (12 * x + y) = nI (dist ((si M 53 463 (M.1 53 463 + nI 1)).1 53) x y) := fun x y hx hy => by
    rw [s53, cg.2.2.2.2.1 x y hx hy]; exact h58 x y hx hy
  refine e_X11_calls (s_goer (t := t) (by rw [s53]; exact cg.1) h58' ha ?_)
  have gE' : fm (fun e => ew ((si M 53 463 (M.1 53 463 + nI 1)).1 53) e a) (eN ((si M 53 463 (M.1 53 463 + nI 1)).1 53)) = gW (M.1 53) a := by rw [s53]; exact gE
  rw [gE']
  cases hg : gW (M.1 53) a with
  | none =>
    rw [hg] at h
    refine ⟨fun c => absurd rfl c, fun _ => ?_⟩
    rw [clW_none hg] at h
    have e7 : si (si M 53 463 (M.1 53 463 + nI 1)) 53 465 ((si M 53 463 (M.1 53 463 + nI 1)).1 53 465 + nI 1) = sa M 53 (upd (upd (M.1 53) 463 (M.1 53 463 + nI 1)) 465 (M.1 53 465 + nI 1)) := by
      simp only [si_sa, sa_s, sa_sa]
      rw [upd_ne (show 465 ≠ 463 by omega)]
    rw [e7]
    exact h
  | some e =>
    rw [hg] at h
    obtain ⟨f1, f2⟩ := fm_lt hg
    have f2 : ew (M.1 53) e a < 999 := f2
    have hew : ew (M.1 53) e a = dist (M.1 53) (sp (M.1 53) (po (M.1 53) e)) a := by
      unfold ew
      by_cases q : rdy (M.1 53) e = true
      · rw [if_pos q]
      · exfalso
        have : ew (M.1 53) e a = 999 := if_neg q
        omega
    refine ⟨fun _ => ?_, fun c => ((z_m1 (show e < 2147483648 by omega)).mp c).elim⟩
    refine s_wayM (t := t) (by rw [s53]; exact cg.1) h58' (by rw [s53, cg.2.1]; exact f1) ha ?_
    have hp := (hv.2.1.2 e f1).1.2
    have hs := (hv.1.2.2.2.1 _ hp).2
    have s8 := hv.1.1.2
    have e5 : dist ((si M 53 463 (M.1 53 463 + nI 1)).1 53) (sp ((si M 53 463 (M.1 53 463 + nI 1)).1 53) (po ((si M 53 463 (M.1 53 463 + nI 1)).1 53) e)) a = ew (M.1 53) e a := by
      rw [s53, (cg.2.2.2.2.2.1 e (by omega)).2, cg.2.2.2.2.2.2.1 _ (by omega), cg.2.2.2.2.1 _ _ hs ha, hew]
    have e6 : (si M 53 463 (M.1 53 463 + nI 1)).1 53 459 = nI (rcN (M.1 53)) := by rw [s53, upd_ne (by omega)]; exact hv.2.2.1.1.1
    have hrc := hv.2.2.1.1.2.2
    have o1e : oM1 (some e) = nI e := rfl
    rw [o1e, nI_add 320 e, nI_add 314 e, z_cl (show 320 + e < 2147483648 by omega), z_cl (show 314 + e < 2147483648 by omega)]
    rw [e5, e6, z_le (by omega) (by omega)]
    rw [clW_some hg] at h
    have fin : ∀ (k : Nat), k = (if ew (M.1 53) e a ≤ rcN (M.1 53) then 0 else 1) → Q (nI e) (si (si (si (si (si M 53 463 (M.1 53 463 + nI 1)) 53 466 ((si M 53 463 (M.1 53 463 + nI 1)).1 53 466 + nI (ew (M.1 53) e a))) 53 464 ((si M 53 463 (M.1 53 463 + nI 1)).1 53 464 + nI k)) 53 (320 + e) (nI 2)) 53 (314 + e) ((si (si (si (si M 53 463 (M.1 53 463 + nI 1)) 53 466 ((si M 53 463 (M.1 53 463 + nI 1)).1 53 466 + nI (ew (M.1 53) e a))) 53 464 ((si M 53 463 (M.1 53 463 + nI 1)).1 53 464 + nI k)) 53 (320 + e) (nI 2)).1 53 462 + nI 2 * nI (ew (M.1 53) e a) + (si (si (si (si M 53 463 (M.1 53 463 + nI 1)) 53 466 ((si M 53 463 (M.1 53 463 + nI 1)).1 53 466 + nI (ew (M.1 53) e a))) 53 464 ((si M 53 463 (M.1 53 463 + nI 1)).1 53 464 + nI k)) 53 (320 + e) (nI 2)).1 53 460)) := by
      intro k hk
      subst hk
      have g1 : (si M 53 463 (M.1 53 463 + nI 1)).1 53 466 = M.1 53 466 := by rw [s53, upd_ne (by omega)]
      have g2 : (si M 53 463 (M.1 53 463 + nI 1)).1 53 464 = M.1 53 464 := by rw [s53, upd_ne (by omega)]
      rw [g1, g2]
      simp only [si_sa, sa_s, sa_sa]
      rw [upd_ne (show 462 ≠ 320 + e by omega), upd_ne (show 460 ≠ 320 + e by omega), upd_ne (show 462 ≠ 464 by omega), upd_ne (show 460 ≠ 464 by omega), upd_ne (show 462 ≠ 466 by omega), upd_ne (show 460 ≠ 466 by omega), upd_ne (show 462 ≠ 463 by omega), upd_ne (show 460 ≠ 463 by omega)]
      exact h
    have hv1 : vp_in (nI (320 + e)) 480 := (z_in (by omega) (by omega)).mpr (by omega)
    have hv2 : vp_in (nI (314 + e)) 480 := (z_in (by omega) (by omega)).mpr (by omega)
    exact ⟨fun c => ⟨hv1, hv2, fin 0 (by rw [if_pos c])⟩, fun c => ⟨hv1, hv2, fin 1 (by rw [if_neg c])⟩⟩
theorem s_send {Q : Int32 → Mem → Prop} {w : Nat → Int32} {a : Nat} (hv : V w t) (hr : RC 15 M w) (ha : a < 12) (h : ∀ B, Fr15 M B → RC 15 B (clW w a) → Q (oM1 (gW w a)) B) : exI (LY pl tl) (d + 5) 131 [.ref 15, .int (nI a)] M Q := by
  have n6 := hv.2.1.1.2
  obtain ⟨r1, ⟨k1, k2, k6, k7, k8, k9, k10, k11⟩, r3, r4⟩ := id hr
  have hM : M.1 24 4 = nI (eN w) := k1.trans hv.2.1.1.1
  have ne : ∀ {j : Nat}, (j < 314 ∨ 326 ≤ j) → (j < 463 ∨ 466 < j) → clW w a j = w j := fun h1 h2 => clW_ne n6 h1 h2
  have eE : eN (clW w a) = eN w := by unfold eN; rw [ne (by omega) (by omega)]
  -- what is left to see of the new world
  have fin : ∀ B : Mem, Fr15 M B → (∀ c, (15 ≤ c ∧ c ≤ 23) ∨ c = 25 ∨ c = 28 → B.1 c = M.1 c) → (∀ j, j = 4 ∨ j = 5 ∨ j = 6 ∨ j = 11 → B.1 24 j = M.1 24 j) → (∀ e, e < eN w → B.1 26 e = clW w a (320 + e) ∧ B.1 27 e = clW w a (314 + e)) → B.1 24 7 = clW w a 463 → B.1 24 8 = clW w a 464 → B.1 24 9 = clW w a 465 → B.1 24 10 = clW w a 466 → RC 15 B (clW w a) := by
    intro B hF c1 c2 c3 c7 c8 c9 c10
    have q1 : RLd 15 M (clW w a) := RLd_cg (fun j hj => ne (by omega) (by omega)) hv.1 r1
    have q3 : RP 15 M (clW w a) := RP_cg (fun j hj => ne (by omega) (by omega)) r3
    have q4 : RH 15 M (clW w a) := RH_cg (fun j hj => ne (by omega) (by omega)) r4
    refine ⟨?_, ⟨?_, fun e he => ?_, ?_, c7, c8, c9, c10, ?_⟩, ?_, ?_⟩
    · unfold RLd at q1 ⊢
      rw [c1 (15 + 1) (by omega), c1 (15 + 2) (by omega), c1 (15 + 3) (by omega), c1 (15 + 4) (by omega), c1 (15 + 5) (by omega), c1 (15 + 6) (by omega), c1 (15 + 7) (by omega), c1 (15 + 8) (by omega)]
      exact q1
    · rw [ne (by omega) (by omega)]; exact (c2 4 (by omega)).trans k1
    · rw [eE] at he
      obtain ⟨x1, x2⟩ := c3 e he
      refine ⟨?_, x1, x2⟩
      rw [ne (by omega) (by omega), c1 (15 + 10) (by omega)]; exact (k2 e he).1
    · rw [ne (by omega) (by omega)]; exact (c2 6 (by omega)).trans k6
    · rw [ne (by omega) (by omega)]; exact (c2 11 (by omega)).trans k11
    · unfold RP at q3 ⊢
      rw [c1 15 (by omega)]
      exact q3
    · unfold RH at q4 ⊢
      rw [c1 (15 + 13) (by omega)]
      exact ⟨(c2 5 (by omega)).trans q4.1, q4.2⟩
  refine e_X9_send (s_whoGoes hv hr ha ?_)
  have hgw : fm (fun e => ew w e a) (eN w) = gW w a := rfl
  cases hg : gW w a with
  | none =>
    rw [hg] at h
    rw [hgw, hg]
    have cl := clW_none hg
    refine ⟨fun c => absurd rfl c, fun _ => h _ ⟨rfl, fun c hc => ?_⟩ (fin _ ⟨rfl, fun c hc => ?_⟩ (fun c hc => ?_) (fun j hj => ?_) (fun e he => ?_) ?_ ?_ ?_ ?_)⟩
    · rw [si_c (by omega), si_c (by omega)]
    · rw [si_c (by omega), si_c (by omega)]
    · rw [si_c (by omega), si_c (by omega)]
    · rw [si_1, if_neg (by omega), si_1, if_neg (by omega)]
    · rw [cl, upd_ne (by omega), upd_ne (by omega), upd_ne (by omega), upd_ne (by omega)]
      exact ⟨(k2 e he).2.1, (k2 e he).2.2⟩
    · rw [cl, upd_ne (by omega), upd_eq]
      show M.1 24 7 + nI 1 = _
      rw [show M.1 24 7 = w 463 from k7]
    · rw [cl, upd_ne (by omega), upd_ne (by omega)]; exact k8
    · rw [cl, upd_eq]
      show M.1 24 9 + nI 1 = _
      rw [show M.1 24 9 = w 465 from k9]
    · rw [cl, upd_ne (by omega), upd_ne (by omega)]; exact k10
  | some e =>
    rw [hg] at h
    rw [hgw, hg]
    obtain ⟨f1, f2⟩ := fm_lt hg
    have f2 : ew w e a < 999 := f2
    have cl := clW_some hg
    have hv6 : vp_in (nI e) 6 := (z_in (by omega) (by omega)).mpr (by omega)
    have hrc := hv.2.2.1.1.2.2
    refine ⟨fun _ => ?_, fun c => ((z_m1 (show e < 2147483648 by omega)).mp c).elim⟩
    -- the way, once more
    have cg := cnt_cg (w := w) (w' := upd w 463 (w 463 + nI 1)) (fun j hj => upd_ne (by omega)) hv
    have hr1 : RC 15 (si M 24 7 (M.1 24 7 + nI 1)) (upd w 463 (w 463 + nI 1)) := by
      refine ⟨RLd_cg (b := 15) (M := M) (fun j hj => upd_ne (by omega)) hv.1 r1, ?_, RP_cg (b := 15) (M := M) (fun j hj => upd_ne (by omega)) r3, RH_cg (b := 15) (M := M) (fun j hj => upd_ne (by omega)) r4⟩
      have x0 : eN (upd w 463 (w 463 + nI 1)) = eN w := cg.2.1
      unfold RK
      rw [x0]
      refine ⟨k1, fun e he => ?_, k6, ?_, k8, k9, k10, k11⟩
      · rw [upd_ne (by omega), upd_ne (by omega), upd_ne (by omega)]; exact k2 e he
      · rw [upd_eq]
        show M.1 24 7 + nI 1 = _
        rw [show M.1 24 7 = w 463 from k7]
    refine s_readyWay (t := t) cg.1 hr1 (by rw [cg.2.1]; exact f1) ha ?_
    rw [cg.2.2.2.2.2.2.2 e a f1 ha]
    have e15 : (si M 24 7 (M.1 24 7 + nI 1)).1 15 2 = nI (rcN w) := r3.1.trans hv.2.2.1.1.1
    have e153 : (si M 24 7 (M.1 24 7 + nI 1)).1 15 3 = w 460 := r3.2.1
    rw [e15, e153, z_le (by omega) (by omega)]
    have k6' : M.1 24 6 = w 462 := k6
    have k10' : M.1 24 10 = w 466 := k10
    have goOut : ∀ (A : Mem) (x : Int32), A.1 24 4 = nI (eN w) → ∀ Q : Mem → Prop, Q (si (si (si A 26 e (nI 2)) 27 e (A.1 24 6 + nI 2 * x + w 460)) 24 10 (A.1 24 10 + x)) → exV (LY pl tl) (d + 4) 72 [.ref 24, .int (nI e), .int x, .int (w 460)] A Q := by
      intro A x hA Q hq
      refine e_X2_goOut ?_
      rw [hA, z_cl (by omega)]
      exact br_f (nI_pos (by omega)) (br_f (nI_ge f1 (by omega)) ⟨hv6, hv6, hq⟩)
    have modes : ∀ (A : Mem) (e' : Nat), e' < eN w → A.1 26 = M.1 26 → A.1 27 = M.1 27 → ∀ (v x : Int32), v = w 462 + nI 2 * nI (ew w e a) + w 460 → (si (si (si A 26 e (nI 2)) 27 e v) 24 10 x).1 26 e' = clW w a (320 + e') ∧ (si (si (si A 26 e (nI 2)) 27 e v) 24 10 x).1 27 e' = clW w a (314 + e') := by
      intro A e' he' a26 a27 v x hx
      rw [si_c (by omega), si_c (by omega), si_s, si_c (by omega), si_s, si_c (by omega), a26, a27, cl]
      by_cases q : e' = e
      · subst q
        rw [upd_eq, upd_eq, upd_eq, upd_ne (show 320 + e' ≠ 314 + e' by omega), upd_eq]
        exact ⟨rfl, hx⟩
      · rw [upd_ne q, upd_ne q]
        rw [upd_ne (show 320 + e' ≠ 314 + e by omega), upd_ne (show 320 + e' ≠ 320 + e by omega), upd_ne (show 320 + e' ≠ 464 by omega), upd_ne (show 320 + e' ≠ 466 by omega), upd_ne (show 320 + e' ≠ 463 by omega), upd_ne (show 314 + e' ≠ 314 + e by omega), upd_ne (show 314 + e' ≠ 320 + e by omega), upd_ne (show 314 + e' ≠ 464 by omega), upd_ne (show 314 + e' ≠ 466 by omega), upd_ne (show 314 + e' ≠ 463 by omega)]
        exact ⟨(k2 e' he').2.1, (k2 e' he').2.2⟩
    have at463 : clW w a 463 = w 463 + nI 1 := by rw [cl, upd_ne (by omega), upd_ne (by omega), upd_ne (by omega), upd_ne (by omega), upd_eq]
    have at464 : clW w a 464 = w 464 + nI (if ew w e a ≤ rcN w then 0 else 1) := by rw [cl, upd_ne (by omega), upd_ne (by omega), upd_eq]
    have at465 : clW w a 465 = w 465 := by rw [cl, upd_ne (by omega), upd_ne (by omega), upd_ne (by omega), upd_ne (by omega), upd_ne (by omega)]
    have at466 : clW w a 466 = w 466 + nI (ew w e a) := by rw [cl, upd_ne (by omega), upd_ne (by omega), upd_ne (by omega), upd_eq]
    refine ⟨fun c => goOut (si M 24 7 (M.1 24 7 + nI 1)) _ hM _ (h _ ⟨rfl, fun c hc => ?_⟩ (fin _ ⟨rfl, fun c hc => ?_⟩ (fun c hc => ?_) (fun j hj => ?_) (fun e' he' => ?_) ?_ ?_ ?_ ?_)), fun c => goOut (si (si M 24 7 (M.1 24 7 + nI 1)) 24 8 ((si M 24 7 (M.1 24 7 + nI 1)).1 24 8 + nI 1)) _ hM _ (h _ ⟨rfl, fun c hc => ?_⟩ (fin _ ⟨rfl, fun c hc => ?_⟩ (fun c hc => ?_) (fun j hj => ?_) (fun e' he' => ?_) ?_ ?_ ?_ ?_))⟩
    · rw [si_c (by omega), si_c (by omega), si_c (by omega), si_c (by omega)]
    · rw [si_c (by omega), si_c (by omega), si_c (by omega), si_c (by omega)]
    · rw [si_c (by omega), si_c (by omega), si_c (by omega), si_c (by omega)]
    · rw [si_1, if_neg (by omega), si_c (by omega), si_c (by omega), si_1, if_neg (by omega)]
    · exact modes (si M 24 7 (M.1 24 7 + nI 1)) e' he' rfl rfl ((si M 24 7 (M.1 24 7 + nI 1)).1 24 6 + nI 2 * nI (ew w e a) + w 460) ((si M 24 7 (M.1 24 7 + nI 1)).1 24 10 + nI (ew w e a)) (by show M.1 24 6 + _ + _ = _; rw [k6'])
    · rw [at463]
      show M.1 24 7 + nI 1 = _
      rw [show M.1 24 7 = w 463 from k7]
    · rw [at464, if_pos c, z_add0]; exact k8
    · rw [at465]; exact k9
    · rw [at466]
      show M.1 24 10 + _ = _
      rw [k10']
    · rw [si_c (by omega), si_c (by omega), si_c (by omega), si_c (by omega), si_c (by omega)]
    · rw [si_c (by omega), si_c (by omega), si_c (by omega), si_c (by omega), si_c (by omega)]
    · rw [si_c (by omega), si_c (by omega), si_c (by omega), si_c (by omega), si_c (by omega)]
    · rw [si_1, if_neg (by omega), si_c (by omega), si_c (by omega), si_1, if_neg (by omega), si_1, if_neg (by omega)]
    · exact modes (si (si M 24 7 (M.1 24 7 + nI 1)) 24 8 ((si M 24 7 (M.1 24 7 + nI 1)).1 24 8 + nI 1)) e' he' rfl rfl ((si (si M 24 7 (M.1 24 7 + nI 1)) 24 8 ((si M 24 7 (M.1 24 7 + nI 1)).1 24 8 + nI 1)).1 24 6 + nI 2 * nI (ew w e a) + w 460) ((si (si M 24 7 (M.1 24 7 + nI 1)) 24 8 ((si M 24 7 (M.1 24 7 + nI 1)).1 24 8 + nI 1)).1 24 10 + nI (ew w e a)) (by show M.1 24 6 + _ + _ = _; rw [k6'])
    · rw [at463]
      show M.1 24 7 + nI 1 = _
      rw [show M.1 24 7 = w 463 from k7]
    · rw [at464, if_neg c]
      show M.1 24 8 + nI 1 = _
      rw [show M.1 24 8 = w 464 from k8]
    · rw [at465]; exact k9
    · rw [at466]
      show M.1 24 10 + _ = _
      rw [k10']
end S25
