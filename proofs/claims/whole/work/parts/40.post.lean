/-! MOVES: post, swap -/
theorem dist_pos (w : Nat → Int32) {a b : Nat} (h : a ≠ b) : 1 ≤ dist w a b := FW_pos (fun a b h => by
  unfold co
  rw [if_neg h]
  split
  · next q => exact q.1
  · omega) 12 a b h
/-- a move begun -/
def mvW (w : Nat → Int32) (e s way : Nat) : Nat → Int32 := upd (upd (upd (upd (upd (upd w (308 + e) (nI s)) (320 + e) (nI 1)) (314 + e) (w 462 + nI way)) (392 + bN w % 64) (w 462)) 468 (w 468 + nI 1)) 467 (w 467 + nI 1)
section MW
variable {w : Nat → Int32} {e s way : Nat}
theorem mvW_ne {j : Nat} (he : e < 6) (h1 : j < 308 ∨ 326 ≤ j) (h2 : j < 392 ∨ 456 ≤ j) (h3 : j ≠ 467) (h4 : j ≠ 468) : mvW w e s way j = w j := by
  unfold mvW
  rw [upd_ne h3, upd_ne h4, upd_ne (by omega), upd_ne (by omega), upd_ne (by omega), upd_ne (by omega)]
theorem mvW_po {e' : Nat} (he : e < 6) (he' : e' < 6) : mvW w e s way (308 + e') = if e' = e then nI s else w (308 + e') := by
  unfold mvW
  rw [upd_ne (by omega), upd_ne (by omega), upd_ne (by omega), upd_ne (by omega), upd_ne (by omega)]
  by_cases q : e' = e
  · subst q; rw [upd_eq, if_pos rfl]
  · rw [upd_ne (by omega), if_neg q]
theorem mvW_mo {e' : Nat} (he : e < 6) (he' : e' < 6) : mvW w e s way (320 + e') = if e' = e then nI 1 else w (320 + e') := by
  unfold mvW
  rw [upd_ne (by omega), upd_ne (by omega), upd_ne (by omega), upd_ne (by omega)]
  by_cases q : e' = e
  · subst q; rw [upd_eq, if_pos rfl]
  · rw [upd_ne (by omega), upd_ne (by omega), if_neg q]
theorem mvW_ra {e' : Nat} (he : e < 6) (he' : e' < 6) : mvW w e s way (314 + e') = if e' = e then w 462 + nI way else w (314 + e') := by
  unfold mvW
  rw [upd_ne (by omega), upd_ne (by omega), upd_ne (by omega)]
  by_cases q : e' = e
  · subst q; rw [upd_eq, if_pos rfl]
  · rw [upd_ne (by omega), upd_ne (by omega), upd_ne (by omega), if_neg q]
theorem mvW_hs {i : Nat} (he : e < 6) (hi : i < 64) : mvW w e s way (392 + i) = if i = bN w % 64 then w 462 else w (392 + i) := by
  unfold mvW
  rw [upd_ne (by omega), upd_ne (by omega)]
  by_cases q : i = bN w % 64
  · subst q; rw [upd_eq, if_pos rfl]
  · rw [upd_ne (by omega), upd_ne (by omega), upd_ne (by omega), upd_ne (by omega), if_neg q]
theorem mvW_468 : mvW w e s way 468 = w 468 + nI 1 := by
  unfold mvW
  rw [upd_ne (by omega), upd_eq]
theorem mvW_467 : mvW w e s way 467 = w 467 + nI 1 := upd_eq _ _ _
theorem mvW_V {t : Nat} (hv : V w t) (ht : t ≤ 512) (he : e < eN w) (hs' : s < sN w) (hb : bN w + 1 ≤ 6 * t) : V (mvW w e s way) t ∧ bN (mvW w e s way) = bN w + 1 := by
  have n6 := hv.2.1.1.2
  have s8 := hv.1.1.2
  have he6 : e < 6 := by omega
  have ne : ∀ {j : Nat}, (j < 308 ∨ 326 ≤ j) → (j < 392 ∨ 456 ≤ j) → j ≠ 467 → j ≠ 468 → mvW w e s way j = w j := fun h1 h2 h3 h4 => mvW_ne he6 h1 h2 h3 h4
  have e1 : eN (mvW w e s way) = eN w := by unfold eN; rw [ne (by omega) (by omega) (by omega) (by omega)]
  have e2 : sN (mvW w e s way) = sN w := by unfold sN; rw [ne (by omega) (by omega) (by omega) (by omega)]
  have hmi : miN w ≤ 600 * t := hv.2.2.2.1.2
  have e462 : w 462 = nI (miN w) := hv.2.2.2.1.1
  have e3 : miN (mvW w e s way) = miN w := by unfold miN; rw [ne (by omega) (by omega) (by omega) (by omega)]
  have e468 : mvW w e s way 468 = nI (bN w + 1) := by rw [mvW_468, hv.2.2.2.2.1.1, nI_add]
  have e4 : bN (mvW w e s way) = bN w + 1 := by show tn (mvW w e s way 468) = _; rw [e468, tn_nI (by omega)]
  refine ⟨⟨(VL_cg (fun j hj => ne (by omega) (by omega) (by omega) (by omega))).1.mpr hv.1, ?_, VP_cg (fun j hj => ne (by omega) (by omega) (by omega) (by omega)) hv.2.2.1, ?_⟩, e4⟩
  · unfold VC
    rw [e1, e2, ne (by omega) (by omega) (by omega) (by omega)]
    refine ⟨hv.2.1.1, fun e' he' => ?_⟩
    obtain ⟨p1, m1, m2⟩ := hv.2.1.2 e' he'
    have x1 : po (mvW w e s way) e' = tn (mvW w e s way (308 + e')) := rfl
    have x3 : mo (mvW w e s way) e' = tn (mvW w e s way (320 + e')) := rfl
    rw [x1, x3, mvW_mo he6 (by omega), mvW_po he6 (by omega)]
    by_cases q : e' = e
    · rw [if_pos q, if_pos q, tn_nI (by omega), tn_nI (by omega)]
      exact ⟨⟨rfl, hs'⟩, rfl, by omega⟩
    · rw [if_neg q, if_neg q]
      exact ⟨p1, m1, m2⟩
  · have hH : ∀ i, i < bN w + 1 → bN w + 1 ≤ i + 64 → mvW w e s way (392 + i % 64) = (if i = bN w then nI (miN w) else w (392 + i % 64)) := fun i hi hb' => by
      rw [mvW_hs he6 (by omega), e462]
      by_cases q : i = bN w
      · rw [if_pos q, if_pos (by rw [q])]
      · rw [if_neg q, if_neg (by omega)]
    have hH2 : ∀ i, i < bN w + 1 → bN w + 1 ≤ i + 64 → hs (mvW w e s way) i = (if i = bN w then miN w else hs w i) := fun i hi hb' => by
      show tn (mvW w e s way (392 + i % 64)) = _
      rw [hH i hi hb']
      by_cases q : i = bN w
      · rw [if_pos q, if_pos q, tn_nI (by omega)]
      · rw [if_neg q, if_neg q]; rfl
    unfold VM
    rw [e3, e4, e468, ne (by omega) (by omega) (by omega) (by omega)]
    refine ⟨hv.2.2.2.1, ⟨rfl, hb⟩, fun i hi hb' => ?_, fun i j hij hj hb' => ?_⟩
    · rw [hH2 i hi hb', hH i hi hb']
      by_cases q : i = bN w
      · rw [if_pos q, if_pos q]; exact ⟨rfl, by omega⟩
      · rw [if_neg q, if_neg q]
        exact hv.2.2.2.2.2.1 i (by omega) (by omega)
    · rw [hH2 i (by omega) hb', hH2 j hj (by omega)]
      by_cases q : j = bN w
      · rw [if_pos q]
        by_cases q2 : i = bN w
        · rw [if_pos q2]; omega
        · rw [if_neg q2]
          exact (hv.2.2.2.2.2.1 i (by omega) (by omega)).2
      · rw [if_neg q, if_neg (by omega)]
        exact hv.2.2.2.2.2.2 i j hij (by omega) (by omega)
end MW
section S40
variable {pl : Option Nat} {tl : List LC} {d : Nat} {M : Mem} {t : Nat}
theorem s_sends {Q : Mem → Prop} {e s way : Nat} (hv : V (M.1 53) t) (ht : t ≤ 512) (h58 : ∀ a b, a < 12 → b < 12 → M.1 58 (12 * a + b) = nI (dist (M.1 53) a b)) (he : e < eN (M.1 53)) (hs' : s < sN (M.1 53)) (hway : way = dist (M.1 53) (sp (M.1 53) (po (M.1 53) e)) (sp (M.1 53) s)) (h : Q (sa M 53 (mvW (M.1 53) e s way))) : exV (LY pl tl) (d + 2) 226 [.ref 52, .int (nI e), .int (nI s)] M Q := by
  have n6 := hv.2.1.1.2
  have s8 := hv.1.1.2
  obtain ⟨⟨p1, p2⟩, -⟩ := hv.2.1.2 e he
  obtain ⟨q1, q2⟩ := hv.1.2.2.2.1 _ p2
  obtain ⟨q3, q4⟩ := hv.1.2.2.2.1 _ hs'
  have hB : bN (M.1 53) ≤ 6 * t := hv.2.2.2.2.1.2
  refine e_X11_sends ?_
  rw [nI_add 308 e, nI_add 300 s, nI_add 320 e, z_cl (show 308 + e < 2147483648 by omega), z_cl (show 300 + s < 2147483648 by omega), z_cl (show 320 + e < 2147483648 by omega), p1, nI_add 300 (po (M.1 53) e), z_cl (show 300 + po (M.1 53) e < 2147483648 by omega), q1, q3]
  refine ⟨(z_in (by omega) (by omega)).mpr (by omega), (z_in (by omega) (by omega)).mpr (by omega), (z_in (by omega) (by omega)).mpr (by omega), s_farOf q2 q4 ?_⟩
  rw [h58 _ _ q2 q4, ← hway]
  refine ⟨(z_in (by omega) (by omega)).mpr (by omega), (z_in (by omega) (by omega)).mpr (by omega), ?_⟩
  have f1 : si (si M 53 (308 + e) (nI s)) 53 (320 + e) (nI 1) = sa M 53 (upd (upd (M.1 53) (308 + e) (nI s)) (320 + e) (nI 1)) := by
    simp only [si_sa, sa_s, sa_sa]
  rw [f1]
  refine c_X11_sends_56 ?_
  rw [nI_add 314 e, z_cl (show 314 + e < 2147483648 by omega)]
  refine ⟨(z_in (by omega) (by omega)).mpr (by omega), ?_⟩
  have f2 : (sa M 53 (upd (upd (M.1 53) (308 + e) (nI s)) (320 + e) (nI 1))).1 53 462 = M.1 53 462 := by rw [sa_s, upd_ne (by omega), upd_ne (by omega)]
  rw [f2, sa_upd]
  refine c_X11_sends_76 ?_
  generalize hu : upd (upd (upd (M.1 53) (308 + e) (nI s)) (320 + e) (nI 1)) (314 + e) (M.1 53 462 + nI way) = u
  have u462 : u 462 = M.1 53 462 := by rw [← hu, upd_ne (by omega), upd_ne (by omega), upd_ne (by omega)]
  have u467 : u 467 = M.1 53 467 := by rw [← hu, upd_ne (by omega), upd_ne (by omega), upd_ne (by omega)]
  have u468 : u 468 = M.1 53 468 := by rw [← hu, upd_ne (by omega), upd_ne (by omega), upd_ne (by omega)]
  have u468' : u 468 = nI (bN (M.1 53)) := u468.trans hv.2.2.2.2.1.1
  have f3 : (sa M 53 u).1 53 = u := sa_s _ _ _
  rw [f3, u468', pk_rem (by omega) (by omega) (by omega), nI_add, z_cl (by omega), u462]
  refine ⟨(z_in (by omega) (by omega)).mpr (by omega), c_X11_sends_104 (c_X11_sends_116 ?_)⟩
  have f4 : si (si (si (sa M 53 u) 53 (392 + bN (M.1 53) % 64) (M.1 53 462)) 53 468 ((si (sa M 53 u) 53 (392 + bN (M.1 53) % 64) (M.1 53 462)).1 53 468 + nI 1)) 53 467 ((si (si (sa M 53 u) 53 (392 + bN (M.1 53) % 64) (M.1 53 462)) 53 468 ((si (sa M 53 u) 53 (392 + bN (M.1 53) % 64) (M.1 53 462)).1 53 468 + nI 1)).1 53 467 + nI 1) = sa M 53 (mvW (M.1 53) e s way) := by
    simp only [si_sa, sa_s, sa_sa]
    unfold mvW
    rw [hu, upd_ne (show 468 ≠ 392 + bN (M.1 53) % 64 by omega), upd_ne (show 467 ≠ 468 by omega), upd_ne (show 467 ≠ 392 + bN (M.1 53) % 64 by omega), u468, u467]
  rw [f4]
  exact h
theorem s_remember {Q : Mem → Prop} {n : Nat} (hn : n ≤ 20) (h5 : M.1 24 5 = nI n) (h : ∀ B, Fr15 M B → (∀ c, c ≠ 24 → c ≠ 28 → B.1 c = M.1 c) → (∀ j, j ≠ 5 → B.1 24 j = M.1 24 j) → B.1 24 5 = nI (min (n + 1) 20) → (∀ j, j < min (n + 1) 20 → B.1 28 j = if j + 1 = min (n + 1) 20 then M.1 24 6 else if n < 20 then M.1 28 j else M.1 28 (j + 1)) → Q B) : exV (LY pl tl) (d + 1) 74 [.ref 24] M Q := by
  refine e_X2_remember ?_
  rw [h5, z_lt (by omega) (by omega), z_cl (by omega), nI_add]
  refine ⟨fun c => ⟨(z_in (by omega) (by omega)).mpr c, h _ ⟨rfl, fun c hc => ?_⟩ (fun c h1 h2 => ?_) (fun j hj => ?_) ?_ (fun j hj => ?_)⟩, fun c => h _ ⟨rfl, fun c hc => ?_⟩ (fun c h1 h2 => ?_) (fun j hj => ?_) ?_ (fun j hj => ?_)⟩
  · rw [si_c (by omega), si_c (by omega)]
  · rw [si_c h1, si_c h2]
  · rw [si_s, upd_ne hj, si_c (by omega)]
  · rw [si_s, upd_eq, show min (n + 1) 20 = n + 1 by omega]
  · rw [si_c (by omega), si_s]
    by_cases q : j = n
    · subst q; rw [upd_eq, if_pos (by omega)]
    · rw [upd_ne q, if_neg (by omega), if_pos c]
  · rw [si_c (by omega), si_c (by omega), si_c (by omega), sa_n (by omega)]
  · rw [si_c h1, si_c h2, si_c h1, sa_n h2]
  · rw [si_s, upd_ne hj, si_c (by omega), si_s, upd_ne hj, sa_n (by omega)]
  · rw [si_s, upd_eq, nI_add, show min (n + 1) 20 = 19 + 1 by omega]
  · rw [si_c (by omega), si_s, si_c (by omega), sa_s]
    by_cases q : j = 19
    · subst q; rw [upd_eq, if_pos (by omega)]
    · rw [upd_ne q, if_neg (by omega), if_neg c]
      unfold va_cpy
      rw [if_pos (by omega), show 1 + (j - 0) = j + 1 by omega]
theorem s_move {Q : Mem → Prop} {w : Nat → Int32} {e s way : Nat} (hv : V w t) (ht : t ≤ 512) (hr : RC 15 M w) (he : e < eN w) (hs' : s < sN w) (hb : bN w + 1 ≤ 6 * t) (hw0 : 0 < way) (hw1 : way ≤ 999) (h : ∀ B, Fr15 M B → RC 15 B (mvW w e s way) → Q B) : exV (LY pl tl) (d + 2) 73 [.ref 24, .int (nI e), .int (nI s), .int (nI way)] M Q := by
  have n6 := hv.2.1.1.2
  have s8 := hv.1.1.2
  have he6 : e < 6 := by omega
  have hv6 : vp_in (nI e) 6 := (z_in (by omega) (by omega)).mpr (by omega)
  obtain ⟨r1, ⟨k1, k2, k6, k7, k8, k9, k10, k11⟩, r3, r4⟩ := id hr
  have hM : M.1 24 4 = nI (eN w) := k1.trans hv.2.1.1.1
  have ne : ∀ {j : Nat}, (j < 308 ∨ 326 ≤ j) → (j < 392 ∨ 456 ≤ j) → j ≠ 467 → j ≠ 468 → mvW w e s way j = w j := fun h1 h2 h3 h4 => mvW_ne he6 h1 h2 h3 h4
  have eE : eN (mvW w e s way) = eN w := by unfold eN; rw [ne (by omega) (by omega) (by omega) (by omega)]
  have eB := (mvW_V (way := way) hv ht he hs' hb).2
  refine e_X2_move ?_
  rw [hM, z_cl (by omega)]
  refine br_f (nI_pos (by omega)) (br_f (nI_ge he (by omega)) ⟨hv6, br_f (fun q => by have := (z_le0 (by omega)).mp q; omega) ⟨hv6, hv6, ?_⟩⟩)
  generalize hA : si (si (si (si M 25 e (nI s)) 26 e (nI 1)) 27 e (M.1 24 6 + nI way)) 24 11 (M.1 24 11 + nI 1) = A
  have aF : Fr15 M A := by
    rw [← hA]
    exact ⟨rfl, fun c hc => by rw [si_c (by omega), si_c (by omega), si_c (by omega), si_c (by omega)]⟩
  have aC : ∀ c, c ≠ 24 → c ≠ 25 → c ≠ 26 → c ≠ 27 → A.1 c = M.1 c := fun c h1 h2 h3 h4 => by rw [← hA, si_c h1, si_c h4, si_c h3, si_c h2]
  have a24 : ∀ j, j ≠ 11 → A.1 24 j = M.1 24 j := fun j hj => by rw [← hA, si_s, upd_ne hj]; rfl
  have a11 : A.1 24 11 = M.1 24 11 + nI 1 := by rw [← hA, si_s, upd_eq]
  have a25 : A.1 25 = upd (M.1 25) e (nI s) := by rw [← hA, si_c (by omega), si_c (by omega), si_c (by omega), si_s]
  have a26 : A.1 26 = upd (M.1 26) e (nI 1) := by rw [← hA, si_c (by omega), si_c (by omega), si_s]; rfl
  have a27 : A.1 27 = upd (M.1 27) e (M.1 24 6 + nI way) := by rw [← hA, si_c (by omega), si_s]; rfl
  clear hA
  refine s_remember (n := min (bN w) 20) (by omega) ((a24 5 (by omega)).trans r4.1) (fun B bF bC b24 b5 b28 => h B (aF.trans' bF) ?_)
  have c1 : ∀ c, c ≠ 24 → c ≠ 25 → c ≠ 26 → c ≠ 27 → c ≠ 28 → B.1 c = M.1 c := fun c h1 h2 h3 h4 h5 => (bC c h1 h5).trans (aC c h1 h2 h3 h4)
  have q1 : RLd 15 M (mvW w e s way) := RLd_cg (fun j hj => ne (by omega) (by omega) (by omega) (by omega)) hv.1 r1
  have q3 : RP 15 M (mvW w e s way) := RP_cg (fun j hj => ne (by omega) (by omega) (by omega) (by omega)) r3
  have d24 : ∀ j, j ≠ 11 → j ≠ 5 → B.1 24 j = M.1 24 j := fun j h1 h2 => (b24 j h2).trans (a24 j h1)
  have k6' : M.1 24 6 = w 462 := k6
  refine ⟨?_, ⟨?_, fun e' he' => ?_, ?_, ?_, ?_, ?_, ?_, ?_⟩, ?_, ?_⟩
  · unfold RLd at q1 ⊢
    rw [c1 (15 + 1) (by omega) (by omega) (by omega) (by omega) (by omega), c1 (15 + 2) (by omega) (by omega) (by omega) (by omega) (by omega), c1 (15 + 3) (by omega) (by omega) (by omega) (by omega) (by omega), c1 (15 + 4) (by omega) (by omega) (by omega) (by omega) (by omega), c1 (15 + 5) (by omega) (by omega) (by omega) (by omega) (by omega), c1 (15 + 6) (by omega) (by omega) (by omega) (by omega) (by omega), c1 (15 + 7) (by omega) (by omega) (by omega) (by omega) (by omega), c1 (15 + 8) (by omega) (by omega) (by omega) (by omega) (by omega)]
    exact q1
  · rw [ne (by omega) (by omega) (by omega) (by omega)]; exact (d24 4 (by omega) (by omega)).trans k1
  · rw [eE] at he'
    obtain ⟨x1, x2, x3⟩ := k2 e' he'
    have y1 : B.1 25 = A.1 25 := bC 25 (by omega) (by omega)
    have y2 : B.1 26 = A.1 26 := bC 26 (by omega) (by omega)
    have y3 : B.1 27 = A.1 27 := bC 27 (by omega) (by omega)
    rw [mvW_po he6 (by omega), mvW_mo he6 (by omega), mvW_ra he6 (by omega)]
    show B.1 25 e' = _ ∧ B.1 26 e' = _ ∧ B.1 27 e' = _
    rw [y1, y2, y3, a25, a26, a27]
    by_cases q : e' = e
    · subst q
      rw [upd_eq, upd_eq, upd_eq, if_pos rfl, if_pos rfl, if_pos rfl, k6']
      exact ⟨rfl, rfl, rfl⟩
    · rw [upd_ne q, upd_ne q, upd_ne q, if_neg q, if_neg q, if_neg q]
      exact ⟨x1, x2, x3⟩
  · rw [ne (by omega) (by omega) (by omega) (by omega)]; exact (d24 6 (by omega) (by omega)).trans k6
  · rw [ne (by omega) (by omega) (by omega) (by omega)]; exact (d24 7 (by omega) (by omega)).trans k7
  · rw [ne (by omega) (by omega) (by omega) (by omega)]; exact (d24 8 (by omega) (by omega)).trans k8
  · rw [ne (by omega) (by omega) (by omega) (by omega)]; exact (d24 9 (by omega) (by omega)).trans k9
  · rw [ne (by omega) (by omega) (by omega) (by omega)]; exact (d24 10 (by omega) (by omega)).trans k10
  · rw [mvW_467]
    refine (b24 11 (by omega)).trans (a11.trans ?_)
    rw [show M.1 24 11 = w 467 from k11]
  · unfold RP at q3 ⊢
    rw [c1 15 (by omega) (by omega) (by omega) (by omega) (by omega)]
    exact q3
  · unfold RH
    rw [eB]
    have em : min (min (bN w) 20 + 1) 20 = min (bN w + 1) 20 := by omega
    rw [em] at b5 b28
    refine ⟨b5, fun j hj => ?_⟩
    refine (b28 j hj).trans ?_
    rw [mvW_hs he6 (by omega)]
    have a28 : A.1 28 = M.1 28 := aC 28 (by omega) (by omega) (by omega) (by omega)
    by_cases q : j + 1 = min (bN w + 1) 20
    · rw [if_pos q, if_pos (by congr 1; omega), a24 6 (by omega), k6']
    · rw [if_neg q, if_neg (show ¬ (bN w + 1 - min (bN w + 1) 20 + j) % 64 = bN w % 64 by omega), a28]
      by_cases q2 : min (bN w) 20 < 20
      · rw [if_pos q2]
        have z := r4.2 j (by omega)
        rw [show bN w - min (bN w) 20 + j = bN w + 1 - min (bN w + 1) 20 + j by omega] at z
        exact z
      · rw [if_neg q2]
        have z := r4.2 (j + 1) (by omega)
        rw [show bN w - min (bN w) 20 + (j + 1) = bN w + 1 - min (bN w + 1) 20 + j by omega] at z
        exact z
theorem s_wayOfSt {Q : Int32 → Mem → Prop} {w : Nat → Int32} {s s' : Nat} (hv : V w t) (hr : RC 15 M w) (h1 : s < sN w) (h2 : s' < sN w) (h : Q (nI (dist w (sp w s) (sp w s'))) M) : exI (LY pl tl) (d + 3) 85 [.ref 16, .int (nI s), .int (nI s')] M Q := by
  have s8 := hv.1.1.2
  obtain ⟨q1, q2⟩ := hv.1.2.2.2.1 _ h1
  obtain ⟨q3, q4⟩ := hv.1.2.2.2.1 _ h2
  have hM : M.1 16 8 = nI (sN w) := hr.1.2.1.trans hv.1.1.1
  have e1 : M.1 23 s = nI (sp w s) := (hr.1.2.2.2.1 s h1).trans q1
  have e2 : M.1 23 s' = nI (sp w s') := (hr.1.2.2.2.1 s' h2).trans q3
  refine e_X3_wayOfStations_16 (s_placeOf_y s8 hM h1 (s_placeOf_y s8 hM h2 ?_))
  rw [e1, e2]
  refine s_wayOf q2 q4 ?_
  have e3 : M.1 22 (12 * sp w s + sp w s') = nI (dist w (sp w s) (sp w s')) := hr.1.2.2.2.2.2 _ _ q2 q4
  rw [e3]
  exact h
abbrev lfM (M : Mem) : Mem := sa M 58 (fA (dist (M.1 53)) (M.1 58))
theorem lf58 (M : Mem) : ∀ a b, a < 12 → b < 12 → (lfM M).1 58 (12 * a + b) = nI (dist ((lfM M).1 53) a b) := fun a b ha hb => fA_at _ _ ha hb
theorem s_lf {Q : Mem → Prop} (hv : V (M.1 53) t) (h : Q (lfM M)) : exV (LY pl tl) (d + 2) 159 [.ref 52] M Q := s_laysFar hv.1.2.2.2.2.2.1 h
theorem m_post {Q : Int32 → Mem → Prop} {e s : Nat} (hv : V (M.1 53) t) (ht : t ≤ 512) (he : e < eN (M.1 53)) (hs' : s < sN (M.1 53)) (h2 : ¬ M.1 53 (320 + e) = nI 0 → Q (-2) (thr M)) (h3 : M.1 53 (320 + e) = nI 0 → (dist (M.1 53) (sp (M.1 53) (po (M.1 53) e)) (sp (M.1 53) s) = 999 ∨ po (M.1 53) e = s) → Q (-3) (lfM (thr M))) (h4 : M.1 53 (320 + e) = nI 0 → dist (M.1 53) (sp (M.1 53) (po (M.1 53) e)) (sp (M.1 53) s) ≠ 999 → po (M.1 53) e ≠ s → mvN (M.1 53) = 0 → Q (-4) (lfM (thr M))) (h : M.1 53 (320 + e) = nI 0 → dist (M.1 53) (sp (M.1 53) (po (M.1 53) e)) (sp (M.1 53) s) ≠ 999 → po (M.1 53) e ≠ s → mvN (M.1 53) ≠ 0 → Q (nI (dist (M.1 53) (sp (M.1 53) (po (M.1 53) e)) (sp (M.1 53) s))) (sa (lfM (thr M)) 53 (mvW (M.1 53) e s (dist (M.1 53) (sp (M.1 53) (po (M.1 53) e)) (sp (M.1 53) s))))) : exI (LY pl tl) (d + 4) 228 [.ref 52, .int (nI e), .int (nI s)] M Q := by
  have n6 := hv.2.1.1.2
  have s8 := hv.1.1.2
  obtain ⟨⟨p1, p2⟩, -⟩ := hv.2.1.2 e he
  obtain ⟨q1, q2⟩ := hv.1.2.2.2.1 _ p2
  obtain ⟨q3, q4⟩ := hv.1.2.2.2.1 _ hs'
  have dl := dist_le hv.1.2.2.2.2.2.1 q2 q4
  have hl : lmN (M.1 53) ≤ 20 := hv.2.2.1.2.2.2
  have hmv : mvN (M.1 53) ≤ lmN (M.1 53) := by unfold mvN; omega
  refine e_X11_post (s_mEngine (M := thr M) n6 hv.2.1.1.1 (fun _ _ _ => ⟨fun c => absurd c (by decide), fun _ => s_mStation (M := thr M) s8 hv.1.1.1 (fun _ _ _ => ⟨fun _ => s_isReady (M := thr M) (by omega) ?_, fun c => absurd c (by decide)⟩) (fun q => (out_nI hs' (by omega) q).elim)⟩) (fun q => (out_nI he (by omega) q).elim))
  have z0 : (thr M).1 53 (320 + e) = M.1 53 (320 + e) := rfl
  rw [z0]
  by_cases hr : M.1 53 (320 + e) = nI 0
  · rw [if_pos hr]
    refine ⟨fun _ => s_lf (M := thr M) (t := t) hv ?_, fun c => absurd c (by decide)⟩
    have f1 : (lfM (thr M)).1 53 = M.1 53 := rfl
    rw [f1, nI_add 308 e, nI_add 300 s, z_cl (show 308 + e < 2147483648 by omega), z_cl (show 300 + s < 2147483648 by omega), p1, nI_add 300 (po (M.1 53) e), z_cl (show 300 + po (M.1 53) e < 2147483648 by omega), q1, q3]
    refine ⟨(z_in (by omega) (by omega)).mpr (by omega), (z_in (by omega) (by omega)).mpr (by omega), (z_in (by omega) (by omega)).mpr (by omega), s_farOf q2 q4 ⟨(z_in (by omega) (by omega)).mpr (by omega), ?_⟩⟩
    rw [lf58 (thr M) _ _ q2 q4, f1, p1, z_eq (by omega) (by omega), z_lt (by omega) (by omega)]
    refine ⟨fun c => h3 hr (Or.inr c.symm), fun c => ⟨fun c2 => s_mayM (M := lfM (thr M)) (t := t) hv ht ⟨fun c3 => ?_, fun c3 => ?_⟩, fun c2 => h3 hr (Or.inl (by omega))⟩⟩
    · have c3' : mvN (M.1 53) ≠ 0 := fun z => c3 ((z_eq0 (by rw [f1]; omega)).mpr (by rw [f1]; exact z))
      exact s_sends (t := t) (M := lfM (thr M)) hv ht (lf58 (thr M)) he hs' rfl (h hr (by omega) (fun z => c z.symm) c3')
    · have c3' : mvN (M.1 53) = 0 := (z_eq0 (by omega)).mp c3
      exact h4 hr (by omega) (fun z => c z.symm) c3'
  · rw [if_neg hr]
    exact ⟨fun c => absurd rfl c, fun _ => h2 hr⟩
theorem op_post {x y : Int32} (h : Inv t M) (ht : t < 512) : Op pl tl (d + 12) 39 [.ref 0, .int x, .int y] 228 [.ref 52, .int x, .int y] t M := by
  have hI := h.up (t' := t + 1) (by omega) (by omega)
  obtain ⟨⟨hv0, hr⟩, -⟩ := h
  have hv := hI.1.1
  have n6 := hv.2.1.1.2
  have s8 := hv.1.1.2
  have hB : bN (M.1 53) ≤ 6 * t := hv0.2.2.2.2.1.2
  have hE : M.1 24 4 = nI (eN (M.1 53)) := hr.2.1.1.trans hv.2.1.1.1
  have hS : M.1 16 8 = nI (sN (M.1 53)) := hr.1.2.1.trans hv.1.1.1
  refine e_X10_post (s_cEngine n6 hE (fun e he e0 => ?_) (fun q => ⟨fun _ => ?_, fun c => absurd rfl c⟩))
  · subst e0
    refine ⟨fun c => absurd c (by decide), fun _ => s_cStation s8 hS (fun s hs' e0 => ⟨fun _ => ?_, fun c => absurd c (by decide)⟩) (fun q => ⟨fun c => absurd rfl c, fun _ => ?_⟩)⟩
    · subst e0
      obtain ⟨⟨p1, p2⟩, -⟩ := hv.2.1.2 e he
      obtain ⟨q1, q2⟩ := hv.1.2.2.2.1 _ p2
      obtain ⟨q3, q4⟩ := hv.1.2.2.2.1 _ hs'
      have dl := dist_le hv.1.2.2.2.2.2.1 q2 q4
      have hl : lmN (M.1 53) ≤ 20 := hv.2.2.1.2.2.2
      have hmv : mvN (M.1 53) ≤ lmN (M.1 53) := by unfold mvN; omega
      have v6 := (z_in (n := e) (N := 6) (by omega) (by omega)).mpr (by omega)
      have k26 : M.1 26 e = M.1 53 (320 + e) := (hr.2.1.2.1 e he).2.1
      have k25 : M.1 25 e = nI (po (M.1 53) e) := (hr.2.1.2.1 e he).1.trans p1
      rw [z_cl (by omega), k26, k25]
      refine ⟨v6, fun c => ⟨v6, s_wayOfSt hv hr p2 hs' ?_⟩, fun c => ?_⟩
      · have c : M.1 53 (320 + e) = nI 0 := c
        rw [z_eq (by omega) (by omega), z_eq (by omega) (by omega)]
        refine ⟨fun c2 => ?_, fun c2 => ⟨fun c3 => s_mayC hv (by omega) hr ?_, fun c3 => ?_⟩⟩
        · exact m_post (t := t + 1) hv (by omega) he hs' (fun z => absurd c z) (fun _ _ => ⟨rfl, hI⟩) (fun _ z => absurd c2 z) (fun _ z => absurd c2 z)
        · rw [z_le (by omega) (by omega)]
          refine ⟨fun c4 => ?_, fun c4 => ?_⟩
          · have hne : sp (M.1 53) (po (M.1 53) e) ≠ sp (M.1 53) s := fun z => c3 (hv.1.2.2.2.2.1 _ _ p2 hs' z)
            have dp := dist_pos (M.1 53) hne
            refine s_move (t := t + 1) hv (by omega) hr he hs' (by omega) (by omega) dl (fun B bF bR => ?_)
            have h53 : B.1 53 = M.1 53 := bF.2 53 (by omega)
            refine m_post (t := t + 1) (M := B) (by rw [h53]; exact hv) (by omega) (by rw [h53]; exact he) (by rw [h53]; exact hs') (fun z => absurd c (by rw [← h53]; exact z)) (fun _ z => ?_) (fun _ _ _ z => ?_) (fun _ _ _ _ => ?_)
            · rw [h53] at z; rcases z with z | z
              · exact absurd z c2
              · exact absurd z c3
            · rw [h53] at z; omega
            · rw [h53]
              refine ⟨rfl, ?_⟩
              refine Inv_step (A := M) (B := B) (w := mvW (M.1 53) e s (dist (M.1 53) (sp (M.1 53) (po (M.1 53) e)) (sp (M.1 53) s))) hI bF (mvW_V hv (by omega) he hs' (by omega)).1 bR (sa_s _ _ _) (fun i h1 h2 => ?_) ⟨rfl, rfl⟩ ?_
              · rw [sa_n (by omega), sa_n (by omega)]; exact si_c (by omega)
              · have hrow := hI.2.1
                unfold RowOk at hrow ⊢
                rw [← bF.1, ← bF.2 1 (by omega), ← bF.2 52 (by omega)] at hrow
                exact hrow
          · exact m_post (t := t + 1) hv (by omega) he hs' (fun z => absurd c z) (fun _ z => by rcases z with z | z; exact absurd z c2; exact absurd z c3) (fun _ _ _ _ => ⟨rfl, hI⟩) (fun _ _ _ z => by omega)
        · exact m_post (t := t + 1) hv (by omega) he hs' (fun z => absurd c z) (fun _ _ => ⟨rfl, hI⟩) (fun _ _ z => absurd c3 z) (fun _ _ z => absurd c3 z)
      · have c : ¬ M.1 53 (320 + e) = nI 0 := c
        exact m_post (t := t + 1) hv (by omega) he hs' (fun _ => ⟨rfl, hI⟩) (fun z => absurd z c) (fun z => absurd z c) (fun z => absurd z c)
    · refine e_X11_post (s_mEngine (M := thr M) n6 hv.2.1.1.1 (fun _ _ _ => ⟨fun c => absurd c (by decide), fun _ => s_mStation (M := thr M) s8 hv.1.1.1 (fun j hj e1 => ?_) (fun _ => ⟨fun c => absurd rfl c, fun _ => ⟨rfl, hI⟩⟩)⟩) (fun q => (out_nI he (by omega) q).elim))
      subst e1; exact (out_nI hj (by omega) q).elim
  · refine e_X11_post (s_mEngine (M := thr M) n6 hv.2.1.1.1 (fun j hj e1 => ?_) (fun _ => ⟨fun _ => ⟨rfl, hI⟩, fun c => absurd rfl c⟩))
    subst e1; exact (out_nI hj (by omega) q).elim
end S40
