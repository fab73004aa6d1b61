/-! swap -/
theorem dist_sym {w : Nat → Int32} (h : VRd w) {a b : Nat} (ha : a < 12) (hb : b < 12) : dist w a b = dist w b a := by
  have e : ∀ x y, x < 12 → y < 12 → FWm (co w) 12 x y = FWm (co' w) 12 x y := fun x y hx hy => FW_congr (n := 12) (fun x y hx hy => by
    have := co_le h hx hy
    unfold co'
    rw [Nat.min_eq_left (show x ≤ 11 by omega), Nat.min_eq_left (show y ≤ 11 by omega), Nat.min_eq_left this]) 12 (Nat.le_refl _) x y hx hy
  unfold dist
  rw [e a b ha hb, e b a hb ha]
  refine FW_sym (fun x y => ?_) 12 a b
  have z := h (min x 11) (min y 11) (by omega) (by omega)
  unfold co' co
  rw [z.1.2.2, z.2.2.2]
  by_cases q : min x 11 = min y 11
  · rw [if_pos q, if_pos q.symm]
  · rw [if_neg q, if_neg (show ¬ min y 11 = min x 11 from fun k => q k.symm)]
/-- two moves -/
def swW (w : Nat → Int32) (e f : Nat) : Nat → Int32 := mvW (mvW w e (po w f) (dist w (sp w (po w e)) (sp w (po w f)))) f (po w e) (dist w (sp w (po w e)) (sp w (po w f)))
section S43
variable {pl : Option Nat} {tl : List LC} {d : Nat} {M : Mem} {t : Nat}
theorem m_swap {Q : Int32 → Mem → Prop} {e f : Nat} (hv : V (M.1 53) t) (ht : t ≤ 512) (hb : bN (M.1 53) + 2 ≤ 6 * t) (he : e < eN (M.1 53)) (hf : f < eN (M.1 53)) (hef : e ≠ f) (h2 : ¬ (M.1 53 (320 + e) = nI 0 ∧ M.1 53 (320 + f) = nI 0) → Q (-2) (thr M)) (h3 : (M.1 53 (320 + e) = nI 0 ∧ M.1 53 (320 + f) = nI 0) → (dist (M.1 53) (sp (M.1 53) (po (M.1 53) e)) (sp (M.1 53) (po (M.1 53) f)) = 999 ∨ po (M.1 53) e = po (M.1 53) f) → Q (-3) (lfM (thr M))) (h4 : (M.1 53 (320 + e) = nI 0 ∧ M.1 53 (320 + f) = nI 0) → dist (M.1 53) (sp (M.1 53) (po (M.1 53) e)) (sp (M.1 53) (po (M.1 53) f)) ≠ 999 → po (M.1 53) e ≠ po (M.1 53) f → mvN (M.1 53) < 2 → Q (-4) (lfM (thr M))) (h : (M.1 53 (320 + e) = nI 0 ∧ M.1 53 (320 + f) = nI 0) → dist (M.1 53) (sp (M.1 53) (po (M.1 53) e)) (sp (M.1 53) (po (M.1 53) f)) ≠ 999 → po (M.1 53) e ≠ po (M.1 53) f → 2 ≤ mvN (M.1 53) → Q (nI (dist (M.1 53) (sp (M.1 53) (po (M.1 53) e)) (sp (M.1 53) (po (M.1 53) f)))) (sa (lfM (thr M)) 53 (swW (M.1 53) e f))) : exI (LY pl tl) (d + 4) 229 [.ref 52, .int (nI e), .int (nI f)] M Q := by
  have n6 := hv.2.1.1.2
  have s8 := hv.1.1.2
  obtain ⟨⟨p1, p2⟩, -⟩ := hv.2.1.2 e he
  obtain ⟨⟨p3, p4⟩, -⟩ := hv.2.1.2 f hf
  obtain ⟨q1, q2⟩ := hv.1.2.2.2.1 _ p2
  obtain ⟨q3, q4⟩ := hv.1.2.2.2.1 _ p4
  have dl := dist_le hv.1.2.2.2.2.2.1 q2 q4
  have hl : lmN (M.1 53) ≤ 20 := hv.2.2.1.2.2.2
  have hmv : mvN (M.1 53) ≤ lmN (M.1 53) := by unfold mvN; omega
  refine e_X11_swap (s_mEngine (M := thr M) n6 hv.2.1.1.1 (fun _ _ _ => ⟨fun c => absurd c (by decide), fun _ => s_mEngine (M := thr M) n6 hv.2.1.1.1 (fun _ _ _ => ⟨fun c => absurd c (by decide), fun _ => ⟨fun _ => s_isReady (M := thr M) (by omega) ?_, fun c => absurd ((z_eq (by omega) (by omega)).mp c) hef⟩⟩) (fun q => (out_nI hf (by omega) q).elim)⟩) (fun q => (out_nI he (by omega) q).elim))
  have z0 : (thr M).1 53 (320 + e) = M.1 53 (320 + e) := rfl
  have z1 : (thr M).1 53 (320 + f) = M.1 53 (320 + f) := rfl
  rw [z0]
  by_cases hr : M.1 53 (320 + e) = nI 0
  · rw [if_pos hr]
    refine ⟨fun c => absurd c (by decide), fun _ => s_isReady (M := thr M) (by omega) ?_⟩
    rw [z1]
    by_cases hr2 : M.1 53 (320 + f) = nI 0
    · rw [if_pos hr2]
      refine ⟨fun _ => s_lf (M := thr M) (t := t) hv ?_, fun c => absurd c (by decide)⟩
      have f1 : (lfM (thr M)).1 53 = M.1 53 := rfl
      rw [f1, nI_add 308 e, nI_add 308 f, z_cl (show 308 + e < 2147483648 by omega), z_cl (show 308 + f < 2147483648 by omega), p1, p3, nI_add 300 (po (M.1 53) e), nI_add 300 (po (M.1 53) f), z_cl (show 300 + po (M.1 53) e < 2147483648 by omega), z_cl (show 300 + po (M.1 53) f < 2147483648 by omega), q1, q3]
      refine ⟨(z_in (by omega) (by omega)).mpr (by omega), (z_in (by omega) (by omega)).mpr (by omega), (z_in (by omega) (by omega)).mpr (by omega), (z_in (by omega) (by omega)).mpr (by omega), s_farOf q2 q4 ?_⟩
      rw [lf58 (thr M) _ _ q2 q4, f1, z_eq (by omega) (by omega), z_lt (by omega) (by omega)]
      refine ⟨fun c => h3 ⟨hr, hr2⟩ (Or.inr c), fun c => ⟨fun c2 => s_mayM (M := lfM (thr M)) (t := t) hv ht ?_, fun c2 => h3 ⟨hr, hr2⟩ (Or.inl (by omega))⟩⟩
      rw [f1, z_le (by omega) (by omega)]
      refine ⟨fun c3 => ?_, fun c3 => h4 ⟨hr, hr2⟩ (by omega) c (by omega)⟩
      have h := h ⟨hr, hr2⟩ (by omega) c c3
      refine s_sends (t := t) (M := lfM (thr M)) hv ht (lf58 (thr M)) he p4 rfl ?_
      rw [f1]
      unfold swW at h
      generalize hwy : dist (M.1 53) (sp (M.1 53) (po (M.1 53) e)) (sp (M.1 53) (po (M.1 53) f)) = way at h ⊢
      obtain ⟨hv1, hb1⟩ := mvW_V (way := way) hv ht he p4 (by omega)
      have g53 : (sa (lfM (thr M)) 53 (mvW (M.1 53) e (po (M.1 53) f) way)).1 53 = mvW (M.1 53) e (po (M.1 53) f) way := sa_s _ _ _
      have cg := VL_cg (w := M.1 53) (w' := mvW (M.1 53) e (po (M.1 53) f) way) (fun j hj => mvW_ne (by omega) (by omega) (by omega) (by omega) (by omega))
      have eE : eN (mvW (M.1 53) e (po (M.1 53) f) way) = eN (M.1 53) := by unfold eN; rw [mvW_ne (by omega) (by omega) (by omega) (by omega) (by omega)]
      have ePf : po (mvW (M.1 53) e (po (M.1 53) f) way) f = po (M.1 53) f := by
        unfold po
        rw [mvW_po (by omega) (by omega), if_neg (fun z => hef z.symm)]
      have eSp : ∀ s, s < 8 → sp (mvW (M.1 53) e (po (M.1 53) f) way) s = sp (M.1 53) s := fun s hs => by
        unfold sp
        rw [mvW_ne (by omega) (by omega) (by omega) (by omega) (by omega)]
      refine s_sends (t := t) (M := sa (lfM (thr M)) 53 (mvW (M.1 53) e (po (M.1 53) f) way)) (way := way) (by rw [g53]; exact hv1) ht (fun a b ha hb => ?_) (by rw [g53, eE]; exact hf) (by rw [g53, cg.2.1]; exact p2) ?_ ?_
      · rw [g53, cg.2.2.2.2.2 a b ha hb]
        exact lf58 (thr M) a b ha hb
      · rw [g53, ePf, eSp _ (by omega), eSp _ (by omega), cg.2.2.2.2.2 _ _ q4 q2, ← hwy]
        exact dist_sym hv.1.2.2.2.2.2.1 q2 q4
      · rw [g53, sa_sa]
        exact h
    · rw [if_neg hr2]
      exact ⟨fun c => absurd rfl c, fun _ => h2 (fun z => hr2 z.2)⟩
  · rw [if_neg hr]
    exact ⟨fun _ => h2 (fun z => hr z.1), fun c => absurd rfl c⟩
theorem op_swap {x y : Int32} (h : Inv t M) (ht : t < 512) : Op pl tl (d + 12) 40 [.ref 0, .int x, .int y] 229 [.ref 52, .int x, .int y] t M := by
  have hI := h.up (t' := t + 1) (by omega) (by omega)
  obtain ⟨⟨hv0, hr⟩, -⟩ := h
  have hv := hI.1.1
  have n6 := hv.2.1.1.2
  have s8 := hv.1.1.2
  have hB : bN (M.1 53) ≤ 6 * t := hv0.2.2.2.2.1.2
  have hE : M.1 24 4 = nI (eN (M.1 53)) := hr.2.1.1.trans hv.2.1.1.1
  have no : ∀ M1 : Mem, M1 = M → ((x < 0 ∨ nI (eN (M.1 53)) ≤ x) ∨ (y < 0 ∨ nI (eN (M.1 53)) ≤ y) ∨ x = y) → exI (LY pl tl) (d + 12) 229 [.ref 52, .int x, .int y] M1 (fun r2 M2 => r2 = -1 ∧ Inv (t + 1) M2) := by
    intro M1 e hq
    subst e
    refine e_X11_swap (s_mEngine (M := thr M1) n6 hv.2.1.1.1 (fun j hj e => ⟨fun c => absurd c (by decide), fun _ => s_mEngine (M := thr M1) n6 hv.2.1.1.1 (fun j' hj' e' => ⟨fun c => absurd c (by decide), fun _ => ⟨fun c => ?_, fun _ => ⟨rfl, hI⟩⟩⟩) (fun _ => ⟨fun _ => ⟨rfl, hI⟩, fun c => absurd rfl c⟩)⟩) (fun _ => ⟨fun _ => ⟨rfl, hI⟩, fun c => absurd rfl c⟩))
    subst e; subst e'
    rcases hq with q | q | q
    · exact (out_nI hj (by omega) q).elim
    · exact (out_nI hj' (by omega) q).elim
    · exact absurd q c
  refine e_X10_swap (s_cEngine n6 hE (fun e he e0 => ⟨fun c => absurd c (by decide), fun _ => s_cEngine n6 hE (fun f hf e1 => ⟨fun c => absurd c (by decide), fun _ => ⟨fun hne => ?_, fun q => no M rfl (Or.inr (Or.inr q))⟩⟩) (fun q => ⟨fun _ => no M rfl (Or.inr (Or.inl q)), fun c => absurd rfl c⟩)⟩) (fun q => ⟨fun _ => no M rfl (Or.inl q), fun c => absurd rfl c⟩))
  subst e0; subst e1
  have hef : e ≠ f := fun z => hne (by rw [z])
  obtain ⟨⟨p1, p2⟩, -⟩ := hv.2.1.2 e he
  obtain ⟨⟨p3, p4⟩, -⟩ := hv.2.1.2 f hf
  obtain ⟨q1, q2⟩ := hv.1.2.2.2.1 _ p2
  obtain ⟨q3, q4⟩ := hv.1.2.2.2.1 _ p4
  have dl := dist_le hv.1.2.2.2.2.2.1 q2 q4
  have hl : lmN (M.1 53) ≤ 20 := hv.2.2.1.2.2.2
  have hmv : mvN (M.1 53) ≤ lmN (M.1 53) := by unfold mvN; omega
  have v6 := (z_in (n := e) (N := 6) (by omega) (by omega)).mpr (by omega)
  have v6' := (z_in (n := f) (N := 6) (by omega) (by omega)).mpr (by omega)
  have k26 : M.1 26 e = M.1 53 (320 + e) := (hr.2.1.2.1 e he).2.1
  have k25 : M.1 25 e = nI (po (M.1 53) e) := (hr.2.1.2.1 e he).1.trans p1
  have j26 : M.1 26 f = M.1 53 (320 + f) := (hr.2.1.2.1 f hf).2.1
  have j25 : M.1 25 f = nI (po (M.1 53) f) := (hr.2.1.2.1 f hf).1.trans p3
  rw [z_cl (show e < 2147483648 by omega), z_cl (show f < 2147483648 by omega), k26, k25, j26, j25]
  refine ⟨v6, fun c => ?_, fun c => ⟨v6', fun c' => ⟨v6, v6', s_wayOfSt hv hr p2 p4 ?_⟩, fun c' => ?_⟩⟩
  · have c : ¬ M.1 53 (320 + e) = nI 0 := c
    exact m_swap (t := t + 1) hv (by omega) (by omega) he hf hef (fun _ => ⟨rfl, hI⟩) (fun z => absurd z.1 c) (fun z => absurd z.1 c) (fun z => absurd z.1 c)
  · have c : M.1 53 (320 + e) = nI 0 ∧ M.1 53 (320 + f) = nI 0 := ⟨c, c'⟩
    rw [z_eq (by omega) (by omega), z_eq (by omega) (by omega)]
    refine ⟨fun c2 => ?_, fun c2 => ⟨fun c3 => s_mayC hv (by omega) hr ?_, fun c3 => ?_⟩⟩
    · exact m_swap (t := t + 1) hv (by omega) (by omega) he hf hef (fun z => absurd c z) (fun _ _ => ⟨rfl, hI⟩) (fun _ z => absurd c2 z) (fun _ z => absurd c2 z)
    · rw [z_le (by omega) (by omega)]
      refine ⟨fun c4 => ?_, fun c4 => ?_⟩
      · have hne : sp (M.1 53) (po (M.1 53) e) ≠ sp (M.1 53) (po (M.1 53) f) := fun z => c3 (hv.1.2.2.2.2.1 _ _ p2 p4 z)
        have dp := dist_pos (M.1 53) hne
        refine s_move (t := t + 1) hv (by omega) hr he p4 (by omega) (by omega) dl (fun B bF bR => ?_)
        obtain ⟨hv1, hb1⟩ := mvW_V (way := dist (M.1 53) (sp (M.1 53) (po (M.1 53) e)) (sp (M.1 53) (po (M.1 53) f))) hv (by omega) he p4 (by omega)
        have eE : eN (mvW (M.1 53) e (po (M.1 53) f) (dist (M.1 53) (sp (M.1 53) (po (M.1 53) e)) (sp (M.1 53) (po (M.1 53) f)))) = eN (M.1 53) := by unfold eN; rw [mvW_ne (by omega) (by omega) (by omega) (by omega) (by omega)]
        have eS : sN (mvW (M.1 53) e (po (M.1 53) f) (dist (M.1 53) (sp (M.1 53) (po (M.1 53) e)) (sp (M.1 53) (po (M.1 53) f)))) = sN (M.1 53) := by unfold sN; rw [mvW_ne (by omega) (by omega) (by omega) (by omega) (by omega)]
        refine s_move (t := t + 1) hv1 (by omega) bR (by rw [eE]; exact hf) (by rw [eS]; exact p2) (by omega) (by omega) dl (fun C cF cR => ?_)
        have hF : Fr15 M C := bF.trans' cF
        have h53 : C.1 53 = M.1 53 := hF.2 53 (by omega)
        refine m_swap (t := t + 1) (M := C) (by rw [h53]; exact hv) (by omega) (by rw [h53]; omega) (by rw [h53]; exact he) (by rw [h53]; exact hf) hef (fun z => absurd c (by rw [← h53]; exact z)) (fun _ z => ?_) (fun _ _ _ z => ?_) (fun _ _ _ _ => ?_)
        · rw [h53] at z; rcases z with z | z
          · exact absurd z c2
          · exact absurd z c3
        · rw [h53] at z; omega
        · rw [h53]
          refine ⟨rfl, ?_⟩
          refine Inv_step (A := M) (B := C) (w := swW (M.1 53) e f) hI hF (mvW_V hv1 (by omega) (by rw [eE]; exact hf) (by rw [eS]; exact p2) (by omega)).1 cR (sa_s _ _ _) (fun i h1 h2 => ?_) ⟨rfl, rfl⟩ ?_
          · rw [sa_n (by omega), sa_n (by omega)]; exact si_c (by omega)
          · have hrow := hI.2.1
            unfold RowOk at hrow ⊢
            rw [← hF.1, ← hF.2 1 (by omega), ← hF.2 52 (by omega)] at hrow
            exact hrow
      · exact m_swap (t := t + 1) hv (by omega) (by omega) he hf hef (fun z => absurd c z) (fun _ z => by rcases z with z | z; exact absurd z c2; exact absurd z c3) (fun _ _ _ _ => ⟨rfl, hI⟩) (fun _ _ _ z => by omega)
    · exact m_swap (t := t + 1) hv (by omega) (by omega) he hf hef (fun z => absurd c z) (fun _ _ => ⟨rfl, hI⟩) (fun _ _ z => absurd c3 z) (fun _ _ z => absurd c3 z)
  · have c' : ¬ M.1 53 (320 + f) = nI 0 := c'
    exact m_swap (t := t + 1) hv (by omega) (by omega) he hf hef (fun _ => ⟨rfl, hI⟩) (fun z => absurd z.2 c') (fun z => absurd z.2 c') (fun z => absurd z.2 c')
end S43
