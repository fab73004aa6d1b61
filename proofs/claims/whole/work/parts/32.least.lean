/-! THE LEAST REACH -/
theorem pM_sa (X : Mem) (f : Nat → Int32) (o t : Int32) : sa (pM X o t) 44 f = pM (sa X 44 f) o t := by
  refine Prod.ext (funext fun c => ?_) rfl
  by_cases h : c = 44
  · subst h; rfl
  · rw [sa_n h]
    by_cases h2 : c = 43
    · subst h2; rfl
    · show (si (si X 43 3 t) 43 2 o).1 c = (si (si (sa X 44 f) 43 3 t) 43 2 o).1 c
      rw [si_c h2, si_c h2, si_c h2, si_c h2, sa_n h]
def lM (M : Mem) (u f g : Nat → Int32) : Mem := sa (sa (sa M 53 u) 58 f) 59 g
theorem lM_si (M : Mem) (u f g : Nat → Int32) (k : Nat) (v : Int32) : si (lM M u f g) 53 k v = lM M (upd u k v) f g := by
  refine Prod.ext (funext fun c => ?_) rfl
  by_cases h : c = 53
  · subst h; rfl
  · rw [si_c h]
    unfold lM
    by_cases h2 : c = 59
    · subst h2; rfl
    · rw [sa_n h2, sa_n h2]
      by_cases h3 : c = 58
      · subst h3; rfl
      · rw [sa_n h3, sa_n h3, sa_n h, sa_n h]
theorem lM_ly (M : Mem) (u f g f' g' : Nat → Int32) : sa (sa (lM M u f g) 58 f') 59 g' = lM M u f' g' := by
  refine Prod.ext (funext fun c => ?_) rfl
  unfold lM
  by_cases h2 : c = 59
  · subst h2; rfl
  · rw [sa_n h2, sa_n h2]
    by_cases h3 : c = 58
    · subst h3; rfl
    · rw [sa_n h3, sa_n h3, sa_n h2, sa_n h3]
theorem lM_0 (M : Mem) : lM M (M.1 53) (M.1 58) (M.1 59) = M := by
  refine Prod.ext (funext fun c => ?_) rfl
  unfold lM
  by_cases h2 : c = 59
  · subst h2; rfl
  · rw [sa_n h2]
    by_cases h3 : c = 58
    · subst h3; rfl
    · rw [sa_n h3]
      by_cases h : c = 53
      · subst h; rfl
      · rw [sa_n h]
theorem upd_id (f : Nat → Int32) (k : Nat) : upd f k (f k) = f := by
  funext j; unfold upd; split
  · next e => rw [e]
  · rfl
/-- with another REACH -/
theorem rch_cg {w : Nat → Int32} {v : Int32} (hv : VL w) (hc : VC w) : VL (upd w 459 v) ∧ VC (upd w 459 v) ∧ sN (upd w 459 v) = sN w ∧ eN (upd w 459 v) = eN w ∧ ∀ r, CV (upd w 459 v) r = CV w r := by
  have ne : ∀ j, j ≠ 459 → upd w 459 v j = w j := fun j hj => upd_ne hj
  have c := VL_cg (w := w) (w' := upd w 459 v) (fun j hj => ne j (by omega))
  have eE : eN (upd w 459 v) = eN w := by unfold eN; rw [ne 457 (by omega)]
  refine ⟨c.1.mpr hv, VC_cg (fun j hj => ne j (by omega)) hc, c.2.1, eE, fun r => ?_⟩
  have n6 := hc.1.2
  have s8 := hv.1.2
  unfold CV cvO
  rw [eE]
  refine wS_congr 12 (fun a ha => ne a (by omega)) (fun a ha => ?_)
  rw [o1_congr (f' := fun e => rM w r (po w e)) (c' := rdy w) (eN w) (fun e he => ?_) (fun e he _ => ?_)]
  · unfold rdy; rw [ne (320 + e) (by omega)]
  · have hp := (hc.2 e he).1.2
    have hs := (hv.2.2.2.1 _ hp).2
    have x1 : po (upd w 459 v) e = po w e := by unfold po; rw [ne (308 + e) (by omega)]
    have x2 : sp (upd w 459 v) (po w e) = sp w (po w e) := by unfold sp; rw [ne _ (by omega)]
    show rM (upd w 459 v) r (po (upd w 459 v) e) = rM w r (po w e)
    rw [x1]
    unfold rM
    rw [x2]
    exact mk_congr 12 (fun b hb => by rw [c.2.2.2.2.2 _ _ hs hb])
section S32
variable {pl : Option Nat} {tl : List LC} {d : Nat} {M : Mem} {t : Nat}
theorem tb_mkN {c : Nat → Bool} {n e : Nat} (hn : n ≤ 8) (he : e < n) : decide (tb (nI (mkN c n)) e) = c e := by
  rw [← (mkN_ok c n hn).2.1, Bool.eq_iff_iff, decide_eq_true_eq, mk_tb _ (by omega) (by omega)]
  simp [he]
theorem s_putReady {Q : Mem → Prop} {X : Mem} {w : Nat → Int32} {r : Nat} {o0 t0 : Int32} (hv : V w t) (hr : RC 15 X w) (h44 : ∀ s, s < sN w → X.1 44 s = rM w r s) (h : Q (pM X (cvO w r) (cvT w r))) : exV (LY pl tl) (d + 2) 115 [.ref 43, .ref 24, .int (nI (mkN (rdy w) (eN w)))] (pM X o0 t0) Q := by
  have n6 := hv.2.1.1.2
  have s8 := hv.1.1.2
  refine s_putEngines (M := pM X o0 t0) (p := po w) n6 (hr.2.1.1.trans hv.2.1.1.1) (fun e he => ⟨(hr.2.1.2.1 e he).1.trans (hv.2.1.2 e he).1.1, by have := (hv.2.1.2 e he).1.2; omega⟩) ?_
  have hb : ∀ e, e < eN w → decide (tb (nI (mkN (rdy w) (eN w))) e) = rdy w e := fun e he => tb_mkN (by omega) he
  have hf : ∀ e, e < eN w → (pM X o0 t0).1 44 (po w e) = rM w r (po w e) := fun e he => h44 _ (hv.2.1.2 e he).1.2
  rw [o1_congr (f' := fun e => rM w r (po w e)) (c' := rdy w) _ hb (fun e he _ => hf e he), o2_congr (f' := fun e => rM w r (po w e)) (c' := rdy w) _ hb (fun e he _ => hf e he), pM_2]
  exact h
/-- the least r from i on, of k, that covers so much -/
def lsF (w : Nat → Int32) (v : Int32) : Nat → Nat → Option Nat
  | 0, _ => none
  | k + 1, i => if CV w i < v then lsF w v k (i + 1) else some i
theorem m_least {Q : Int32 → Mem → Prop} {v : Int32} (hv : V (M.1 53) t) (h0 : 0 ≤ v) (hn : lsF (M.1 53) v 60 1 = none → ∀ f g, Q (-2) (lM (thr M) (M.1 53) f g)) (hs : ∀ r, lsF (M.1 53) v 60 1 = some r → ∀ f g, Q (nI r) (rwM (lM (thr M) (M.1 53) f g) 1 (fun _ => (CV (M.1 53) r).toInt64))) : exI (LY pl tl) (d + 6) 199 [.ref 52, .int v] M Q := by
  have s8 := hv.1.1.2
  have rst : ∀ x f g, si (lM (thr M) (upd (M.1 53) 459 x) f g) 53 459 (M.1 53 459) = lM (thr M) (M.1 53) f g := fun x f g => by rw [lM_si, upd_upd, upd_id]
  refine e_X11_least (br_t h0 ?_)
  have key : ∀ k i, i + k = 61 → 1 ≤ i → lsF (M.1 53) v 60 1 = lsF (M.1 53) v k i → ∀ x f g c, fx (LY pl tl) (d + 5) m_X11_least (qI Q) (29, [some (.ref 52), some (.int v), some (.int (M.1 53 459)), some (.int (-2)), some (.int c), some (.int (nI i))], [], lM (thr M) (upd (M.1 53) 459 x) f g) := by
    intro k
    induction k with
    | zero =>
      intro i hi h1 he x f g c
      refine c_X11_least_29 (br_t (nI_lt (by omega) (by omega)) ⟨fun z => absurd rfl z, fun _ => ?_⟩)
      rw [rst]
      exact hn he f g
    | succ k ih =>
      intro i hi h1 he x f g c
      have he : lsF (M.1 53) v 60 1 = if CV (M.1 53) i < v then lsF (M.1 53) v k (i + 1) else some i := he
      obtain ⟨g1, g2, g3, g4, g5⟩ := rch_cg (v := nI i) hv.1 hv.2.1
      refine c_X11_least_29 (br_f (nI_nlt (by omega) (by omega)) ⟨fun z => absurd rfl z, fun _ => ?_⟩)
      rw [lM_si, upd_upd]
      refine s_lays (M := lM (thr M) (upd (M.1 53) 459 (nI i)) f g) (r := i) g1 (upd_eq (M.1 53) 459 (nI i)) (by omega) ?_
      rw [lM_ly]
      have e53 : ∀ f g, (lM (thr M) (upd (M.1 53) 459 (nI i)) f g).1 53 = upd (M.1 53) 459 (nI i) := fun f g => rfl
      rw [e53]
      refine s_reachedNow (r := i) (M := lM (thr M) (upd (M.1 53) 459 (nI i)) _ _) g2 (fun s hs => mA_at hs) (by rw [e53, g3]; exact s8) (s_nowW (r := i) ?_)
      rw [e53, g5 i]
      refine ⟨fun q => ?_, fun q => ?_⟩
      · rw [if_pos q] at he
        rw [nI_add]
        exact ih (i + 1) (by omega) (by omega) he _ _ _ _
      · rw [if_neg q] at he
        have ne2 : ¬ nI i = -2 := by
          intro z
          have := congrArg Int32.toInt z
          rw [nI_toInt (by omega)] at this
          have e2 : (-2 : Int32).toInt = -2 := by decide
          omega
        have fin : ∀ F G, exV (LY pl tl) (d + 5) 136 [.ref 52, .long (CV (M.1 53) i).toInt64] (si (si (lM (thr M) (upd (M.1 53) 459 (nI i)) F G) 53 459 (M.1 53 459)) 52 6 (nI 0)) (fun M1 => Q (nI i) M1) := by
          intro F G
          rw [rst, rwM_0 _ (fun _ => (CV (M.1 53) i).toInt64)]
          exact s_mtell 1 rfl (by omega) rfl (hs i he F G)
        rw [nI_add]
        exact c_X11_least_29 ⟨fun _ => ⟨fun _ => fin _ _, fun z => absurd z ne2⟩, fun _ => ⟨fun _ => ⟨fun _ => fin _ _, fun z => absurd z ne2⟩, fun z => absurd z ne2⟩⟩
  have := key 60 1 rfl (by omega) rfl (M.1 53 459) (M.1 58) (M.1 59) (nI 0)
  rw [upd_id, show lM (thr M) (M.1 53) (M.1 58) (M.1 59) = thr M from lM_0 (thr M)] at this
  exact this
theorem op_least {v : Int32} (h : Inv t M) (ht : t < 512) : Op pl tl (d + 12) 28 [.ref 0, .int v] 199 [.ref 52, .int v] t M := by
  have hI := h.up (t' := t + 1) (by omega) (by omega)
  obtain ⟨⟨hv, hr⟩, -⟩ := h
  have s8 := hv.1.1.2
  refine e_X10_least ⟨fun c => s_readyBits hv hr ?_, fun c => e_X11_least (br_f c ⟨rfl, hI⟩)⟩
  have key : ∀ k i, i + k = 61 → 1 ≤ i → lsF (M.1 53) v 60 1 = lsF (M.1 53) v k i → ∀ f o t', fx (LY pl tl) (d + 11) m_X10_least (qI (fun r M1 => exI (LY pl tl) (d + 12) 199 [.ref 52, .int v] M1 (fun r2 M2 => r2 = r ∧ Inv (t + 1) M2))) (20, [some (.ref 0), some (.int v), some (.int (nI (mkN (rdy (M.1 53)) (eN (M.1 53))))), some (.int (nI i))], [], pM (sa M 44 f) o t') := by
    intro k
    induction k with
    | zero =>
      intro i hi h1 he f o t'
      exact c_X10_least_20 (br_t (nI_lt (by omega) (by omega)) (m_least (t := t) hv c (fun _ F G => ⟨rfl, hI⟩) (fun r hrr => absurd (hrr.symm.trans he) (by intro z; cases z))))
    | succ k ih =>
      intro i hi h1 he f o t'
      have he : lsF (M.1 53) v 60 1 = if CV (M.1 53) i < v then lsF (M.1 53) v k (i + 1) else some i := he
      refine c_X10_least_20 (br_f (nI_nlt (by omega) (by omega)) ?_)
      refine s_look_22 (M := pM (sa M 44 f) o t') (n := sN (M.1 53)) (p := sp (M.1 53)) (D := dist (M.1 53)) s8 (by omega) (hr.1.2.1.trans hv.1.1.1) (fun s hs => ⟨(hr.1.2.2.2.1 s hs).trans (hv.1.2.2.2.1 s hs).1, (hv.1.2.2.2.1 s hs).2⟩) (fun a b ha hb => ⟨hr.1.2.2.2.2.2 a b ha hb, dist_le hv.1.2.2.2.2.2.1 ha hb⟩) ?_
      rw [pM_sa, sa_sa]
      refine s_putReady (r := i) hv hr (fun s hs => nA_at (w := M.1 53) (r := i) hs s8) (s_covered ?_)
      generalize hF : pfx 8 (fun s => if s < sN (M.1 53) then mk (fun a => decide (dist (M.1 53) (sp (M.1 53) s) a ≤ i)) 12 else nI 0) ((pM (sa M 44 f) o t').1 44) = F
      have eV : wS ((pM (sa M 44 F) (cvO (M.1 53) i) (cvT (M.1 53) i)).1 17) ((pM (sa M 44 F) (cvO (M.1 53) i) (cvT (M.1 53) i)).1 43 2) 12 = CV (M.1 53) i := wS_17 hr _
      rw [eV]
      refine ⟨fun q => ?_, fun q => s_covered ?_⟩
      · rw [if_pos q] at he
        rw [nI_add]
        exact ih (i + 1) (by omega) (by omega) he _ _ _
      · rw [if_neg q] at he
        rw [eV]
        refine s_tell1 (m_least (t := t) hv c (fun hno => absurd (hno.symm.trans he) (by intro z; cases z)) (fun r hrr F' G => ?_))
        have : r = i := Option.some.inj (hrr.symm.trans he)
        subst this
        exact ⟨rfl, hI.1, rows_ok (n := 1) (by omega) rfl rfl rfl rfl (fun j hj => rfl), hI.2.2⟩
  have := key 60 1 rfl (by omega) rfl (M.1 44) (M.1 43 2) (M.1 43 3)
  rw [sa_id, pM_id] at this
  exact this
end S32
