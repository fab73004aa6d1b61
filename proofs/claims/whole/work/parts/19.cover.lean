/-! THE ROW; WHAT IS REACHED -/
def pfxL (n : Nat) (G old : Nat → Int64) : Nat → Int64 := fun j => if j < n then G j else old j
theorem pfxL_lt {n j : Nat} {G old : Nat → Int64} (h : j < n) : pfxL n G old j = G j := if_pos h
theorem pfxL_s (n : Nat) (G old : Nat → Int64) {v : Int64} (hv : v = G n) : vp_updL (pfxL n G old) n v = pfxL (n + 1) G old := by
  funext j
  unfold vp_updL pfxL
  by_cases h : j = n
  · subst h; simp [hv]
  · by_cases l : j < n
    · simp [h, l, show j < n + 1 by omega]
    · simp [h, l, show ¬ j < n + 1 by omega]
/-- the class's ROW of n numbers, the reference's -/
def rwC (M : Mem) (n : Nat) (g : Nat → Int64) : Mem := si (sb M 2 (pfxL n g (M.2 2))) 1 1 (nI n)
def rwM (M : Mem) (n : Nat) (g : Nat → Int64) : Mem := si (sb M 56 (pfxL n g (M.2 56))) 52 6 (nI n)
theorem sb_sb (M : Mem) (i : Nat) (f g : Nat → Int64) : sb (sb M i f) i g = sb M i g := by
  unfold sb
  refine Prod.ext rfl ?_
  funext a
  by_cases h : a = i <;> simp [h]
theorem sb_id (M : Mem) (i : Nat) : sb M i (M.2 i) = M := by
  unfold sb
  refine Prod.ext rfl ?_
  funext a
  by_cases h : a = i
  · subst h; simp
  · simp [h]
theorem si_sb (M : Mem) (i k j : Nat) (v : Int32) (f : Nat → Int64) : sb (si M i k v) j f = si (sb M j f) i k v := rfl
theorem rwC_0 (M : Mem) (g : Nat → Int64) : si M 1 1 (nI 0) = rwC M 0 g := by
  unfold rwC
  rw [show pfxL 0 g (M.2 2) = M.2 2 from funext fun j => by simp [pfxL], sb_id]
theorem rwM_0 (M : Mem) (g : Nat → Int64) : si M 52 6 (nI 0) = rwM M 0 g := by
  unfold rwM
  rw [show pfxL 0 g (M.2 56) = M.2 56 from funext fun j => by simp [pfxL], sb_id]
theorem rwC_s (M : Mem) (n : Nat) (g : Nat → Int64) : si (sj (rwC M n g) 2 n (g n)) 1 1 (nI (n + 1)) = rwC M (n + 1) g := by
  unfold rwC
  rw [sj_sb, si_2, sb_s, pfxL_s _ _ _ rfl, si_sb, sb_sb, si_si]
theorem rwM_s (M : Mem) (n : Nat) (g : Nat → Int64) : si (sj (rwM M n g) 56 n (g n)) 52 6 (nI (n + 1)) = rwM M (n + 1) g := by
  unfold rwM
  rw [sj_sb, si_2, sb_s, pfxL_s _ _ _ rfl, si_sb, sb_sb, si_si]
section S19
variable {pl : Option Nat} {tl : List LC} {d : Nat} {M : Mem} {t : Nat}
theorem s_add {Q : Mem → Prop} {n : Nat} {g : Nat → Int64} {x : Int64} (hn : n < 13) (hx : x = g n) (h : Q (rwC M (n + 1) g)) : exV (LY pl tl) (d + 1) 110 [.ref 1, .long x] (rwC M n g) Q := by
  subst hx
  refine e_X6_add ?_
  have e : (rwC M n g).1 1 1 = nI n := rfl
  rw [e, z_cl (by omega), nI_add, rwC_s]
  exact br_f (nI_pos (by omega)) (br_f (nI_ge hn (by omega)) ⟨(z_in (by omega) (by omega)).mpr hn, h⟩)
theorem s_clear {Q : Mem → Prop} (g : Nat → Int64) (h : Q (rwC M 0 g)) : exV (LY pl tl) (d + 1) 109 [.ref 1] M Q := e_X6_clear (by rw [rwC_0 M g]; exact h)
theorem s_tell1 {Q : Mem → Prop} {x : Int64} (h : Q (rwC M 1 (fun _ => x))) : exV (LY pl tl) (d + 2) 111 [.ref 1, .long x] M Q := e_X6_tell (s_clear (fun _ => x) (s_add (by omega) rfl h))
theorem s_tell2 {Q : Mem → Prop} {x y : Int64} (h : Q (rwC M 2 (fun j => if j = 0 then x else y))) : exV (LY pl tl) (d + 3) 112 [.ref 1, .long x, .long y] M Q := by
  refine e_X6_tell_ (e_X6_tell (s_clear (fun j => if j = 0 then x else y) (s_add (by omega) rfl (s_add (by omega) rfl h))))
theorem s_mtell {Q : Mem → Prop} {n : Nat} {g : Nat → Int64} {x : Int64} (n' : Nat) (hn' : n + 1 = n') (hn : n < 32) (hx : x = g n) (h : Q (rwM M n' g)) : exV (LY pl tl) (d + 1) 136 [.ref 52, .long x] (rwM M n g) Q := by
  subst hx
  subst hn'
  refine e_X11_tell ?_
  have e : (rwM M n g).1 52 6 = nI n := rfl
  rw [e, z_cl (by omega), nI_add, rwM_s]
  exact ⟨(z_in (by omega) (by omega)).mpr hn, h⟩
theorem s_allWeights {Q : Int32 → Mem → Prop} (h : Q (wS (M.1 53) (nI 4095) 12) M) : exI (LY pl tl) (d + 2) 186 [.ref 52] M Q := e_X11_allWeights (s_weightOf h)
theorem b1_pow : ∀ n, n < 31 → b1 n = nI (2 ^ n) := by decide +kernel
theorem rwC_at {M : Mem} {n j : Nat} {g : Nat → Int64} (h : j < n) : (rwC M n g).2 2 j = g j := by
  show (if (2 : Nat) = 2 then pfxL n g (M.2 2) else M.2 2) j = _
  rw [if_pos rfl, pfxL_lt h]
theorem rwM_at {M : Mem} {n j : Nat} {g : Nat → Int64} (h : j < n) : (rwM M n g).2 56 j = g j := by
  show (if (56 : Nat) = 56 then pfxL n g (M.2 56) else M.2 56) j = _
  rw [if_pos rfl, pfxL_lt h]
theorem rows_ok {A B C : Mem} {n : Nat} {g g' : Nat → Int64} (hn : n ≤ 13) (h1 : A.1 1 1 = nI n) (h2 : A.1 52 6 = nI n) (hC : A.2 2 = (rwC B n g).2 2) (hM : A.2 56 = (rwM C n g').2 56) (hg : ∀ j, j < n → g j = g' j) : RowOk A := ⟨n, hn, h1, h2, fun j hj => by rw [hC, hM, rwC_at hj, rwM_at hj, hg j hj]⟩
/-- the reference's scratch: nothing thrown; ways and nodes laid -/
def thr (M : Mem) : Mem := si M 52 7 (nI 0)
def lyM (M : Mem) (r : Nat) : Mem := sa (sa M 58 (fA (dist (M.1 53)) (M.1 58))) 59 (mA (M.1 53) r (M.1 59))
def lkC (M : Mem) (w : Nat → Int32) : Mem := sa M 44 (nA w (rcN w) (M.1 44))
theorem ly59 {M : Mem} {r : Nat} : ∀ s, s < sN (M.1 53) → (lyM M r).1 59 s = rM (M.1 53) r s := fun s hs => by
  show (sa _ 59 _).1 59 s = _
  rw [sa_s]; exact mA_at hs
theorem s_ly {Q : Mem → Prop} (hv : V (M.1 53) t) (h : Q (lyM M (rcN (M.1 53)))) : exV (LY pl tl) (d + 3) 165 [.ref 52] M Q := s_lays hv.1 hv.2.2.1.1.1 (by have := hv.2.2.1.1.2.2; omega) h
theorem m_reached_y {Q : Int32 → Mem → Prop} {s : Nat} (hv : V (M.1 53) t) (hs : s < sN (M.1 53)) (h : Q (rM (M.1 53) (rcN (M.1 53)) s) (rwM (lyM (thr M) (rcN (M.1 53))) 1 (fun _ => (wS (M.1 53) (rM (M.1 53) (rcN (M.1 53)) s) 12).toInt64))) : exI (LY pl tl) (d + 6) 168 [.ref 52, .int (nI s)] M Q := by
  have hs8 := hv.1.1.2
  have hv8 : vp_in (nI s) 8 := (z_in (by omega) (by omega)).mpr (by omega)
  refine e_X11_reached (s_mStation hs8 hv.1.1.1 (fun _ _ _ => ⟨fun _ => s_ly (t := t) hv ⟨hv8, ?_⟩, fun c => absurd c (by decide)⟩) (fun q => (out_nI hs (by omega) q).elim))
  have e1 : (lyM (thr M) (rcN (M.1 53))).1 59 s = rM (M.1 53) (rcN (M.1 53)) s := ly59 (M := thr M) s hs
  rw [z_cl (by omega)]
  refine s_weightOf ?_
  rw [rwM_0 _ (fun _ => (wS (M.1 53) (rM (M.1 53) (rcN (M.1 53)) s) 12).toInt64)]
  refine s_mtell 1 rfl (by omega) ?_ ⟨hv8, ?_⟩
  · show (wS (M.1 53) ((lyM (thr M) (rcN (M.1 53))).1 59 s) 12).toInt64 = _
    rw [e1]
  · show Q ((lyM (thr M) (rcN (M.1 53))).1 59 s) _
    rw [e1]; exact h
theorem op_reached {x : Int32} (h : Inv t M) (ht : t < 512) : Op pl tl (d + 12) 10 [.ref 0, .int x] 168 [.ref 52, .int x] t M := by
  have hI := h.up (t' := t + 1) (by omega) (by omega)
  obtain ⟨⟨hv, hr⟩, -⟩ := h
  have hs8 := hv.1.1.2
  have hM : M.1 16 8 = nI (sN (M.1 53)) := hr.1.2.1.trans hv.1.1.1
  refine e_X10_reached (s_cStation hs8 hM (fun s hs e => ?_) (fun q => ⟨fun c => absurd rfl c, fun _ => e_X11_reached (s_mStation hs8 hv.1.1.1 (fun s hs e => ?_) (fun _ => ⟨fun c => absurd rfl c, fun _ => ⟨rfl, hI⟩⟩))⟩))
  · subst e
    have hv8 : vp_in (nI s) 8 := (z_in (by omega) (by omega)).mpr (by omega)
    refine ⟨fun _ => s_look hv hr ⟨hv8, ?_⟩, fun c => absurd c (by decide)⟩
    rw [z_cl (by omega), sa_s, nA_at hs hs8]
    refine s_weigh (s_tell1 (m_reached_y (t := t) hv hs ⟨rfl, hI.1, rows_ok (n := 1) (by omega) rfl rfl rfl rfl (fun j hj => ?_), hI.2.2⟩))
    have e2 : wS (M.1 17) (rM (M.1 53) (rcN (M.1 53)) s) 12 = wS (M.1 53) (rM (M.1 53) (rcN (M.1 53)) s) 12 := wS_congr 12 (fun a ha => hr.1.1 a ha) (fun a ha => Iff.rfl)
    show (wS (M.1 17) (rM (M.1 53) (rcN (M.1 53)) s) 12).toInt64 = (wS (M.1 53) (rM (M.1 53) (rcN (M.1 53)) s) 12).toInt64
    rw [e2]
  · subst e; exact (out_nI hs (by omega) q).elim
theorem m_cover {Q : Int32 → Mem → Prop} (hv : V (M.1 53) t) (h : Q (CV (M.1 53) (rcN (M.1 53))) (rwM (lyM (thr M) (rcN (M.1 53))) 2 (fun j => if j = 0 then (DB (M.1 53) (rcN (M.1 53))).toInt64 else (wS (M.1 53) (nI 4095) 12).toInt64))) : exI (LY pl tl) (d + 6) 191 [.ref 52] M Q := by
  have hs8 := hv.1.1.2
  refine e_X11_cover (s_ly (t := t) hv (s_twiceNow (r := rcN (M.1 53)) hv.2.1 (ly59 (M := thr M)) hs8 (s_twW ?_)))
  rw [rwM_0 _ (fun j => if j = 0 then (DB (M.1 53) (rcN (M.1 53))).toInt64 else (wS (M.1 53) (nI 4095) 12).toInt64)]
  exact s_mtell 1 rfl (by omega) rfl (s_allWeights (s_mtell 2 rfl (by omega) rfl (s_reachedNow (r := rcN (M.1 53)) hv.2.1 (ly59 (M := thr M)) hs8 (s_nowW h))))
theorem op_cover (h : Inv t M) (ht : t < 512) : Op pl tl (d + 12) 20 [.ref 0] 191 [.ref 52] t M := by
  have hI := h.up (t' := t + 1) (by omega) (by omega)
  obtain ⟨⟨hv, hr⟩, -⟩ := h
  refine e_X10_cover (s_coverNow hv hr (s_doubled (s_weigh (s_tell2 (m_cover (t := t) hv ⟨rfl, hI.1, rows_ok (n := 2) (by omega) rfl rfl rfl rfl (fun j hj => ?_), hI.2.2⟩)))))
  have e1 : wS (M.1 17) (cvT (M.1 53) (rcN (M.1 53))) 12 = DB (M.1 53) (rcN (M.1 53)) := wS_congr 12 (fun a ha => hr.1.1 a ha) (fun a ha => Iff.rfl)
  have e2 : wS (M.1 17) (nI 4095) 12 = wS (M.1 53) (nI 4095) 12 := wS_congr 12 (fun a ha => hr.1.1 a ha) (fun a ha => Iff.rfl)
  show (if j = 0 then (wS (M.1 17) (cvT (M.1 53) (rcN (M.1 53))) 12).toInt64 else (wS (M.1 17) (nI 4095) 12).toInt64) = (if j = 0 then (DB (M.1 53) (rcN (M.1 53))).toInt64 else (wS (M.1 53) (nI 4095) 12).toInt64)
  rw [e1, e2]
/-! stations by bits -/
def SO (w : Nat → Int32) (r : Nat) (x : Int32) : Int32 := o1 (rM w r) (fun s => decide (tb x s)) (sN w)
def ST2 (w : Nat → Int32) (r : Nat) (x : Int32) : Int32 := o2 (rM w r) (fun s => decide (tb x s)) (sN w)
theorem o1_more (f : Nat → Int32) (c : Nat → Bool) (n : Nat) (hf : ∀ s, n ≤ s → f s = nI 0) : ∀ k, o1 f c (n + k) = o1 f c n
  | 0 => rfl
  | k + 1 => by
    show (if c (n + k) then o1 f c (n + k) ||| f (n + k) else o1 f c (n + k)) = _
    rw [hf (n + k) (by omega), or_0, ite_self, o1_more f c n hf k]
theorem o2_more (f : Nat → Int32) (c : Nat → Bool) (n : Nat) (hf : ∀ s, n ≤ s → f s = nI 0) : ∀ k, o2 f c (n + k) = o2 f c n
  | 0 => rfl
  | k + 1 => by
    show (if c (n + k) then o2 f c (n + k) ||| (o1 f c (n + k) &&& f (n + k)) else o2 f c (n + k)) = _
    rw [hf (n + k) (by omega), show ∀ x : Int32, x &&& nI 0 = nI 0 from fun x => Int32.and_zero, or_0, ite_self, o2_more f c n hf k]
theorem nA_o1 {w : Nat → Int32} {r : Nat} {old : Nat → Int32} (hs : sN w ≤ 8) (x : Int32) : o1 (nA w r old) (fun s => decide (tb x s)) 8 = SO w r x := by
  have e1 : o1 (nA w r old) (fun s => decide (tb x s)) 8 = o1 (fun s => if s < sN w then rM w r s else nI 0) (fun s => decide (tb x s)) 8 := o1_congr 8 (fun _ _ => rfl) (fun e he _ => pfx_lt he)
  rw [e1, show 8 = sN w + (8 - sN w) by omega, o1_more _ _ _ (fun s hs => if_neg (by omega))]
  exact o1_congr _ (fun _ _ => rfl) (fun e he _ => if_pos he)
theorem nA_o2 {w : Nat → Int32} {r : Nat} {old : Nat → Int32} (hs : sN w ≤ 8) (x : Int32) : o2 (nA w r old) (fun s => decide (tb x s)) 8 = ST2 w r x := by
  have e1 : o2 (nA w r old) (fun s => decide (tb x s)) 8 = o2 (fun s => if s < sN w then rM w r s else nI 0) (fun s => decide (tb x s)) 8 := o2_congr 8 (fun _ _ => rfl) (fun e he _ => pfx_lt he)
  rw [e1, show 8 = sN w + (8 - sN w) by omega, o2_more _ _ _ (fun s hs => if_neg (by omega))]
  exact o2_congr _ (fun _ _ => rfl) (fun e he _ => if_pos he)
theorem s_reachedBy {Q : Int32 → Mem → Prop} {r : Nat} {x : Int32} (hM : M.1 53 456 = nI (sN (M.1 53))) (hs8 : sN (M.1 53) ≤ 8) (h59 : ∀ s, s < sN (M.1 53) → M.1 59 s = rM (M.1 53) r s) (h : Q (SO (M.1 53) r x) M) : exI (LY pl tl) (d + 1) 192 [.ref 52, .int x] M Q := by
  refine e_X11_reachedBy (lp_0 (X := fx (LY pl tl) d m_X11_reachedBy (qI Q)) (fun s => (4, [some (.ref 52), some (.int x), some (.int (o1 (rM (M.1 53) r) (fun s => decide (tb x s)) s)), some (.int (nI s))], [], M)) (sN (M.1 53)) (fun s hs hx => ?_) ?_)
  · refine c_X11_reachedBy_4 ?_
    rw [hM, z_cl (by omega), h59 s hs, nI_add, or_0]
    refine br_f (nI_ge hs (by omega)) ⟨fun c => ?_, fun c => ⟨(z_in (by omega) (by omega)).mpr (by omega), ?_⟩⟩
    · have e : o1 (rM (M.1 53) r) (fun s => decide (tb x s)) (s + 1) = o1 (rM (M.1 53) r) (fun s => decide (tb x s)) s := if_neg (by simpa using c)
      rw [e] at hx; exact hx
    · have e : o1 (rM (M.1 53) r) (fun s => decide (tb x s)) (s + 1) = o1 (rM (M.1 53) r) (fun s => decide (tb x s)) s ||| rM (M.1 53) r s := if_pos (by simpa using c)
      rw [e] at hx; exact hx
  · refine c_X11_reachedBy_4 ?_
    rw [hM]
    exact br_t (nI_le (Nat.le_refl _) (by omega)) h
theorem s_twiceBy {Q : Int32 → Mem → Prop} {r : Nat} {x : Int32} (hM : M.1 53 456 = nI (sN (M.1 53))) (hs8 : sN (M.1 53) ≤ 8) (h59 : ∀ s, s < sN (M.1 53) → M.1 59 s = rM (M.1 53) r s) (h : Q (ST2 (M.1 53) r x) M) : exI (LY pl tl) (d + 1) 193 [.ref 52, .int x] M Q := by
  refine e_X11_twiceBy (lp_0 (X := fx (LY pl tl) d m_X11_twiceBy (qI Q)) (fun s => (7, [some (.ref 52), some (.int x), some (.int (o1 (rM (M.1 53) r) (fun s => decide (tb x s)) s)), some (.int (o2 (rM (M.1 53) r) (fun s => decide (tb x s)) s)), some (.int (nI s))], [], M)) (sN (M.1 53)) (fun s hs hx => ?_) ?_)
  · have hv8 : vp_in (nI s) 8 := (z_in (by omega) (by omega)).mpr (by omega)
    refine c_X11_twiceBy_7 ?_
    rw [hM, z_cl (by omega), h59 s hs, nI_add]
    refine br_f (nI_ge hs (by omega)) ⟨fun c => ⟨hv8, hv8, ?_⟩, fun c => ?_⟩
    · have c' : tb x s := Classical.byContradiction fun q => c ((tb_n0 x (by omega)).mpr q)
      have e : o1 (rM (M.1 53) r) (fun s => decide (tb x s)) (s + 1) = o1 (rM (M.1 53) r) (fun s => decide (tb x s)) s ||| rM (M.1 53) r s := if_pos (decide_eq_true c')
      have e2 : o2 (rM (M.1 53) r) (fun s => decide (tb x s)) (s + 1) = o2 (rM (M.1 53) r) (fun s => decide (tb x s)) s ||| (o1 (rM (M.1 53) r) (fun s => decide (tb x s)) s &&& rM (M.1 53) r s) := if_pos (decide_eq_true c')
      rw [e, e2] at hx; exact hx
    · have c' : ¬ tb x s := (tb_n0 x (by omega)).mp c
      have e : o1 (rM (M.1 53) r) (fun s => decide (tb x s)) (s + 1) = o1 (rM (M.1 53) r) (fun s => decide (tb x s)) s := if_neg (by simpa using c')
      have e2 : o2 (rM (M.1 53) r) (fun s => decide (tb x s)) (s + 1) = o2 (rM (M.1 53) r) (fun s => decide (tb x s)) s := if_neg (by simpa using c')
      rw [e, e2] at hx; exact hx
  · refine c_X11_twiceBy_7 ?_
    rw [hM]
    exact br_t (nI_le (Nat.le_refl _) (by omega)) h
theorem pow8 {n : Nat} (h : n ≤ 8) : 1 ≤ 2 ^ n ∧ 2 ^ n ≤ 256 := ⟨Nat.one_le_two_pow, by have := Nat.pow_le_pow_right (n := 2) (by omega) h; simpa using this⟩
theorem m_covers_n {Q : Int32 → Mem → Prop} {x : Int32} (hv : V (M.1 53) t) (hx : x < 0 ∨ nI (2 ^ sN (M.1 53)) ≤ x) (h : Q (-1) (thr M)) : exI (LY pl tl) (d + 4) 195 [.ref 52, .int x] M Q := by
  have hp := pow8 hv.1.1.2
  have hs8 := hv.1.1.2
  refine e_X11_covers (e_X11_isSet ?_)
  rw [hv.1.1.1, show nI 1 <<< (nI (sN (M.1 53)) &&& 31) = nI (2 ^ sN (M.1 53)) from b1_pow _ (by omega)]
  exact s_inN (by omega) (fun j hj e => by subst e; exact (out_nI hj (by omega) hx).elim) (fun _ => ⟨Or.inl rfl, fun c => absurd rfl c, fun _ => h⟩)
theorem m_covers_y {Q : Int32 → Mem → Prop} {j : Nat} (hv : V (M.1 53) t) (hj : j < 2 ^ sN (M.1 53)) (h : Q (wS (M.1 53) (SO (M.1 53) (rcN (M.1 53)) (nI j)) 12) (rwM (lyM (thr M) (rcN (M.1 53))) 1 (fun _ => (SO (M.1 53) (rcN (M.1 53)) (nI j)).toInt64))) : exI (LY pl tl) (d + 6) 195 [.ref 52, .int (nI j)] M Q := by
  have hp := pow8 hv.1.1.2
  have hs8 := hv.1.1.2
  refine e_X11_covers (e_X11_isSet ?_)
  rw [hv.1.1.1, show nI 1 <<< (nI (sN (M.1 53)) &&& 31) = nI (2 ^ sN (M.1 53)) from b1_pow _ (by omega)]
  refine s_inN (by omega) (fun _ _ _ => ⟨Or.inr rfl, fun _ => s_ly (t := t) hv (s_reachedBy (r := rcN (M.1 53)) hv.1.1.1 hs8 (ly59 (M := thr M)) ?_), fun c => absurd c (by decide)⟩) (fun q => (out_nI hj (by omega) q).elim)
  rw [rwM_0 _ (fun _ => (SO (M.1 53) (rcN (M.1 53)) (nI j)).toInt64)]
  exact s_mtell 1 rfl (by omega) rfl (s_reachedBy (r := rcN (M.1 53)) hv.1.1.1 hs8 (ly59 (M := thr M)) (s_weightOf h))
theorem op_covers {x : Int32} (h : Inv t M) (ht : t < 512) : Op pl tl (d + 12) 21 [.ref 0, .int x] 195 [.ref 52, .int x] t M := by
  have hI := h.up (t' := t + 1) (by omega) (by omega)
  obtain ⟨⟨hv, hr⟩, -⟩ := h
  have hs8 := hv.1.1.2
  have hM : M.1 16 8 = nI (sN (M.1 53)) := hr.1.2.1.trans hv.1.1.1
  have hp := pow8 hv.1.1.2
  refine e_X10_covers ⟨fun c => m_covers_n (t := t) hv (Or.inl c) ⟨rfl, hI⟩, fun c => ?_⟩
  rw [hM, show nI 1 <<< (nI (sN (M.1 53)) &&& 31) = nI (2 ^ sN (M.1 53)) from b1_pow _ (by omega)]
  refine ⟨fun c2 => ?_, fun c2 => m_covers_n (t := t) hv (Or.inr (by rw [Int32.lt_iff_toInt_lt] at c2; rw [Int32.le_iff_toInt_le]; omega)) ⟨rfl, hI⟩⟩
  obtain ⟨j, hj, e⟩ := nI_of c
  subst e
  rw [z_lt hj (by omega)] at c2
  have e1 : o1 (nA (M.1 53) (rcN (M.1 53)) (M.1 44)) (fun s => decide (tb (nI j) s)) 8 = SO (M.1 53) (rcN (M.1 53)) (nI j) := nA_o1 hs8 _
  refine s_look hv hr (s_putStations (s_tell1 (s_covered (m_covers_y (t := t) hv c2 ⟨?_, hI.1, rows_ok (n := 1) (by omega) rfl rfl rfl rfl (fun i hi => ?_), hI.2.2⟩))))
  · show wS (M.1 53) (SO (M.1 53) (rcN (M.1 53)) (nI j)) 12 = wS (M.1 17) (o1 (nA (M.1 53) (rcN (M.1 53)) (M.1 44)) (fun s => decide (tb (nI j) s)) 8) 12
    rw [e1]
    exact wS_congr 12 (fun a ha => (hr.1.1 a ha).symm) (fun a ha => Iff.rfl)
  · show (o1 (nA (M.1 53) (rcN (M.1 53)) (M.1 44)) (fun s => decide (tb (nI j) s)) 8).toInt64 = (SO (M.1 53) (rcN (M.1 53)) (nI j)).toInt64
    rw [e1]
end S19
