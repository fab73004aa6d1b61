/-! CALLS ONE BY ONE, AND DRAWN ONES -/
def nxS (s : Int32) : Int32 := s * nI 1103515245 + nI 12345
def dvS (s : Int32) (n : Nat) : Nat := s.toBitVec.toNat / 65536 % n
theorem nI_bv (x : Int32) : x = nI x.toBitVec.toNat := by
  apply Int32.toBitVec_inj.mp
  show x.toBitVec = BitVec.ofNat 32 x.toBitVec.toNat
  simp
theorem dvS_ok (x : Int32) {n : Nat} (h0 : 0 < n) (hn : n < 2147483648) : ((x.toUInt32 >>> ((nI 16).toUInt32 &&& Int32.toUInt32 31)).toInt32) - ((x.toUInt32 >>> ((nI 16).toUInt32 &&& Int32.toUInt32 31)).toInt32) / nI n * nI n = nI (dvS x n) := by
  have hx : x.toBitVec.toNat < 2 ^ 32 := x.toBitVec.isLt
  have e : (x.toUInt32 >>> ((nI 16).toUInt32 &&& Int32.toUInt32 31)).toInt32 = nI (x.toBitVec.toNat / 2 ^ 16) := by
    conv => lhs; rw [nI_bv x]
    exact pk_ushrN hx (nI 16) 16 (by decide)
  rw [e]
  exact pk_rem (by have : x.toBitVec.toNat / 2 ^ 16 ≤ x.toBitVec.toNat := Nat.div_le_self _ _
                   have h2 : x.toBitVec.toNat / 2 ^ 16 < 65536 := by rw [Nat.div_lt_iff_lt_mul (by omega)]; omega
                   omega) h0 hn
/-- the node at which a number of weights lies -/
def nd (f : Nat → Nat) : Nat → Nat → Nat → Nat
  | 0, a, _ => a
  | k + 1, a, l => if l < f a then a else nd f k (a + 1) (l - f a)
def sm (f : Nat → Nat) : Nat → Nat → Nat
  | 0, _ => 0
  | k + 1, a => f a + sm f k (a + 1)
theorem nd_lt {f : Nat → Nat} : ∀ {k a l : Nat}, l < sm f k a → nd f k a l < a + k
  | 0, a, l, h => absurd h (Nat.not_lt_zero _)
  | k + 1, a, l, h => by
    unfold nd
    split
    · omega
    · have h' : l < f a + sm f k (a + 1) := h
      have := nd_lt (f := f) (k := k) (a := a + 1) (l := l - f a) (by omega)
      omega
def pre (f : Nat → Nat) : Nat → Nat
  | 0 => 0
  | n + 1 => pre f n + f n
theorem b4095 : ∀ a, a < 12 → tb (nI 4095) a := by decide +kernel
theorem all_pre {w : Nat → Int32} (hv : VL w) : ∀ n, n ≤ 12 → wS w (nI 4095) n = nI (pre (wt w) n) ∧ pre (wt w) n ≤ 99 * n
  | 0, _ => ⟨rfl, Nat.le_refl _⟩
  | n + 1, h => by
    obtain ⟨i1, i2⟩ := all_pre hv n (by omega)
    obtain ⟨a1, a2⟩ := hv.2.2.1 n (by omega)
    unfold wS pre
    rw [if_pos (b4095 n (by omega)), i1, a1, nI_add]
    exact ⟨rfl, by omega⟩
theorem sm_pre (f : Nat → Nat) : sm f 12 0 = pre f 12 := by
  simp only [sm, pre, Nat.zero_add, Nat.reduceAdd]; omega
def allN (w : Nat → Int32) : Nat := pre (wt w) 12
/-- a minute of a storm -/
def drW (w : Nat → Int32) : Nat → Int32 := upd w 469 (nxS (w 469))
def stW (w : Nat → Int32) (c : Int32) : Nat → Int32 :=
  if c ≤ nI (dvS (nxS (pmW w 469)) 1000) then drW (pmW w) else if allN w = 0 then drW (pmW w) else clW (drW (drW (pmW w))) (nd (wt w) 12 0 (dvS (nxS (nxS (pmW w 469))) (allN w)))
theorem drW_ne {w : Nat → Int32} {j : Nat} (h : j ≠ 469) : drW w j = w j := upd_ne h
theorem drW_V {w : Nat → Int32} {t : Nat} (hv : V w t) : V (drW w) t ∧ miN (drW w) = miN w := ⟨(cnt_cg (fun j hj => drW_ne (by omega)) hv).1, by unfold miN; rw [drW_ne (by omega)]⟩
theorem wt_cg {w w' : Nat → Int32} (h : ∀ a, a < 12 → w' a = w a) : ∀ a, a < 12 → wt w' a = wt w a := fun a ha => by unfold wt; rw [h a ha]
theorem pre_cg {f g : Nat → Nat} : ∀ n, (∀ a, a < n → f a = g a) → pre f n = pre g n
  | 0, _ => rfl
  | n + 1, h => by unfold pre; rw [pre_cg n (fun a ha => h a (by omega)), h n (by omega)]
theorem nd_cg {f g : Nat → Nat} : ∀ k a l, (∀ i, i < a + k → f i = g i) → nd f k a l = nd g k a l
  | 0, _, _, _ => rfl
  | k + 1, a, l, h => by
    unfold nd
    rw [h a (by omega), nd_cg k (a + 1) (l - g a) (fun i hi => h i (by omega))]
theorem stW_V {w : Nat → Int32} {T : Nat} (c : Int32) (hv : V w T) (hm : miN w + 1 ≤ 600 * T) (hT : T ≤ 512) : V (stW w c) T ∧ miN (stW w c) = miN w + 1 := by
  obtain ⟨p1, p2⟩ := pmW_V hv hm hT
  obtain ⟨d1, d2⟩ := drW_V p1
  unfold stW
  split
  · exact ⟨d1, by omega⟩
  · split
    · exact ⟨d1, by omega⟩
    · obtain ⟨f1, f2⟩ := drW_V d1
      obtain ⟨g1, g2⟩ := clW_V (a := nd (wt w) 12 0 (dvS (nxS (nxS (pmW w 469))) (allN w))) f1
      exact ⟨g1, by omega⟩
section S26
variable {pl : Option Nat} {tl : List LC} {d : Nat} {M : Mem} {t : Nat}
theorem ew_clW {w : Nat → Int32} {a e : Nat} (hv : V w t) (ha : a < 12) (hg : gW w a = some e) : dist (clW w a) (sp (clW w a) (po (clW w a) e)) a = ew w e a ∧ (∀ x y, x < 12 → y < 12 → dist (clW w a) x y = dist w x y) := by
  have n6 := hv.2.1.1.2
  have s8 := hv.1.1.2
  have ne : ∀ {j : Nat}, (j < 314 ∨ 326 ≤ j) → (j < 463 ∨ 466 < j) → clW w a j = w j := fun h1 h2 => clW_ne n6 h1 h2
  obtain ⟨f1, f2⟩ := fm_lt hg
  have f2 : ew w e a < 999 := f2
  have hp := (hv.2.1.2 e f1).1.2
  have hs := (hv.1.2.2.2.1 _ hp).2
  have c := VL_cg (w := w) (w' := clW w a) (fun j hj => ne (by omega) (by omega))
  refine ⟨?_, c.2.2.2.2.2⟩
  have x1 : po (clW w a) e = po w e := by unfold po; rw [ne (by omega) (by omega)]
  have x2 : sp (clW w a) (po w e) = sp w (po w e) := by unfold sp; rw [ne (by omega) (by omega)]
  rw [x1, x2, c.2.2.2.2.2 _ _ hs ha]
  unfold ew
  by_cases q : rdy w e = true
  · rw [if_pos q]
  · exfalso
    have : ew w e a = 999 := if_neg q
    omega
theorem s_lyT {Q : Mem → Prop} (hv : V (M.1 53) t) (h : Q (lyM (thr M) (rcN (M.1 53)))) : exV (LY pl tl) (d + 3) 165 [.ref 52] (si M 52 7 (nI 0)) Q := s_ly (M := thr M) (t := t) hv h
theorem s_callsT {Q : Int32 → Mem → Prop} {w : Nat → Int32} {a : Nat} (hw : M.1 53 = w) (hv : V w t) (h58 : ∀ a b, a < 12 → b < 12 → M.1 58 (12 * a + b) = nI (dist w a b)) (ha : a < 12) (h : Q (oM1 (gW w a)) (sa M 53 (clW w a))) : exI (LY pl tl) (d + 4) 176 [.ref 52, .int (nI a)] M Q := by
  subst hw; exact s_callsM hv h58 ha h
theorem s_wayT {Q : Int32 → Mem → Prop} {w : Nat → Int32} {e a k : Nat} (hw : M.1 53 = w) (hv : V w t) (h58 : ∀ a b, a < 12 → b < 12 → M.1 58 (12 * a + b) = nI (dist w a b)) (he : e < eN w) (ha : a < 12) (hk : dist w (sp w (po w e)) a = k) (h : Q (nI k) M) : exI (LY pl tl) (d + 2) 170 [.ref 52, .int (nI e), .int (nI a)] M Q := by
  subst hw; subst hk; exact s_wayM hv h58 he ha h
def lateN (w : Nat → Int32) (e a : Nat) : Nat := if ew w e a ≤ rcN w then 0 else 1
theorem m_call_y {Q : Int32 → Mem → Prop} {a e : Nat} (hv : V (M.1 53) t) (ha : a < 12) (hg : gW (M.1 53) a = some e) (h : Q (nI e) (rwM (sa (lyM (thr M) (rcN (M.1 53))) 53 (clW (M.1 53) a)) 2 (fun j => if j = 0 then (nI (ew (M.1 53) e a)).toInt64 else (nI (lateN (M.1 53) e a)).toInt64))) : exI (LY pl tl) (d + 6) 177 [.ref 52, .int (nI a)] M Q := by
  have n6 := hv.2.1.1.2
  obtain ⟨f1, f2⟩ := fm_lt hg
  have f2 : ew (M.1 53) e a < 999 := f2
  have hrc := hv.2.2.1.1.2.2
  obtain ⟨e1, e2⟩ := ew_clW hv ha hg
  have cv := (clW_V (a := a) hv).1
  have eE : eN (clW (M.1 53) a) = eN (M.1 53) := by unfold eN; rw [clW_ne n6 (by omega) (by omega)]
  refine e_X11_call (s_mNode (fun _ _ _ => ⟨fun _ => s_lyT (t := t) hv (s_callsT (t := t) (w := M.1 53) rfl hv (ly58 (M := thr M)) ha ?_), fun c => absurd c (by decide)⟩) (fun q => (out_nI ha (by omega) q).elim))
  rw [hg]
  refine ⟨fun _ => ?_, fun c => ((z_m1 (show e < 2147483648 by omega)).mp c).elim⟩
  rw [rwM_0 _ (fun j => if j = 0 then (nI (ew (M.1 53) e a)).toInt64 else (nI (lateN (M.1 53) e a)).toInt64)]
  have h58 : ∀ n g, ∀ x y, x < 12 → y < 12 → (rwM (sa (lyM (thr M) (rcN (M.1 53))) 53 (clW (M.1 53) a)) n g).1 58 (12 * x + y) = nI (dist (clW (M.1 53) a) x y) := fun n g x y hx hy => by
    rw [e2 x y hx hy]; exact ly58 (M := thr M) (r := rcN (M.1 53)) x y hx hy
  refine s_wayT (t := t) (w := clW (M.1 53) a) rfl cv (h58 _ _) (by rw [eE]; exact f1) ha e1 (s_mtell 1 rfl (by omega) rfl (s_wayT (t := t) (w := clW (M.1 53) a) rfl cv (h58 _ _) (by rw [eE]; exact f1) ha e1 ?_))
  have e459 : ∀ n g, (rwM (sa (lyM (thr M) (rcN (M.1 53))) 53 (clW (M.1 53) a)) n g).1 53 459 = nI (rcN (M.1 53)) := fun n g => by
    show clW (M.1 53) a 459 = _
    rw [clW_ne n6 (by omega) (by omega)]; exact hv.2.2.1.1.1
  rw [e459, z_le (by omega) (by omega)]
  refine ⟨fun c => s_mtell 2 rfl (by omega) ?_ h, fun c => s_mtell 2 rfl (by omega) ?_ h⟩
  · show lN 0 = (nI (lateN (M.1 53) e a)).toInt64
    unfold lateN; rw [if_pos c]; rfl
  · show lN 1 = (nI (lateN (M.1 53) e a)).toInt64
    unfold lateN; rw [if_neg c]; rfl
theorem m_call_n {Q : Int32 → Mem → Prop} {a : Nat} (hv : V (M.1 53) t) (ha : a < 12) (hg : gW (M.1 53) a = none) (h : Q (-2) (sa (lyM (thr M) (rcN (M.1 53))) 53 (clW (M.1 53) a))) : exI (LY pl tl) (d + 6) 177 [.ref 52, .int (nI a)] M Q := by
  refine e_X11_call (s_mNode (fun _ _ _ => ⟨fun _ => s_lyT (t := t) hv (s_callsT (t := t) (w := M.1 53) rfl hv (ly58 (M := thr M)) ha ?_), fun c => absurd c (by decide)⟩) (fun q => (out_nI ha (by omega) q).elim))
  rw [hg]
  exact ⟨fun c => absurd rfl c, fun _ => h⟩
theorem op_call {x : Int32} (h : Inv t M) (ht : t < 512) : Op pl tl (d + 12) 14 [.ref 0, .int x] 177 [.ref 52, .int x] t M := by
  have hI := h.up (t' := t + 1) (by omega) (by omega)
  obtain ⟨⟨hv, hr⟩, -⟩ := h
  refine e_X10_call (s_cNode (fun a ha e => ?_) (fun q => ⟨fun c => absurd rfl c, fun _ => e_X11_call (s_mNode (fun j hj e => ?_) (fun _ => ⟨fun c => absurd rfl c, fun _ => ⟨rfl, hI⟩⟩))⟩))
  · subst e
    refine ⟨fun _ => s_send hv hr ha (fun B hF hR => ?_), fun c => absurd c (by decide)⟩
    have h53 : B.1 53 = M.1 53 := hF.2 53 (by omega)
    have cv := V_up (t' := t + 1) (by omega) (clW_V (a := a) hv).1
    cases hg : gW (M.1 53) a with
    | none =>
      refine ⟨fun c => absurd rfl c, fun _ => m_call_n (t := t) (by rw [h53]; exact hv) ha (by rw [h53]; exact hg) ⟨rfl, ?_⟩⟩
      refine Inv_step hI hF cv hR (by rw [sa_s, h53]) (fun c h1 h2 => ?_) ⟨rfl, rfl⟩ ?_
      · rw [sa_n (by omega)]
        show (sa (sa (si B 52 7 (nI 0)) 58 _) 59 _).1 c = _
        rw [sa_n (by omega), sa_n (by omega), si_c (by omega)]
      · have hrow := hI.2.1
        unfold RowOk at hrow ⊢
        rw [← hF.1, ← hF.2 1 (by omega), ← hF.2 52 (by omega)] at hrow
        exact hrow
    | some e =>
      obtain ⟨f1, f2⟩ := fm_lt hg
      have n6 := hv.2.1.1.2
      refine ⟨fun _ => s_tell2 ?_, fun c => ((z_m1 (show e < 2147483648 by omega)).mp c).elim⟩
      refine m_call_y (t := t) (e := e) (by show V (B.1 53) t; rw [h53]; exact hv) ha (by show gW (B.1 53) a = some e; rw [h53]; exact hg) ⟨rfl, ?_⟩
      have cl := clW_some hg
      refine Inv_step hI hF cv hR (show clW (B.1 53) a = _ by rw [h53]) (fun c h1 h2 => ?_) ⟨rfl, rfl⟩ (rows_ok (n := 2) (by omega) rfl rfl rfl rfl (fun j hj => ?_))
      · show (si _ 52 6 _).1 c = _
        rw [si_c (by omega)]
        show (sa (sa (sa (si (rwC B 2 _) 52 7 (nI 0)) 58 _) 59 _) 53 _).1 c = _
        rw [sa_n (by omega), sa_n (by omega), sa_n (by omega), si_c (by omega)]
        show (si _ 1 1 _).1 c = _
        rw [si_c h1]
        rfl
      · have q1 : B.1 24 10 = M.1 53 466 + nI (ew (M.1 53) e a) := by
          have : B.1 24 10 = clW (M.1 53) a 466 := hR.2.1.2.2.2.2.2.2.1
          rw [this, cl, upd_ne (by omega), upd_ne (by omega), upd_ne (by omega), upd_eq]
        have q2 : B.1 24 8 = M.1 53 464 + nI (lateN (M.1 53) e a) := by
          have : B.1 24 8 = clW (M.1 53) a 464 := hR.2.1.2.2.2.2.1
          rw [this, cl, upd_ne (by omega), upd_ne (by omega), upd_eq]
          rfl
        have q3 : M.1 24 10 = M.1 53 466 := hr.2.1.2.2.2.2.2.2.1
        have q4 : M.1 24 8 = M.1 53 464 := hr.2.1.2.2.2.2.1
        show (if j = 0 then (B.1 24 10 - M.1 24 10).toInt64 else (B.1 24 8 - M.1 24 8).toInt64) = (if j = 0 then (nI (ew (B.1 53) e a)).toInt64 else (nI (lateN (B.1 53) e a)).toInt64)
        rw [q1, q2, q3, q4, z_sub_l, z_sub_l, h53]
  · subst e; exact (out_nI hj (by omega) q).elim
end S26
