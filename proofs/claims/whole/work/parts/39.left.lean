/-! WHAT BEGAN WITHIN THE HOUR: left, post, swap -/
theorem cn_shift (p : Nat → Bool) : ∀ n, cn p (n + 1) = (if p 0 = true then 1 else 0) + cn (fun j => p (j + 1)) n
  | 0 => by
    show (if p 0 = true then 0 + 1 else 0) = (if p 0 = true then 1 else 0) + 0
    split <;> rfl
  | n + 1 => by
    have ih := cn_shift p n
    have e1 : cn p (n + 1 + 1) = if p (n + 1) = true then cn p (n + 1) + 1 else cn p (n + 1) := rfl
    have e2 : cn (fun j => p (j + 1)) (n + 1) = if p (n + 1) = true then cn (fun j => p (j + 1)) n + 1 else cn (fun j => p (j + 1)) n := rfl
    rw [e1, e2]
    by_cases c : p (n + 1) = true
    · rw [if_pos c, if_pos c]; omega
    · rw [if_neg c, if_neg c]; omega
theorem cn_rot (p : Nat → Bool) : ∀ a, cn (fun j => p ((a + j) % 64)) 64 = cn p 64
  | 0 => cn_congr 64 (fun j hj => by show p ((0 + j) % 64) = p j; rw [show (0 + j) % 64 = j by omega])
  | a + 1 => by
    have ih := cn_rot p a
    have e1 := cn_shift (fun j => p ((a + j) % 64)) 64
    have e2 : cn (fun j => p ((a + j) % 64)) (64 + 1) = if p ((a + 64) % 64) = true then cn (fun j => p ((a + j) % 64)) 64 + 1 else cn (fun j => p ((a + j) % 64)) 64 := rfl
    have e3 : (a + 64) % 64 = (a + 0) % 64 := by omega
    have e4 : cn (fun j => p ((a + 1 + j) % 64)) 64 = cn (fun j => p ((a + (j + 1)) % 64)) 64 := cn_congr 64 (fun j hj => by show p ((a + 1 + j) % 64) = p ((a + (j + 1)) % 64); rw [show a + 1 + j = a + (j + 1) by omega])
    rw [e4, ← ih]
    rw [e2, e3] at e1
    by_cases c : p ((a + 0) % 64) = true
    · rw [if_pos c, if_pos c] at e1
      show cn (fun j => p ((a + (j + 1)) % 64)) 64 = _
      omega
    · rw [if_neg c, if_neg c] at e1
      show cn (fun j => p ((a + (j + 1)) % 64)) 64 = _
      omega
theorem cn_suf {p : Nat → Bool} : ∀ n, (∀ i j, i ≤ j → j < n → p i = true → p j = true) → ∀ k, 1 ≤ k → k ≤ n → (k ≤ cn p n ↔ p (n - k) = true)
  | 0, _, k, h1, h2 => by omega
  | n + 1, hp, k, h1, h2 => by
    have ih := cn_suf n (fun i j hij hj h => hp i j hij (by omega) h)
    have e1 : cn p (n + 1) = if p n = true then cn p n + 1 else cn p n := rfl
    rw [e1]
    by_cases c : p n = true
    · rw [if_pos c]
      by_cases hk : k = 1
      · subst hk
        rw [show n + 1 - 1 = n by omega]
        exact ⟨fun _ => c, fun _ => by omega⟩
      · have := ih (k - 1) (by omega) (by omega)
        rw [show n + 1 - k = n - (k - 1) by omega, ← this]
        omega
    · rw [if_neg c]
      have z : cn p n = 0 := cn_zero (fun i hi => by
        cases q : p i
        · rfl
        · exact absurd (hp i n (by omega) (by omega) q) c)
      rw [z]
      exact ⟨fun q => by omega, fun q => absurd (hp (n + 1 - k) n (by omega) (by omega) q) c⟩
/-- how many of the last n that began did so at x or later -/
def bg (w : Nat → Int32) (x : Int) (n : Nat) : Nat := cn (fun j => decide (x ≤ (hs w (bN w - n + j) : Int))) n
theorem bg_le (w : Nat → Int32) (x : Int) (n : Nat) : bg w x n ≤ n := cn_le _ _
theorem bg_ge {w : Nat → Int32} {t : Nat} (hv : VM w t) {x : Int} {n k : Nat} (hn : n ≤ bN w) (h64 : n ≤ 64) (h1 : 1 ≤ k) (hk : k ≤ n) : k ≤ bg w x n ↔ x ≤ (hs w (bN w - k) : Int) := by
  unfold bg
  rw [cn_suf n (fun i j hij hj h => ?_) k h1 hk]
  · rw [decide_eq_true_eq, show bN w - n + (n - k) = bN w - k by omega]
  · rw [decide_eq_true_eq] at h ⊢
    have := hv.2.2.2 (bN w - n + i) (bN w - n + j) (by omega) (by omega) (by omega)
    omega
theorem ti_sub {a b : Nat} (ha : a < 1000000000) (hb : b < 1000000000) : (nI a - nI b).toInt = (a : Int) - b := by
  rw [Int32.toInt_sub, nI_toInt (by omega), nI_toInt (by omega)]
  exact Int.bmod_eq_of_le (by omega) (by omega)
theorem mx_sub {a b : Nat} (ha : a < 1000000000) (hb : b < 1000000000) : (if nI 0 < nI a - nI b then nI a - nI b else nI 0) = nI (a - b) := by
  by_cases h : b ≤ a
  · rw [z_sub h]
    by_cases h2 : 0 < a - b
    · rw [if_pos ((z_lt (by omega) (by omega)).mpr h2)]
    · rw [if_neg (fun q => h2 ((z_lt (by omega) (by omega)).mp q)), show a - b = 0 by omega]
  · rw [if_neg, show a - b = 0 by omega]
    intro q
    rw [Int32.lt_iff_toInt_lt, ti_sub ha hb] at q
    have e0 : (nI 0).toInt = 0 := by decide
    omega
/-- the minute as an hour begins that still counts, and how many may move -/
def hm (w : Nat → Int32) (v : Nat) : Int := (miN w + v : Nat) - (59 : Int)
def mvN (w : Nat → Int32) : Nat := lmN w - bg w (hm w 0) (min (bN w) 20)
theorem mv_eq {w : Nat → Int32} {t : Nat} (hv : V w t) : lmN w - bg w (hm w 0) (min (bN w) 64) = mvN w := by
  have hl : lmN w ≤ 20 := hv.2.2.1.2.2.2
  have hq := hv.2.2.2
  unfold mvN
  generalize hm w 0 = x
  have b1 := bg_le w x (min (bN w) 20)
  have g1 : ∀ k, 1 ≤ k → k ≤ min (bN w) 20 → (k ≤ bg w x (min (bN w) 20) ↔ k ≤ bg w x (min (bN w) 64)) := fun k h1 h2 => by
    rw [bg_ge hq (by omega) (by omega) h1 h2, bg_ge hq (by omega) (by omega) h1 (by omega)]
  by_cases c : bN w ≤ 20
  · rw [show min (bN w) 20 = bN w by omega, show min (bN w) 64 = bN w by omega]
  · by_cases c2 : bg w x (min (bN w) 20) = 20
    · have := (g1 20 (by omega) (by omega)).mp (by omega)
      omega
    · have q1 := g1 (bg w x (min (bN w) 20) + 1) (by omega) (by omega)
      by_cases c3 : bg w x (min (bN w) 20) = 0
      · omega
      · have q2 := g1 (bg w x (min (bN w) 20)) (by omega) (by omega)
        omega
section S39
variable {pl : Option Nat} {tl : List LC} {d : Nat} {M : Mem} {t : Nat}
theorem s_begunSince {Q : Int32 → Mem → Prop} {x : Int32} (hv : V (M.1 53) t) (ht : t ≤ 512) (h : Q (nI (bg (M.1 53) x.toInt (min (bN (M.1 53)) 64))) M) : exI (LY pl tl) (d + 1) 224 [.ref 52, .int x] M Q := by
  have hm := hv.2.2.2
  generalize hw : M.1 53 = w at hv h hm
  have hB : bN w ≤ 6 * t := hm.2.1.2
  have h468 : M.1 53 468 = nI (bN w) := by rw [hw]; exact hm.2.1.1
  have e0 : bg w x.toInt (min (bN w) 64) = cn (fun s => decide (x.toInt ≤ (tn (w (392 + s)) : Int))) (min (bN w) 64) := by
    unfold bg
    by_cases c : bN w ≤ 64
    · rw [show min (bN w) 64 = bN w by omega]
      refine cn_congr _ (fun j hj => ?_)
      unfold hs
      rw [show (bN w - bN w + j) % 64 = j by omega]
    · rw [show min (bN w) 64 = 64 by omega]
      exact cn_rot (fun s => decide (x.toInt ≤ (tn (w (392 + s)) : Int))) (bN w - 64)
  rw [e0] at h
  refine e_X11_begunSince (lp_0 (X := fx (LY pl tl) d m_X11_begunSince (qI Q)) (fun s => (4, [some (.ref 52), some (.int x), some (.int (nI (cn (fun s => decide (x.toInt ≤ (tn (w (392 + s)) : Int))) s))), some (.int (nI s))], [], M)) (min (bN w) 64) (fun s hs' hx => ?_) ?_)
  · have ev : w (392 + s) = nI (tn (w (392 + s))) ∧ tn (w (392 + s)) ≤ miN w := by
      have z := hm.2.2.1 (s + 64 * ((bN w - 1 - s) / 64)) (by omega) (by omega)
      unfold hs at z
      rw [show (s + 64 * ((bN w - 1 - s) / 64)) % 64 = s by omega] at z
      exact z
    have hmi : miN w ≤ 600 * t := hm.1.2
    refine c_X11_begunSince_4 ?_
    rw [h468, nI_add 392 s, z_cl (show 392 + s < 2147483648 by omega), hw, ev.1, nI_add s 1, nI_add _ 0, nI_add _ 1]
    refine br_f (nI_ge (by omega) (by omega)) (br_f (nI_ge (by omega) (by omega)) ⟨(z_in (by omega) (by omega)).mpr (by omega), fun c => ?_, fun c => ?_⟩)
    · rw [Int32.lt_iff_toInt_lt, nI_toInt (by omega)] at c
      rw [show cn (fun s => decide (x.toInt ≤ (tn (w (392 + s)) : Int))) (s + 1) = cn (fun s => decide (x.toInt ≤ (tn (w (392 + s)) : Int))) s from if_neg (by rw [decide_eq_true_eq]; omega)] at hx
      exact hx
    · rw [Int32.lt_iff_toInt_lt, nI_toInt (by omega)] at c
      rw [show cn (fun s => decide (x.toInt ≤ (tn (w (392 + s)) : Int))) (s + 1) = cn (fun s => decide (x.toInt ≤ (tn (w (392 + s)) : Int))) s + 1 from if_pos (by rw [decide_eq_true_eq]; omega)] at hx
      exact hx
  · refine c_X11_begunSince_4 ?_
    rw [h468]
    by_cases c : 64 ≤ bN w
    · exact br_t (nI_le (by omega) (by omega)) h
    · exact br_f (nI_ge (by omega) (by omega)) (br_t (nI_le (by omega) (by omega)) h)
theorem s_movedLately {Q : Int32 → Mem → Prop} {w : Nat → Int32} (hv : V w t) (ht : t ≤ 512) (hr : RC 15 M w) (h : Q (nI (bg w (hm w 0) (min (bN w) 20))) M) : exI (LY pl tl) (d + 1) 75 [.ref 24] M Q := by
  have hq := hv.2.2.2
  obtain ⟨-, ⟨-, -, k3, -⟩, -, r5, r6⟩ := hr
  have hmi : miN w ≤ 600 * t := hq.1.2
  have hB : bN w ≤ 6 * t := hq.2.1.2
  have e5 : M.1 24 5 = nI (min (bN w) 20) := r5
  have e6 : M.1 24 6 = nI (miN w) := k3.trans hq.1.1
  refine e_X2_movedLately (lp_0 (X := fx (LY pl tl) d m_X2_movedLately (qI Q)) (fun j => (4, [some (.ref 24), some (.int (nI (cn (fun j => decide (hm w 0 ≤ (hs w (bN w - min (bN w) 20 + j) : Int))) j))), some (.int (nI j))], [], M)) (min (bN w) 20) (fun j hj hx => ?_) ?_)
  · refine c_X2_movedLately_4 ?_
    have e28 : M.1 28 j = w (392 + (bN w - min (bN w) 20 + j) % 64) := r6 j hj
    obtain ⟨z1, z2⟩ := hq.2.2.1 (bN w - min (bN w) 20 + j) (by omega) (by omega)
    rw [e5, z_cl (by omega), e28, z1, e6, nI_add j 1, nI_add _ 1]
    refine br_f (nI_ge hj (by omega)) ⟨(z_in (by omega) (by omega)).mpr (by omega), fun c => ?_, fun c => ?_⟩
    · rw [Int32.le_iff_toInt_le, nI_toInt (by omega), ti_sub (by omega) (by omega)] at c
      rw [show cn (fun j => decide (hm w 0 ≤ (hs w (bN w - min (bN w) 20 + j) : Int))) (j + 1) = cn (fun j => decide (hm w 0 ≤ (hs w (bN w - min (bN w) 20 + j) : Int))) j from if_neg (by rw [decide_eq_true_eq]; unfold hm; omega)] at hx
      exact hx
    · rw [Int32.le_iff_toInt_le, nI_toInt (by omega), ti_sub (by omega) (by omega)] at c
      rw [show cn (fun j => decide (hm w 0 ≤ (hs w (bN w - min (bN w) 20 + j) : Int))) (j + 1) = cn (fun j => decide (hm w 0 ≤ (hs w (bN w - min (bN w) 20 + j) : Int))) j + 1 from if_pos (by rw [decide_eq_true_eq]; unfold hm; omega)] at hx
      exact hx
  · refine c_X2_movedLately_4 ?_
    rw [e5]
    exact br_t (nI_le (Nat.le_refl _) (by omega)) h
theorem s_mayC {Q : Int32 → Mem → Prop} {w : Nat → Int32} (hv : V w t) (ht : t ≤ 512) (hr : RC 15 M w) (h : Q (nI (mvN w)) M) : exI (LY pl tl) (d + 2) 127 [.ref 15] M Q := by
  have hl : lmN w ≤ 20 := hv.2.2.1.2.2.2
  have b1 := bg_le w (hm w 0) (min (bN w) 20)
  refine e_X9_mayMove (s_movedLately hv ht hr ?_)
  have e4 : M.1 15 4 = nI (lmN w) := hr.2.2.1.2.2.1.trans hv.2.2.1.2.2.1
  rw [e4, mx_sub (by omega) (by omega)]
  exact h
theorem s_mayM {Q : Int32 → Mem → Prop} (hv : V (M.1 53) t) (ht : t ≤ 512) (h : Q (nI (mvN (M.1 53))) M) : exI (LY pl tl) (d + 2) 225 [.ref 52] M Q := by
  have hl : lmN (M.1 53) ≤ 20 := hv.2.2.1.2.2.2
  have hmi : miN (M.1 53) ≤ 600 * t := hv.2.2.2.1.2
  have b1 := bg_le (M.1 53) (hm (M.1 53) 0) (min (bN (M.1 53)) 64)
  refine e_X11_mayMove (s_begunSince hv ht ?_)
  rw [hv.2.2.2.1.1, ti_sub (by omega) (by omega), hv.2.2.1.2.2.1]
  have e : ((miN (M.1 53) : Int) - (59 : Nat)) = hm (M.1 53) 0 := by unfold hm; omega
  rw [e, mx_sub (by omega) (by omega), mv_eq hv]
  exact h
/-- in how many minutes one more may move -/
def lfW (w : Nat → Int32) : Int32 := if lmN w = 0 then -1 else if 0 < mvN w then nI 0 else nI (hs w (bN w - lmN w) + 60) - nI (miN w)
theorem lf_key {w : Nat → Int32} (hv : V w t) (hl : 0 < lmN w) (h0 : mvN w = 0) : lmN w ≤ bN w ∧ miN w < hs w (bN w - lmN w) + 60 ∧ ∀ v, (bg w (hm w v) (min (bN w) 64) < lmN w ↔ hs w (bN w - lmN w) + 60 ≤ miN w + v) := by
  have hl2 : lmN w ≤ 20 := hv.2.2.1.2.2.2
  have hq := hv.2.2.2
  have b1 := bg_le w (hm w 0) (min (bN w) 20)
  have b2 : lmN w ≤ bg w (hm w 0) (min (bN w) 20) := by unfold mvN at h0; omega
  have b3 := (bg_ge hq (x := hm w 0) (n := min (bN w) 20) (by omega) (by omega) hl (by omega)).mp b2
  refine ⟨by omega, by unfold hm at b3; omega, fun v => ?_⟩
  have := bg_ge hq (x := hm w v) (n := min (bN w) 64) (by omega) (by omega) hl (by omega)
  constructor
  · intro q
    have : ¬ hm w v ≤ (hs w (bN w - lmN w) : Int) := fun z => by have := this.mpr z; omega
    unfold hm at this
    omega
  · intro q
    have : ¬ lmN w ≤ bg w (hm w v) (min (bN w) 64) := fun z => by have := this.mp z; unfold hm at this; omega
    omega
theorem m_left {Q : Int32 → Mem → Prop} (hv : V (M.1 53) t) (ht : t ≤ 512) (h : Q (nI (mvN (M.1 53))) (rwM (thr M) 1 (fun _ => (lfW (M.1 53)).toInt64))) : exI (LY pl tl) (d + 4) 230 [.ref 52] M Q := by
  have hl : lmN (M.1 53) ≤ 20 := hv.2.2.1.2.2.2
  have hmi : miN (M.1 53) ≤ 600 * t := hv.2.2.2.1.2
  have h461 : M.1 53 461 = nI (lmN (M.1 53)) := hv.2.2.1.2.2.1
  have h462 : M.1 53 462 = nI (miN (M.1 53)) := hv.2.2.2.1.1
  have fin : ∀ x : Int32, x = lfW (M.1 53) → exV (LY pl tl) (d + 3) 136 [.ref 52, .long x.toInt64] (si (thr M) 52 6 (nI 0)) (fun M1 => exI (LY pl tl) (d + 3) 225 [.ref 52] M1 (fun r2 M2 => Q r2 M2)) := by
    intro x hx
    rw [hx, rwM_0 _ (fun _ => (lfW (M.1 53)).toInt64)]
    exact s_mtell 1 rfl (by omega) rfl (s_mayM (M := rwM (thr M) 1 (fun _ => (lfW (M.1 53)).toInt64)) hv ht h)
  refine e_X11_left ?_
  rw [h461]
  refine ⟨fun c => ?_, fun c => ?_⟩
  · have hp : 0 < lmN (M.1 53) := by
      rcases Nat.eq_zero_or_pos (lmN (M.1 53)) with z | z
      · exact absurd ((z_eq0 (by omega)).mpr z) c
      · exact z
    have tt : ∀ v, v ≤ 400000 → ((M.1 53 462 + nI v) - nI 59).toInt = hm (M.1 53) v := fun v hv' => by
      rw [h462, nI_add, ti_sub (by omega) (by omega)]
      unfold hm
      omega
    by_cases h0 : mvN (M.1 53) = 0
    · obtain ⟨k1, k2, k3⟩ := lf_key hv hp h0
      have hB : hs (M.1 53) (bN (M.1 53) - lmN (M.1 53)) ≤ miN (M.1 53) := (hv.2.2.2.2.2.1 _ (by omega) (by omega)).2
      have el : lfW (M.1 53) = nI (hs (M.1 53) (bN (M.1 53) - lmN (M.1 53)) + 60 - miN (M.1 53)) := by
        unfold lfW
        rw [if_neg (by omega), if_neg (by omega), z_sub (by omega)]
      refine lp_0 (X := fx (LY pl tl) (d + 3) m_X11_left (qI Q)) (fun v => (22, [some (.ref 52), some (.int (nI v))], [], thr M)) (hs (M.1 53) (bN (M.1 53) - lmN (M.1 53)) + 60 - miN (M.1 53)) (fun v hv' hx => ?_) ?_
      · refine c_X11_left_22 (br_f (fun q => (z_m1 (by omega)).mp q) (s_begunSince (M := thr M) hv ht ?_))
        have q1 : (((thr M).1 53 462 + nI v) - nI 59).toInt = hm (M.1 53) v := tt v (by omega)
        have q2 : (thr M).1 53 461 = nI (lmN (M.1 53)) := h461
        have q3 := bg_le (M.1 53) (hm (M.1 53) v) (min (bN (M.1 53)) 64)
        rw [q1, q2, nI_add v 1]
        refine br_f (fun q => ?_) hx
        have := (z_lt (a := bg (M.1 53) (hm (M.1 53) v) (min (bN (M.1 53)) 64)) (b := lmN (M.1 53)) (by omega) (by omega)).mp q
        have := (k3 v).mp this
        omega
      · refine c_X11_left_22 (br_f (fun q => (z_m1 (by omega)).mp q) (s_begunSince (M := thr M) hv ht ?_))
        have q1 := tt (hs (M.1 53) (bN (M.1 53) - lmN (M.1 53)) + 60 - miN (M.1 53)) (by omega)
        have q2 : (thr M).1 53 461 = nI (lmN (M.1 53)) := h461
        have q3 := bg_le (M.1 53) (hm (M.1 53) (hs (M.1 53) (bN (M.1 53) - lmN (M.1 53)) + 60 - miN (M.1 53))) (min (bN (M.1 53)) 64)
        refine br_t ?_ (fin _ el.symm)
        rw [q2]
        show nI (bg (M.1 53) (((M.1 53 462 + nI (hs (M.1 53) (bN (M.1 53) - lmN (M.1 53)) + 60 - miN (M.1 53))) - nI 59).toInt) (min (bN (M.1 53)) 64)) < _
        rw [q1]
        exact (z_lt (by omega) (by omega)).mpr ((k3 _).mpr (by omega))
    · have el : lfW (M.1 53) = nI 0 := by
        unfold lfW
        rw [if_neg (by omega), if_pos (by omega)]
      refine c_X11_left_22 (br_f (by decide) (s_begunSince (M := thr M) hv ht ?_))
      have q1 := tt 0 (by omega)
      have q2 : (thr M).1 53 461 = nI (lmN (M.1 53)) := h461
      have q3 := bg_le (M.1 53) (hm (M.1 53) 0) (min (bN (M.1 53)) 64)
      have q4 := mv_eq hv
      refine br_t ?_ (fin _ el.symm)
      rw [q2]
      show nI (bg (M.1 53) (((M.1 53 462 + nI 0) - nI 59).toInt) (min (bN (M.1 53)) 64)) < _
      rw [q1]
      exact (z_lt (by omega) (by omega)).mpr (by omega)
  · have hz := (z_eq0 (by omega)).mp c
    refine c_X11_left_22 (br_t rfl (fin _ ?_))
    unfold lfW
    rw [if_pos hz]
theorem op_left (h : Inv t M) (ht : t < 512) : Op pl tl (d + 12) 41 [.ref 0] 230 [.ref 52] t M := by
  have hI := h.up (t' := t + 1) (by omega) (by omega)
  obtain ⟨⟨hv, hr⟩, -⟩ := h
  have hl : lmN (M.1 53) ≤ 20 := hv.2.2.1.2.2.2
  have hmi : miN (M.1 53) ≤ 600 * t := hv.2.2.2.1.2
  have hmv : mvN (M.1 53) ≤ lmN (M.1 53) := by unfold mvN; omega
  have e4 : M.1 15 4 = nI (lmN (M.1 53)) := hr.2.2.1.2.2.1.trans hv.2.2.1.2.2.1
  have fin : ∀ x : Int32, x = lfW (M.1 53) → exV (LY pl tl) (d + 11) 111 [.ref 1, .long x.toInt64] M (fun M3 => exI (LY pl tl) (d + 12) 230 [.ref 52] M3 (fun r2 M2 => r2 = nI (mvN (M.1 53)) ∧ Inv (t + 1) M2)) := by
    intro x hx
    rw [hx]
    exact s_tell1 (m_left (t := t) (M := rwC M 1 (fun _ => (lfW (M.1 53)).toInt64)) hv (by omega) ⟨rfl, hI.1, rows_ok (n := 1) (by omega) rfl rfl rfl rfl (fun i hi => rfl), hI.2.2⟩)
  refine e_X10_left (s_mayC hv (by omega) hr ⟨fun c => ?_, fun c => ?_⟩)
  · have h0 : mvN (M.1 53) = 0 := (z_le0 (by omega)).mp c
    rw [e4]
    by_cases hz : lmN (M.1 53) = 0
    · exact e_X2_waitForMove (br_t ((z_le0 (by omega)).mpr hz) (fin _ (by unfold lfW; rw [if_pos hz])))
    · obtain ⟨k1, k2, k3⟩ := lf_key hv (by omega) h0
      have q5 : M.1 24 5 = nI (min (bN (M.1 53)) 20) := hr.2.2.2.1
      have q6 : M.1 24 6 = nI (miN (M.1 53)) := hr.2.1.2.2.1.trans hv.2.2.2.1.1
      have q7 : M.1 28 (min (bN (M.1 53)) 20 - lmN (M.1 53)) = nI (hs (M.1 53) (bN (M.1 53) - lmN (M.1 53))) := by
        have z := hr.2.2.2.2 (min (bN (M.1 53)) 20 - lmN (M.1 53)) (by omega)
        rw [show bN (M.1 53) - min (bN (M.1 53)) 20 + (min (bN (M.1 53)) 20 - lmN (M.1 53)) = bN (M.1 53) - lmN (M.1 53) by omega] at z
        exact z.trans (hv.2.2.2.2.2.1 _ (by omega) (by omega)).1
      refine e_X2_waitForMove (br_f (fun q => hz ((z_le0 (by omega)).mp q)) ?_)
      rw [q5, z_sub (by omega), z_cl (by omega), q7, q6, nI_add]
      refine br_f (nI_pos (by omega)) (br_t ((z_lt (by omega) (by omega)).mpr (by omega)) ⟨(z_in (by omega) (by omega)).mpr (by omega), fin _ ?_⟩)
      unfold lfW
      rw [if_neg hz, if_neg (by omega)]
  · have hp : 0 < mvN (M.1 53) := by
      rcases Nat.eq_zero_or_pos (mvN (M.1 53)) with z | z
      · exact absurd ((z_le0 (by omega)).mpr z) c
      · exact z
    refine fin (nI 0) ?_
    unfold lfW
    rw [if_neg (by omega), if_pos hp]
end S39
