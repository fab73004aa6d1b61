/-! DEAREST ROAD: reaches of their own -/
def rfG (f : Nat → Int32) (w : Nat → Int32) (a : Nat) : Nat := cn (fun e => rdy w e && decide (tb (f (po w e)) a)) (eN w)
theorem rfG_le (f : Nat → Int32) (w : Nat → Int32) (a : Nat) : rfG f w a ≤ eN w := cn_le _ _
section S38
variable {pl : Option Nat} {tl : List LC} {d : Nat} {M : Mem} {t : Nat}
theorem s_readyForG {Q : Int32 → Mem → Prop} {f : Nat → Int32} {a : Nat} (hc : VC (M.1 53)) (ha : a < 12) (h59 : ∀ s, s < sN (M.1 53) → M.1 59 s = f s) (hs8 : sN (M.1 53) ≤ 8) (h : Q (nI (rfG f (M.1 53) a)) M) : exI (LY pl tl) (d + 2) 169 [.ref 52, .int (nI a)] M Q := by
  have hn6 := hc.1.2
  refine e_X11_readyFor (lp_0 (X := fx (LY pl tl) (d + 1) m_X11_readyFor (qI Q)) (fun e => (4, [some (.ref 52), some (.int (nI a)), some (.int (nI (cn (fun e => rdy (M.1 53) e && decide (tb (f (po (M.1 53) e)) a)) e))), some (.int (nI e))], [], M)) (eN (M.1 53)) (fun e he hx => ?_) ?_)
  · obtain ⟨⟨p1, p2⟩, m1, m2⟩ := hc.2 e he
    refine c_X11_readyFor_4 ?_
    rw [hc.1.1]
    refine br_f (nI_ge he (by omega)) (s_isReady (by omega) ?_)
    rw [nI_add, nI_add, nI_add, nI_add, Nat.add_zero, z_cl (show 308 + e < 2147483648 by omega), p1, z_cl (by omega), h59 _ p2]
    by_cases q : M.1 53 (320 + e) = nI 0
    · rw [if_pos q]
      refine ⟨fun c => absurd c (by decide), fun _ => ⟨(z_in (by omega) (by omega)).mpr (by omega), (z_in (by omega) (by omega)).mpr (by omega), fun c => ?_, fun c => ?_⟩⟩
      · have : cn (fun e => rdy (M.1 53) e && decide (tb (f (po (M.1 53) e)) a)) (e + 1) = cn (fun e => rdy (M.1 53) e && decide (tb (f (po (M.1 53) e)) a)) e := if_neg (by simp; intro _; exact c)
        rw [this] at hx
        exact hx
      · have : cn (fun e => rdy (M.1 53) e && decide (tb (f (po (M.1 53) e)) a)) (e + 1) = cn (fun e => rdy (M.1 53) e && decide (tb (f (po (M.1 53) e)) a)) e + 1 := if_pos (by simp [rdy, q]; exact c)
        rw [this] at hx
        exact hx
    · rw [if_neg q]
      refine ⟨fun _ => ?_, fun c => absurd rfl c⟩
      have : cn (fun e => rdy (M.1 53) e && decide (tb (f (po (M.1 53) e)) a)) (e + 1) = cn (fun e => rdy (M.1 53) e && decide (tb (f (po (M.1 53) e)) a)) e := if_neg (by simp [rdy, q])
      rw [this] at hx
      exact hx
  · refine c_X11_readyFor_4 ?_
    rw [hc.1.1]
    exact br_t (nI_le (Nat.le_refl _) (by omega)) h
theorem s_reachedNowG {Q : Int32 → Mem → Prop} {f : Nat → Int32} (hc : VC (M.1 53)) (h59 : ∀ s, s < sN (M.1 53) → M.1 59 s = f s) (hs8 : sN (M.1 53) ≤ 8) (h : Q (mk (fun a => decide (0 < rfG f (M.1 53) a)) 12) M) : exI (LY pl tl) (d + 3) 189 [.ref 52] M Q := by
  have hn6 := hc.1.2
  refine e_X11_reachedNow (lp_0 (X := fx (LY pl tl) (d + 2) m_X11_reachedNow (qI Q)) (fun a => (4, [some (.ref 52), some (.int (mk (fun a => decide (0 < rfG f (M.1 53) a)) a)), some (.int (nI a))], [], M)) 12 (fun a ha hx => ?_) ?_)
  · refine c_X11_reachedNow_4 (br_f (nI_ge ha (by omega)) (s_readyForG hc ha h59 hs8 ?_))
    have := rfG_le f (M.1 53) a
    rw [nI_add, or_0]
    refine ⟨fun c => ?_, fun c => ?_⟩
    · rw [z_le0 (by omega)] at c
      have e : mk (fun a => decide (0 < rfG f (M.1 53) a)) (a + 1) = mk (fun a => decide (0 < rfG f (M.1 53) a)) a := if_neg (by simp [c])
      rw [e] at hx; exact hx
    · rw [z_le0 (by omega)] at c
      have e : mk (fun a => decide (0 < rfG f (M.1 53) a)) (a + 1) = mk (fun a => decide (0 < rfG f (M.1 53) a)) a ||| b1 a := if_pos (by simp; omega)
      rw [e] at hx; exact hx
  · exact c_X11_reachedNow_4 (br_t (nI_le (Nat.le_refl _) (by omega)) h)
theorem s_rnF {F : Int32 → Mem → Prop} {X : Mem} {w : Nat → Int32} {f : Nat → Int32} (hw : X.1 53 = w) (hv : V w t) (h59 : ∀ s, s < sN w → X.1 59 s = f s) (h : F (wS w (o1 (fun e => f (po w e)) (rdy w) (eN w)) 12) X) : exI (LY pl tl) (d + 3) 189 [.ref 52] X (fun r1 M1 => exI (LY pl tl) (d + 3) 166 [.ref 52, .int r1] M1 F) := by
  subst hw
  refine s_reachedNowG (f := f) hv.2.1 h59 hv.1.1.2 (s_weightOf ?_)
  have e : wS (X.1 53) (mk (fun a => decide (0 < rfG f (X.1 53) a)) 12) 12 = wS (X.1 53) (o1 (fun e => f (po (X.1 53) e)) (rdy (X.1 53)) (eN (X.1 53))) 12 := wS_congr 12 (fun a ha => rfl) (fun a ha => by
    rw [mk_tb _ (by omega) (by omega), o1_tb _ _ (by omega)]
    simp [ha]
    exact Iff.rfl)
  rw [e]; exact h
/-- shut, and opened again -/
theorem upS_back {w : Nat → Int32} (hr : VRd w) {a b : Nat} (ha : a < 12) (hb : b < 12) (h0 : sh w a b = 0) (v : Int32) : upS (upS w a b v) a b (nI 0) = w := by
  have e1 : w (156 + 12 * a + b) = nI 0 := by rw [(hr a b ha hb).2.1, h0]
  have e2 : w (156 + 12 * b + a) = nI 0 := by rw [(hr b a hb ha).2.1, ← (hr a b ha hb).2.2.2, h0]
  funext j
  unfold upS
  by_cases q : j = 156 + 12 * b + a
  · subst q; rw [upd_eq, e2]
  · rw [upd_ne q]
    by_cases q' : j = 156 + 12 * a + b
    · subst q'; rw [upd_eq, e1]
    · rw [upd_ne q', upd_ne q, upd_ne q']
theorem s_setsL {Q : Mem → Prop} {N : Mem} {u f g : Nat → Int32} {a b : Nat} {v : Int32} (ha : a < 12) (hb : b < 12) (h : Q (lM N (upS u a b v) f g)) : exV (LY pl tl) (d + 1) 162 [.ref 52, .int (nI a), .int (nI b), .int v] (lM N u f g) Q := by
  refine e_X11_setsShut ?_
  simp only [pk_mul, nI_add]
  rw [z_cl (by omega), z_cl (by omega), lM_si, lM_si]
  exact ⟨(z_in (by omega) (by omega)).mpr (by omega), (z_in (by omega) (by omega)).mpr (by omega), h⟩
theorem s_openG {Q : Int32 → Mem → Prop} {X : Mem} {w : Nat → Int32} {a b : Nat} (hw : X.1 53 = w) (hr : VRd w) (ha : a < 12) (hb : b < 12) (hp : 0 < rd w a b) (h0 : sh w a b = 0 → Q (nI 1) X) (h1 : ¬ sh w a b = 0 → Q (nI 0) X) : exI (LY pl tl) (d + 1) 158 [.ref 52, .int (nI a), .int (nI b)] X Q := by
  subst hw
  have x := hr a b ha hb
  refine e_X11_isOpen ?_
  simp only [pk_mul, nI_add]
  rw [z_cl (by omega), z_cl (by omega), x.1.1, x.2.1, z_le0 (by omega), z_eq0 (by omega)]
  exact ⟨(z_in (by omega) (by omega)).mpr (by omega), fun c => absurd c (by omega), fun _ => ⟨(z_in (by omega) (by omega)).mpr (by omega), h1, h0⟩⟩
def DR (w : Nat → Int32) (k : Nat) : Int32 := wS w (o1 (fun e => rM (upS w (lo w k) (hi w k) (nI 1)) (rcN w) (po w e)) (rdy w) (eN w)) 12
def drN (w : Nat → Int32) (k : Nat) : Nat := tn (DR w k)
theorem DR_ok {w : Nat → Int32} (hv : VL w) (k : Nat) : DR w k = nI (drN w k) ∧ drN w k ≤ 1188 := by
  obtain ⟨n, hn, e⟩ := V_wS hv (o1 (fun e => rM (upS w (lo w k) (hi w k) (nI 1)) (rcN w) (po w e)) (rdy w) (eN w))
  have e' : DR w k = nI n := e
  have : drN w k = n := by unfold drN; rw [e', tn_nI (by omega)]
  rw [this]; exact ⟨e', hn⟩
/-- the road whose loss leaves the least -/
def dB (w : Nat → Int32) : Nat → Option Nat
  | 0 => none
  | k + 1 => if sh w (lo w k) (hi w k) = 0 then (match dB w k with
    | none => some k
    | some j => if drN w k < drN w j then some k else some j) else dB w k
theorem div100 : ∀ x, x < 1200 → nI x / nI 100 = nI (x / 100) := by decide +kernel
def dBv (w : Nat → Int32) (o : Option Nat) : Int32 := match o with
  | none => -2
  | some j => w (326 + j)
def dBn (w : Nat → Int32) (o : Option Nat) : Int32 := match o with
  | none => nI 0
  | some j => nI (drN w j)
theorem dB_lt (w : Nat → Int32) : ∀ k j, dB w k = some j → j < k
  | 0, j, h => by cases h
  | k + 1, j, h => by
    unfold dB at h
    have ih := dB_lt w k
    split at h
    · cases e : dB w k with
      | none => rw [e] at h; injection h with h; omega
      | some i =>
        rw [e] at h
        have := ih i e
        by_cases q : drN w k < drN w i
        · simp only [if_pos q] at h; injection h with h; omega
        · simp only [if_neg q] at h; injection h with h; omega
    · have := ih j h; omega
theorem m_dearestRoad {Q : Int32 → Mem → Prop} (hv : V (M.1 53) t) (hn : dB (M.1 53) (rN (M.1 53)) = none → ∀ f g, Q (-2) (lM (thr M) (M.1 53) f g)) (hs : ∀ j, dB (M.1 53) (rN (M.1 53)) = some j → ∀ f g, Q (M.1 53 (326 + j)) (rwM (lM (thr M) (M.1 53) f g) 1 (fun _ => (nI (drN (M.1 53) j)).toInt64))) : exI (LY pl tl) (d + 6) 205 [.ref 52] M Q := by
  have s8 := hv.1.1.2
  have r66 := hv.1.2.1.2
  have hr := hv.1.2.2.2.2.2.1
  have t1 := hv.1.2.2.2.2.2.2.1
  have n2 : ∀ {x : Nat}, x < 2147483648 → ¬ nI x = -2 := fun hx z => by
    have := congrArg Int32.toInt z
    rw [nI_toInt hx] at this
    have e2 : (-2 : Int32).toInt = -2 := by decide
    omega
  refine e_X11_dearestRoad ?_
  have e0 : si M 52 7 (nI 0) = lM (thr M) (M.1 53) (M.1 58) (M.1 59) := (lM_0 (thr M)).symm
  rw [e0]
  refine lp_s (σ := (Nat → Int32) × (Nat → Int32)) (X := fx (LY pl tl) (d + 5) m_X11_dearestRoad (qI Q)) (fun k σ => (12, [some (.ref 52), some (.int (dBv (M.1 53) (dB (M.1 53) k))), some (.int (dBn (M.1 53) (dB (M.1 53) k))), some (.int (nI k)), none, none, none], [], lM (thr M) (M.1 53) σ.1 σ.2)) (rN (M.1 53)) (fun k σ hk hx => ?_) (fun σ => ?_) (M.1 58, M.1 59)
  · obtain ⟨c1, c2, c3, c4⟩ := t1 k hk
    have v4 := (z_in (n := 326 + k) (N := 480) (by omega) (by omega)).mpr (by omega)
    have e53 : ∀ f g, (lM (thr M) (M.1 53) f g).1 53 = M.1 53 := fun f g => rfl
    refine c_X11_dearestRoad_12 ?_
    have q1 : (lM (thr M) (M.1 53) σ.1 σ.2).1 53 458 = nI (rN (M.1 53)) := hv.1.2.1.1
    have q2 : (lM (thr M) (M.1 53) σ.1 σ.2).1 53 (326 + k) = nI (100 * lo (M.1 53) k + hi (M.1 53) k) := c1
    rw [q1, nI_add 326 k, z_cl (by omega), q2, div100 _ (by omega), show (100 * lo (M.1 53) k + hi (M.1 53) k) / 100 = lo (M.1 53) k by omega, pk_mul, z_sub (by omega), show 100 * lo (M.1 53) k + hi (M.1 53) k - lo (M.1 53) k * 100 = hi (M.1 53) k by omega, nI_add k 1]
    refine br_f (nI_ge hk (by omega)) ⟨v4, v4, s_openG (w := M.1 53) rfl hr (by omega) c3 c4 (fun z => ⟨fun _ => ?_, fun c => absurd c (by decide)⟩) (fun z => ⟨fun c => absurd rfl c, fun _ => ?_⟩)⟩
    · have hv1 := VL_upS hv.1 (a := lo (M.1 53) k) (b := hi (M.1 53) k) (s := 1) (by omega) c3 c4 (by omega)
      have nm := nm_upS (M.1 53) (nI 1) (a := lo (M.1 53) k) (b := hi (M.1 53) k) (by omega) c3
      refine s_setsL (by omega) c3 (s_lays (M := lM (thr M) (upS (M.1 53) (lo (M.1 53) k) (hi (M.1 53) k) (nI 1)) σ.1 σ.2) (r := rcN (M.1 53)) hv1 ((upS_o (by omega) c3 (by omega)).trans hv.2.2.1.1.1) (by have := hv.2.2.1.1.2.2; omega) ?_)
      rw [lM_ly]
      refine s_setsL (by omega) c3 ?_
      rw [upS_back hr (by omega) c3 z]
      refine s_rnF (t := t) (w := M.1 53) (f := rM (upS (M.1 53) (lo (M.1 53) k) (hi (M.1 53) k) (nI 1)) (rcN (M.1 53))) rfl hv (fun s hs => mA_at (by rw [show sN ((lM (thr M) (upS (M.1 53) (lo (M.1 53) k) (hi (M.1 53) k) (nI 1)) σ.1 σ.2).1 53) = sN (M.1 53) from nm.1]; exact hs)) ?_
      have dk := DR_ok hv.1 k
      rw [show wS (M.1 53) (o1 (fun e => rM (upS (M.1 53) (lo (M.1 53) k) (hi (M.1 53) k) (nI 1)) (rcN (M.1 53)) (po (M.1 53) e)) (rdy (M.1 53)) (eN (M.1 53))) 12 = nI (drN (M.1 53) k) from dk.1]
      have hx := fun f g => hx (f, g)
      cases e : dB (M.1 53) k with
      | none =>
        rw [show dB (M.1 53) (k + 1) = some k by unfold dB; rw [if_pos z, e]] at hx
        exact ⟨fun _ => ⟨v4, hx _ _⟩, fun c => absurd rfl c⟩
      | some j =>
        have dj := DR_ok hv.1 j
        have jl := dB_lt _ _ _ e
        have cj := t1 j (by omega)
        have vj : dBv (M.1 53) (some j) = nI (100 * lo (M.1 53) j + hi (M.1 53) j) := cj.1
        have e1 : dB (M.1 53) (k + 1) = if drN (M.1 53) k < drN (M.1 53) j then some k else some j := by
          show (if _ then _ else _) = _
          rw [if_pos z, e]
        rw [e1] at hx
        refine ⟨fun c => absurd (vj ▸ c) (n2 (by omega)), fun _ => ?_⟩
        rw [show dBn (M.1 53) (some j) = nI (drN (M.1 53) j) from rfl, z_lt (by omega) (by omega)]
        refine ⟨fun c => ⟨v4, ?_⟩, fun c => ?_⟩
        · rw [if_pos c] at hx; exact hx _ _
        · rw [if_neg c] at hx; exact hx _ _
    · have hx := hx σ
      rw [show dB (M.1 53) (k + 1) = dB (M.1 53) k from if_neg z] at hx
      exact hx
  · refine c_X11_dearestRoad_12 ?_
    have q1 : (lM (thr M) (M.1 53) σ.1 σ.2).1 53 458 = nI (rN (M.1 53)) := hv.1.2.1.1
    rw [q1]
    refine br_t (nI_le (Nat.le_refl _) (by omega)) ?_
    cases e : dB (M.1 53) (rN (M.1 53)) with
    | none => exact ⟨fun c => absurd rfl c, fun _ => hn e _ _⟩
    | some j =>
      have jl := dB_lt _ _ _ e
      have cj := t1 j jl
      have vj : dBv (M.1 53) (some j) = nI (100 * lo (M.1 53) j + hi (M.1 53) j) := cj.1
      refine ⟨fun _ => ?_, fun c => absurd (vj ▸ c) (n2 (by omega))⟩
      rw [rwM_0 _ (fun _ => (nI (drN (M.1 53) j)).toInt64)]
      exact s_mtell 1 rfl (by omega) rfl (hs j e _ _)
def drO (w : Nat → Int32) (k : Nat) : Int32 := o1 (fun e => rM (upS w (lo w k) (hi w k) (nI 1)) (rcN w) (po w e)) (rdy w) (eN w)
def mm (M : Mem) (f g : Nat → Int32) (o t : Int32) : Mem := pM (sa (sa M 45 f) 44 g) o t
theorem s_drC {Q : Int32 → Mem → Prop} {X : Mem} {w : Nat → Int32} {k : Nat} (hv : V w t) (hr : RC 15 X w) (hk : k < rN w) (h0 : sh w (lo w k) (hi w k) = 0) (h : ∀ f g t', Q (DR w k) (mm X f g (drO w k) t')) : exV (LY pl tl) (d + 3) 82 [.ref 16, .ref 45, .int (nI k)] X (fun M2 => exV (LY pl tl) (d + 3) 113 [.ref 43, .ref 16, .ref 45, .int (M2.1 15 2)] M2 (fun M3 => exV (LY pl tl) (d + 3) 115 [.ref 43, .ref 24, .int (nI (mkN (rdy w) (eN w)))] M3 (fun M4 => exI (LY pl tl) (d + 3) 117 [.ref 43, .ref 16] M4 Q))) := by
  have s8 := hv.1.1.2
  have n6 := hv.2.1.1.2
  have r66 := hv.1.2.1.2
  have t1 := hv.1.2.2.2.2.2.2.1
  have hrd := hv.1.2.2.2.2.2.1
  obtain ⟨c1, c2, c3, c4⟩ := t1 k hk
  have hv1 := VL_upS hv.1 (a := lo w k) (b := hi w k) (s := 1) (by omega) c3 c4 (by omega)
  obtain ⟨m1, m2, m3, m4⟩ := nm_upS w (nI 1) (a := lo w k) (b := hi w k) (by omega) c3
  have hsp : ∀ s, sp (upS w (lo w k) (hi w k) (nI 1)) s = sp w s := fun s => by unfold sp; rw [upS_o (by omega) c3 (by omega)]
  refine s_measure_16_45 (n := rN w) (l := lo w) (g := hi w) (c_ := fun k' => rd w (lo w k') (hi w k')) (s := fun k' => sh w (lo w k') (hi w k')) r66 (hr.1.2.2.1.trans hv.1.2.1.1) (fun k' hk' => ?_) ?_
  · have f := hr.1.2.2.2.2.1 k' hk'
    have g := t1 k' hk'
    have l2 := hrd (lo w k') (hi w k') (by omega) (by omega)
    exact ⟨f.1, f.2.1, f.2.2.1, f.2.2.2, g.2.1, g.2.2.1, l2.1.2.1, l2.2.2.1⟩
  · have eD : ∀ i j, i < 12 → j < 12 → FWm (cI (lo w) (hi w) (fun k' => rd w (lo w k') (hi w k')) (fun k' => decide (sh w (lo w k') (hi w k') = 0) && !decide (nI k' = nI k)) (rN w)) 12 i j = dist (upS w (lo w k) (hi w k) (nI 1)) i j := fun i j hi' hj => by
      rw [← cI_dist hv1 (o := fun k' => decide (sh w (lo w k') (hi w k') = 0) && !decide (nI k' = nI k)) (fun k' hk' => ?_) hi' hj]
      · rw [m2]
        refine FWm_cg (fun i j hi' hj => ?_) 12 (Nat.le_refl _) i j hi' hj
        rw [show lo (upS w (lo w k) (hi w k) (nI 1)) = lo w from funext m3, show hi (upS w (lo w k) (hi w k) (nI 1)) = hi w from funext m4]
        refine cI_cg (fun k' hk' => ?_) _ _
        have g := t1 k' hk'
        exact (rd_upS (by omega) c3 (by omega) (by omega)).symm
      · rw [m2] at hk'
        rw [m3, m4, sh_road hv.1 hk hk' (by omega) c3 (by omega) (Or.inl ⟨rfl, rfl⟩)]
        by_cases e : k' = k
        · subst e; simp
        · rw [if_neg e, decide_eq_false (fun z => e ((nI_eq (by omega) (by omega)).mp z))]; simp
    generalize FWm (cI (lo w) (hi w) (fun k' => rd w (lo w k') (hi w k')) (fun k' => decide (sh w (lo w k') (hi w k') = 0) && !decide (nI k' = nI k)) (rN w)) 12 = D at eD
    rw [show (sa X 45 (fA D (X.1 45))).1 15 2 = nI (rcN w) from hr.2.2.1.1.trans hv.2.2.1.1.1]
    refine s_look_45 (n := sN w) (r := rcN w) (p := sp w) (D := dist (upS w (lo w k) (hi w k) (nI 1))) s8 (by have := hv.2.2.1.1.2.2; omega) (hr.1.2.1.trans hv.1.1.1) (fun s hs => ⟨(hr.1.2.2.2.1 s hs).trans (hv.1.2.2.2.1 s hs).1, (hv.1.2.2.2.1 s hs).2⟩) (fun a b ha hb => ⟨?_, dist_le hv1.2.2.2.2.2.1 ha hb⟩) ?_
    · rw [sa_s, fA_at _ _ ha hb, eD a b ha hb]
    · refine s_putEngines (p := po w) n6 (hr.2.1.1.trans hv.2.1.1.1) (fun e he => ⟨(hr.2.1.2.1 e he).1.trans (hv.2.1.2 e he).1.1, by have := (hv.2.1.2 e he).1.2; omega⟩) ?_
      have hb : ∀ e, e < eN w → decide (tb (nI (mkN (rdy w) (eN w))) e) = rdy w e := fun e he => tb_mkN (by omega) he
      have hf : ∀ e, e < eN w → (sa (sa X 45 (fA D (X.1 45))) 44 (pfx 8 (fun s => if s < sN w then mk (fun a => decide (dist (upS w (lo w k) (hi w k) (nI 1)) (sp w s) a ≤ rcN w)) 12 else nI 0) ((sa X 45 (fA D (X.1 45))).1 44))).1 44 (po w e) = rM (upS w (lo w k) (hi w k) (nI 1)) (rcN w) (po w e) := fun e he => by
        have hp := (hv.2.1.2 e he).1.2
        rw [sa_s, pfx_lt (by omega), if_pos hp]
        unfold rM
        rw [hsp]
      rw [o1_congr (f' := fun e => rM (upS w (lo w k) (hi w k) (nI 1)) (rcN w) (po w e)) (c' := rdy w) _ hb (fun e he _ => hf e he)]
      refine s_covered ?_
      have h := h (fA D (X.1 45)) (pfx 8 (fun s => if s < sN w then mk (fun a => decide (dist (upS w (lo w k) (hi w k) (nI 1)) (sp w s) a ≤ rcN w)) 12 else nI 0) ((sa X 45 (fA D (X.1 45))).1 44))
      rw [show DR w k = wS (X.1 17) (drO w k) 12 from (wS_17 hr _).symm] at h
      exact h _
theorem pM_sa5 (X : Mem) (f : Nat → Int32) (o t : Int32) : sa (pM X o t) 45 f = pM (sa X 45 f) o t := by
  refine Prod.ext (funext fun c => ?_) rfl
  by_cases h : c = 45
  · subst h; rfl
  · rw [sa_n h]
    by_cases h2 : c = 43
    · subst h2; rfl
    · show (si (si X 43 3 t) 43 2 o).1 c = (si (si (sa X 45 f) 43 3 t) 43 2 o).1 c
      rw [si_c h2, si_c h2, si_c h2, si_c h2, sa_n h]
theorem mm_mm (M : Mem) (f g f' g' : Nat → Int32) (o t o' t' : Int32) : mm (mm M f g o t) f' g' o' t' = mm M f' g' o' t' := by
  have e : sa (sa (sa (sa M 45 f) 44 g) 45 f') 44 g' = sa (sa M 45 f') 44 g' := by
    refine Prod.ext (funext fun c => ?_) rfl
    by_cases h2 : c = 44
    · subst h2; rfl
    · rw [sa_n h2, sa_n h2]
      by_cases h3 : c = 45
      · subst h3; rfl
      · rw [sa_n h3, sa_n h3, sa_n h2, sa_n h3]
  unfold mm
  rw [pM_sa5, pM_sa, pM_2, e]
theorem mm_id (M : Mem) : mm M (M.1 45) (M.1 44) (M.1 43 2) (M.1 43 3) = M := by
  unfold mm
  rw [sa_id, sa_id, pM_id]
def cv2 (w : Nat → Int32) (o : Option Nat) : Int32 := match o with
  | none => nI 2147483647
  | some j => nI (drN w j)
def cv3 (o : Option Nat) : Int32 := match o with
  | none => -1
  | some j => nI j
theorem op_dearestRoad (h : Inv t M) (ht : t < 512) : Op pl tl (d + 12) 27 [.ref 0] 205 [.ref 52] t M := by
  have hI := h.up (t' := t + 1) (by omega) (by omega)
  obtain ⟨⟨hv, hr⟩, -⟩ := h
  have r66 := hv.1.2.1.2
  have t1 := hv.1.2.2.2.2.2.2.1
  refine e_X10_dearestRoad (s_readyBits (t := t) (w := M.1 53) hv hr ?_)
  have st := lp_s (σ := (Nat → Int32) × (Nat → Int32) × Int32 × Int32) (X := fx (LY pl tl) (d + 11) m_X10_dearestRoad (qI (fun r M1 => exI (LY pl tl) (d + 12) 205 [.ref 52] M1 (fun r2 M2 => r2 = r ∧ Inv (t + 1) M2)))) (fun k σ => (21, [some (.ref 0), some (.int (nI (mkN (rdy (M.1 53)) (eN (M.1 53))))), some (.int (cv2 (M.1 53) (dB (M.1 53) k))), some (.int (cv3 (dB (M.1 53) k))), some (.int (nI k))], [], mm M σ.1 σ.2.1 σ.2.2.1 σ.2.2.2)) (rN (M.1 53)) (fun k σ hk hx => ?_) (fun σ => ?_)
  · have := st (M.1 45, M.1 44, M.1 43 2, M.1 43 3)
    simp only [mm_id] at this
    exact this
  · obtain ⟨c1, c2, c3, c4⟩ := t1 k hk
    have rX : RC 15 (mm M σ.1 σ.2.1 σ.2.2.1 σ.2.2.2) (M.1 53) := hr
    have q1 : (mm M σ.1 σ.2.1 σ.2.2.1 σ.2.2.2).1 16 7 = nI (rN (M.1 53)) := hr.1.2.2.1.trans hv.1.2.1.1
    have q2 : (mm M σ.1 σ.2.1 σ.2.2.1 σ.2.2.2).1 21 k = nI (sh (M.1 53) (lo (M.1 53) k) (hi (M.1 53) k)) := (hr.1.2.2.2.2.1 k hk).2.2.2
    have l2 := (hv.1.2.2.2.2.2.1 (lo (M.1 53) k) (hi (M.1 53) k) (by omega) c3).2.2.1
    refine c_X10_dearestRoad_21 ?_
    rw [q1, z_cl (by omega), q2, z_eq0 (by omega), nI_add k 1]
    refine br_f (nI_ge hk (by omega)) ⟨(z_in (by omega) (by omega)).mpr (by omega), fun z => ?_, fun z => s_drC (t := t) (w := M.1 53) hv rX hk z (fun f g t' => ?_)⟩
    · have hx := hx σ
      rw [show dB (M.1 53) (k + 1) = dB (M.1 53) k from if_neg z] at hx
      exact hx
    · have dk := DR_ok hv.1 k
      have hx := hx (f, g, drO (M.1 53) k, t')
      rw [mm_mm]
      have again : ∀ F : Int32 → Mem → Prop, F (nI (drN (M.1 53) k)) (mm M f g (drO (M.1 53) k) t') → exI (LY pl tl) (d + 11) 117 [.ref 43, .ref 16] (mm M f g (drO (M.1 53) k) t') F := fun F hF => by
        refine s_covered ?_
        rw [show wS ((mm M f g (drO (M.1 53) k) t').1 17) ((mm M f g (drO (M.1 53) k) t').1 43 2) 12 = nI (drN (M.1 53) k) from (wS_17 hr _).trans dk.1]
        exact hF
      rw [dk.1]
      cases e : dB (M.1 53) k with
      | none =>
        rw [show dB (M.1 53) (k + 1) = some k by unfold dB; rw [if_pos z, e]] at hx
        refine ⟨fun c => absurd c ?_, fun _ => again _ hx⟩
        rw [show cv2 (M.1 53) none = nI 2147483647 from rfl, z_le (by omega) (by omega)]
        omega
      | some j =>
        have dj := DR_ok hv.1 j
        have e1 : dB (M.1 53) (k + 1) = if drN (M.1 53) k < drN (M.1 53) j then some k else some j := by
          show (if _ then _ else _) = _
          rw [if_pos z, e]
        rw [e1] at hx
        rw [show cv2 (M.1 53) (some j) = nI (drN (M.1 53) j) from rfl, z_le (by omega) (by omega)]
        refine ⟨fun c => ?_, fun c => again _ ?_⟩
        · rw [if_neg (by omega)] at hx; exact hx
        · rw [if_pos (by omega)] at hx; exact hx
  · have q1 : (mm M σ.1 σ.2.1 σ.2.2.1 σ.2.2.2).1 16 7 = nI (rN (M.1 53)) := hr.1.2.2.1.trans hv.1.2.1.1
    refine c_X10_dearestRoad_21 ?_
    rw [q1]
    refine br_t (nI_le (Nat.le_refl _) (by omega)) ?_
    cases e : dB (M.1 53) (rN (M.1 53)) with
    | none =>
      refine ⟨fun c => absurd rfl c, fun _ => m_dearestRoad (M := mm M σ.1 σ.2.1 σ.2.2.1 σ.2.2.2) (t := t) hv (fun _ f g => ⟨rfl, hI⟩) (fun j ej => ?_)⟩
      have : some j = none := ej.symm.trans e
      cases this
    | some j =>
      have jl := dB_lt _ _ _ e
      have cj := t1 j jl
      have v6 := (z_in (n := j) (N := 66) (by omega) (by omega)).mpr (by omega)
      refine ⟨fun _ => s_tell1 ⟨v6, v6, ?_⟩, fun c => absurd c (fun z => (z_m1 (by omega)).mp z)⟩
      refine m_dearestRoad (M := rwC (mm M σ.1 σ.2.1 σ.2.2.1 σ.2.2.2) 1 (fun _ => (nI (drN (M.1 53) j)).toInt64)) (t := t) hv (fun en => ?_) (fun j' ej f g => ⟨?_, hI.1, rows_ok (n := 1) (by omega) rfl rfl rfl rfl (fun i hi => ?_), hI.2.2⟩)
      · have : (none : Option Nat) = some j := en.symm.trans e
        cases this
      · have : some j' = some j := ej.symm.trans e
        injection this with this
        subst this
        show M.1 53 (326 + j') = nI 100 * M.1 18 (nI j').toNatClampNeg + M.1 19 (nI j').toNatClampNeg
        rw [z_cl (by omega), show M.1 18 j' = nI (lo (M.1 53) j') from (hr.1.2.2.2.2.1 j' jl).1, show M.1 19 j' = nI (hi (M.1 53) j') from (hr.1.2.2.2.2.1 j' jl).2.1, pk_mul, nI_add]
        exact cj.1
      · have : some j' = some j := ej.symm.trans e
        injection this with this
        subst this
        rfl
end S38
