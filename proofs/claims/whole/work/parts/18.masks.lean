/-! WHAT IS REACHED: nodes by stations, once and twice (gen/masks.py) -/
theorem upd_upd (f : Nat → Int32) (k : Nat) (v w : Int32) : upd (upd f k v) k w = upd f k w := by
  funext j; unfold upd; split <;> rfl
theorem si_comm {M : Mem} {i k l : Nat} {v w : Int32} (h : k ≠ l) : si (si M i k v) i l w = si (si M i l w) i k v := by
  rw [si_sa, si_sa, sa_s, sa_sa, si_sa, si_sa, sa_s, sa_sa]
  congr 1
  funext j
  unfold upd
  by_cases h1 : j = l
  · subst h1
    by_cases h2 : j = k
    · exact absurd h2.symm h
    · simp [h2]
  · simp [h1]
/-- one by one: reached, reached twice -/
def o1 (f : Nat → Int32) (c : Nat → Bool) : Nat → Int32
  | 0 => nI 0
  | e + 1 => if c e then o1 f c e ||| f e else o1 f c e
def o2 (f : Nat → Int32) (c : Nat → Bool) : Nat → Int32
  | 0 => nI 0
  | e + 1 => if c e then o2 f c e ||| (o1 f c e &&& f e) else o2 f c e
def cn (c : Nat → Bool) : Nat → Nat
  | 0 => 0
  | e + 1 => if c e then cn c e + 1 else cn c e
theorem cn_le (c : Nat → Bool) : ∀ n, cn c n ≤ n
  | 0 => Nat.le_refl _
  | n + 1 => by unfold cn; have := cn_le c n; split <;> omega
theorem cn_congr {c c' : Nat → Bool} : ∀ n, (∀ e, e < n → c e = c' e) → cn c n = cn c' n
  | 0, _ => rfl
  | n + 1, h => by unfold cn; rw [h n (by omega), cn_congr n (fun e he => h e (by omega))]
theorem o1_congr {f f' : Nat → Int32} {c c' : Nat → Bool} : ∀ n, (∀ e, e < n → c e = c' e) → (∀ e, e < n → c e = true → f e = f' e) → o1 f c n = o1 f' c' n
  | 0, _, _ => rfl
  | n + 1, h, g => by
    unfold o1
    rw [← h n (by omega), o1_congr n (fun e he => h e (by omega)) (fun e he => g e (by omega))]
    by_cases q : c n = true
    · rw [if_pos q, if_pos q, g n (by omega) q]
    · rw [if_neg q, if_neg q]
theorem o2_congr {f f' : Nat → Int32} {c c' : Nat → Bool} : ∀ n, (∀ e, e < n → c e = c' e) → (∀ e, e < n → c e = true → f e = f' e) → o2 f c n = o2 f' c' n
  | 0, _, _ => rfl
  | n + 1, h, g => by
    unfold o2
    rw [← h n (by omega), o2_congr n (fun e he => h e (by omega)) (fun e he => g e (by omega)), o1_congr n (fun e he => h e (by omega)) (fun e he => g e (by omega))]
    by_cases q : c n = true
    · rw [if_pos q, if_pos q, g n (by omega) q]
    · rw [if_neg q, if_neg q]
theorem o1_tb (f : Nat → Int32) (c : Nat → Bool) {a : Nat} (ha : a < 32) : ∀ n, tb (o1 f c n) a ↔ 0 < cn (fun e => c e && decide (tb (f e) a)) n
  | 0 => ⟨fun q => absurd q (tb_0 ha), fun q => absurd q (Nat.lt_irrefl 0)⟩
  | n + 1 => by
    have ih := o1_tb f c ha n
    unfold o1 cn
    by_cases q : c n = true
    · rw [if_pos q, tb_or _ _ ha, ih]
      by_cases z : tb (f n) a
      · rw [if_pos (show (c n && decide (tb (f n) a)) = true by rw [q, decide_eq_true z]; rfl)]
        exact ⟨fun _ => Nat.succ_pos _, fun _ => Or.inr z⟩
      · rw [if_neg (show ¬ (c n && decide (tb (f n) a)) = true by rw [q, decide_eq_false z]; decide)]
        exact ⟨fun x => x.elim id (fun y => absurd y z), Or.inl⟩
    · rw [if_neg q, if_neg (show ¬ (c n && decide (tb (f n) a)) = true by simp [q]), ih]
theorem o2_tb (f : Nat → Int32) (c : Nat → Bool) {a : Nat} (ha : a < 32) : ∀ n, tb (o2 f c n) a ↔ 1 < cn (fun e => c e && decide (tb (f e) a)) n
  | 0 => ⟨fun q => absurd q (tb_0 ha), fun q => absurd q (by unfold cn; omega)⟩
  | n + 1 => by
    have ih := o2_tb f c ha n
    have i1 := o1_tb f c ha n
    unfold o2 cn
    by_cases q : c n = true
    · rw [if_pos q, tb_or _ _ ha, tb_and _ _ ha, ih, i1]
      by_cases z : tb (f n) a
      · rw [if_pos (show (c n && decide (tb (f n) a)) = true by rw [q, decide_eq_true z]; rfl)]
        exact ⟨fun x => by rcases x with x | x <;> omega, fun x => Or.inr ⟨by omega, z⟩⟩
      · rw [if_neg (show ¬ (c n && decide (tb (f n) a)) = true by rw [q, decide_eq_false z]; decide)]
        exact ⟨fun x => x.elim id (fun y => absurd y.2 z), Or.inl⟩
    · rw [if_neg q, if_neg (show ¬ (c n && decide (tb (f n) a)) = true by simp [q]), ih]
/-- nodes that a station reaches -/
def rM (w : Nat → Int32) (r s : Nat) : Int32 := mk (fun a => decide (dist w (sp w s) a ≤ r)) 12
def rdy (w : Nat → Int32) (e : Nat) : Bool := decide (w (320 + e) = nI 0)
/-- how many ready engines reach a node -/
def rf (w : Nat → Int32) (r a : Nat) : Nat := cn (fun e => rdy w e && decide (tb (rM w r (po w e)) a)) (eN w)
def cvO (w : Nat → Int32) (r : Nat) : Int32 := o1 (fun e => rM w r (po w e)) (rdy w) (eN w)
def cvT (w : Nat → Int32) (r : Nat) : Int32 := o2 (fun e => rM w r (po w e)) (rdy w) (eN w)
def CV (w : Nat → Int32) (r : Nat) : Int32 := wS w (cvO w r) 12
def DB (w : Nat → Int32) (r : Nat) : Int32 := wS w (cvT w r) 12
def nA (w : Nat → Int32) (r : Nat) (old : Nat → Int32) : Nat → Int32 := pfx 8 (fun s => if s < sN w then rM w r s else nI 0) old
def mA (w : Nat → Int32) (r : Nat) (old : Nat → Int32) : Nat → Int32 := pfx (sN w) (fun s => rM w r s) old
theorem nA_at {w : Nat → Int32} {r s : Nat} {old : Nat → Int32} (h : s < sN w) (h8 : sN w ≤ 8) : nA w r old s = rM w r s := by unfold nA; rw [pfx_lt (by omega), if_pos h]
theorem mA_at {w : Nat → Int32} {r s : Nat} {old : Nat → Int32} (h : s < sN w) : mA w r old s = rM w r s := pfx_lt h
theorem dist_le {w : Nat → Int32} (h : VRd w) {a b : Nat} (ha : a < 12) (hb : b < 12) : dist w a b ≤ 999 := by
  have : FWm (co w) 12 a b = FWm (co' w) 12 a b := FW_congr (n := 12) (fun x y hx hy => by
    have := co_le h hx hy
    unfold co'
    rw [Nat.min_eq_left (show x ≤ 11 by omega), Nat.min_eq_left (show y ≤ 11 by omega), Nat.min_eq_left this]) 12 (Nat.le_refl _) a b ha hb
  unfold dist
  rw [this]
  exact FW_le (fun x y => Nat.min_le_right _ _) 12 a b
section SM
variable {pl : Option Nat} {tl : List LC} {d : Nat} {M : Mem}
/-- the class's sight, put -/
def pM (M : Mem) (o t : Int32) : Mem := si (si M 43 3 t) 43 2 o
theorem pM_pM (M : Mem) (o t o' t' : Int32) : si (si (pM M o t) 43 3 t') 43 2 o' = pM M o' t' := by
  unfold pM
  rw [si_comm (i := 43) (k := 2) (l := 3) (by omega), si_si, si_si]
theorem pM_0 (M : Mem) (o t : Int32) : si (si M 43 2 o) 43 3 t = pM M o t := si_comm (by omega)
theorem s_putOne {Q : Mem → Prop} {s : Nat} (hs : s < 8) {o t : Int32} (h : Q (pM M (o ||| M.1 44 s) (t ||| (o &&& M.1 44 s)))) : exV (LY pl tl) (d + 1) 114 [.ref 43, .int (nI s)] (pM M o t) Q := by
  refine e_X7_putOne ?_
  rw [z_cl (by omega)]
  have hv : vp_in (nI s) 8 := (z_in (by omega) (by omega)).mpr hs
  refine br_f (nI_pos (by omega)) (br_f (nI_ge hs (by omega)) ⟨hv, hv, ?_⟩)
  rw [pM_pM]
  exact h
theorem s_putStations {Q : Mem → Prop} {x : Int32} (h : Q (pM M (o1 (M.1 44) (fun s => decide (tb x s)) 8) (o2 (M.1 44) (fun s => decide (tb x s)) 8))) : exV (LY pl tl) (d + 2) 116 [.ref 43, .int x] M Q := by
  refine e_X7_putStations ?_
  rw [pM_0]
  refine lp_0 (X := fx (LY pl tl) (d + 1) m_X7_putStations (qV Q)) (fun s => (12, [some (.ref 43), some (.int x), some (.int (nI s))], [], pM M (o1 (M.1 44) (fun s => decide (tb x s)) s) (o2 (M.1 44) (fun s => decide (tb x s)) s))) 8 (fun s hs hn => ?_) ?_
  · refine c_X7_putStations_12 (br_f (nI_ge hs (by omega)) ⟨fun c => ?_, fun c => ?_⟩)
    · rw [nI_add]
      have c' : ¬ decide (tb x s) = true := by simpa using c
      have e1 : o1 (M.1 44) (fun s => decide (tb x s)) (s + 1) = o1 (M.1 44) (fun s => decide (tb x s)) s := if_neg c'
      have e2 : o2 (M.1 44) (fun s => decide (tb x s)) (s + 1) = o2 (M.1 44) (fun s => decide (tb x s)) s := if_neg c'
      rw [e1, e2] at hn
      exact hn
    · refine s_putOne hs ?_
      rw [nI_add]
      have c' : decide (tb x s) = true := by simpa using c
      have e1 : o1 (M.1 44) (fun s => decide (tb x s)) (s + 1) = o1 (M.1 44) (fun s => decide (tb x s)) s ||| M.1 44 s := if_pos c'
      have e2 : o2 (M.1 44) (fun s => decide (tb x s)) (s + 1) = o2 (M.1 44) (fun s => decide (tb x s)) s ||| (o1 (M.1 44) (fun s => decide (tb x s)) s &&& M.1 44 s) := if_pos c'
      rw [e1, e2] at hn
      exact hn
  · exact c_X7_putStations_12 (br_t (nI_le (Nat.le_refl _) (by omega)) h)
theorem s_putEngines {Q : Mem → Prop} {x : Int32} {n : Nat} {p : Nat → Nat} (hn6 : n ≤ 6) (hM : M.1 24 4 = nI n) (hp : ∀ e, e < n → M.1 25 e = nI (p e) ∧ p e < 8) (h : Q (pM M (o1 (fun e => M.1 44 (p e)) (fun s => decide (tb x s)) n) (o2 (fun e => M.1 44 (p e)) (fun s => decide (tb x s)) n))) : exV (LY pl tl) (d + 2) 115 [.ref 43, .ref 24, .int x] M Q := by
  refine e_X7_putEngines_24 ?_
  rw [pM_0]
  refine lp_0 (X := fx (LY pl tl) (d + 1) m_X7_putEngines (qV Q)) (fun s => (12, [some (.ref 43), some (.ref 24), some (.int x), some (.int (nI s))], [], pM M (o1 (fun e => M.1 44 (p e)) (fun s => decide (tb x s)) s) (o2 (fun e => M.1 44 (p e)) (fun s => decide (tb x s)) s))) n (fun s hs hn => ?_) ?_
  · obtain ⟨p1, p2⟩ := hp s hs
    refine c_X7_putEngines_24_12 ?_
    have q1 : (pM M (o1 (fun e => M.1 44 (p e)) (fun s => decide (tb x s)) s) (o2 (fun e => M.1 44 (p e)) (fun s => decide (tb x s)) s)).1 24 4 = nI n := hM
    have q2 : (pM M (o1 (fun e => M.1 44 (p e)) (fun s => decide (tb x s)) s) (o2 (fun e => M.1 44 (p e)) (fun s => decide (tb x s)) s)).1 25 s = nI (p s) := p1
    rw [q1, z_cl (by omega), q2]
    refine br_f (nI_ge hs (by omega)) ⟨fun c => ?_, fun c => ⟨(z_in (by omega) (by omega)).mpr (by omega), ?_⟩⟩
    · rw [nI_add]
      have c' : ¬ decide (tb x s) = true := by simpa using c
      have e1 : o1 (fun e => M.1 44 (p e)) (fun s => decide (tb x s)) (s + 1) = o1 (fun e => M.1 44 (p e)) (fun s => decide (tb x s)) s := if_neg c'
      have e2 : o2 (fun e => M.1 44 (p e)) (fun s => decide (tb x s)) (s + 1) = o2 (fun e => M.1 44 (p e)) (fun s => decide (tb x s)) s := if_neg c'
      rw [e1, e2] at hn
      exact hn
    · refine s_putOne p2 ?_
      rw [nI_add]
      have c' : decide (tb x s) = true := by simpa using c
      have e1 : o1 (fun e => M.1 44 (p e)) (fun s => decide (tb x s)) (s + 1) = o1 (fun e => M.1 44 (p e)) (fun s => decide (tb x s)) s ||| M.1 44 (p s) := if_pos c'
      have e2 : o2 (fun e => M.1 44 (p e)) (fun s => decide (tb x s)) (s + 1) = o2 (fun e => M.1 44 (p e)) (fun s => decide (tb x s)) s ||| (o1 (fun e => M.1 44 (p e)) (fun s => decide (tb x s)) s &&& M.1 44 (p s)) := if_pos c'
      rw [e1, e2] at hn
      exact hn
  · refine c_X7_putEngines_24_12 ?_
    have q1 : (pM M (o1 (fun e => M.1 44 (p e)) (fun s => decide (tb x s)) n) (o2 (fun e => M.1 44 (p e)) (fun s => decide (tb x s)) n)).1 24 4 = nI n := hM
    rw [q1]
    exact br_t (nI_le (Nat.le_refl _) (by omega)) h
theorem s_covered {Q : Int32 → Mem → Prop} (h : Q (wS (M.1 17) (M.1 43 2) 12) M) : exI (LY pl tl) (d + 2) 117 [.ref 43, .ref 16] M Q := e_X7_covered_16 (s_weigh h)
theorem s_doubled {Q : Int32 → Mem → Prop} (h : Q (wS (M.1 17) (M.1 43 3) 12) M) : exI (LY pl tl) (d + 2) 118 [.ref 43, .ref 16] M Q := e_X7_doubled_16 (s_weigh h)
theorem s_coverOf {Q : Int32 → Mem → Prop} {x : Int32} (h : Q (wS (M.1 17) (o1 (M.1 44) (fun s => decide (tb x s)) 8) 12) (pM M (o1 (M.1 44) (fun s => decide (tb x s)) 8) (o2 (M.1 44) (fun s => decide (tb x s)) 8))) : exI (LY pl tl) (d + 3) 119 [.ref 43, .ref 16, .int x] M Q := e_X7_coverOf_16 (s_putStations (s_covered h))
theorem s_look_22 {Q : Mem → Prop} {n r : Nat} {p : Nat → Nat} {D : Nat → Nat → Nat} (hn : n ≤ 8) (hr : r ≤ 999) (hM : M.1 16 8 = nI n) (hp : ∀ s, s < n → M.1 23 s = nI (p s) ∧ p s < 12) (hD : ∀ a b, a < 12 → b < 12 → M.1 22 (12 * a + b) = nI (D a b) ∧ D a b ≤ 999) (h : Q (sa M 44 (pfx 8 (fun s => if s < n then mk (fun a => decide (D (p s) a ≤ r)) 12 else nI 0) (M.1 44)))) : exV (LY pl tl) (d + 2) 113 [.ref 43, .ref 16, .ref 22, .int (nI r)] M Q := by
  refine e_X7_look_16_22 ?_
  have e0 : M = sa M 44 (pfx 0 (fun s => if s < n then mk (fun a => decide (D (p s) a ≤ r)) 12 else nI 0) (M.1 44)) := by rw [pfx_0, sa_id]
  rw [e0]
  refine lp_0 (X := fx (LY pl tl) (d + 1) m_X7_look (qV Q)) (fun s => (3, [some (.ref 43), some (.ref 16), some (.ref 22), some (.int (nI r)), some (.int (nI s)), none, none], [], sa M 44 (pfx s (fun s => if s < n then mk (fun a => decide (D (p s) a ≤ r)) 12 else nI 0) (M.1 44)))) 8 (fun s hs hx => ?_) ?_
  · have hv : vp_in (nI s) 8 := (z_in (by omega) (by omega)).mpr hs
    refine c_X7_look_16_22_3 (br_f (nI_ge hs (by omega)) ⟨hv, ?_⟩)
    rw [z_cl (by omega), sa_upd]
    by_cases hsn : s < n
    · obtain ⟨p1, p2⟩ := hp s hsn
      refine s_placeOf_y (n := n) hn hM hsn ?_
      have q1 : (sa M 44 (upd (pfx s (fun s => if s < n then mk (fun a => decide (D (p s) a ≤ r)) 12 else nI 0) (M.1 44)) s (nI 0))).1 23 s = nI (p s) := p1
      rw [q1]
      refine ⟨fun c => ((z_m1 (by omega)).mp c).elim, fun _ => br_f (by decide) ?_⟩
      refine lp_0 (X := fx (LY pl tl) (d + 1) m_X7_look (qV Q)) (fun a => (43, [some (.ref 43), some (.ref 16), some (.ref 22), some (.int (nI r)), some (.int (nI s)), some (.int (nI (p s))), some (.int (nI a))], [], sa M 44 (upd (pfx s (fun s => if s < n then mk (fun a => decide (D (p s) a ≤ r)) 12 else nI 0) (M.1 44)) s (mk (fun a => decide (D (p s) a ≤ r)) a)))) 12 (fun a ha hy => ?_) ?_
      · obtain ⟨d1, d2⟩ := hD (p s) a p2 ha
        refine c_X7_look_16_22_43 ?_
        have hc : (nI 12 * nI (p s) + nI a).toNatClampNeg = 12 * p s + a := by rw [pk_mul, nI_add, z_cl (by omega)]
        have q2 : (sa M 44 (upd (pfx s (fun s => if s < n then mk (fun a => decide (D (p s) a ≤ r)) 12 else nI 0) (M.1 44)) s (mk (fun a => decide (D (p s) a ≤ r)) a))).1 22 (12 * p s + a) = nI (D (p s) a) := d1
        rw [hc, q2, z_cl (show s < 2147483648 by omega), sa_s, upd_eq, sa_upd, upd_upd, nI_add a 1]
        refine br_f (nI_ge ha (by omega)) ⟨by rw [pk_mul, nI_add]; exact (z_in (by omega) (by omega)).mpr (by omega), fun c => ?_, fun c => ⟨hv, hv, ?_⟩⟩
        · rw [z_lt (by omega) (by omega)] at c
          have em : mk (fun a => decide (D (p s) a ≤ r)) (a + 1) = mk (fun a => decide (D (p s) a ≤ r)) a := if_neg (by simp; omega)
          rw [em] at hy
          exact hy
        · rw [z_lt (by omega) (by omega)] at c
          have em : mk (fun a => decide (D (p s) a ≤ r)) (a + 1) = mk (fun a => decide (D (p s) a ≤ r)) a ||| b1 a := if_pos (by simp; omega)
          rw [em] at hy
          exact hy
      · refine c_X7_look_16_22_43 (br_t (nI_le (Nat.le_refl _) (by omega)) ?_)
        rw [nI_add, pfx_s _ _ _ (by rw [if_pos hsn])]
        exact hx
    · refine s_placeOf_n (n := n) hM (Or.inr (nI_le (by omega) (by omega))) ?_
      refine ⟨fun _ => ?_, fun c => absurd rfl c⟩
      rw [nI_add, pfx_s _ _ _ (by rw [if_neg hsn])]
      exact hx
  · exact c_X7_look_16_22_3 (br_t (nI_le (Nat.le_refl _) (by omega)) h)
theorem s_look_45 {Q : Mem → Prop} {n r : Nat} {p : Nat → Nat} {D : Nat → Nat → Nat} (hn : n ≤ 8) (hr : r ≤ 999) (hM : M.1 16 8 = nI n) (hp : ∀ s, s < n → M.1 23 s = nI (p s) ∧ p s < 12) (hD : ∀ a b, a < 12 → b < 12 → M.1 45 (12 * a + b) = nI (D a b) ∧ D a b ≤ 999) (h : Q (sa M 44 (pfx 8 (fun s => if s < n then mk (fun a => decide (D (p s) a ≤ r)) 12 else nI 0) (M.1 44)))) : exV (LY pl tl) (d + 2) 113 [.ref 43, .ref 16, .ref 45, .int (nI r)] M Q := by
  refine e_X7_look_16_45 ?_
  have e0 : M = sa M 44 (pfx 0 (fun s => if s < n then mk (fun a => decide (D (p s) a ≤ r)) 12 else nI 0) (M.1 44)) := by rw [pfx_0, sa_id]
  rw [e0]
  refine lp_0 (X := fx (LY pl tl) (d + 1) m_X7_look (qV Q)) (fun s => (3, [some (.ref 43), some (.ref 16), some (.ref 45), some (.int (nI r)), some (.int (nI s)), none, none], [], sa M 44 (pfx s (fun s => if s < n then mk (fun a => decide (D (p s) a ≤ r)) 12 else nI 0) (M.1 44)))) 8 (fun s hs hx => ?_) ?_
  · have hv : vp_in (nI s) 8 := (z_in (by omega) (by omega)).mpr hs
    refine c_X7_look_16_45_3 (br_f (nI_ge hs (by omega)) ⟨hv, ?_⟩)
    rw [z_cl (by omega), sa_upd]
    by_cases hsn : s < n
    · obtain ⟨p1, p2⟩ := hp s hsn
      refine s_placeOf_y (n := n) hn hM hsn ?_
      have q1 : (sa M 44 (upd (pfx s (fun s => if s < n then mk (fun a => decide (D (p s) a ≤ r)) 12 else nI 0) (M.1 44)) s (nI 0))).1 23 s = nI (p s) := p1
      rw [q1]
      refine ⟨fun c => ((z_m1 (by omega)).mp c).elim, fun _ => br_f (by decide) ?_⟩
      refine lp_0 (X := fx (LY pl tl) (d + 1) m_X7_look (qV Q)) (fun a => (43, [some (.ref 43), some (.ref 16), some (.ref 45), some (.int (nI r)), some (.int (nI s)), some (.int (nI (p s))), some (.int (nI a))], [], sa M 44 (upd (pfx s (fun s => if s < n then mk (fun a => decide (D (p s) a ≤ r)) 12 else nI 0) (M.1 44)) s (mk (fun a => decide (D (p s) a ≤ r)) a)))) 12 (fun a ha hy => ?_) ?_
      · obtain ⟨d1, d2⟩ := hD (p s) a p2 ha
        refine c_X7_look_16_45_43 ?_
        have hc : (nI 12 * nI (p s) + nI a).toNatClampNeg = 12 * p s + a := by rw [pk_mul, nI_add, z_cl (by omega)]
        have q2 : (sa M 44 (upd (pfx s (fun s => if s < n then mk (fun a => decide (D (p s) a ≤ r)) 12 else nI 0) (M.1 44)) s (mk (fun a => decide (D (p s) a ≤ r)) a))).1 45 (12 * p s + a) = nI (D (p s) a) := d1
        rw [hc, q2, z_cl (show s < 2147483648 by omega), sa_s, upd_eq, sa_upd, upd_upd, nI_add a 1]
        refine br_f (nI_ge ha (by omega)) ⟨by rw [pk_mul, nI_add]; exact (z_in (by omega) (by omega)).mpr (by omega), fun c => ?_, fun c => ⟨hv, hv, ?_⟩⟩
        · rw [z_lt (by omega) (by omega)] at c
          have em : mk (fun a => decide (D (p s) a ≤ r)) (a + 1) = mk (fun a => decide (D (p s) a ≤ r)) a := if_neg (by simp; omega)
          rw [em] at hy
          exact hy
        · rw [z_lt (by omega) (by omega)] at c
          have em : mk (fun a => decide (D (p s) a ≤ r)) (a + 1) = mk (fun a => decide (D (p s) a ≤ r)) a ||| b1 a := if_pos (by simp; omega)
          rw [em] at hy
          exact hy
      · refine c_X7_look_16_45_43 (br_t (nI_le (Nat.le_refl _) (by omega)) ?_)
        rw [nI_add, pfx_s _ _ _ (by rw [if_pos hsn])]
        exact hx
    · refine s_placeOf_n (n := n) hM (Or.inr (nI_le (by omega) (by omega))) ?_
      refine ⟨fun _ => ?_, fun c => absurd rfl c⟩
      rw [nI_add, pfx_s _ _ _ (by rw [if_neg hsn])]
      exact hx
  · exact c_X7_look_16_45_3 (br_t (nI_le (Nat.le_refl _) (by omega)) h)
/-- the class looks -/
theorem s_look {Q : Mem → Prop} {w : Nat → Int32} {t : Nat} (hv : V w t) (hr : RC 15 M w) (h : Q (sa M 44 (nA w (rcN w) (M.1 44)))) : exV (LY pl tl) (d + 3) 49 [.ref 0] M Q := by
  refine e_X10_look ?_
  have e1 : M.1 15 2 = nI (rcN w) := hr.2.2.1.1.trans hv.2.2.1.1.1
  have hb := hv.2.2.1.1.2.2
  rw [e1]
  exact s_look_22 (p := sp w) (D := dist w) hv.1.1.2 (by omega) (hr.1.2.1.trans hv.1.1.1) (fun s hs => ⟨(hr.1.2.2.2.1 s hs).trans (hv.1.2.2.2.1 s hs).1, (hv.1.2.2.2.1 s hs).2⟩) (fun a b ha hb => ⟨hr.1.2.2.2.2.2 a b ha hb, dist_le hv.1.2.2.2.2.2.1 ha hb⟩) h
/-- the reference lays -/
theorem s_lays {Q : Mem → Prop} {r : Nat} (hv : VL (M.1 53)) (hr : M.1 53 459 = nI r) (hr9 : r ≤ 999) (h : Q (sa (sa M 58 (fA (dist (M.1 53)) (M.1 58))) 59 (mA (M.1 53) r (M.1 59)))) : exV (LY pl tl) (d + 3) 165 [.ref 52] M Q := by
  refine e_X11_lays (s_laysFar hv.2.2.2.2.2.1 ?_)
  have hs8 := hv.1.2
  have e0 : sa M 58 (fA (dist (M.1 53)) (M.1 58)) = sa (sa M 58 (fA (dist (M.1 53)) (M.1 58))) 59 (pfx 0 (fun s => rM (M.1 53) r s) (M.1 59)) := by rw [pfx_0]; exact (sa_id _ 59).symm
  rw [e0]
  refine lp_0 (X := fx (LY pl tl) (d + 2) m_X11_lays (qV Q)) (fun s => (6, [some (.ref 52), some (.int (nI s)), none], [], sa (sa M 58 (fA (dist (M.1 53)) (M.1 58))) 59 (pfx s (fun s => rM (M.1 53) r s) (M.1 59)))) (sN (M.1 53)) (fun s hs hx => ?_) ?_
  · have hv8 : vp_in (nI s) 8 := (z_in (by omega) (by omega)).mpr (by omega)
    obtain ⟨p1, p2⟩ := hv.2.2.2.1 s hs
    refine c_X11_lays_6 ?_
    have q1 : (sa (sa M 58 (fA (dist (M.1 53)) (M.1 58))) 59 (pfx s (fun s => rM (M.1 53) r s) (M.1 59))).1 53 456 = nI (sN (M.1 53)) := hv.1.1
    rw [q1, z_cl (by omega), sa_upd]
    refine br_f (nI_ge hs (by omega)) ⟨hv8, ?_⟩
    refine lp_0 (X := fx (LY pl tl) (d + 2) m_X11_lays (qV Q)) (fun a => (27, [some (.ref 52), some (.int (nI s)), some (.int (nI a))], [], sa (sa M 58 (fA (dist (M.1 53)) (M.1 58))) 59 (upd (pfx s (fun s => rM (M.1 53) r s) (M.1 59)) s (mk (fun a => decide (dist (M.1 53) (sp (M.1 53) s) a ≤ r)) a)))) 12 (fun a ha hy => ?_) ?_
    · have hd := dist_le hv.2.2.2.2.2.1 p2 ha
      refine c_X11_lays_27 ?_
      have q2 : (sa (sa M 58 (fA (dist (M.1 53)) (M.1 58))) 59 (upd (pfx s (fun s => rM (M.1 53) r s) (M.1 59)) s (mk (fun a => decide (dist (M.1 53) (sp (M.1 53) s) a ≤ r)) a))).1 53 (300 + s) = nI (sp (M.1 53) s) := p1
      rw [nI_add 300 s, nI_add a 1, z_cl (show 300 + s < 2147483648 by omega), q2]
      refine br_f (nI_ge ha (by omega)) ⟨(z_in (by omega) (by omega)).mpr (by omega), s_farOf p2 ha ?_⟩
      have q3 : (sa (sa M 58 (fA (dist (M.1 53)) (M.1 58))) 59 (upd (pfx s (fun s => rM (M.1 53) r s) (M.1 59)) s (mk (fun a => decide (dist (M.1 53) (sp (M.1 53) s) a ≤ r)) a))).1 58 (12 * sp (M.1 53) s + a) = nI (dist (M.1 53) (sp (M.1 53) s) a) := fA_at _ _ p2 ha
      have q4 : (sa (sa M 58 (fA (dist (M.1 53)) (M.1 58))) 59 (upd (pfx s (fun s => rM (M.1 53) r s) (M.1 59)) s (mk (fun a => decide (dist (M.1 53) (sp (M.1 53) s) a ≤ r)) a))).1 53 459 = nI r := hr
      rw [q3, q4, z_cl (by omega), sa_s, upd_eq, sa_upd, upd_upd]
      refine ⟨fun c => ?_, fun c => ⟨hv8, hv8, ?_⟩⟩
      · rw [z_lt (by omega) (by omega)] at c
        have em : mk (fun a => decide (dist (M.1 53) (sp (M.1 53) s) a ≤ r)) (a + 1) = mk (fun a => decide (dist (M.1 53) (sp (M.1 53) s) a ≤ r)) a := if_neg (by simp; omega)
        rw [em] at hy
        exact hy
      · rw [z_lt (by omega) (by omega)] at c
        have em : mk (fun a => decide (dist (M.1 53) (sp (M.1 53) s) a ≤ r)) (a + 1) = mk (fun a => decide (dist (M.1 53) (sp (M.1 53) s) a ≤ r)) a ||| b1 a := if_pos (by simp; omega)
        rw [em] at hy
        exact hy
    · refine c_X11_lays_27 (br_t (nI_le (Nat.le_refl _) (by omega)) ?_)
      rw [nI_add, pfx_s s (fun s => rM (M.1 53) r s) (M.1 59) (v := mk (fun a => decide (dist (M.1 53) (sp (M.1 53) s) a ≤ r)) 12) rfl]
      exact hx
  · refine c_X11_lays_6 ?_
    have q1 : (sa (sa M 58 (fA (dist (M.1 53)) (M.1 58))) 59 (pfx (sN (M.1 53)) (fun s => rM (M.1 53) r s) (M.1 59))).1 53 456 = nI (sN (M.1 53)) := hv.1.1
    rw [q1]
    exact br_t (nI_le (Nat.le_refl _) (by omega)) h
/-! the class's cover now -/
theorem s_coverNow {Q : Int32 → Mem → Prop} {w : Nat → Int32} {t : Nat} (hv : V w t) (hr : RC 15 M w) (h : Q (CV w (rcN w)) (pM (sa M 44 (nA w (rcN w) (M.1 44))) (cvO w (rcN w)) (cvT w (rcN w)))) : exI (LY pl tl) (d + 4) 50 [.ref 0] M Q := by
  have hn6 := hv.2.1.1.2
  have hs8 := hv.1.1.2
  have hM : M.1 24 4 = nI (eN w) := hr.2.1.1.trans hv.2.1.1.1
  refine e_X10_coverNow (s_look hv hr (s_inMode hn6 hM ?_))
  refine s_putEngines (p := po w) hn6 hM (fun e he => ⟨(hr.2.1.2.1 e he).1.trans (hv.2.1.2 e he).1.1, by have := (hv.2.1.2 e he).1.2; omega⟩) (s_covered ?_)
  have hb : ∀ e, e < eN w → decide (tb (inM ((sa M 44 (nA w (rcN w) (M.1 44))).1 26) (nI 0) (eN w)) e) = rdy w e := by
    intro e he
    unfold inM rdy
    rw [decide_eq_decide, mk_tb _ (by omega) (by omega)]
    have : M.1 26 e = w (320 + e) := (hr.2.1.2.1 e he).2.1
    rw [← this]
    simp [he]
    exact Iff.rfl
  have hf : ∀ e, e < eN w → (sa M 44 (nA w (rcN w) (M.1 44))).1 44 (po w e) = rM w (rcN w) (po w e) := by
    intro e he
    rw [sa_s]
    exact nA_at (hv.2.1.2 e he).1.2 hs8
  rw [o1_congr (f' := fun e => rM w (rcN w) (po w e)) (c' := rdy w) _ hb (fun e he _ => hf e he), o2_congr (f' := fun e => rM w (rcN w) (po w e)) (c' := rdy w) _ hb (fun e he _ => hf e he)]
  have e1 : wS ((pM (sa M 44 (nA w (rcN w) (M.1 44))) (o1 (fun e => rM w (rcN w) (po w e)) (rdy w) (eN w)) (o2 (fun e => rM w (rcN w) (po w e)) (rdy w) (eN w))).1 17) ((pM (sa M 44 (nA w (rcN w) (M.1 44))) (o1 (fun e => rM w (rcN w) (po w e)) (rdy w) (eN w)) (o2 (fun e => rM w (rcN w) (po w e)) (rdy w) (eN w))).1 43 2) 12 = CV w (rcN w) := wS_congr 12 (fun a ha => hr.1.1 a ha) (fun a ha => Iff.rfl)
  rw [e1]
  exact h
/-! the reference's ready ones -/
theorem s_readyFor {Q : Int32 → Mem → Prop} {r a : Nat} (hc : VC (M.1 53)) (ha : a < 12) (h59 : ∀ s, s < sN (M.1 53) → M.1 59 s = rM (M.1 53) r s) (hs8 : sN (M.1 53) ≤ 8) (h : Q (nI (rf (M.1 53) r a)) M) : exI (LY pl tl) (d + 2) 169 [.ref 52, .int (nI a)] M Q := by
  have hn6 := hc.1.2
  refine e_X11_readyFor (lp_0 (X := fx (LY pl tl) (d + 1) m_X11_readyFor (qI Q)) (fun e => (4, [some (.ref 52), some (.int (nI a)), some (.int (nI (cn (fun e => rdy (M.1 53) e && decide (tb (rM (M.1 53) r (po (M.1 53) e)) a)) e))), some (.int (nI e))], [], M)) (eN (M.1 53)) (fun e he hx => ?_) ?_)
  · obtain ⟨⟨p1, p2⟩, m1, m2⟩ := hc.2 e he
    refine c_X11_readyFor_4 ?_
    rw [hc.1.1]
    refine br_f (nI_ge he (by omega)) (s_isReady (by omega) ?_)
    rw [nI_add, nI_add, nI_add, nI_add, Nat.add_zero, z_cl (show 308 + e < 2147483648 by omega), p1, z_cl (by omega), h59 _ p2]
    by_cases q : M.1 53 (320 + e) = nI 0
    · rw [if_pos q]
      refine ⟨fun c => absurd c (by decide), fun _ => ⟨(z_in (by omega) (by omega)).mpr (by omega), (z_in (by omega) (by omega)).mpr (by omega), fun c => ?_, fun c => ?_⟩⟩
      · have : cn (fun e => rdy (M.1 53) e && decide (tb (rM (M.1 53) r (po (M.1 53) e)) a)) (e + 1) = cn (fun e => rdy (M.1 53) e && decide (tb (rM (M.1 53) r (po (M.1 53) e)) a)) e := if_neg (by simp; intro _; exact c)
        rw [this] at hx
        exact hx
      · have : cn (fun e => rdy (M.1 53) e && decide (tb (rM (M.1 53) r (po (M.1 53) e)) a)) (e + 1) = cn (fun e => rdy (M.1 53) e && decide (tb (rM (M.1 53) r (po (M.1 53) e)) a)) e + 1 := if_pos (by simp [rdy, q]; exact c)
        rw [this] at hx
        exact hx
    · rw [if_neg q]
      refine ⟨fun _ => ?_, fun c => absurd rfl c⟩
      have : cn (fun e => rdy (M.1 53) e && decide (tb (rM (M.1 53) r (po (M.1 53) e)) a)) (e + 1) = cn (fun e => rdy (M.1 53) e && decide (tb (rM (M.1 53) r (po (M.1 53) e)) a)) e := if_neg (by simp [rdy, q])
      rw [this] at hx
      exact hx
  · refine c_X11_readyFor_4 ?_
    rw [hc.1.1]
    exact br_t (nI_le (Nat.le_refl _) (by omega)) h
theorem rf_le (w : Nat → Int32) (r a : Nat) : rf w r a ≤ eN w := cn_le _ _
theorem s_reachedNow {Q : Int32 → Mem → Prop} {r : Nat} (hc : VC (M.1 53)) (h59 : ∀ s, s < sN (M.1 53) → M.1 59 s = rM (M.1 53) r s) (hs8 : sN (M.1 53) ≤ 8) (h : Q (mk (fun a => decide (0 < rf (M.1 53) r a)) 12) M) : exI (LY pl tl) (d + 3) 189 [.ref 52] M Q := by
  have hn6 := hc.1.2
  refine e_X11_reachedNow (lp_0 (X := fx (LY pl tl) (d + 2) m_X11_reachedNow (qI Q)) (fun a => (4, [some (.ref 52), some (.int (mk (fun a => decide (0 < rf (M.1 53) r a)) a)), some (.int (nI a))], [], M)) 12 (fun a ha hx => ?_) ?_)
  · refine c_X11_reachedNow_4 (br_f (nI_ge ha (by omega)) (s_readyFor hc ha h59 hs8 ?_))
    have := rf_le (M.1 53) r a
    rw [nI_add, or_0]
    refine ⟨fun c => ?_, fun c => ?_⟩
    · rw [z_le0 (by omega)] at c
      have e : mk (fun a => decide (0 < rf (M.1 53) r a)) (a + 1) = mk (fun a => decide (0 < rf (M.1 53) r a)) a := if_neg (by simp [c])
      rw [e] at hx; exact hx
    · rw [z_le0 (by omega)] at c
      have e : mk (fun a => decide (0 < rf (M.1 53) r a)) (a + 1) = mk (fun a => decide (0 < rf (M.1 53) r a)) a ||| b1 a := if_pos (by simp; omega)
      rw [e] at hx; exact hx
  · exact c_X11_reachedNow_4 (br_t (nI_le (Nat.le_refl _) (by omega)) h)
theorem s_twiceNow {Q : Int32 → Mem → Prop} {r : Nat} (hc : VC (M.1 53)) (h59 : ∀ s, s < sN (M.1 53) → M.1 59 s = rM (M.1 53) r s) (hs8 : sN (M.1 53) ≤ 8) (h : Q (mk (fun a => decide (1 < rf (M.1 53) r a)) 12) M) : exI (LY pl tl) (d + 3) 190 [.ref 52] M Q := by
  have hn6 := hc.1.2
  refine e_X11_twiceNow (lp_0 (X := fx (LY pl tl) (d + 2) m_X11_twiceNow (qI Q)) (fun a => (4, [some (.ref 52), some (.int (mk (fun a => decide (1 < rf (M.1 53) r a)) a)), some (.int (nI a))], [], M)) 12 (fun a ha hx => ?_) ?_)
  · refine c_X11_twiceNow_4 (br_f (nI_ge ha (by omega)) (s_readyFor hc ha h59 hs8 ?_))
    have := rf_le (M.1 53) r a
    rw [nI_add, or_0]
    refine ⟨fun c => ?_, fun c => ?_⟩
    · rw [z_le (by omega) (by omega)] at c
      have e : mk (fun a => decide (1 < rf (M.1 53) r a)) (a + 1) = mk (fun a => decide (1 < rf (M.1 53) r a)) a := if_neg (by simp; omega)
      rw [e] at hx; exact hx
    · rw [z_le (by omega) (by omega)] at c
      have e : mk (fun a => decide (1 < rf (M.1 53) r a)) (a + 1) = mk (fun a => decide (1 < rf (M.1 53) r a)) a ||| b1 a := if_pos (by simp; omega)
      rw [e] at hx; exact hx
  · exact c_X11_twiceNow_4 (br_t (nI_le (Nat.le_refl _) (by omega)) h)
theorem cv_bits (w : Nat → Int32) (r : Nat) {a : Nat} (ha : a < 12) : tb (mk (fun a => decide (0 < rf w r a)) 12) a ↔ tb (cvO w r) a := by
  rw [mk_tb _ (by omega) (by omega)]
  unfold cvO
  rw [o1_tb _ _ (by omega)]
  simp [ha]
  exact Iff.rfl
theorem cv_bits2 (w : Nat → Int32) (r : Nat) {a : Nat} (ha : a < 12) : tb (mk (fun a => decide (1 < rf w r a)) 12) a ↔ tb (cvT w r) a := by
  rw [mk_tb _ (by omega) (by omega)]
  unfold cvT
  rw [o2_tb _ _ (by omega)]
  simp [ha]
  exact Iff.rfl
theorem s_nowW {Q : Int32 → Mem → Prop} {r : Nat} (h : Q (CV (M.1 53) r) M) : exI (LY pl tl) (d + 1) 166 [.ref 52, .int (mk (fun a => decide (0 < rf (M.1 53) r a)) 12)] M Q := s_weightOf (by
  have e : wS (M.1 53) (mk (fun a => decide (0 < rf (M.1 53) r a)) 12) 12 = CV (M.1 53) r := wS_congr 12 (fun a ha => rfl) (fun a ha => cv_bits _ r ha)
  rw [e]; exact h)
theorem s_twW {Q : Int32 → Mem → Prop} {r : Nat} (h : Q (DB (M.1 53) r) M) : exI (LY pl tl) (d + 1) 166 [.ref 52, .int (mk (fun a => decide (1 < rf (M.1 53) r a)) 12)] M Q := s_weightOf (by
  have e : wS (M.1 53) (mk (fun a => decide (1 < rf (M.1 53) r a)) 12) 12 = DB (M.1 53) r := wS_congr 12 (fun a ha => rfl) (fun a ha => cv_bits2 _ r ha)
  rw [e]; exact h)
end SM
