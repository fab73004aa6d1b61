/-! THE BEST STATIONS: sets of so many, the greatest first -/
theorem pc_0 : pcn 0 = 0 := by decide
def mkN (c : Nat → Bool) : Nat → Nat
  | 0 => 0
  | n + 1 => if c n then mkN c n + 2 ^ n else mkN c n
theorem mkN_ok (c : Nat → Bool) : ∀ n, n ≤ 8 → mkN c n < 2 ^ n ∧ mk c n = nI (mkN c n) ∧ pcn (mkN c n) = cn c n
  | 0, _ => ⟨Nat.one_pos, rfl, pc_0⟩
  | n + 1, h => by
    obtain ⟨h1, h2, h3⟩ := mkN_ok c n (by omega)
    have hp : 2 ^ (n + 1) = 2 * 2 ^ n := by rw [Nat.pow_succ]; omega
    have hb : 2 ^ n ≤ 256 := (pow8 (by omega)).2
    obtain ⟨q1, q2⟩ := pc_add n (by omega) (mkN c n) (by omega) h1
    unfold mkN mk cn
    by_cases hc : c n = true
    · rw [if_pos hc, if_pos hc, if_pos hc, h2, q2, q1, h3]
      exact ⟨by omega, rfl, rfl⟩
    · rw [if_neg hc, if_neg hc, if_neg hc, h2, h3]
      exact ⟨by omega, rfl, rfl⟩
/-- the first greatest of those that count -/
def bb (v : Nat → Int32) (ok : Nat → Bool) : Nat → Option Nat
  | 0 => none
  | m + 1 => if ok m then (match bb v ok m with
    | none => some m
    | some b => if v b < v m then some m else some b) else bb v ok m
theorem bb_some {v : Nat → Int32} {ok : Nat → Bool} : ∀ {n m : Nat}, m < n → ok m = true → ∃ b, bb v ok n = some b
  | n + 1, m, h, hm => by
    unfold bb
    by_cases e : m = n
    · subst e
      rw [if_pos hm]
      split
      · exact ⟨_, rfl⟩
      · split <;> exact ⟨_, rfl⟩
    · obtain ⟨b, hb⟩ := bb_some (v := v) (n := n) (m := m) (by omega) hm
      rw [hb]
      split
      · show ∃ b', (if v b < v n then some n else some b) = some b'
        split <;> exact ⟨_, rfl⟩
      · exact ⟨b, rfl⟩
theorem bb_lt {v : Nat → Int32} {ok : Nat → Bool} : ∀ {n b : Nat}, bb v ok n = some b → b < n ∧ ok b = true
  | 0, b, h => by cases h
  | n + 1, b, h => by
    unfold bb at h
    by_cases q : ok n = true
    · rw [if_pos q] at h
      split at h
      · cases h; exact ⟨by omega, q⟩
      · next b' hb =>
        obtain ⟨i1, i2⟩ := bb_lt hb
        split at h
        · cases h; exact ⟨by omega, q⟩
        · cases h; exact ⟨by omega, i2⟩
    · rw [if_neg q] at h
      obtain ⟨i1, i2⟩ := bb_lt h
      exact ⟨by omega, i2⟩
theorem bb_congr {v v' : Nat → Int32} {ok : Nat → Bool} : ∀ n, (∀ m, m < n → v m = v' m) → bb v ok n = bb v' ok n
  | 0, _ => rfl
  | n + 1, h => by
    unfold bb
    rw [← bb_congr n (fun m hm => h m (by omega))]
    by_cases q : ok n = true
    · rw [if_pos q, if_pos q]
      cases hb : bb v ok n with
      | none => rfl
      | some b =>
        show (if v b < v n then _ else _) = (if v' b < v' n then _ else _)
        rw [h n (by omega), h b (by have := (bb_lt hb).1; omega)]
    · rw [if_neg q, if_neg q]
theorem lp_s {σ : Type} {X : pFr → Prop} (L : Nat → σ → pFr) (n : Nat) (hs : ∀ i s, i < n → (∀ s', X (L (i + 1) s')) → X (L i s)) (he : ∀ s, X (L n s)) : ∀ s, X (L 0 s) := by
  have key : ∀ k i, i + k = n → ∀ s, X (L i s) := by
    intro k
    induction k with
    | zero => intro i hi s; have : i = n := by omega
              subst this; exact he s
    | succ k ih => intro i hi s; exact hs i s (by omega) (ih (i + 1) (by omega))
  exact key n 0 (by omega)
/-- sums of weights are small -/
theorem wS_small {f : Nat → Int32} {x : Int32} (h : ∀ a, a < 12 → ∃ k, k ≤ 99 ∧ f a = nI k) : ∀ n, n ≤ 12 → ∃ k, k ≤ 99 * n ∧ wS f x n = nI k
  | 0, _ => ⟨0, by omega, rfl⟩
  | n + 1, hn => by
    obtain ⟨k, hk, e⟩ := wS_small h n (by omega)
    obtain ⟨j, hj, e2⟩ := h n (by omega)
    unfold wS
    split
    · exact ⟨k + j, by omega, by rw [e, e2, nI_add]⟩
    · exact ⟨k, by omega, e⟩
theorem V_wS {w : Nat → Int32} (hv : VL w) (x : Int32) : ∃ k, k ≤ 1188 ∧ wS w x 12 = nI k := wS_small (fun a ha => ⟨wt w a, (hv.2.2.1 a ha).2, (hv.2.2.1 a ha).1⟩) 12 (Nat.le_refl _)
def SCv (w : Nat → Int32) (r : Nat) (m : Nat) : Int32 := wS w (SO w r (nI m)) 12
def SDv (w : Nat → Int32) (r : Nat) (m : Nat) : Int32 := wS w (ST2 w r (nI m)) 12
def BS (w : Nat → Int32) (r k : Nat) : Option Nat := bb (SCv w r) (fun m => decide (pcn m = k)) (2 ^ sN w)
def BT (w : Nat → Int32) (r k : Nat) : Option Nat := bb (SDv w r) (fun m => decide (pcn m = k)) (2 ^ sN w)
theorem BS_ok {w : Nat → Int32} {r k : Nat} (hs : sN w ≤ 8) (hk : k ≤ sN w) : ∃ b, BS w r k = some b ∧ b < 2 ^ sN w := by
  obtain ⟨q1, q2⟩ := pc_full (sN w) hs k hk
  obtain ⟨b, hb⟩ := bb_some (v := SCv w r) (ok := fun m => decide (pcn m = k)) q1 (by simp [q2])
  exact ⟨b, hb, (bb_lt hb).1⟩
theorem BT_ok {w : Nat → Int32} {r k : Nat} (hs : sN w ≤ 8) (hk : k ≤ sN w) : ∃ b, BT w r k = some b ∧ b < 2 ^ sN w := by
  obtain ⟨q1, q2⟩ := pc_full (sN w) hs k hk
  obtain ⟨b, hb⟩ := bb_some (v := SDv w r) (ok := fun m => decide (pcn m = k)) q1 (by simp [q2])
  exact ⟨b, hb, (bb_lt hb).1⟩
def oM1 (o : Option Nat) : Int32 := match o with
  | none => -1
  | some b => nI b
def oV (v : Nat → Int32) (o : Option Nat) : Int32 := match o with
  | none => -1
  | some b => v b
section S20
variable {pl : Option Nat} {tl : List LC} {d : Nat} {M : Mem} {t : Nat}
theorem s_bitCount {Q : Int32 → Mem → Prop} {m : Nat} (hm : m < 256) (h : Q (nI (pcn m)) M) : exI (LY pl tl) (d + 1) 0 [.int (nI m)] M Q := by
  refine e_J_bitCount ?_
  have e := bcI_ok m hm
  rw [← e] at h
  exact h
theorem s_ones {Q : Int32 → Mem → Prop} {m : Nat} (hm : m < 256) (h : Q (nI (pcn m)) M) : exI (LY pl tl) (d + 1) 137 [.int (nI m)] M Q := by
  refine e_X11_ones ?_
  have key : ∀ k m, m ≤ k → m < 256 → ∀ c, Q (nI (c + pcn m)) M → fx (LY pl tl) d m_X11_ones (qI Q) (4, [none, some (.int (nI c)), some (.int (nI m))], [], M) := by
    intro k
    induction k with
    | zero =>
      intro m h0 _ c hq
      have : m = 0 := by omega
      subst this
      rw [pc_0] at hq
      exact c_X11_ones_4 (br_t rfl hq)
    | succ k ih =>
      intro m hk hm c hq
      rcases Nat.eq_zero_or_pos m with h0 | h0
      · subst h0
        rw [pc_0] at hq
        exact c_X11_ones_4 (br_t rfl hq)
      · obtain ⟨q1, q2, q3⟩ := pc_step m hm h0
        refine c_X11_ones_4 (br_f (by rw [z_eq0 (by omega)]; omega) ?_)
        rw [q1, nI_add]
        exact ih _ (by omega) (by omega) (c + 1) (by rw [q3] at hq; rw [show c + 1 + pcn (m &&& (m - 1)) = c + (pcn (m &&& (m - 1)) + 1) by omega]; exact hq)
  exact key m m (Nat.le_refl _) hm 0 (by rw [Nat.zero_add]; exact h)
theorem pM_2 (M : Mem) (o t o' t' : Int32) : pM (pM M o t) o' t' = pM M o' t' := by
  unfold pM
  rw [si_comm (i := 43) (k := 2) (l := 3) (by omega), si_si, si_si]
theorem pM_id (M : Mem) : pM M (M.1 43 2) (M.1 43 3) = M := by
  unfold pM
  rw [si_sa, si_sa, sa_s, sa_sa]
  refine sa_eq (fun j => ?_)
  unfold upd
  split
  · next e => subst e; rfl
  · split
    · next e => subst e; rfl
    · rfl
/-- the class seeks the best stations -/
theorem s_bestStations {Q : Int32 → Mem → Prop} {w : Nat → Int32} {r k : Nat} {dbl : Bool} (hv : VL w) (hM : M.1 16 8 = nI (sN w)) (h17 : ∀ a, a < 12 → M.1 17 a = w a) (h44 : M.1 44 = nA w r (M.1 44)) (hk : k ≤ sN w)
    (h : ∀ b o t, (if dbl then BT w r k else BS w r k) = some b → b < 2 ^ sN w → Q (nI b) (pM M o t)) : exI (LY pl tl) (d + 4) 120 [.ref 43, .ref 16, .int (nI k), .int (nI (if dbl then 1 else 0))] M Q := by
  have hs8 := hv.1.2
  have hp := pow8 hs8
  have hb : nI 1 <<< (nI (sN w) &&& 31) = nI (2 ^ sN w) := b1_pow _ (by omega)
  obtain ⟨v, hvd⟩ : ∃ v : Nat → Int32, ∀ m, v m = if dbl = true then SDv w r m else SCv w r m := ⟨_, fun _ => rfl⟩
  have hBB : bb v (fun m => decide (pcn m = k)) (2 ^ sN w) = (if dbl then BT w r k else BS w r k) := by
    cases hd : dbl
    · rw [show v = SCv w r from funext fun m => by rw [hvd, hd]; rfl]; rfl
    · rw [show v = SDv w r from funext fun m => by rw [hvd, hd]; rfl]; rfl
  have vs : ∀ m, ∃ j, j ≤ 1188 ∧ v m = nI j := by
    intro m
    cases hd : dbl
    · obtain ⟨j, hj, e⟩ := V_wS hv (SO w r (nI m)); exact ⟨j, hj, by rw [hvd, hd]; exact e⟩
    · obtain ⟨j, hj, e⟩ := V_wS hv (ST2 w r (nI m)); exact ⟨j, hj, by rw [hvd, hd]; exact e⟩
  refine e_X7_bestStations_16 ?_
  have st := lp_s (σ := Int32 × Int32) (X := fx (LY pl tl) (d + 3) m_X7_bestStations (qI Q)) (fun m s => (9, [some (.ref 43), some (.ref 16), some (.int (nI k)), some (.int (nI (if dbl then 1 else 0))), some (.int (oV v (bb v (fun m => decide (pcn m = k)) m))), some (.int (nI ((bb v (fun m => decide (pcn m = k)) m).getD 0))), some (.int (nI m)), none], [], pM M s.1 s.2)) (2 ^ sN w) (fun m s hm hx => ?_) (fun s => ?_)
  · have := st (M.1 43 2, M.1 43 3)
    simp only [pM_id] at this
    exact this
  · refine c_X7_bestStations_16_9 ?_
    have q1 : (pM M s.1 s.2).1 16 8 = nI (sN w) := hM
    rw [q1, hb]
    refine br_f (nI_ge hm (by omega)) (s_bitCount (by omega) ⟨fun c => ?_, fun c => ?_⟩)
    · have hok : ¬ decide (pcn m = k) = true := by
        have h1 : pcn m ≤ 8 := cn_le _ _
        rw [z_eq (by omega) (by omega)] at c
        simpa using c
      have e : bb v (fun m => decide (pcn m = k)) (m + 1) = bb v (fun m => decide (pcn m = k)) m := by
        show (if decide (pcn m = k) = true then _ else _) = _
        rw [if_neg hok]
      rw [nI_add m 1]
      have hx := hx s
      rw [e] at hx
      exact hx
    · have hok : decide (pcn m = k) = true := by
        have h1 : pcn m ≤ 8 := cn_le _ _
        rw [z_eq (by omega) (by omega)] at c
        simpa using c
      refine s_putStations ?_
      rw [pM_2]
      have e44 : (pM M s.1 s.2).1 44 = nA w r (M.1 44) := h44
      rw [e44, nA_o1 hs8, nA_o2 hs8]
      obtain ⟨jm, hjm, ejm⟩ := vs m
      -- the value
      have fin : ∀ (x : Int32), x = v m → ((x ≤ oV v (bb v (fun m => decide (pcn m = k)) m) → fx (LY pl tl) (d + 3) m_X7_bestStations (qI Q) (9, [some (.ref 43), some (.ref 16), some (.int (nI k)), some (.int (nI (if dbl then 1 else 0))), some (.int (oV v (bb v (fun m => decide (pcn m = k)) m))), some (.int (nI ((bb v (fun m => decide (pcn m = k)) m).getD 0))), some (.int (nI m + nI 1)), none], [], pM M (SO w r (nI m)) (ST2 w r (nI m)))) ∧ (¬ x ≤ oV v (bb v (fun m => decide (pcn m = k)) m) → fx (LY pl tl) (d + 3) m_X7_bestStations (qI Q) (9, [some (.ref 43), some (.ref 16), some (.int (nI k)), some (.int (nI (if dbl then 1 else 0))), some (.int x), some (.int (nI m)), some (.int (nI m + nI 1)), none], [], pM M (SO w r (nI m)) (ST2 w r (nI m))))) := by
        intro x hxv
        subst hxv
        have hx := hx (SO w r (nI m), ST2 w r (nI m))
        rw [nI_add m 1]
        have e : bb v (fun m => decide (pcn m = k)) (m + 1) = (match bb v (fun m => decide (pcn m = k)) m with
          | none => some m
          | some b => if v b < v m then some m else some b) := by
          show (if decide (pcn m = k) = true then _ else _) = _
          rw [if_pos hok]
        rw [e] at hx
        cases hbb : bb v (fun m => decide (pcn m = k)) m with
        | none =>
          rw [hbb] at hx
          refine br_f ?_ hx
          show ¬ v m ≤ -1
          rw [ejm, z_m1lt (by omega)]; exact id
        | some b =>
          rw [hbb] at hx
          obtain ⟨jb, hjb, ejb⟩ := vs b
          refine ⟨fun c => ?_, fun c => ?_⟩
          · have c : v m ≤ v b := c
            have : ¬ v b < v m := by rw [Int32.lt_iff_toInt_lt]; rw [Int32.le_iff_toInt_le] at c; omega
            have hx : fx (LY pl tl) (d + 3) m_X7_bestStations (qI Q) (9, [some (.ref 43), some (.ref 16), some (.int (nI k)), some (.int (nI (if dbl then 1 else 0))), some (.int (oV v (if v b < v m then some m else some b))), some (.int (nI ((if v b < v m then some m else some b).getD 0))), some (.int (nI (m + 1))), none], [], pM M (SO w r (nI m)) (ST2 w r (nI m))) := hx
            rw [if_neg this] at hx
            exact hx
          · have c : ¬ v m ≤ v b := c
            have : v b < v m := by rw [Int32.lt_iff_toInt_lt]; rw [Int32.le_iff_toInt_le] at c; omega
            have hx : fx (LY pl tl) (d + 3) m_X7_bestStations (qI Q) (9, [some (.ref 43), some (.ref 16), some (.int (nI k)), some (.int (nI (if dbl then 1 else 0))), some (.int (oV v (if v b < v m then some m else some b))), some (.int (nI ((if v b < v m then some m else some b).getD 0))), some (.int (nI (m + 1))), none], [], pM M (SO w r (nI m)) (ST2 w r (nI m))) := hx
            rw [if_pos this] at hx
            exact hx
      refine ⟨fun c => s_covered (fin _ ?_), fun c => s_doubled (fin _ ?_)⟩
      · have hd : dbl = false := by
          cases hd : dbl
          · rfl
          · rw [hd] at c; exact absurd c (by decide)
        rw [hvd, hd]
        exact wS_congr 12 (fun a ha => h17 a ha) (fun a ha => Iff.rfl)
      · have hd : dbl = true := by
          cases hd : dbl
          · rw [hd] at c; exact absurd rfl c
          · rfl
        rw [hvd, hd]
        exact wS_congr 12 (fun a ha => h17 a ha) (fun a ha => Iff.rfl)
  · refine c_X7_bestStations_16_9 ?_
    have q1 : (pM M s.1 s.2).1 16 8 = nI (sN w) := hM
    rw [q1, hb]
    refine br_t (nI_le (Nat.le_refl _) (by omega)) ?_
    have : ∃ b, (if dbl then BT w r k else BS w r k) = some b ∧ b < 2 ^ sN w := by
      cases dbl
      · exact BS_ok hs8 hk
      · exact BT_ok hs8 hk
    obtain ⟨b, hb1, hb2⟩ := this
    rw [hBB, hb1]
    exact h b s.1 s.2 hb1 hb2
/-- the reference seeks the best stations -/
theorem s_bestSet {Q : Int32 → Mem → Prop} {r k : Nat} (hv : VL (M.1 53)) (h59 : ∀ s, s < sN (M.1 53) → M.1 59 s = rM (M.1 53) r s) (hk : k ≤ sN (M.1 53)) (h : ∀ b, BS (M.1 53) r k = some b → b < 2 ^ sN (M.1 53) → Q (nI b) M) : exI (LY pl tl) (d + 2) 196 [.ref 52, .int (nI k)] M Q := by
  have hs8 := hv.1.2
  have hp := pow8 hs8
  have hb : nI 1 <<< (nI (sN (M.1 53)) &&& 31) = nI (2 ^ sN (M.1 53)) := b1_pow _ (by omega)
  refine e_X11_bestSet (lp_0 (X := fx (LY pl tl) (d + 1) m_X11_bestSet (qI Q)) (fun m => (4, [some (.ref 52), some (.int (nI k)), some (.int (oM1 (bb (SCv (M.1 53) r) (fun m => decide (pcn m = k)) m))), some (.int (nI m))], [], M)) (2 ^ sN (M.1 53)) (fun m hm hx => ?_) ?_)
  · refine c_X11_bestSet_4 ?_
    rw [hv.1.1, hb]
    have h1 : pcn m ≤ 8 := cn_le _ _
    refine br_f (nI_ge hm (by omega)) (s_ones (by omega) ⟨fun c => ?_, fun c => ?_⟩)
    · have hok : decide (pcn m = k) = true := by
        rw [z_eq (by omega) (by omega)] at c
        simpa using c
      have e : bb (SCv (M.1 53) r) (fun m => decide (pcn m = k)) (m + 1) = (match bb (SCv (M.1 53) r) (fun m => decide (pcn m = k)) m with
        | none => some m
        | some b => if SCv (M.1 53) r b < SCv (M.1 53) r m then some m else some b) := by
        show (if decide (pcn m = k) = true then _ else _) = _
        rw [if_pos hok]
      rw [e] at hx
      rw [nI_add m 1]
      cases hbb : bb (SCv (M.1 53) r) (fun m => decide (pcn m = k)) m with
      | none =>
        rw [hbb] at hx
        exact br_t rfl hx
      | some b =>
        rw [hbb] at hx
        have hb2 := (bb_lt hbb).1
        refine br_f (show ¬ nI b = -1 by rw [z_m1 (by omega)]; exact id) ?_
        refine s_reachedBy hv.1.1 hs8 h59 (s_weightOf (s_reachedBy hv.1.1 hs8 h59 (s_weightOf ⟨fun c => ?_, fun c => ?_⟩)))
        · have c : SCv (M.1 53) r m ≤ SCv (M.1 53) r b := c
          have : ¬ SCv (M.1 53) r b < SCv (M.1 53) r m := by rw [Int32.lt_iff_toInt_lt]; rw [Int32.le_iff_toInt_le] at c; omega
          have hx : fx (LY pl tl) (d + 1) m_X11_bestSet (qI Q) (4, [some (.ref 52), some (.int (nI k)), some (.int (oM1 (if SCv (M.1 53) r b < SCv (M.1 53) r m then some m else some b))), some (.int (nI (m + 1)))], [], M) := hx
          rw [if_neg this] at hx
          exact hx
        · have c : ¬ SCv (M.1 53) r m ≤ SCv (M.1 53) r b := c
          have : SCv (M.1 53) r b < SCv (M.1 53) r m := by rw [Int32.lt_iff_toInt_lt]; rw [Int32.le_iff_toInt_le] at c; omega
          have hx : fx (LY pl tl) (d + 1) m_X11_bestSet (qI Q) (4, [some (.ref 52), some (.int (nI k)), some (.int (oM1 (if SCv (M.1 53) r b < SCv (M.1 53) r m then some m else some b))), some (.int (nI (m + 1)))], [], M) := hx
          rw [if_pos this] at hx
          exact hx
    · have hok : ¬ decide (pcn m = k) = true := by
        rw [z_eq (by omega) (by omega)] at c
        simpa using c
      have e : bb (SCv (M.1 53) r) (fun m => decide (pcn m = k)) (m + 1) = bb (SCv (M.1 53) r) (fun m => decide (pcn m = k)) m := by
        show (if decide (pcn m = k) = true then _ else _) = _
        rw [if_neg hok]
      rw [e] at hx
      rw [nI_add m 1]
      exact hx
  · refine c_X11_bestSet_4 ?_
    rw [hv.1.1, hb]
    refine br_t (nI_le (Nat.le_refl _) (by omega)) ?_
    obtain ⟨b, hb1, hb2⟩ := BS_ok (r := r) hs8 hk
    have : bb (SCv (M.1 53) r) (fun m => decide (pcn m = k)) (2 ^ sN (M.1 53)) = some b := hb1
    rw [this]
    exact h b hb1 hb2
end S20
