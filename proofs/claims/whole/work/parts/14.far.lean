/-! THE WAYS: both sides lay them alike (gen/far.py) -/
def tn (x : Int32) : Nat := x.toNatClampNeg
theorem tn_nI {n : Nat} (h : n < 2147483648) : tn (nI n) = n := nI_clamp h
theorem sa_eq {M : Mem} {i : Nat} {f : Nat → Int32} (h : ∀ j, f j = M.1 i j) : sa M i f = M := by
  rw [show f = M.1 i from funext h, sa_id]
theorem sa_cg {M : Mem} {i : Nat} {f g : Nat → Int32} (h : ∀ j, f j = g j) : sa M i f = sa M i g := by rw [show f = g from funext h]
theorem sa_upd (M : Mem) (i : Nat) (f : Nat → Int32) (k : Nat) (v : Int32) : si (sa M i f) i k v = sa M i (upd f k v) := by rw [si_sa, sa_s, sa_sa]
/-- the first n as G has them -/
def pfx (n : Nat) (G old : Nat → Int32) : Nat → Int32 := fun j => if j < n then G j else old j
theorem pfx_0 (G old : Nat → Int32) : pfx 0 G old = old := by funext j; simp [pfx]
theorem pfx_s (n : Nat) (G old : Nat → Int32) {v : Int32} (hv : v = G n) : upd (pfx n G old) n v = pfx (n + 1) G old := by
  funext j
  unfold upd pfx
  by_cases h : j = n
  · subst h; simp [hv]
  · by_cases l : j < n
    · simp [h, l, show j < n + 1 by omega]
    · simp [h, l, show ¬ j < n + 1 by omega]
theorem pfx_lt {n j : Nat} {G old : Nat → Int32} (h : j < n) : pfx n G old j = G j := if_pos h
theorem pfx_ge {n j : Nat} {G old : Nat → Int32} (h : ¬ j < n) : pfx n G old j = old j := if_neg h
/-- a table of 12 by 12 in a row -/
abbrev tA (g : Nat → Nat → Nat) : Nat → Int32 := fun j => nI (g (j / 12) (j % 12))
abbrev fA (g : Nat → Nat → Nat) (old : Nat → Int32) : Nat → Int32 := pfx 144 (tA g) old
theorem tA_at (g : Nat → Nat → Nat) {a b : Nat} (hb : b < 12) : tA g (12 * a + b) = nI (g a b) := by
  unfold tA
  rw [show (12 * a + b) / 12 = a by omega, show (12 * a + b) % 12 = b by omega]
theorem fA_at (g : Nat → Nat → Nat) (old : Nat → Int32) {a b : Nat} (ha : a < 12) (hb : b < 12) : fA g old (12 * a + b) = nI (g a b) := by
  rw [fA, pfx_lt (by omega), tA_at g hb]
def FWm (c : Nat → Nat → Nat) : Nat → Nat → Nat → Nat
  | 0, a, b => c a b
  | k + 1, a, b => min (FWm c k a b) (FWm c k a k + FWm c k k b)
theorem FW_diag {c : Nat → Nat → Nat} (h : ∀ a, c a a = 0) : ∀ k a, FWm c k a a = 0
  | 0, a => h a
  | k + 1, a => by unfold FWm; rw [FW_diag h k a]; simp
theorem FW_le {c : Nat → Nat → Nat} {N : Nat} (h : ∀ a b, c a b ≤ N) : ∀ k a b, FWm c k a b ≤ N
  | 0, a, b => h a b
  | k + 1, a, b => Nat.le_trans (Nat.min_le_left _ _) (FW_le h k a b)
theorem FW_sym {c : Nat → Nat → Nat} (h : ∀ a b, c a b = c b a) : ∀ k a b, FWm c k a b = FWm c k b a
  | 0, a, b => h a b
  | k + 1, a, b => by unfold FWm; rw [FW_sym h k a b, FW_sym h k a k, FW_sym h k k b, Nat.add_comm]
theorem FW_pos {c : Nat → Nat → Nat} (h : ∀ a b, a ≠ b → 1 ≤ c a b) : ∀ k a b, a ≠ b → 1 ≤ FWm c k a b
  | 0, a, b, n => h a b n
  | k + 1, a, b, n => by
    unfold FWm
    have h1 := FW_pos h k a b n
    by_cases e : a = k
    · have := FW_pos h k k b (by omega); omega
    · have := FW_pos h k a k e; omega
theorem FW_congr {c c' : Nat → Nat → Nat} {n : Nat} (h : ∀ a b, a < n → b < n → c a b = c' a b) : ∀ k, k ≤ n → ∀ a b, a < n → b < n → FWm c k a b = FWm c' k a b
  | 0, _, a, b, ha, hb => h a b ha hb
  | k + 1, hk, a, b, ha, hb => by
    unfold FWm
    rw [FW_congr h k (by omega) a b ha hb, FW_congr h k (by omega) a k ha (by omega), FW_congr h k (by omega) k b (by omega) hb]
theorem FW_r {c : Nat → Nat → Nat} (h : ∀ a, c a a = 0) (k a : Nat) : FWm c (k + 1) a k = FWm c k a k := by
  show min _ _ = _
  rw [FW_diag h k k]; simp
theorem FW_c {c : Nat → Nat → Nat} (h : ∀ a, c a a = 0) (k b : Nat) : FWm c (k + 1) k b = FWm c k k b := by
  show min _ _ = _
  rw [FW_diag h k k]; simp
/-! what the reference's row w tells -/
def rd (w : Nat → Int32) (a b : Nat) : Nat := tn (w (12 + 12 * a + b))
def sh (w : Nat → Int32) (a b : Nat) : Nat := tn (w (156 + 12 * a + b))
def co (w : Nat → Int32) (a b : Nat) : Nat := if a = b then 0 else if 0 < rd w a b ∧ sh w a b = 0 then rd w a b else 999
def dist (w : Nat → Int32) (a b : Nat) : Nat := FWm (co w) 12 a b
/-- roads as they must be -/
def VRd (w : Nat → Int32) : Prop := ∀ a b, a < 12 → b < 12 → (w (12 + 12 * a + b) = nI (rd w a b) ∧ rd w a b ≤ 60 ∧ rd w a b = rd w b a) ∧ (w (156 + 12 * a + b) = nI (sh w a b) ∧ sh w a b ≤ 1 ∧ sh w a b = sh w b a)
theorem co_le {w : Nat → Int32} (h : VRd w) {a b : Nat} (ha : a < 12) (hb : b < 12) : co w a b ≤ 999 := by
  unfold co
  have := (h a b ha hb).1.2.1
  split
  · omega
  · split <;> omega
theorem co_diag (w : Nat → Int32) (a : Nat) : co w a a = 0 := by simp [co]
/-- the same, and no more than 999 anywhere -/
def co' (w : Nat → Int32) (a b : Nat) : Nat := min (co w (min a 11) (min b 11)) 999
theorem fA_cg {g g' : Nat → Nat → Nat} {old : Nat → Int32} (h : ∀ i j, i < 12 → j < 12 → g i j = g' i j) : fA g old = fA g' old := by
  funext q
  unfold fA pfx
  split
  · show nI _ = nI _
    rw [h _ _ (by omega) (by omega)]
  · rfl
theorem pfx_fA (g g' : Nat → Nat → Nat) (old : Nat → Int32) : pfx (12 * 12) (tA g) (fA g' old) = fA g old := by
  funext j
  show pfx 144 _ (pfx 144 _ _) j = pfx 144 _ _ j
  by_cases hj : j < 144
  · rw [pfx_lt hj, pfx_lt hj]
  · rw [pfx_ge hj, pfx_ge hj, pfx_ge hj]
theorem fA_u {g g' : Nat → Nat → Nat} {old : Nat → Int32} {a b : Nat} {v : Int32} (ha : a < 12) (hb : b < 12) (hv : v = nI (g' a b)) (h : ∀ i j, i < 12 → j < 12 → ¬ (i = a ∧ j = b) → g i j = g' i j) : upd (fA g old) (12 * a + b) v = fA g' old := by
  funext q
  unfold upd
  by_cases hq : q < 144
  · have hq2 : q = 12 * (q / 12) + q % 12 := by omega
    have hi : q / 12 < 12 := by omega
    have hj : q % 12 < 12 := by omega
    generalize q / 12 = i at hq2 hi
    generalize q % 12 = j at hq2 hj
    subst hq2
    rw [fA_at _ _ hi hj, fA_at _ _ hi hj]
    by_cases e : 12 * i + j = 12 * a + b
    · have e2 : i = a := by omega
      have e3 : j = b := by omega
      rw [if_pos e, hv, e2, e3]
    · rw [if_neg e, h i j hi hj (fun q => e (by rw [q.1, q.2]))]
  · rw [if_neg (by omega), fA, fA, pfx_ge hq, pfx_ge hq]
/-- which places of a table the class has shortened: rows before a, in row a those before b, and their mirrors -/
def shU (a b i j : Nat) : Bool := decide ((i < a ∧ j < a) ∨ (i = a ∧ j < b) ∨ (j = a ∧ i < b))
/-- the class's roads, laid one by one -/
def cI (l g c : Nat → Nat) (o : Nat → Bool) : Nat → Nat → Nat → Nat
  | 0, i, j => if i = j then 0 else 999
  | r + 1, i, j => if o r = true ∧ ((i = l r ∧ j = g r) ∨ (i = g r ∧ j = l r)) then c r else cI l g c o r i j
theorem cI_ok {l g c : Nat → Nat} {o : Nat → Bool} : ∀ {n : Nat}, (∀ k, k < n → l k < g k ∧ c k ≤ 60) → (∀ a b, cI l g c o n a b ≤ 999) ∧ (∀ a b, cI l g c o n a b = cI l g c o n b a) ∧ ∀ a, cI l g c o n a a = 0
  | 0, _ => ⟨fun a b => by unfold cI; split <;> omega, fun a b => by unfold cI; by_cases h : a = b <;> simp [h, eq_comm], fun a => by simp [cI]⟩
  | n + 1, h => by
    obtain ⟨h1, h2, h3⟩ := cI_ok (l := l) (g := g) (c := c) (o := o) (n := n) (fun k hk => h k (by omega))
    obtain ⟨q1, q2⟩ := h n (by omega)
    refine ⟨fun a b => ?_, fun a b => ?_, fun a => ?_⟩
    · unfold cI
      split
      · omega
      · exact h1 a b
    · unfold cI
      rw [h2 a b]
      have : (o n = true ∧ ((a = l n ∧ b = g n) ∨ (a = g n ∧ b = l n))) ↔ (o n = true ∧ ((b = l n ∧ a = g n) ∨ (b = g n ∧ a = l n))) := by
        constructor
        · rintro ⟨x, y | y⟩
          · exact ⟨x, Or.inr ⟨y.2, y.1⟩⟩
          · exact ⟨x, Or.inl ⟨y.2, y.1⟩⟩
        · rintro ⟨x, y | y⟩
          · exact ⟨x, Or.inr ⟨y.2, y.1⟩⟩
          · exact ⟨x, Or.inl ⟨y.2, y.1⟩⟩
      simp only [this]
    · unfold cI
      rw [if_neg (fun q => by omega), h3 a]
section SF
variable {pl : Option Nat} {tl : List LC} {d : Nat} {M : Mem}
theorem s_isOpen {Q : Int32 → Mem → Prop} {a b : Nat} (hw : VRd (M.1 53)) (ha : a < 12) (hb : b < 12) (hne : a ≠ b) (h : Q (if co (M.1 53) a b = 999 then nI 0 else nI 1) M) (h2 : co (M.1 53) a b ≠ 999 → co (M.1 53) a b = rd (M.1 53) a b) : exI (LY pl tl) (d + 1) 158 [.ref 52, .int (nI a), .int (nI b)] M Q := by
  obtain ⟨⟨r1, r2, r3⟩, s1, s2, s3⟩ := hw a b ha hb
  refine e_X11_isOpen ?_
  rw [pk_mul, nI_add, nI_add, nI_add, nI_add, z_cl (by omega), z_cl (by omega), r1, s1]
  refine ⟨(z_in (by omega) (by omega)).mpr (by omega), fun c => ?_, fun c => ⟨(z_in (by omega) (by omega)).mpr (by omega), fun c2 => ?_, fun c2 => ?_⟩⟩
  · rw [z_le0 (by omega)] at c
    rw [if_pos (by simp [co, hne, c])] at h
    exact h
  · rw [z_eq0 (by omega)] at c2
    rw [if_pos (by simp [co, hne, c2])] at h
    exact h
  · rw [z_le0 (by omega)] at c
    rw [z_eq0 (by omega)] at c2
    rw [if_neg (by simp [co, hne, c2, Nat.pos_of_ne_zero c]; omega)] at h
    exact h
theorem s_laysFar {Q : Mem → Prop} (hw : VRd (M.1 53)) (h : Q (sa M 58 (fA (dist (M.1 53)) (M.1 58)))) : exV (LY pl tl) (d + 2) 159 [.ref 52] M Q := by
  have hdg : ∀ a, co (M.1 53) a a = 0 := co_diag _
  refine e_X11_laysFar ?_
  -- the beginning
  have e0 : M = sa M 58 (pfx (12 * 0) (tA (co (M.1 53))) (M.1 58)) := by rw [Nat.mul_zero, pfx_0, sa_id]
  rw [e0]
  refine lp_0 (X := fx (LY pl tl) (d + 1) m_X11_laysFar (qV Q)) (fun a => (2, [some (.ref 52), some (.int (nI a)), none, none, none], [], sa M 58 (pfx (12 * a) (tA (co (M.1 53))) (M.1 58)))) 12 (fun a ha hn => ?_) ?_
  · refine c_X11_laysFar_2 (br_f (nI_ge ha (by omega)) ?_)
    refine lp_0 (X := fx (LY pl tl) (d + 1) m_X11_laysFar (qV Q)) (fun b => (10, [some (.ref 52), some (.int (nI a)), some (.int (nI b)), none, none], [], sa M 58 (pfx (12 * a + b) (tA (co (M.1 53))) (M.1 58)))) 12 (fun b hb hn => ?_) ?_
    · have hv : vp_in (nI 12 * nI a + nI b) 144 := by rw [pk_mul, nI_add]; exact (z_in (by omega) (by omega)).mpr (by omega)
      have hc : (nI 12 * nI a + nI b).toNatClampNeg = 12 * a + b := by rw [pk_mul, nI_add, z_cl (by omega)]
      refine c_X11_laysFar_10 (br_f (nI_ge hb (by omega)) ⟨fun c => ?_, fun c => ⟨hv, ?_⟩⟩)
      · have hne : a ≠ b := fun q => c (by rw [q])
        refine s_isOpen (M := sa M 58 _) hw ha hb hne ?_ ?_
        · by_cases hco : co (M.1 53) a b = 999
          · have hco' : co ((sa M 58 (pfx (12 * a + b) (tA (co (M.1 53))) (M.1 58))).1 53) a b = 999 := hco
            rw [if_pos hco']
            refine ⟨fun _ => ⟨hv, ?_⟩, fun q => absurd rfl q⟩
            rw [hc, sa_upd, pfx_s _ _ _ (by rw [tA_at _ hb, hco]), nI_add]
            exact hn
          · have hco' : ¬ co ((sa M 58 (pfx (12 * a + b) (tA (co (M.1 53))) (M.1 58))).1 53) a b = 999 := hco
            rw [if_neg hco']
            refine ⟨fun q => absurd q (by decide), fun _ => ⟨?_, hv, ?_⟩⟩
            · rw [pk_mul, nI_add, nI_add]; exact (z_in (by omega) (by omega)).mpr (by omega)
            · have hr : co (M.1 53) a b = rd (M.1 53) a b := by
                unfold co at hco ⊢
                rw [if_neg hne] at hco ⊢
                split
                · rfl
                · next q => rw [if_neg q] at hco; exact absurd rfl hco
              rw [hc, sa_upd, pfx_s _ _ _ ?_, nI_add]
              · exact hn
              · rw [tA_at _ hb, hr, pk_mul, nI_add, nI_add, z_cl (by omega)]
                exact (hw a b ha hb).1.1
        · intro hco
          have hco : co (M.1 53) a b ≠ 999 := hco
          show co (M.1 53) a b = rd (M.1 53) a b
          unfold co at hco ⊢
          rw [if_neg hne] at hco ⊢
          split
          · rfl
          · next q => rw [if_neg q] at hco; exact absurd rfl hco
      · have hab : a = b := (nI_eq (by omega) (by omega)).mp c
        rw [hc, sa_upd, pfx_s _ _ _ (by rw [tA_at _ hb, hab, hdg]), nI_add]
        exact hn
    · refine c_X11_laysFar_10 (br_t (nI_le (Nat.le_refl _) (by omega)) ?_)
      rw [nI_add]
      exact hn
  · refine c_X11_laysFar_2 (br_t (nI_le (Nat.le_refl _) (by omega)) ?_)
    -- the steps
    refine lp_0 (X := fx (LY pl tl) (d + 1) m_X11_laysFar (qV Q)) (fun k => (79, [some (.ref 52), some (.int (nI k)), none, none, none], [], sa M 58 (fA (FWm (co (M.1 53)) k) (M.1 58)))) 12 (fun k hk hn => ?_) ?_
    · refine c_X11_laysFar_79 (br_f (nI_ge hk (by omega)) ?_)
      have e1 : sa M 58 (fA (FWm (co (M.1 53)) k) (M.1 58)) = sa M 58 (pfx (12 * 0) (tA (FWm (co (M.1 53)) (k + 1))) (fA (FWm (co (M.1 53)) k) (M.1 58))) := by rw [Nat.mul_zero, pfx_0]
      rw [e1]
      refine lp_0 (X := fx (LY pl tl) (d + 1) m_X11_laysFar (qV Q)) (fun a => (87, [some (.ref 52), some (.int (nI k)), some (.int (nI a)), none, none], [], sa M 58 (pfx (12 * a) (tA (FWm (co (M.1 53)) (k + 1))) (fA (FWm (co (M.1 53)) k) (M.1 58))))) 12 (fun a ha hn => ?_) ?_
      · refine c_X11_laysFar_87 (br_f (nI_ge ha (by omega)) ?_)
        refine lp_0 (X := fx (LY pl tl) (d + 1) m_X11_laysFar (qV Q)) (fun b => (95, [some (.ref 52), some (.int (nI k)), some (.int (nI a)), some (.int (nI b)), none], [], sa M 58 (pfx (12 * a + b) (tA (FWm (co (M.1 53)) (k + 1))) (fA (FWm (co (M.1 53)) k) (M.1 58))))) 12 (fun b hb hn => ?_) ?_
        · have rdA : ∀ i j, i < 12 → j < 12 → (i = k ∨ j = k ∨ ¬ 12 * i + j < 12 * a + b) → pfx (12 * a + b) (tA (FWm (co (M.1 53)) (k + 1))) (fA (FWm (co (M.1 53)) k) (M.1 58)) (12 * i + j) = nI (FWm (co (M.1 53)) k i j) := by
            intro i j hi hj hh
            by_cases hl : 12 * i + j < 12 * a + b
            · rw [pfx_lt hl, tA_at _ hj]
              rcases hh with e | e | e
              · subst e; rw [FW_c hdg]
              · subst e; rw [FW_r hdg]
              · exact absurd hl e
            · rw [pfx_ge hl, fA_at _ _ hi hj]
          have bnd : ∀ i j, i < 12 → j < 12 → FWm (co (M.1 53)) k i j ≤ 999 := by
            intro i j hi hj
            have : FWm (co (M.1 53)) k i j = FWm (co' (M.1 53)) k i j := FW_congr (n := 12) (fun x y hx hy => by
              have := co_le hw hx hy
              unfold co'
              rw [Nat.min_eq_left (show x ≤ 11 by omega), Nat.min_eq_left (show y ≤ 11 by omega), Nat.min_eq_left this]) k (by omega) i j hi hj
            rw [this]
            exact FW_le (fun x y => Nat.min_le_right _ _) k i j
          have hb1 := bnd a k ha hk
          have hb2 := bnd k b hk hb
          have hb3 := bnd a b ha hb
          refine c_X11_laysFar_95 (br_f (nI_ge hb (by omega)) ?_)
          have ei : ∀ i j, i < 12 → j < 12 → (nI 12 * nI i + nI j).toNatClampNeg = 12 * i + j := fun i j hi hj => by rw [pk_mul, nI_add, z_cl (by omega)]
          have vi : ∀ i j, i < 12 → j < 12 → vp_in (nI 12 * nI i + nI j) 144 := fun i j hi hj => by rw [pk_mul, nI_add]; exact (z_in (by omega) (by omega)).mpr (by omega)
          simp only [ei a k ha hk, ei k b hk hb, ei a b ha hb, sa_s, rdA a k ha hk (Or.inr (Or.inl rfl)), rdA k b hk hb (Or.inl rfl), rdA a b ha hb (Or.inr (Or.inr (Nat.lt_irrefl _))), nI_add]
          refine ⟨vi a k ha hk, vi k b hk hb, vi a b ha hb, fun c => ?_, fun c => ⟨vi a b ha hb, ?_⟩⟩
          · rw [z_le (by omega) (by omega)] at c
            have ev : pfx (12 * a + b) (tA (FWm (co (M.1 53)) (k + 1))) (fA (FWm (co (M.1 53)) k) (M.1 58)) = pfx (12 * a + b + 1) (tA (FWm (co (M.1 53)) (k + 1))) (fA (FWm (co (M.1 53)) k) (M.1 58)) := by
              rw [← pfx_s (12 * a + b) _ _ (v := nI (FWm (co (M.1 53)) k a b)) (by rw [tA_at _ hb]; show _ = nI (min _ _); rw [Nat.min_eq_left c])]
              funext j
              unfold upd
              split
              · next e => subst e; exact rdA a b ha hb (Or.inr (Or.inr (Nat.lt_irrefl _)))
              · rfl
            rw [ev]
            exact hn
          · rw [z_le (by omega) (by omega)] at c
            rw [sa_upd, pfx_s _ _ _ (by rw [tA_at _ hb]; show _ = nI (min _ _); rw [Nat.min_eq_right (by omega)])]
            exact hn
        · refine c_X11_laysFar_95 (br_t (nI_le (Nat.le_refl _) (by omega)) ?_)
          rw [nI_add]
          exact hn
      · refine c_X11_laysFar_87 (br_t (nI_le (Nat.le_refl _) (by omega)) ?_)
        rw [nI_add]
        have e2 : pfx (12 * 12) (tA (FWm (co (M.1 53)) (k + 1))) (fA (FWm (co (M.1 53)) k) (M.1 58)) = fA (FWm (co (M.1 53)) (k + 1)) (M.1 58) := by
          exact pfx_fA _ _ _
        rw [e2]
        exact hn
    · exact c_X11_laysFar_79 (br_t (nI_le (Nat.le_refl _) (by omega)) h)

theorem s_fill_22 {Q : Mem → Prop} {v : Int32} (h : Q (sa M 22 (pfx 144 (fun _ => v) (M.1 22)))) : exV (LY pl tl) (d + 1) 1 [.ref 22, .int v] M Q := by
  refine e_J_fill_22 ?_
  have e0 : M = sa M 22 (pfx 0 (fun _ => v) (M.1 22)) := by rw [pfx_0, sa_id]
  rw [e0]
  refine lp_0 (X := fx (LY pl tl) d m_J_fill (qV Q)) (fun a => (5, [some (.ref 22), some (.int v), some (.int (nI a)), some (.int (nI 144))], [], sa M 22 (pfx a (fun _ => v) (M.1 22)))) 144 (fun a ha hn => ?_) ?_
  · refine c_J_fill_22_5 (br_f (nI_ge ha (by omega)) ⟨(z_in (by omega) (by omega)).mpr ha, ?_⟩)
    rw [z_cl (by omega), sa_upd, pfx_s _ _ _ rfl, nI_add]
    exact hn
  · exact c_J_fill_22_5 (br_t (nI_le (Nat.le_refl _) (by omega)) h)
theorem s_shorten_22 {Q : Mem → Prop} {k : Nat} {D : Nat → Nat → Nat} (hk : k < 12) (hA : ∀ a b, a < 12 → b < 12 → M.1 22 (12 * a + b) = nI (D a b)) (hb : ∀ a b, a < 12 → b < 12 → D a b ≤ 999) (hs : ∀ a b, a < 12 → b < 12 → D a b = D b a) (h0 : ∀ a, a < 12 → D a a = 0) (h : Q (sa M 22 (fA (fun a b => min (D a b) (D a k + D k b)) (M.1 22)))) : exV (LY pl tl) (d + 1) 83 [.ref 22, .int (nI k)] M Q := by
  refine e_X3_shorten_22 ?_
  have e0 : M = sa M 22 (fA (fun i j => if shU 0 0 i j then min (D i j) (D i k + D k j) else D i j) (M.1 22)) := by
    refine (sa_eq (fun j => ?_)).symm
    by_cases hj : j < 144
    · rw [fA, pfx_lt hj]
      have := hA (j / 12) (j % 12) (by omega) (by omega)
      rw [show 12 * (j / 12) + j % 12 = j by omega] at this
      rw [this]
      simp [tA, shU]
    · rw [fA, pfx_ge hj]
  have ei : ∀ i j, i < 12 → j < 12 → (nI 12 * nI i + nI j).toNatClampNeg = 12 * i + j := fun i j hi hj => by rw [pk_mul, nI_add, z_cl (by omega)]
  have vi : ∀ i j, i < 12 → j < 12 → vp_in (nI 12 * nI i + nI j) 144 := fun i j hi hj => by rw [pk_mul, nI_add]; exact (z_in (by omega) (by omega)).mpr (by omega)
  have rk : ∀ (u : Nat → Nat → Bool) i, i < 12 → (if u i k then min (D i k) (D i k + D k k) else D i k) = D i k := by
    intro u i hi
    rw [h0 k hk]
    split <;> simp
  have ck : ∀ (u : Nat → Nat → Bool) j, j < 12 → (if u k j then min (D k j) (D k k + D k j) else D k j) = D k j := by
    intro u j hj
    rw [h0 k hk]
    split <;> simp
  rw [e0]
  refine lp_0 (X := fx (LY pl tl) d m_X3_shorten (qV Q)) (fun a => (2, [some (.ref 22), some (.int (nI k)), some (.int (nI a)), none, none, none], [], sa M 22 (fA (fun i j => if shU a 0 i j then min (D i j) (D i k + D k j) else D i j) (M.1 22)))) 12 (fun a ha hn => ?_) ?_
  · refine c_X3_shorten_22_2 (br_f (nI_ge ha (by omega)) ⟨vi a k ha hk, ?_⟩)
    rw [ei a k ha hk, sa_s, fA_at _ _ ha hk, rk _ a ha]
    have hbk := hb a k ha hk
    refine ⟨fun c => ?_, fun c => ?_⟩
    · rw [z_le (by omega) (by omega)] at c
      rw [nI_add]
      have ev : fA (fun i j => if shU a 0 i j then min (D i j) (D i k + D k j) else D i j) (M.1 22) = fA (fun i j => if shU (a + 1) 0 i j then min (D i j) (D i k + D k j) else D i j) (M.1 22) := by
        refine fA_cg (fun i j hi hj => ?_)
        by_cases hu : shU a 0 i j
        · have : shU (a + 1) 0 i j := by simp [shU] at hu ⊢; omega
          rw [if_pos hu, if_pos this]
        · rw [if_neg hu]
          split
          · next hu2 =>
            have hij : i = a ∨ j = a := by simp [shU] at hu hu2; omega
            have b1 := hb i j hi hj
            rcases hij with e | e
            · subst e; omega
            · subst e
              rw [hs k j hk hj]
              omega
          · rfl
      rw [ev]
      exact hn
    · rw [z_le (by omega) (by omega)] at c
      refine lp_0 (X := fx (LY pl tl) d m_X3_shorten (qV Q)) (fun b => (27, [some (.ref 22), some (.int (nI k)), some (.int (nI a)), some (.int (nI (D a k))), some (.int (nI b)), none], [], sa M 22 (fA (fun i j => if shU a b i j then min (D i j) (D i k + D k j) else D i j) (M.1 22)))) a (fun b hb' hn => ?_) ?_
      · have hb12 : b < 12 := by omega
        have hbb := hb k b hk hb12
        have hbc := hb a b ha hb12
        refine c_X3_shorten_22_27 (br_f (nI_ge hb' (by omega)) ?_)
        have huab : shU a b a b = false := by unfold shU; rw [decide_eq_false_iff_not]; omega
        rw [ei k b hk hb12, ei a b ha hb12, ei b a hb12 ha, sa_s, fA_at _ _ hk hb12, fA_at _ _ ha hb12, ck _ b hb12, huab, nI_add, nI_add]
        refine ⟨vi k b hk hb12, vi a b ha hb12, fun c2 => ?_, fun c2 => ⟨vi a b ha hb12, vi b a hb12 ha, ?_⟩⟩
        · rw [z_le (by simp; omega) (by omega)] at c2
          have ev : fA (fun i j => if shU a b i j then min (D i j) (D i k + D k j) else D i j) (M.1 22) = fA (fun i j => if shU a (b + 1) i j then min (D i j) (D i k + D k j) else D i j) (M.1 22) := by
            refine fA_cg (fun i j hi hj => ?_)
            by_cases hu : shU a b i j
            · have : shU a (b + 1) i j := by simp [shU] at hu ⊢; omega
              rw [if_pos hu, if_pos this]
            · rw [if_neg hu]
              split
              · next hu2 =>
                have hij : (i = a ∧ j = b) ∨ (i = b ∧ j = a) := by simp [shU] at hu hu2; omega
                simp at c2
                rcases hij with ⟨rfl, rfl⟩ | ⟨rfl, rfl⟩
                · omega
                · rw [hs i j hi hj, hs i k hi hk, hs k j hk hj]; omega
              · rfl
          rw [ev]
          exact hn
        · rw [z_le (by simp; omega) (by omega)] at c2
          simp at c2
          rw [sa_upd, sa_upd]
          have ev : upd (upd (fA (fun i j => if shU a b i j then min (D i j) (D i k + D k j) else D i j) (M.1 22)) (12 * a + b) (nI (D a k + D k b))) (12 * b + a) (nI (D a k + D k b)) = fA (fun i j => if shU a (b + 1) i j then min (D i j) (D i k + D k j) else D i j) (M.1 22) := by
            funext q
            unfold upd
            by_cases hq : q < 144
            · have hq2 : q = 12 * (q / 12) + q % 12 := by omega
              have hi : q / 12 < 12 := by omega
              have hj : q % 12 < 12 := by omega
              generalize q / 12 = i at hq2 hi
              generalize q % 12 = j at hq2 hj
              subst hq2
              rw [fA_at _ _ hi hj, fA_at _ _ hi hj]
              by_cases e1 : 12 * i + j = 12 * b + a
              · have e2 : i = b := by omega
                have e3 : j = a := by omega
                subst e2; subst e3
                have : shU j (i + 1) i j = true := by simp [shU]
                rw [if_pos rfl, if_pos this, hs i j hi hj, hs i k hi hk, hs k j hk hj]
                congr 1; omega
              · rw [if_neg e1]
                by_cases e4 : 12 * i + j = 12 * a + b
                · have e2 : i = a := by omega
                  have e3 : j = b := by omega
                  subst e2; subst e3
                  have : shU i (j + 1) i j = true := by simp [shU]
                  rw [if_pos rfl, if_pos this]
                  congr 1; omega
                · rw [if_neg e4]
                  have : shU a (b + 1) i j = shU a b i j := by
                    unfold shU
                    rw [Bool.eq_iff_iff]
                    simp
                    omega
                  rw [this]
            · rw [if_neg (by omega), if_neg (by omega), fA, fA, pfx_ge hq, pfx_ge hq]
          rw [ev]
          exact hn
      · refine c_X3_shorten_22_27 (br_t (nI_le (Nat.le_refl _) (by omega)) ?_)
        rw [nI_add]
        have ev : fA (fun i j => if shU a a i j then min (D i j) (D i k + D k j) else D i j) (M.1 22) = fA (fun i j => if shU (a + 1) 0 i j then min (D i j) (D i k + D k j) else D i j) (M.1 22) := by
          refine fA_cg (fun i j hi hj => ?_)
          by_cases hu : shU a a i j
          · have : shU (a + 1) 0 i j := by simp [shU] at hu ⊢; omega
            rw [if_pos hu, if_pos this]
          · rw [if_neg hu]
            split
            · next hu2 =>
              have hij : i = a ∧ j = a := by simp [shU] at hu hu2; omega
              rw [hij.1, hij.2, h0 a ha]; simp
            · rfl
        rw [ev]
        exact hn
  · refine c_X3_shorten_22_2 (br_t (nI_le (Nat.le_refl _) (by omega)) ?_)
    have ev : fA (fun i j => if shU 12 0 i j then min (D i j) (D i k + D k j) else D i j) (M.1 22) = fA (fun a b => min (D a b) (D a k + D k b)) (M.1 22) := by
      refine fA_cg (fun i j hi hj => ?_)
      have : shU 12 0 i j := by simp [shU, hi, hj]
      rw [if_pos this]
    rw [ev]
    exact h
theorem s_measure_16_22 {Q : Mem → Prop} {lo : Int32} {n : Nat} {l g c_ s : Nat → Nat} (hn : n ≤ 66) (hM : M.1 16 7 = nI n) (hl : ∀ k, k < n → M.1 18 k = nI (l k) ∧ M.1 19 k = nI (g k) ∧ M.1 20 k = nI (c_ k) ∧ M.1 21 k = nI (s k) ∧ l k < g k ∧ g k < 12 ∧ c_ k ≤ 60 ∧ s k ≤ 1) (h : Q (sa M 22 (fA (FWm (cI l g c_ (fun k => decide (s k = 0) && !decide (nI k = lo)) n) 12) (M.1 22)))) : exV (LY pl tl) (d + 2) 82 [.ref 16, .ref 22, .int lo] M Q := by
  refine e_X3_measure_16_22 (br_t (nI_le (Nat.le_refl _) (by omega)) (s_fill_22 ?_))
  have e0 : sa M 22 (pfx 144 (fun _ => nI 999) (M.1 22)) = sa M 22 (fA (fun i j => if i = j ∧ i < 0 then 0 else 999) (M.1 22)) := by
    refine sa_cg (fun j => ?_)
    by_cases hj : j < 144
    · rw [pfx_lt hj, fA, pfx_lt hj]; simp [tA]
    · rw [pfx_ge hj, fA, pfx_ge hj]
  rw [e0]
  refine lp_0 (X := fx (LY pl tl) (d + 1) m_X3_measure (qV Q)) (fun a => (18, [some (.ref 16), some (.ref 22), some (.int lo), some (.int (nI a))], [], sa M 22 (fA (fun i j => if i = j ∧ i < a then 0 else 999) (M.1 22)))) 12 (fun a ha hn => ?_) ?_
  · refine c_X3_measure_16_22_18 (br_f (nI_ge ha (by omega)) ⟨by rw [pk_mul, nI_add]; exact (z_in (by omega) (by omega)).mpr (by omega), ?_⟩)
    have hcl : (nI 12 * nI a + nI a).toNatClampNeg = 12 * a + a := by rw [pk_mul, nI_add, z_cl (by omega)]
    rw [hcl, sa_upd, nI_add]
    have ev : upd (fA (fun i j => if i = j ∧ i < a then 0 else 999) (M.1 22)) (12 * a + a) (nI 0) = fA (fun i j => if i = j ∧ i < a + 1 then 0 else 999) (M.1 22) := by
      refine fA_u ha ha (by simp) (fun i j hi hj hne => ?_)
      by_cases e : i = j
      · subst e
        have : i ≠ a := fun q => hne ⟨q, q⟩
        by_cases h2 : i < a
        · rw [if_pos ⟨rfl, h2⟩, if_pos ⟨rfl, by omega⟩]
        · rw [if_neg (fun q => h2 q.2), if_neg (fun q => by omega)]
      · rw [if_neg (fun q => e q.1), if_neg (fun q => e q.1)]
    rw [ev]
    exact hn
  · refine c_X3_measure_16_22_18 (br_t (nI_le (Nat.le_refl _) (by omega)) ?_)
    have e1 : sa M 22 (fA (fun i j => if i = j ∧ i < 12 then 0 else 999) (M.1 22)) = sa M 22 (fA (cI l g c_ (fun k => decide (s k = 0) && !decide (nI k = lo)) 0) (M.1 22)) := by
      congr 1
      refine fA_cg (fun i j hi hj => ?_)
      simp [cI, hi]
    rw [e1]
    refine lp_0 (X := fx (LY pl tl) (d + 1) m_X3_measure (qV Q)) (fun r => (41, [some (.ref 16), some (.ref 22), some (.int lo), some (.int (nI r))], [], sa M 22 (fA (cI l g c_ (fun k => decide (s k = 0) && !decide (nI k = lo)) r) (M.1 22)))) n (fun r hr hn' => ?_) ?_
    · obtain ⟨q1, q2, q3, q4, q5, q6, q7, q8⟩ := hl r hr
      have hv : vp_in (nI r) 66 := (z_in (by omega) (by omega)).mpr (by omega)
      refine c_X3_measure_16_22_41 ?_
      simp only [z_cl (show r < 2147483648 by omega), sa_n (show (16 : Nat) ≠ 22 by decide), sa_n (show (21 : Nat) ≠ 22 by decide), sa_n (show (18 : Nat) ≠ 22 by decide), sa_n (show (19 : Nat) ≠ 22 by decide), sa_n (show (20 : Nat) ≠ 22 by decide), hM, q1, q2, q3, q4, pk_mul, nI_add, z_cl (show 12 * l r + g r < 2147483648 by omega), z_cl (show 12 * g r + l r < 2147483648 by omega)]
      refine br_f (nI_ge hr (by omega)) ⟨hv, fun c => ?_, fun c => ⟨fun c2 => ?_, fun c2 => ⟨hv, hv, hv, (z_in (by omega) (by omega)).mpr (by omega), hv, hv, hv, (z_in (by omega) (by omega)).mpr (by omega), ?_⟩⟩⟩
      · rw [z_eq0 (by omega)] at c
        have ev : cI l g c_ (fun k => decide (s k = 0) && !decide (nI k = lo)) (r + 1) = cI l g c_ (fun k => decide (s k = 0) && !decide (nI k = lo)) r := by
          funext i j; simp [cI, c]
        rw [ev] at hn'
        exact hn'
      · have ev : cI l g c_ (fun k => decide (s k = 0) && !decide (nI k = lo)) (r + 1) = cI l g c_ (fun k => decide (s k = 0) && !decide (nI k = lo)) r := by
          funext i j; simp [cI, c2]
        rw [ev] at hn'
        exact hn'
      · rw [z_eq0 (by omega)] at c
        rw [sa_upd, sa_upd]
        have ev : upd (upd (fA (cI l g c_ (fun k => decide (s k = 0) && !decide (nI k = lo)) r) (M.1 22)) (12 * l r + g r) (nI (c_ r))) (12 * g r + l r) (nI (c_ r)) = fA (cI l g c_ (fun k => decide (s k = 0) && !decide (nI k = lo)) (r + 1)) (M.1 22) := by
          have hop : (decide (s r = 0) && !decide (nI r = lo)) = true := by simp [c, c2]
          funext q
          unfold upd
          by_cases hq : q < 144
          · have hq2 : q = 12 * (q / 12) + q % 12 := by omega
            have hi : q / 12 < 12 := by omega
            have hj : q % 12 < 12 := by omega
            generalize q / 12 = i at hq2 hi
            generalize q % 12 = j at hq2 hj
            subst hq2
            rw [fA_at _ _ hi hj, fA_at _ _ hi hj]
            by_cases e1 : 12 * i + j = 12 * g r + l r
            · have e2 : i = g r := by omega
              have e3 : j = l r := by omega
              rw [if_pos e1]
              simp [cI, hop, e2, e3]
            · rw [if_neg e1]
              by_cases e4 : 12 * i + j = 12 * l r + g r
              · have e2 : i = l r := by omega
                have e3 : j = g r := by omega
                rw [if_pos e4]
                simp [cI, hop, e2, e3]
              · rw [if_neg e4]
                have n1 : ¬ (i = l r ∧ j = g r) := fun q => e4 (by rw [q.1, q.2])
                have n2 : ¬ (i = g r ∧ j = l r) := fun q => e1 (by rw [q.1, q.2])
                simp [cI, n1, n2]
          · rw [if_neg (by omega), if_neg (by omega), fA, fA, pfx_ge hq, pfx_ge hq]
        rw [ev]
        exact hn'
    · refine c_X3_measure_16_22_41 ?_
      rw [sa_n (show (16 : Nat) ≠ 22 by decide), hM]
      refine br_t (nI_le (Nat.le_refl _) (by omega)) ?_
      have hcs := cI_ok (l := l) (g := g) (c := c_) (o := fun k => decide (s k = 0) && !decide (nI k = lo)) (fun k hk => ⟨(hl k hk).2.2.2.2.1, (hl k hk).2.2.2.2.2.2.1⟩ : ∀ k, k < n → l k < g k ∧ c_ k ≤ 60)
      refine lp_0 (X := fx (LY pl tl) (d + 1) m_X3_measure (qV Q)) (fun k => (119, [none, some (.ref 22), none, some (.int (nI k))], [], sa M 22 (fA (FWm (cI l g c_ (fun k => decide (s k = 0) && !decide (nI k = lo)) n) k) (M.1 22)))) 12 (fun k hk hn' => ?_) ?_
      · refine c_X3_measure_16_22_119 (br_f (nI_ge hk (by omega)) ?_)
        refine s_shorten_22 (D := FWm (cI l g c_ (fun k => decide (s k = 0) && !decide (nI k = lo)) n) k) hk (fun a b ha hb => by rw [sa_s, fA_at _ _ ha hb]) (fun a b _ _ => FW_le hcs.1 k a b) (fun a b _ _ => FW_sym hcs.2.1 k a b) (fun a _ => FW_diag hcs.2.2 k a) ?_
        rw [nI_add, sa_sa, sa_s]
        have ev : fA (fun a b => min (FWm (cI l g c_ (fun k => decide (s k = 0) && !decide (nI k = lo)) n) k a b) (FWm (cI l g c_ (fun k => decide (s k = 0) && !decide (nI k = lo)) n) k a k + FWm (cI l g c_ (fun k => decide (s k = 0) && !decide (nI k = lo)) n) k k b)) (fA (FWm (cI l g c_ (fun k => decide (s k = 0) && !decide (nI k = lo)) n) k) (M.1 22)) = fA (FWm (cI l g c_ (fun k => decide (s k = 0) && !decide (nI k = lo)) n) (k + 1)) (M.1 22) := by
          funext q
          by_cases hq : q < 144
          · show pfx 144 _ _ q = pfx 144 _ _ q
            rw [pfx_lt hq, pfx_lt hq]; rfl
          · show pfx 144 _ (pfx 144 _ _) q = pfx 144 _ _ q
            rw [pfx_ge hq, pfx_ge hq, pfx_ge hq]
        rw [ev]
        exact hn'
      · exact c_X3_measure_16_22_119 (br_t (nI_le (Nat.le_refl _) (by omega)) h)

theorem s_fill_45 {Q : Mem → Prop} {v : Int32} (h : Q (sa M 45 (pfx 144 (fun _ => v) (M.1 45)))) : exV (LY pl tl) (d + 1) 1 [.ref 45, .int v] M Q := by
  refine e_J_fill_45 ?_
  have e0 : M = sa M 45 (pfx 0 (fun _ => v) (M.1 45)) := by rw [pfx_0, sa_id]
  rw [e0]
  refine lp_0 (X := fx (LY pl tl) d m_J_fill (qV Q)) (fun a => (5, [some (.ref 45), some (.int v), some (.int (nI a)), some (.int (nI 144))], [], sa M 45 (pfx a (fun _ => v) (M.1 45)))) 144 (fun a ha hn => ?_) ?_
  · refine c_J_fill_45_5 (br_f (nI_ge ha (by omega)) ⟨(z_in (by omega) (by omega)).mpr ha, ?_⟩)
    rw [z_cl (by omega), sa_upd, pfx_s _ _ _ rfl, nI_add]
    exact hn
  · exact c_J_fill_45_5 (br_t (nI_le (Nat.le_refl _) (by omega)) h)
theorem s_shorten_45 {Q : Mem → Prop} {k : Nat} {D : Nat → Nat → Nat} (hk : k < 12) (hA : ∀ a b, a < 12 → b < 12 → M.1 45 (12 * a + b) = nI (D a b)) (hb : ∀ a b, a < 12 → b < 12 → D a b ≤ 999) (hs : ∀ a b, a < 12 → b < 12 → D a b = D b a) (h0 : ∀ a, a < 12 → D a a = 0) (h : Q (sa M 45 (fA (fun a b => min (D a b) (D a k + D k b)) (M.1 45)))) : exV (LY pl tl) (d + 1) 83 [.ref 45, .int (nI k)] M Q := by
  refine e_X3_shorten_45 ?_
  have e0 : M = sa M 45 (fA (fun i j => if shU 0 0 i j then min (D i j) (D i k + D k j) else D i j) (M.1 45)) := by
    refine (sa_eq (fun j => ?_)).symm
    by_cases hj : j < 144
    · rw [fA, pfx_lt hj]
      have := hA (j / 12) (j % 12) (by omega) (by omega)
      rw [show 12 * (j / 12) + j % 12 = j by omega] at this
      rw [this]
      simp [tA, shU]
    · rw [fA, pfx_ge hj]
  have ei : ∀ i j, i < 12 → j < 12 → (nI 12 * nI i + nI j).toNatClampNeg = 12 * i + j := fun i j hi hj => by rw [pk_mul, nI_add, z_cl (by omega)]
  have vi : ∀ i j, i < 12 → j < 12 → vp_in (nI 12 * nI i + nI j) 144 := fun i j hi hj => by rw [pk_mul, nI_add]; exact (z_in (by omega) (by omega)).mpr (by omega)
  have rk : ∀ (u : Nat → Nat → Bool) i, i < 12 → (if u i k then min (D i k) (D i k + D k k) else D i k) = D i k := by
    intro u i hi
    rw [h0 k hk]
    split <;> simp
  have ck : ∀ (u : Nat → Nat → Bool) j, j < 12 → (if u k j then min (D k j) (D k k + D k j) else D k j) = D k j := by
    intro u j hj
    rw [h0 k hk]
    split <;> simp
  rw [e0]
  refine lp_0 (X := fx (LY pl tl) d m_X3_shorten (qV Q)) (fun a => (2, [some (.ref 45), some (.int (nI k)), some (.int (nI a)), none, none, none], [], sa M 45 (fA (fun i j => if shU a 0 i j then min (D i j) (D i k + D k j) else D i j) (M.1 45)))) 12 (fun a ha hn => ?_) ?_
  · refine c_X3_shorten_45_2 (br_f (nI_ge ha (by omega)) ⟨vi a k ha hk, ?_⟩)
    rw [ei a k ha hk, sa_s, fA_at _ _ ha hk, rk _ a ha]
    have hbk := hb a k ha hk
    refine ⟨fun c => ?_, fun c => ?_⟩
    · rw [z_le (by omega) (by omega)] at c
      rw [nI_add]
      have ev : fA (fun i j => if shU a 0 i j then min (D i j) (D i k + D k j) else D i j) (M.1 45) = fA (fun i j => if shU (a + 1) 0 i j then min (D i j) (D i k + D k j) else D i j) (M.1 45) := by
        refine fA_cg (fun i j hi hj => ?_)
        by_cases hu : shU a 0 i j
        · have : shU (a + 1) 0 i j := by simp [shU] at hu ⊢; omega
          rw [if_pos hu, if_pos this]
        · rw [if_neg hu]
          split
          · next hu2 =>
            have hij : i = a ∨ j = a := by simp [shU] at hu hu2; omega
            have b1 := hb i j hi hj
            rcases hij with e | e
            · subst e; omega
            · subst e
              rw [hs k j hk hj]
              omega
          · rfl
      rw [ev]
      exact hn
    · rw [z_le (by omega) (by omega)] at c
      refine lp_0 (X := fx (LY pl tl) d m_X3_shorten (qV Q)) (fun b => (27, [some (.ref 45), some (.int (nI k)), some (.int (nI a)), some (.int (nI (D a k))), some (.int (nI b)), none], [], sa M 45 (fA (fun i j => if shU a b i j then min (D i j) (D i k + D k j) else D i j) (M.1 45)))) a (fun b hb' hn => ?_) ?_
      · have hb12 : b < 12 := by omega
        have hbb := hb k b hk hb12
        have hbc := hb a b ha hb12
        refine c_X3_shorten_45_27 (br_f (nI_ge hb' (by omega)) ?_)
        have huab : shU a b a b = false := by unfold shU; rw [decide_eq_false_iff_not]; omega
        rw [ei k b hk hb12, ei a b ha hb12, ei b a hb12 ha, sa_s, fA_at _ _ hk hb12, fA_at _ _ ha hb12, ck _ b hb12, huab, nI_add, nI_add]
        refine ⟨vi k b hk hb12, vi a b ha hb12, fun c2 => ?_, fun c2 => ⟨vi a b ha hb12, vi b a hb12 ha, ?_⟩⟩
        · rw [z_le (by simp; omega) (by omega)] at c2
          have ev : fA (fun i j => if shU a b i j then min (D i j) (D i k + D k j) else D i j) (M.1 45) = fA (fun i j => if shU a (b + 1) i j then min (D i j) (D i k + D k j) else D i j) (M.1 45) := by
            refine fA_cg (fun i j hi hj => ?_)
            by_cases hu : shU a b i j
            · have : shU a (b + 1) i j := by simp [shU] at hu ⊢; omega
              rw [if_pos hu, if_pos this]
            · rw [if_neg hu]
              split
              · next hu2 =>
                have hij : (i = a ∧ j = b) ∨ (i = b ∧ j = a) := by simp [shU] at hu hu2; omega
                simp at c2
                rcases hij with ⟨rfl, rfl⟩ | ⟨rfl, rfl⟩
                · omega
                · rw [hs i j hi hj, hs i k hi hk, hs k j hk hj]; omega
              · rfl
          rw [ev]
          exact hn
        · rw [z_le (by simp; omega) (by omega)] at c2
          simp at c2
          rw [sa_upd, sa_upd]
          have ev : upd (upd (fA (fun i j => if shU a b i j then min (D i j) (D i k + D k j) else D i j) (M.1 45)) (12 * a + b) (nI (D a k + D k b))) (12 * b + a) (nI (D a k + D k b)) = fA (fun i j => if shU a (b + 1) i j then min (D i j) (D i k + D k j) else D i j) (M.1 45) := by
            funext q
            unfold upd
            by_cases hq : q < 144
            · have hq2 : q = 12 * (q / 12) + q % 12 := by omega
              have hi : q / 12 < 12 := by omega
              have hj : q % 12 < 12 := by omega
              generalize q / 12 = i at hq2 hi
              generalize q % 12 = j at hq2 hj
              subst hq2
              rw [fA_at _ _ hi hj, fA_at _ _ hi hj]
              by_cases e1 : 12 * i + j = 12 * b + a
              · have e2 : i = b := by omega
                have e3 : j = a := by omega
                subst e2; subst e3
                have : shU j (i + 1) i j = true := by simp [shU]
                rw [if_pos rfl, if_pos this, hs i j hi hj, hs i k hi hk, hs k j hk hj]
                congr 1; omega
              · rw [if_neg e1]
                by_cases e4 : 12 * i + j = 12 * a + b
                · have e2 : i = a := by omega
                  have e3 : j = b := by omega
                  subst e2; subst e3
                  have : shU i (j + 1) i j = true := by simp [shU]
                  rw [if_pos rfl, if_pos this]
                  congr 1; omega
                · rw [if_neg e4]
                  have : shU a (b + 1) i j = shU a b i j := by
                    unfold shU
                    rw [Bool.eq_iff_iff]
                    simp
                    omega
                  rw [this]
            · rw [if_neg (by omega), if_neg (by omega), fA, fA, pfx_ge hq, pfx_ge hq]
          rw [ev]
          exact hn
      · refine c_X3_shorten_45_27 (br_t (nI_le (Nat.le_refl _) (by omega)) ?_)
        rw [nI_add]
        have ev : fA (fun i j => if shU a a i j then min (D i j) (D i k + D k j) else D i j) (M.1 45) = fA (fun i j => if shU (a + 1) 0 i j then min (D i j) (D i k + D k j) else D i j) (M.1 45) := by
          refine fA_cg (fun i j hi hj => ?_)
          by_cases hu : shU a a i j
          · have : shU (a + 1) 0 i j := by simp [shU] at hu ⊢; omega
            rw [if_pos hu, if_pos this]
          · rw [if_neg hu]
            split
            · next hu2 =>
              have hij : i = a ∧ j = a := by simp [shU] at hu hu2; omega
              rw [hij.1, hij.2, h0 a ha]; simp
            · rfl
        rw [ev]
        exact hn
  · refine c_X3_shorten_45_2 (br_t (nI_le (Nat.le_refl _) (by omega)) ?_)
    have ev : fA (fun i j => if shU 12 0 i j then min (D i j) (D i k + D k j) else D i j) (M.1 45) = fA (fun a b => min (D a b) (D a k + D k b)) (M.1 45) := by
      refine fA_cg (fun i j hi hj => ?_)
      have : shU 12 0 i j := by simp [shU, hi, hj]
      rw [if_pos this]
    rw [ev]
    exact h
theorem s_measure_16_45 {Q : Mem → Prop} {lo : Int32} {n : Nat} {l g c_ s : Nat → Nat} (hn : n ≤ 66) (hM : M.1 16 7 = nI n) (hl : ∀ k, k < n → M.1 18 k = nI (l k) ∧ M.1 19 k = nI (g k) ∧ M.1 20 k = nI (c_ k) ∧ M.1 21 k = nI (s k) ∧ l k < g k ∧ g k < 12 ∧ c_ k ≤ 60 ∧ s k ≤ 1) (h : Q (sa M 45 (fA (FWm (cI l g c_ (fun k => decide (s k = 0) && !decide (nI k = lo)) n) 12) (M.1 45)))) : exV (LY pl tl) (d + 2) 82 [.ref 16, .ref 45, .int lo] M Q := by
  refine e_X3_measure_16_45 (br_t (nI_le (Nat.le_refl _) (by omega)) (s_fill_45 ?_))
  have e0 : sa M 45 (pfx 144 (fun _ => nI 999) (M.1 45)) = sa M 45 (fA (fun i j => if i = j ∧ i < 0 then 0 else 999) (M.1 45)) := by
    refine sa_cg (fun j => ?_)
    by_cases hj : j < 144
    · rw [pfx_lt hj, fA, pfx_lt hj]; simp [tA]
    · rw [pfx_ge hj, fA, pfx_ge hj]
  rw [e0]
  refine lp_0 (X := fx (LY pl tl) (d + 1) m_X3_measure (qV Q)) (fun a => (18, [some (.ref 16), some (.ref 45), some (.int lo), some (.int (nI a))], [], sa M 45 (fA (fun i j => if i = j ∧ i < a then 0 else 999) (M.1 45)))) 12 (fun a ha hn => ?_) ?_
  · refine c_X3_measure_16_45_18 (br_f (nI_ge ha (by omega)) ⟨by rw [pk_mul, nI_add]; exact (z_in (by omega) (by omega)).mpr (by omega), ?_⟩)
    have hcl : (nI 12 * nI a + nI a).toNatClampNeg = 12 * a + a := by rw [pk_mul, nI_add, z_cl (by omega)]
    rw [hcl, sa_upd, nI_add]
    have ev : upd (fA (fun i j => if i = j ∧ i < a then 0 else 999) (M.1 45)) (12 * a + a) (nI 0) = fA (fun i j => if i = j ∧ i < a + 1 then 0 else 999) (M.1 45) := by
      refine fA_u ha ha (by simp) (fun i j hi hj hne => ?_)
      by_cases e : i = j
      · subst e
        have : i ≠ a := fun q => hne ⟨q, q⟩
        by_cases h2 : i < a
        · rw [if_pos ⟨rfl, h2⟩, if_pos ⟨rfl, by omega⟩]
        · rw [if_neg (fun q => h2 q.2), if_neg (fun q => by omega)]
      · rw [if_neg (fun q => e q.1), if_neg (fun q => e q.1)]
    rw [ev]
    exact hn
  · refine c_X3_measure_16_45_18 (br_t (nI_le (Nat.le_refl _) (by omega)) ?_)
    have e1 : sa M 45 (fA (fun i j => if i = j ∧ i < 12 then 0 else 999) (M.1 45)) = sa M 45 (fA (cI l g c_ (fun k => decide (s k = 0) && !decide (nI k = lo)) 0) (M.1 45)) := by
      congr 1
      refine fA_cg (fun i j hi hj => ?_)
      simp [cI, hi]
    rw [e1]
    refine lp_0 (X := fx (LY pl tl) (d + 1) m_X3_measure (qV Q)) (fun r => (41, [some (.ref 16), some (.ref 45), some (.int lo), some (.int (nI r))], [], sa M 45 (fA (cI l g c_ (fun k => decide (s k = 0) && !decide (nI k = lo)) r) (M.1 45)))) n (fun r hr hn' => ?_) ?_
    · obtain ⟨q1, q2, q3, q4, q5, q6, q7, q8⟩ := hl r hr
      have hv : vp_in (nI r) 66 := (z_in (by omega) (by omega)).mpr (by omega)
      refine c_X3_measure_16_45_41 ?_
      simp only [z_cl (show r < 2147483648 by omega), sa_n (show (16 : Nat) ≠ 45 by decide), sa_n (show (21 : Nat) ≠ 45 by decide), sa_n (show (18 : Nat) ≠ 45 by decide), sa_n (show (19 : Nat) ≠ 45 by decide), sa_n (show (20 : Nat) ≠ 45 by decide), hM, q1, q2, q3, q4, pk_mul, nI_add, z_cl (show 12 * l r + g r < 2147483648 by omega), z_cl (show 12 * g r + l r < 2147483648 by omega)]
      refine br_f (nI_ge hr (by omega)) ⟨hv, fun c => ?_, fun c => ⟨fun c2 => ?_, fun c2 => ⟨hv, hv, hv, (z_in (by omega) (by omega)).mpr (by omega), hv, hv, hv, (z_in (by omega) (by omega)).mpr (by omega), ?_⟩⟩⟩
      · rw [z_eq0 (by omega)] at c
        have ev : cI l g c_ (fun k => decide (s k = 0) && !decide (nI k = lo)) (r + 1) = cI l g c_ (fun k => decide (s k = 0) && !decide (nI k = lo)) r := by
          funext i j; simp [cI, c]
        rw [ev] at hn'
        exact hn'
      · have ev : cI l g c_ (fun k => decide (s k = 0) && !decide (nI k = lo)) (r + 1) = cI l g c_ (fun k => decide (s k = 0) && !decide (nI k = lo)) r := by
          funext i j; simp [cI, c2]
        rw [ev] at hn'
        exact hn'
      · rw [z_eq0 (by omega)] at c
        rw [sa_upd, sa_upd]
        have ev : upd (upd (fA (cI l g c_ (fun k => decide (s k = 0) && !decide (nI k = lo)) r) (M.1 45)) (12 * l r + g r) (nI (c_ r))) (12 * g r + l r) (nI (c_ r)) = fA (cI l g c_ (fun k => decide (s k = 0) && !decide (nI k = lo)) (r + 1)) (M.1 45) := by
          have hop : (decide (s r = 0) && !decide (nI r = lo)) = true := by simp [c, c2]
          funext q
          unfold upd
          by_cases hq : q < 144
          · have hq2 : q = 12 * (q / 12) + q % 12 := by omega
            have hi : q / 12 < 12 := by omega
            have hj : q % 12 < 12 := by omega
            generalize q / 12 = i at hq2 hi
            generalize q % 12 = j at hq2 hj
            subst hq2
            rw [fA_at _ _ hi hj, fA_at _ _ hi hj]
            by_cases e1 : 12 * i + j = 12 * g r + l r
            · have e2 : i = g r := by omega
              have e3 : j = l r := by omega
              rw [if_pos e1]
              simp [cI, hop, e2, e3]
            · rw [if_neg e1]
              by_cases e4 : 12 * i + j = 12 * l r + g r
              · have e2 : i = l r := by omega
                have e3 : j = g r := by omega
                rw [if_pos e4]
                simp [cI, hop, e2, e3]
              · rw [if_neg e4]
                have n1 : ¬ (i = l r ∧ j = g r) := fun q => e4 (by rw [q.1, q.2])
                have n2 : ¬ (i = g r ∧ j = l r) := fun q => e1 (by rw [q.1, q.2])
                simp [cI, n1, n2]
          · rw [if_neg (by omega), if_neg (by omega), fA, fA, pfx_ge hq, pfx_ge hq]
        rw [ev]
        exact hn'
    · refine c_X3_measure_16_45_41 ?_
      rw [sa_n (show (16 : Nat) ≠ 45 by decide), hM]
      refine br_t (nI_le (Nat.le_refl _) (by omega)) ?_
      have hcs := cI_ok (l := l) (g := g) (c := c_) (o := fun k => decide (s k = 0) && !decide (nI k = lo)) (fun k hk => ⟨(hl k hk).2.2.2.2.1, (hl k hk).2.2.2.2.2.2.1⟩ : ∀ k, k < n → l k < g k ∧ c_ k ≤ 60)
      refine lp_0 (X := fx (LY pl tl) (d + 1) m_X3_measure (qV Q)) (fun k => (119, [none, some (.ref 45), none, some (.int (nI k))], [], sa M 45 (fA (FWm (cI l g c_ (fun k => decide (s k = 0) && !decide (nI k = lo)) n) k) (M.1 45)))) 12 (fun k hk hn' => ?_) ?_
      · refine c_X3_measure_16_45_119 (br_f (nI_ge hk (by omega)) ?_)
        refine s_shorten_45 (D := FWm (cI l g c_ (fun k => decide (s k = 0) && !decide (nI k = lo)) n) k) hk (fun a b ha hb => by rw [sa_s, fA_at _ _ ha hb]) (fun a b _ _ => FW_le hcs.1 k a b) (fun a b _ _ => FW_sym hcs.2.1 k a b) (fun a _ => FW_diag hcs.2.2 k a) ?_
        rw [nI_add, sa_sa, sa_s]
        have ev : fA (fun a b => min (FWm (cI l g c_ (fun k => decide (s k = 0) && !decide (nI k = lo)) n) k a b) (FWm (cI l g c_ (fun k => decide (s k = 0) && !decide (nI k = lo)) n) k a k + FWm (cI l g c_ (fun k => decide (s k = 0) && !decide (nI k = lo)) n) k k b)) (fA (FWm (cI l g c_ (fun k => decide (s k = 0) && !decide (nI k = lo)) n) k) (M.1 45)) = fA (FWm (cI l g c_ (fun k => decide (s k = 0) && !decide (nI k = lo)) n) (k + 1)) (M.1 45) := by
          funext q
          by_cases hq : q < 144
          · show pfx 144 _ _ q = pfx 144 _ _ q
            rw [pfx_lt hq, pfx_lt hq]; rfl
          · show pfx 144 _ (pfx 144 _ _) q = pfx 144 _ _ q
            rw [pfx_ge hq, pfx_ge hq, pfx_ge hq]
        rw [ev]
        exact hn'
      · exact c_X3_measure_16_45_119 (br_t (nI_le (Nat.le_refl _) (by omega)) h)

theorem s_fill_12 {Q : Mem → Prop} {v : Int32} (h : Q (sa M 12 (pfx 144 (fun _ => v) (M.1 12)))) : exV (LY pl tl) (d + 1) 1 [.ref 12, .int v] M Q := by
  refine e_J_fill_12 ?_
  have e0 : M = sa M 12 (pfx 0 (fun _ => v) (M.1 12)) := by rw [pfx_0, sa_id]
  rw [e0]
  refine lp_0 (X := fx (LY pl tl) d m_J_fill (qV Q)) (fun a => (5, [some (.ref 12), some (.int v), some (.int (nI a)), some (.int (nI 144))], [], sa M 12 (pfx a (fun _ => v) (M.1 12)))) 144 (fun a ha hn => ?_) ?_
  · refine c_J_fill_12_5 (br_f (nI_ge ha (by omega)) ⟨(z_in (by omega) (by omega)).mpr ha, ?_⟩)
    rw [z_cl (by omega), sa_upd, pfx_s _ _ _ rfl, nI_add]
    exact hn
  · exact c_J_fill_12_5 (br_t (nI_le (Nat.le_refl _) (by omega)) h)
theorem s_shorten_12 {Q : Mem → Prop} {k : Nat} {D : Nat → Nat → Nat} (hk : k < 12) (hA : ∀ a b, a < 12 → b < 12 → M.1 12 (12 * a + b) = nI (D a b)) (hb : ∀ a b, a < 12 → b < 12 → D a b ≤ 999) (hs : ∀ a b, a < 12 → b < 12 → D a b = D b a) (h0 : ∀ a, a < 12 → D a a = 0) (h : Q (sa M 12 (fA (fun a b => min (D a b) (D a k + D k b)) (M.1 12)))) : exV (LY pl tl) (d + 1) 83 [.ref 12, .int (nI k)] M Q := by
  refine e_X3_shorten_12 ?_
  have e0 : M = sa M 12 (fA (fun i j => if shU 0 0 i j then min (D i j) (D i k + D k j) else D i j) (M.1 12)) := by
    refine (sa_eq (fun j => ?_)).symm
    by_cases hj : j < 144
    · rw [fA, pfx_lt hj]
      have := hA (j / 12) (j % 12) (by omega) (by omega)
      rw [show 12 * (j / 12) + j % 12 = j by omega] at this
      rw [this]
      simp [tA, shU]
    · rw [fA, pfx_ge hj]
  have ei : ∀ i j, i < 12 → j < 12 → (nI 12 * nI i + nI j).toNatClampNeg = 12 * i + j := fun i j hi hj => by rw [pk_mul, nI_add, z_cl (by omega)]
  have vi : ∀ i j, i < 12 → j < 12 → vp_in (nI 12 * nI i + nI j) 144 := fun i j hi hj => by rw [pk_mul, nI_add]; exact (z_in (by omega) (by omega)).mpr (by omega)
  have rk : ∀ (u : Nat → Nat → Bool) i, i < 12 → (if u i k then min (D i k) (D i k + D k k) else D i k) = D i k := by
    intro u i hi
    rw [h0 k hk]
    split <;> simp
  have ck : ∀ (u : Nat → Nat → Bool) j, j < 12 → (if u k j then min (D k j) (D k k + D k j) else D k j) = D k j := by
    intro u j hj
    rw [h0 k hk]
    split <;> simp
  rw [e0]
  refine lp_0 (X := fx (LY pl tl) d m_X3_shorten (qV Q)) (fun a => (2, [some (.ref 12), some (.int (nI k)), some (.int (nI a)), none, none, none], [], sa M 12 (fA (fun i j => if shU a 0 i j then min (D i j) (D i k + D k j) else D i j) (M.1 12)))) 12 (fun a ha hn => ?_) ?_
  · refine c_X3_shorten_12_2 (br_f (nI_ge ha (by omega)) ⟨vi a k ha hk, ?_⟩)
    rw [ei a k ha hk, sa_s, fA_at _ _ ha hk, rk _ a ha]
    have hbk := hb a k ha hk
    refine ⟨fun c => ?_, fun c => ?_⟩
    · rw [z_le (by omega) (by omega)] at c
      rw [nI_add]
      have ev : fA (fun i j => if shU a 0 i j then min (D i j) (D i k + D k j) else D i j) (M.1 12) = fA (fun i j => if shU (a + 1) 0 i j then min (D i j) (D i k + D k j) else D i j) (M.1 12) := by
        refine fA_cg (fun i j hi hj => ?_)
        by_cases hu : shU a 0 i j
        · have : shU (a + 1) 0 i j := by simp [shU] at hu ⊢; omega
          rw [if_pos hu, if_pos this]
        · rw [if_neg hu]
          split
          · next hu2 =>
            have hij : i = a ∨ j = a := by simp [shU] at hu hu2; omega
            have b1 := hb i j hi hj
            rcases hij with e | e
            · subst e; omega
            · subst e
              rw [hs k j hk hj]
              omega
          · rfl
      rw [ev]
      exact hn
    · rw [z_le (by omega) (by omega)] at c
      refine lp_0 (X := fx (LY pl tl) d m_X3_shorten (qV Q)) (fun b => (27, [some (.ref 12), some (.int (nI k)), some (.int (nI a)), some (.int (nI (D a k))), some (.int (nI b)), none], [], sa M 12 (fA (fun i j => if shU a b i j then min (D i j) (D i k + D k j) else D i j) (M.1 12)))) a (fun b hb' hn => ?_) ?_
      · have hb12 : b < 12 := by omega
        have hbb := hb k b hk hb12
        have hbc := hb a b ha hb12
        refine c_X3_shorten_12_27 (br_f (nI_ge hb' (by omega)) ?_)
        have huab : shU a b a b = false := by unfold shU; rw [decide_eq_false_iff_not]; omega
        rw [ei k b hk hb12, ei a b ha hb12, ei b a hb12 ha, sa_s, fA_at _ _ hk hb12, fA_at _ _ ha hb12, ck _ b hb12, huab, nI_add, nI_add]
        refine ⟨vi k b hk hb12, vi a b ha hb12, fun c2 => ?_, fun c2 => ⟨vi a b ha hb12, vi b a hb12 ha, ?_⟩⟩
        · rw [z_le (by simp; omega) (by omega)] at c2
          have ev : fA (fun i j => if shU a b i j then min (D i j) (D i k + D k j) else D i j) (M.1 12) = fA (fun i j => if shU a (b + 1) i j then min (D i j) (D i k + D k j) else D i j) (M.1 12) := by
            refine fA_cg (fun i j hi hj => ?_)
            by_cases hu : shU a b i j
            · have : shU a (b + 1) i j := by simp [shU] at hu ⊢; omega
              rw [if_pos hu, if_pos this]
            · rw [if_neg hu]
              split
              · next hu2 =>
                have hij : (i = a ∧ j = b) ∨ (i = b ∧ j = a) := by simp [shU] at hu hu2; omega
                simp at c2
                rcases hij with ⟨rfl, rfl⟩ | ⟨rfl, rfl⟩
                · omega
                · rw [hs i j hi hj, hs i k hi hk, hs k j hk hj]; omega
              · rfl
          rw [ev]
          exact hn
        · rw [z_le (by simp; omega) (by omega)] at c2
          simp at c2
          rw [sa_upd, sa_upd]
          have ev : upd (upd (fA (fun i j => if shU a b i j then min (D i j) (D i k + D k j) else D i j) (M.1 12)) (12 * a + b) (nI (D a k + D k b))) (12 * b + a) (nI (D a k + D k b)) = fA (fun i j => if shU a (b + 1) i j then min (D i j) (D i k + D k j) else D i j) (M.1 12) := by
            funext q
            unfold upd
            by_cases hq : q < 144
            · have hq2 : q = 12 * (q / 12) + q % 12 := by omega
              have hi : q / 12 < 12 := by omega
              have hj : q % 12 < 12 := by omega
              generalize q / 12 = i at hq2 hi
              generalize q % 12 = j at hq2 hj
              subst hq2
              rw [fA_at _ _ hi hj, fA_at _ _ hi hj]
              by_cases e1 : 12 * i + j = 12 * b + a
              · have e2 : i = b := by omega
                have e3 : j = a := by omega
                subst e2; subst e3
                have : shU j (i + 1) i j = true := by simp [shU]
                rw [if_pos rfl, if_pos this, hs i j hi hj, hs i k hi hk, hs k j hk hj]
                congr 1; omega
              · rw [if_neg e1]
                by_cases e4 : 12 * i + j = 12 * a + b
                · have e2 : i = a := by omega
                  have e3 : j = b := by omega
                  subst e2; subst e3
                  have : shU i (j + 1) i j = true := by simp [shU]
                  rw [if_pos rfl, if_pos this]
                  congr 1; omega
                · rw [if_neg e4]
                  have : shU a (b + 1) i j = shU a b i j := by
                    unfold shU
                    rw [Bool.eq_iff_iff]
                    simp
                    omega
                  rw [this]
            · rw [if_neg (by omega), if_neg (by omega), fA, fA, pfx_ge hq, pfx_ge hq]
          rw [ev]
          exact hn
      · refine c_X3_shorten_12_27 (br_t (nI_le (Nat.le_refl _) (by omega)) ?_)
        rw [nI_add]
        have ev : fA (fun i j => if shU a a i j then min (D i j) (D i k + D k j) else D i j) (M.1 12) = fA (fun i j => if shU (a + 1) 0 i j then min (D i j) (D i k + D k j) else D i j) (M.1 12) := by
          refine fA_cg (fun i j hi hj => ?_)
          by_cases hu : shU a a i j
          · have : shU (a + 1) 0 i j := by simp [shU] at hu ⊢; omega
            rw [if_pos hu, if_pos this]
          · rw [if_neg hu]
            split
            · next hu2 =>
              have hij : i = a ∧ j = a := by simp [shU] at hu hu2; omega
              rw [hij.1, hij.2, h0 a ha]; simp
            · rfl
        rw [ev]
        exact hn
  · refine c_X3_shorten_12_2 (br_t (nI_le (Nat.le_refl _) (by omega)) ?_)
    have ev : fA (fun i j => if shU 12 0 i j then min (D i j) (D i k + D k j) else D i j) (M.1 12) = fA (fun a b => min (D a b) (D a k + D k b)) (M.1 12) := by
      refine fA_cg (fun i j hi hj => ?_)
      have : shU 12 0 i j := by simp [shU, hi, hj]
      rw [if_pos this]
    rw [ev]
    exact h
theorem s_measure_6_12 {Q : Mem → Prop} {lo : Int32} {n : Nat} {l g c_ s : Nat → Nat} (hn : n ≤ 66) (hM : M.1 6 7 = nI n) (hl : ∀ k, k < n → M.1 8 k = nI (l k) ∧ M.1 9 k = nI (g k) ∧ M.1 10 k = nI (c_ k) ∧ M.1 11 k = nI (s k) ∧ l k < g k ∧ g k < 12 ∧ c_ k ≤ 60 ∧ s k ≤ 1) (h : Q (sa M 12 (fA (FWm (cI l g c_ (fun k => decide (s k = 0) && !decide (nI k = lo)) n) 12) (M.1 12)))) : exV (LY pl tl) (d + 2) 82 [.ref 6, .ref 12, .int lo] M Q := by
  refine e_X3_measure_6_12 (br_t (nI_le (Nat.le_refl _) (by omega)) (s_fill_12 ?_))
  have e0 : sa M 12 (pfx 144 (fun _ => nI 999) (M.1 12)) = sa M 12 (fA (fun i j => if i = j ∧ i < 0 then 0 else 999) (M.1 12)) := by
    refine sa_cg (fun j => ?_)
    by_cases hj : j < 144
    · rw [pfx_lt hj, fA, pfx_lt hj]; simp [tA]
    · rw [pfx_ge hj, fA, pfx_ge hj]
  rw [e0]
  refine lp_0 (X := fx (LY pl tl) (d + 1) m_X3_measure (qV Q)) (fun a => (18, [some (.ref 6), some (.ref 12), some (.int lo), some (.int (nI a))], [], sa M 12 (fA (fun i j => if i = j ∧ i < a then 0 else 999) (M.1 12)))) 12 (fun a ha hn => ?_) ?_
  · refine c_X3_measure_6_12_18 (br_f (nI_ge ha (by omega)) ⟨by rw [pk_mul, nI_add]; exact (z_in (by omega) (by omega)).mpr (by omega), ?_⟩)
    have hcl : (nI 12 * nI a + nI a).toNatClampNeg = 12 * a + a := by rw [pk_mul, nI_add, z_cl (by omega)]
    rw [hcl, sa_upd, nI_add]
    have ev : upd (fA (fun i j => if i = j ∧ i < a then 0 else 999) (M.1 12)) (12 * a + a) (nI 0) = fA (fun i j => if i = j ∧ i < a + 1 then 0 else 999) (M.1 12) := by
      refine fA_u ha ha (by simp) (fun i j hi hj hne => ?_)
      by_cases e : i = j
      · subst e
        have : i ≠ a := fun q => hne ⟨q, q⟩
        by_cases h2 : i < a
        · rw [if_pos ⟨rfl, h2⟩, if_pos ⟨rfl, by omega⟩]
        · rw [if_neg (fun q => h2 q.2), if_neg (fun q => by omega)]
      · rw [if_neg (fun q => e q.1), if_neg (fun q => e q.1)]
    rw [ev]
    exact hn
  · refine c_X3_measure_6_12_18 (br_t (nI_le (Nat.le_refl _) (by omega)) ?_)
    have e1 : sa M 12 (fA (fun i j => if i = j ∧ i < 12 then 0 else 999) (M.1 12)) = sa M 12 (fA (cI l g c_ (fun k => decide (s k = 0) && !decide (nI k = lo)) 0) (M.1 12)) := by
      congr 1
      refine fA_cg (fun i j hi hj => ?_)
      simp [cI, hi]
    rw [e1]
    refine lp_0 (X := fx (LY pl tl) (d + 1) m_X3_measure (qV Q)) (fun r => (41, [some (.ref 6), some (.ref 12), some (.int lo), some (.int (nI r))], [], sa M 12 (fA (cI l g c_ (fun k => decide (s k = 0) && !decide (nI k = lo)) r) (M.1 12)))) n (fun r hr hn' => ?_) ?_
    · obtain ⟨q1, q2, q3, q4, q5, q6, q7, q8⟩ := hl r hr
      have hv : vp_in (nI r) 66 := (z_in (by omega) (by omega)).mpr (by omega)
      refine c_X3_measure_6_12_41 ?_
      simp only [z_cl (show r < 2147483648 by omega), sa_n (show (6 : Nat) ≠ 12 by decide), sa_n (show (11 : Nat) ≠ 12 by decide), sa_n (show (8 : Nat) ≠ 12 by decide), sa_n (show (9 : Nat) ≠ 12 by decide), sa_n (show (10 : Nat) ≠ 12 by decide), hM, q1, q2, q3, q4, pk_mul, nI_add, z_cl (show 12 * l r + g r < 2147483648 by omega), z_cl (show 12 * g r + l r < 2147483648 by omega)]
      refine br_f (nI_ge hr (by omega)) ⟨hv, fun c => ?_, fun c => ⟨fun c2 => ?_, fun c2 => ⟨hv, hv, hv, (z_in (by omega) (by omega)).mpr (by omega), hv, hv, hv, (z_in (by omega) (by omega)).mpr (by omega), ?_⟩⟩⟩
      · rw [z_eq0 (by omega)] at c
        have ev : cI l g c_ (fun k => decide (s k = 0) && !decide (nI k = lo)) (r + 1) = cI l g c_ (fun k => decide (s k = 0) && !decide (nI k = lo)) r := by
          funext i j; simp [cI, c]
        rw [ev] at hn'
        exact hn'
      · have ev : cI l g c_ (fun k => decide (s k = 0) && !decide (nI k = lo)) (r + 1) = cI l g c_ (fun k => decide (s k = 0) && !decide (nI k = lo)) r := by
          funext i j; simp [cI, c2]
        rw [ev] at hn'
        exact hn'
      · rw [z_eq0 (by omega)] at c
        rw [sa_upd, sa_upd]
        have ev : upd (upd (fA (cI l g c_ (fun k => decide (s k = 0) && !decide (nI k = lo)) r) (M.1 12)) (12 * l r + g r) (nI (c_ r))) (12 * g r + l r) (nI (c_ r)) = fA (cI l g c_ (fun k => decide (s k = 0) && !decide (nI k = lo)) (r + 1)) (M.1 12) := by
          have hop : (decide (s r = 0) && !decide (nI r = lo)) = true := by simp [c, c2]
          funext q
          unfold upd
          by_cases hq : q < 144
          · have hq2 : q = 12 * (q / 12) + q % 12 := by omega
            have hi : q / 12 < 12 := by omega
            have hj : q % 12 < 12 := by omega
            generalize q / 12 = i at hq2 hi
            generalize q % 12 = j at hq2 hj
            subst hq2
            rw [fA_at _ _ hi hj, fA_at _ _ hi hj]
            by_cases e1 : 12 * i + j = 12 * g r + l r
            · have e2 : i = g r := by omega
              have e3 : j = l r := by omega
              rw [if_pos e1]
              simp [cI, hop, e2, e3]
            · rw [if_neg e1]
              by_cases e4 : 12 * i + j = 12 * l r + g r
              · have e2 : i = l r := by omega
                have e3 : j = g r := by omega
                rw [if_pos e4]
                simp [cI, hop, e2, e3]
              · rw [if_neg e4]
                have n1 : ¬ (i = l r ∧ j = g r) := fun q => e4 (by rw [q.1, q.2])
                have n2 : ¬ (i = g r ∧ j = l r) := fun q => e1 (by rw [q.1, q.2])
                simp [cI, n1, n2]
          · rw [if_neg (by omega), if_neg (by omega), fA, fA, pfx_ge hq, pfx_ge hq]
        rw [ev]
        exact hn'
    · refine c_X3_measure_6_12_41 ?_
      rw [sa_n (show (6 : Nat) ≠ 12 by decide), hM]
      refine br_t (nI_le (Nat.le_refl _) (by omega)) ?_
      have hcs := cI_ok (l := l) (g := g) (c := c_) (o := fun k => decide (s k = 0) && !decide (nI k = lo)) (fun k hk => ⟨(hl k hk).2.2.2.2.1, (hl k hk).2.2.2.2.2.2.1⟩ : ∀ k, k < n → l k < g k ∧ c_ k ≤ 60)
      refine lp_0 (X := fx (LY pl tl) (d + 1) m_X3_measure (qV Q)) (fun k => (119, [none, some (.ref 12), none, some (.int (nI k))], [], sa M 12 (fA (FWm (cI l g c_ (fun k => decide (s k = 0) && !decide (nI k = lo)) n) k) (M.1 12)))) 12 (fun k hk hn' => ?_) ?_
      · refine c_X3_measure_6_12_119 (br_f (nI_ge hk (by omega)) ?_)
        refine s_shorten_12 (D := FWm (cI l g c_ (fun k => decide (s k = 0) && !decide (nI k = lo)) n) k) hk (fun a b ha hb => by rw [sa_s, fA_at _ _ ha hb]) (fun a b _ _ => FW_le hcs.1 k a b) (fun a b _ _ => FW_sym hcs.2.1 k a b) (fun a _ => FW_diag hcs.2.2 k a) ?_
        rw [nI_add, sa_sa, sa_s]
        have ev : fA (fun a b => min (FWm (cI l g c_ (fun k => decide (s k = 0) && !decide (nI k = lo)) n) k a b) (FWm (cI l g c_ (fun k => decide (s k = 0) && !decide (nI k = lo)) n) k a k + FWm (cI l g c_ (fun k => decide (s k = 0) && !decide (nI k = lo)) n) k k b)) (fA (FWm (cI l g c_ (fun k => decide (s k = 0) && !decide (nI k = lo)) n) k) (M.1 12)) = fA (FWm (cI l g c_ (fun k => decide (s k = 0) && !decide (nI k = lo)) n) (k + 1)) (M.1 12) := by
          funext q
          by_cases hq : q < 144
          · show pfx 144 _ _ q = pfx 144 _ _ q
            rw [pfx_lt hq, pfx_lt hq]; rfl
          · show pfx 144 _ (pfx 144 _ _) q = pfx 144 _ _ q
            rw [pfx_ge hq, pfx_ge hq, pfx_ge hq]
        rw [ev]
        exact hn'
      · exact c_X3_measure_6_12_119 (br_t (nI_le (Nat.le_refl _) (by omega)) h)

end SF
