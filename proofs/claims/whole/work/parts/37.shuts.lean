/-! SHUTS -/
/-- a sum over the pairs a < b -/
def sB (f : Nat → Nat) (a : Nat) : Nat → Nat
  | 0 => 0
  | b + 1 => if a < b then sB f a b + f b else sB f a b
def sP (f : Nat → Nat → Nat) : Nat → Nat
  | 0 => 0
  | a + 1 => sP f a + sB (f a) a 12
theorem sB_0 {f : Nat → Nat} {a : Nat} : ∀ {n : Nat}, (∀ b, b < n → a < b → f b = 0) → sB f a n = 0
  | 0, _ => rfl
  | n + 1, h => by
    unfold sB
    rw [sB_0 (fun b hb => h b (by omega))]
    split
    · rw [h n (by omega) (by assumption)]
    · rfl
theorem sB_add (f g : Nat → Nat) (a : Nat) : ∀ n, sB (fun b => f b + g b) a n = sB f a n + sB g a n
  | 0 => rfl
  | n + 1 => by unfold sB; rw [sB_add f g a n]; split <;> omega
theorem sB_cg {f g : Nat → Nat} {a : Nat} : ∀ {n : Nat}, (∀ b, b < n → a < b → f b = g b) → sB f a n = sB g a n
  | 0, _ => rfl
  | n + 1, h => by
    unfold sB
    rw [sB_cg (fun b hb => h b (by omega))]
    split
    · rw [h n (by omega) (by assumption)]
    · rfl
theorem sB_1 {f : Nat → Nat} {a c v : Nat} (hac : a < c) (hv : f c = v) (h0 : ∀ b, b ≠ c → f b = 0) : ∀ n, c < n → sB f a n = v
  | 0, h => absurd h (by omega)
  | n + 1, h => by
    unfold sB
    by_cases q : n = c
    · subst q
      rw [if_pos hac, sB_0 (fun b hb _ => h0 b (by omega)), hv]; omega
    · rw [sB_1 hac hv h0 n (by omega), h0 n q]; split <;> rfl
theorem sP_0 {f : Nat → Nat → Nat} : ∀ {n : Nat}, (∀ a b, a < n → b < 12 → a < b → f a b = 0) → sP f n = 0
  | 0, _ => rfl
  | n + 1, h => by
    unfold sP
    rw [sP_0 (fun a b ha => h a b (by omega)), sB_0 (fun b hb => h n b (by omega) hb)]
theorem sP_add (f g : Nat → Nat → Nat) : ∀ n, sP (fun a b => f a b + g a b) n = sP f n + sP g n
  | 0 => rfl
  | n + 1 => by unfold sP; rw [sP_add f g n, sB_add]; omega
theorem sP_cg {f g : Nat → Nat → Nat} : ∀ {n : Nat}, (∀ a b, a < n → b < 12 → a < b → f a b = g a b) → sP f n = sP g n
  | 0, _ => rfl
  | n + 1, h => by
    unfold sP
    rw [sP_cg (fun a b ha => h a b (by omega)), sB_cg (fun b hb => h n b (by omega) hb)]
theorem sP_1 {f : Nat → Nat → Nat} {a c v : Nat} (hac : a < c) (hc : c < 12) (hv : f a c = v) (h0 : ∀ i j, ¬ (i = a ∧ j = c) → f i j = 0) : ∀ n, a < n → sP f n = v
  | 0, h => absurd h (by omega)
  | n + 1, h => by
    unfold sP
    by_cases q : n = a
    · subst q
      rw [sP_0 (fun i j hi _ _ => h0 i j (by omega)), sB_1 hac hv (fun b hb => h0 n b (by omega)) 12 hc]; omega
    · rw [sP_1 hac hc hv h0 n (by omega), sB_0 (fun b _ _ => h0 n b (by omega))]; rfl
/-- roads that are shut, told as pairs and told as roads -/
def kP (l g : Nat → Nat) (c : Nat → Bool) (n a b : Nat) : Nat := cn (fun k => c k && decide (l k = a ∧ g k = b)) n
theorem sP_cn {l g : Nat → Nat} {c : Nat → Bool} : ∀ {n : Nat}, (∀ k, k < n → l k < g k ∧ g k < 12) → sP (kP l g c n) 12 = cn c n
  | 0, _ => sP_0 (fun _ _ _ _ _ => rfl)
  | n + 1, h => by
    have hn := h n (by omega)
    have e : sP (kP l g c (n + 1)) 12 = sP (fun a b => kP l g c n a b + (if c n && decide (l n = a ∧ g n = b) then 1 else 0)) 12 := sP_cg (fun a b _ _ _ => by
      unfold kP
      show (if _ then _ else _) = _
      split <;> rfl)
    rw [e, sP_add, sP_cn (fun k hk => h k (by omega))]
    show _ = if _ then _ else _
    cases q : c n
    · rw [sP_0 (fun a b _ _ _ => by simp)]; simp
    · rw [sP_1 (a := l n) (c := g n) (v := 1) hn.1 hn.2 (by simp) (fun i j hij => by
        simp only [Bool.true_and, decide_eq_true_eq]
        exact if_neg (fun z => hij ⟨z.1.symm, z.2.symm⟩)) 12 (by omega)]; simp
theorem cn_zero {c : Nat → Bool} : ∀ {n : Nat}, (∀ k, k < n → c k = false) → cn c n = 0
  | 0, _ => rfl
  | n + 1, h => by
    show (if _ then _ else _) = _
    rw [h n (by omega), if_neg (by decide)]
    exact cn_zero (fun k hk => h k (by omega))
theorem cn_one {c : Nat → Bool} {k : Nat} (hc : c k = true) : ∀ n, (∀ k', k' < n → c k' = true → k' = k) → k < n → cn c n = 1
  | 0, _, h => absurd h (by omega)
  | n + 1, hu, h => by
    show (if _ then _ else _) = _
    by_cases q : n = k
    · subst q
      rw [if_pos hc, cn_zero (fun k' hk' => by
        cases z : c k'
        · rfl
        · exact absurd (hu k' (by omega) z) (by omega))]
    · rw [if_neg (fun z => q (hu n (by omega) z)), cn_one hc n (fun k' hk' => hu k' (by omega)) (by omega)]
def shK (w : Nat → Int32) (k : Nat) : Bool := decide (¬ sh w (lo w k) (hi w k) = 0)
theorem sh_pairs {w : Nat → Int32} (hv : VL w) : sP (sh w) 12 = cn (shK w) (rN w) := by
  obtain ⟨-, -, -, -, -, hr, t1, t2, t3, t4, t5⟩ := hv
  rw [← sP_cn (l := lo w) (g := hi w) (c := shK w) (n := rN w) (fun k hk => ⟨(t1 k hk).2.1, (t1 k hk).2.2.1⟩)]
  refine sP_cg (fun a b ha hb hab => ?_)
  have s1 := (hr a b ha hb).2.2.1
  unfold kP
  by_cases z : sh w a b = 0
  · rw [z, cn_zero (fun k hk => ?_)]
    cases q : decide (lo w k = a ∧ hi w k = b)
    · exact Bool.and_false _
    · have q := of_decide_eq_true q
      unfold shK
      rw [q.1, q.2, z]; rfl
  · have hp : 0 < rd w a b := Nat.pos_of_ne_zero (fun e => z (t5 a b ha hb e))
    obtain ⟨k, hk, e1, e2⟩ := t3 a b hab hb hp
    rw [cn_one (k := k) (by unfold shK; rw [e1, e2, decide_eq_true z]; simp) _ (fun k' hk' c => ?_) hk]
    · omega
    · rw [Bool.and_eq_true, decide_eq_true_eq] at c
      exact t2 k' k hk' hk (c.2.1.trans e1.symm) (c.2.2.trans e2.symm)
theorem upS_sh {w : Nat → Int32} {a b i j s : Nat} (hr : VRd w) (ha : a < 12) (hb : b < 12) (hi' : i < 12) (hj : j < 12) (hs : s ≤ 1) : upS w a b (nI s) (156 + 12 * i + j) = nI (sh (upS w a b (nI s)) i j) := by
  rw [sh_upS ha hb hi' hj hs]
  unfold upS
  by_cases q : i = b ∧ j = a
  · rw [if_pos (Or.inr q), q.1, q.2, upd_eq]
  · by_cases q' : i = a ∧ j = b
    · rw [if_pos (Or.inl q'), q'.1, q'.2, upd_ne (by omega), upd_eq]
    · rw [if_neg (by omega), upd_ne (by omega), upd_ne (by omega)]
      exact (hr i j hi' hj).2.1
theorem rd_upS {w : Nat → Int32} {a b i j : Nat} {v : Int32} (ha : a < 12) (hb : b < 12) (hi' : i < 12) (hj : j < 12) : rd (upS w a b v) i j = rd w i j := by
  unfold rd; rw [upS_o ha hb (by omega)]
theorem nm_upS (w : Nat → Int32) {a b : Nat} (v : Int32) (ha : a < 12) (hb : b < 12) : sN (upS w a b v) = sN w ∧ rN (upS w a b v) = rN w ∧ (∀ k, lo (upS w a b v) k = lo w k) ∧ (∀ k, hi (upS w a b v) k = hi w k) := by
  unfold sN rN lo hi
  refine ⟨?_, ?_, fun k => ?_, fun k => ?_⟩ <;> rw [upS_o ha hb (by omega)]
theorem VL_upS {w : Nat → Int32} {a b s : Nat} (hv : VL w) (ha : a < 12) (hb : b < 12) (hp : 0 < rd w a b) (hs : s ≤ 1) : VL (upS w a b (nI s)) := by
  obtain ⟨h1, h2, h3, h4, h5, hr, t1, t2, t3, t4, t5⟩ := hv
  obtain ⟨n1, n2, n3, n4⟩ := nm_upS w (nI s) ha hb
  have o : ∀ j, (j < 156 ∨ 300 ≤ j) → upS w a b (nI s) j = w j := fun j hj => upS_o ha hb hj
  have r : ∀ i j, i < 12 → j < 12 → rd (upS w a b (nI s)) i j = rd w i j := fun i j hi hj => rd_upS ha hb hi hj
  have es : ∀ q, sp (upS w a b (nI s)) q = sp w q := fun q => by unfold sp; rw [o _ (by omega)]
  refine ⟨?_, ?_, fun i hi => ?_, fun q hq => ?_, fun q q' hq hq' e => ?_, fun i j hi hj => ⟨?_, upS_sh hr ha hb hi hj hs, ?_, ?_⟩, fun k hk => ?_, fun k k' hk hk' e1 e2 => ?_, fun i j hij hj hpp => ?_, fun i hi => ?_, fun i j hi hj hz => ?_⟩
  · rw [n1, o 456 (by omega)]; exact h1
  · rw [n2, o 458 (by omega)]; exact h2
  · unfold wt; rw [o i (by omega)]; exact h3 i hi
  · rw [es, o _ (by omega)]; rw [n1] at hq; exact h4 q hq
  · rw [es, es] at e; rw [n1] at hq hq'; exact h5 q q' hq hq' e
  · rw [r i j hi hj, r j i hj hi, o _ (by omega)]; exact (hr i j hi hj).1
  · rw [sh_upS ha hb hi hj hs]; split
    · exact hs
    · exact (hr i j hi hj).2.2.1
  · rw [sh_upS ha hb hi hj hs, sh_upS ha hb hj hi hs]
    by_cases q : (i = a ∧ j = b) ∨ (i = b ∧ j = a)
    · rw [if_pos q, if_pos (by omega)]
    · rw [if_neg q, if_neg (by omega)]; exact (hr i j hi hj).2.2.2
  · rw [n2] at hk
    have := t1 k hk
    rw [n3, n4, r _ _ (by omega) (by omega), o _ (by omega)]; exact this
  · rw [n2] at hk hk'; rw [n3, n3] at e1; rw [n4, n4] at e2; exact t2 k k' hk hk' e1 e2
  · rw [r i j (by omega) hj] at hpp
    obtain ⟨k, hk, a1, a2⟩ := t3 i j hij hj hpp
    exact ⟨k, by rw [n2]; exact hk, by rw [n3]; exact a1, by rw [n4]; exact a2⟩
  · rw [r i i hi hi]; exact t4 i hi
  · rw [r i j hi hj] at hz
    rw [sh_upS ha hb hi hj hs, if_neg]
    · exact t5 i j hi hj hz
    · rintro (⟨rfl, rfl⟩ | ⟨rfl, rfl⟩)
      · omega
      · rw [(hr _ _ hi hj).1.2.2] at hz; omega
theorem lp_find {X : pFr → Prop} (L : Nat → pFr) (n : Nat) (P : Nat → Prop) (hs : ∀ i, i < n → ¬ P i → X (L (i + 1)) → X (L i)) (hf : ∀ i, i < n → P i → X (L i)) (he : (∀ i, i < n → ¬ P i) → X (L n)) : X (L 0) := by
  have key : ∀ j i, i + j = n → (∀ k, k < i → ¬ P k) → X (L i) := by
    intro j
    induction j with
    | zero => intro i e hk; have : i = n := by omega
              subst this; exact he hk
    | succ j ih =>
      intro i e hk
      by_cases q : P i
      · exact hf i (by omega) q
      · refine hs i (by omega) q (ih (i + 1) (by omega) (fun k hk' => ?_))
        rcases Nat.lt_or_ge k i with z | z
        · exact hk k z
        · have : k = i := by omega
          subst this; exact q
  exact key n 0 (by omega) (fun k hk => absurd hk (by omega))
theorem nI_max (a b : Nat) (ha : a < 2147483648) (hb : b < 2147483648) : (if nI a < nI b then nI b else nI a) = nI (max a b) := by
  by_cases h : a < b
  · rw [if_pos (nI_lt h (by omega)), Nat.max_eq_right (by omega)]
  · rw [if_neg (nI_nlt (by omega) (by omega)), Nat.max_eq_left (by omega)]
section S37
variable {pl : Option Nat} {tl : List LC} {d : Nat} {M : Mem} {t : Nat}
theorem s_roadOf {Q : Int32 → Mem → Prop} {w : Nat → Int32} {a b : Nat} (hv : VL w) (hr : RLd 15 M w) (ha : a < 12) (hb : b < 12) (hy : ∀ k, k < rN w → isP (lo w) (hi w) k a b → Q (nI k) M) (hn : (∀ k, k < rN w → ¬ isP (lo w) (hi w) k a b) → Q (-1) M) : exI (LY pl tl) (d + 1) 80 [.ref 16, .int (nI a), .int (nI b)] M Q := by
  have r66 := hv.2.1.2
  have q1 : M.1 16 7 = nI (rN w) := hr.2.2.1.trans hv.2.1.1
  have t1 := hv.2.2.2.2.2.2.1
  refine e_X3_roadOf_16 ?_
  rw [nI_min a b (by omega) (by omega), nI_max a b (by omega) (by omega)]
  have fact : ∀ k, k < rN w → M.1 18 k = nI (lo w k) ∧ M.1 19 k = nI (hi w k) ∧ lo w k < hi w k ∧ hi w k < 12 := fun k hk => ⟨(hr.2.2.2.2.1 k hk).1, (hr.2.2.2.2.1 k hk).2.1, (t1 k hk).2.1, (t1 k hk).2.2.1⟩
  refine lp_find (X := fx (LY pl tl) d m_X3_roadOf (qI Q)) (fun k => (16, [some (.ref 16), none, none, some (.int (nI (min a b))), some (.int (nI (max a b))), some (.int (nI k))], [], M)) (rN w) (fun k => isP (lo w) (hi w) k a b) (fun k hk hp hx => ?_) (fun k hk hp => ?_) (fun hp => ?_)
  · have f := fact k hk
    refine c_X3_roadOf_16_16 ?_
    rw [q1, z_cl (by omega), f.1, f.2.1, z_eq (by omega) (by omega), z_eq (by omega) (by omega), nI_add k 1]
    have v6 := (z_in (n := k) (N := 66) (by omega) (by omega)).mpr (by omega)
    refine br_f (nI_ge hk (by omega)) ⟨v6, fun _ => hx, fun c => ⟨v6, fun _ => hx, fun c' => absurd ?_ hp⟩⟩
    unfold isP; omega
  · have f := fact k hk
    refine c_X3_roadOf_16_16 ?_
    rw [q1, z_cl (by omega), f.1, f.2.1, z_eq (by omega) (by omega), z_eq (by omega) (by omega)]
    have v6 := (z_in (n := k) (N := 66) (by omega) (by omega)).mpr (by omega)
    have hq := hy k hk hp
    unfold isP at hp
    exact br_f (nI_ge hk (by omega)) ⟨v6, fun c => absurd (by omega) c, fun _ => ⟨v6, fun c => absurd (by omega) c, fun _ => hq⟩⟩
  · refine c_X3_roadOf_16_16 ?_
    rw [q1]
    exact br_t (nI_le (Nat.le_refl _) (by omega)) (hn hp)
theorem s_shutRoads {Q : Int32 → Mem → Prop} {w : Nat → Int32} (hv : VL w) (hr : RLd 15 M w) (h : Q (nI (cn (shK w) (rN w))) M) : exI (LY pl tl) (d + 1) 81 [.ref 16] M Q := by
  have r66 := hv.2.1.2
  have q1 : M.1 16 7 = nI (rN w) := hr.2.2.1.trans hv.2.1.1
  refine e_X3_shutRoads_16 (lp_0 (X := fx (LY pl tl) d m_X3_shutRoads (qI Q)) (fun k => (4, [some (.ref 16), some (.int (nI (cn (shK w) k))), some (.int (nI k))], [], M)) (rN w) (fun k hk hx => ?_) ?_)
  · have t1 := hv.2.2.2.2.2.2.1 k hk
    have s1 := (hv.2.2.2.2.2.1 (lo w k) (hi w k) (by omega) (by omega)).2.2.1
    refine c_X3_shutRoads_16_4 ?_
    rw [q1, z_cl (by omega), show M.1 21 k = nI (sh w (lo w k) (hi w k)) from (hr.2.2.2.2.1 k hk).2.2.2, z_eq0 (by omega), nI_add k 1, nI_add _ 1]
    refine br_f (nI_ge hk (by omega)) ⟨(z_in (by omega) (by omega)).mpr (by omega), fun c => ?_, fun c => ?_⟩
    · rw [show cn (shK w) (k + 1) = cn (shK w) k from if_neg (by unfold shK; rw [c]; decide)] at hx
      exact hx
    · rw [show cn (shK w) (k + 1) = cn (shK w) k + 1 from if_pos (decide_eq_true c)] at hx
      exact hx
  · refine c_X3_shutRoads_16_4 ?_
    rw [q1]
    exact br_t (nI_le (Nat.le_refl _) (by omega)) h
theorem s_shutMany {Q : Int32 → Mem → Prop} {w : Nat → Int32} (hw : M.1 53 = w) (hr : VRd w) (h : Q (nI (sP (sh w) 12)) M) : exI (LY pl tl) (d + 1) 161 [.ref 52] M Q := by
  subst hw
  refine e_X11_shutMany (lp_0 (X := fx (LY pl tl) d m_X11_shutMany (qI Q)) (fun a => (4, [some (.ref 52), some (.int (nI (sP (sh (M.1 53)) a))), some (.int (nI a)), none], [], M)) 12 (fun a ha hx => ?_) ?_)
  · refine c_X11_shutMany_4 (br_f (nI_ge ha (by omega)) ?_)
    rw [nI_add a 1]
    obtain ⟨n, hn⟩ : ∃ n, a + 1 + n = 12 := ⟨11 - a, by omega⟩
    have lt := lp_0 (X := fx (LY pl tl) d m_X11_shutMany (qI Q)) (fun b => (14, [some (.ref 52), some (.int (nI (sP (sh (M.1 53)) a + sB (sh (M.1 53) a) a (a + 1 + b)))), some (.int (nI a)), some (.int (nI (a + 1 + b)))], [], M)) n (fun b hb hx2 => ?_) ?_
    · have e : sP (sh (M.1 53)) a + sB (sh (M.1 53) a) a (a + 1 + 0) = sP (sh (M.1 53)) a := by
        rw [sB_0 (fun b hb hb' => absurd hb' (by omega))]; rfl
      rw [e] at lt
      exact lt
    · refine c_X11_shutMany_14 (br_f (nI_ge (by omega) (by omega)) ?_)
      rw [pk_mul, nI_add, nI_add, z_cl (by omega), (hr a (a + 1 + b) ha (by omega)).2.1, nI_add, nI_add (a + 1 + b) 1]
      refine ⟨(z_in (by omega) (by omega)).mpr (by omega), ?_⟩
      have e : sP (sh (M.1 53)) a + sB (sh (M.1 53) a) a (a + 1 + (b + 1)) = sP (sh (M.1 53)) a + sB (sh (M.1 53) a) a (a + 1 + b) + sh (M.1 53) a (a + 1 + b) := by
        rw [show a + 1 + (b + 1) = (a + 1 + b) + 1 from rfl, show sB (sh (M.1 53) a) a ((a + 1 + b) + 1) = sB (sh (M.1 53) a) a (a + 1 + b) + sh (M.1 53) a (a + 1 + b) from if_pos (by omega)]; omega
      rw [e] at hx2
      exact hx2
    · refine c_X11_shutMany_14 ?_
      rw [hn, nI_add a 1]
      exact br_t (nI_le (Nat.le_refl _) (by omega)) hx
  · exact c_X11_shutMany_4 (br_t (nI_le (Nat.le_refl _) (by omega)) h)
theorem m_shuts {Q : Int32 → Mem → Prop} {a b s : Nat} (ha : a < 12) (hb : b < 12) (hs : s ≤ 1) (hv : VL (M.1 53)) (h2 : rd (M.1 53) a b = 0 → Q (-2) (thr M)) (h3 : 0 < rd (M.1 53) a b → sh (M.1 53) a b = s → Q (-3) (thr M)) (hk : 0 < rd (M.1 53) a b → ¬ sh (M.1 53) a b = s → ∀ C : Mem, C.1 53 = upS (M.1 53) a b (nI s) → (∀ c, c ≠ 53 → C.1 c = (thr M).1 c) → C.2 = M.2 → Q (nI (sP (sh (upS (M.1 53) a b (nI s))) 12)) C) : exI (LY pl tl) (d + 3) 163 [.ref 52, .int (nI a), .int (nI b), .int (nI s)] M Q := by
  have hr := hv.2.2.2.2.2.1
  have x1 : (si M 52 7 (nI 0)).1 53 (12 + 12 * a + b) = nI (rd (M.1 53) a b) := (hr a b ha hb).1.1
  have x2 : (si M 52 7 (nI 0)).1 53 (156 + 12 * a + b) = nI (sh (M.1 53) a b) := (hr a b ha hb).2.1
  have l1 := (hr a b ha hb).1.2.1
  have l2 := (hr a b ha hb).2.2.1
  have fin : 0 < rd (M.1 53) a b → ¬ sh (M.1 53) a b = s → exV (LY pl tl) (d + 2) 162 [.ref 52, .int (nI a), .int (nI b), .int (nI s)] (si M 52 7 (nI 0)) (fun M3 => exI (LY pl tl) (d + 2) 161 [.ref 52] M3 Q) := fun q1 q2 => by
    refine e_X11_setsShut ?_
    simp only [pk_mul, nI_add]
    rw [z_cl (by omega), z_cl (by omega)]
    refine ⟨(z_in (by omega) (by omega)).mpr (by omega), (z_in (by omega) (by omega)).mpr (by omega), s_shutMany (w := upS (M.1 53) a b (nI s)) rfl (VL_upS hv ha hb q1 hs).2.2.2.2.2.1 (hk q1 q2 _ rfl (fun c hc => ?_) rfl)⟩
    rw [si_c hc, si_c hc]; rfl
  refine e_X11_shuts (s_mNode (fun _ _ _ => ⟨fun c => absurd c (by decide), fun _ => s_mNode (fun _ _ _ => ⟨fun _ => ?_, fun c => absurd c (by decide)⟩) (fun q => (out_nI hb (by omega) q).elim)⟩) (fun q => (out_nI ha (by omega) q).elim))
  simp only [pk_mul, nI_add]
  rw [z_cl (by omega), z_cl (by omega), x1, x2, z_eq0 (by omega), z_eq (by omega) (by omega)]
  have v1 := (z_in (n := 12 + 12 * a + b) (N := 480) (by omega) (by omega)).mpr (by omega)
  have v2 := (z_in (n := 156 + 12 * a + b) (N := 480) (by omega) (by omega)).mpr (by omega)
  have h01 : s = 0 ∨ s = 1 := by omega
  rcases h01 with rfl | rfl
  · exact ⟨v1, fun c => ⟨v2, fun c1 => ⟨fun c2 => absurd rfl c2, fun _ => h3 (by omega) (by omega)⟩, fun c1 => ⟨fun _ => ⟨fun _ => fin (by omega) (by omega), fun c3 => absurd rfl c3⟩, fun c2 => absurd c2 (by decide)⟩⟩, fun c => h2 c⟩
  · exact ⟨v1, fun c => ⟨v2, fun c1 => ⟨fun _ => ⟨fun c3 => absurd c3 (by decide), fun _ => fin (by omega) (by omega)⟩, fun c2 => absurd c2 (by decide)⟩, fun c1 => ⟨fun c2 => absurd rfl c2, fun _ => h3 (by omega) (by omega)⟩⟩, fun c => h2 c⟩
theorem cI_cg {l g c c' : Nat → Nat} {o : Nat → Bool} : ∀ {n : Nat}, (∀ k, k < n → c k = c' k) → ∀ i j, cI l g c o n i j = cI l g c' o n i j
  | 0, _, _, _ => rfl
  | n + 1, h, i, j => by
    unfold cI
    rw [h n (by omega), cI_cg (fun k hk => h k (by omega)) i j]
theorem isP_rd {w : Nat → Int32} (hv : VL w) {a b k : Nat} (hk : k < rN w) (hp : isP (lo w) (hi w) k a b) : rd w (lo w k) (hi w k) = rd w a b ∧ sh w (lo w k) (hi w k) = sh w a b ∧ 0 < rd w a b := by
  obtain ⟨-, -, -, -, -, hr, t1, -⟩ := hv
  have h1 := t1 k hk
  rcases hp with ⟨rfl, rfl⟩ | ⟨rfl, rfl⟩
  · exact ⟨rfl, rfl, h1.2.2.2⟩
  · have := hr (lo w k) (hi w k) (by omega) (by omega)
    exact ⟨this.1.2.2, this.2.2.2, by rw [← this.1.2.2]; exact h1.2.2.2⟩
theorem isP_no {w : Nat → Int32} (hv : VL w) {a b : Nat} (ha : a < 12) (hb : b < 12) (hp : ∀ k, k < rN w → ¬ isP (lo w) (hi w) k a b) : rd w a b = 0 := by
  obtain ⟨-, -, -, -, -, hr, t1, t2, t3, t4, -⟩ := hv
  rcases Nat.eq_zero_or_pos (rd w a b) with q | q
  · exact q
  · rcases Nat.lt_trichotomy a b with z | z | z
    · obtain ⟨k, hk, e1, e2⟩ := t3 a b z hb q
      exact absurd (Or.inl ⟨e1.symm, e2.symm⟩) (hp k hk)
    · subst z; exact t4 a ha
    · obtain ⟨k, hk, e1, e2⟩ := t3 b a z ha (by rw [← (hr a b ha hb).1.2.2]; exact q)
      exact absurd (Or.inr ⟨e2.symm, e1.symm⟩) (hp k hk)
theorem sh_road {w : Nat → Int32} (hv : VL w) {a b k k' s : Nat} (hk : k < rN w) (hk' : k' < rN w) (ha : a < 12) (hb : b < 12) (hs : s ≤ 1) (hp : isP (lo w) (hi w) k a b) : sh (upS w a b (nI s)) (lo w k') (hi w k') = if k' = k then s else sh w (lo w k') (hi w k') := by
  obtain ⟨-, -, -, -, -, hr, t1, t2, -⟩ := hv
  have h1 := t1 k hk
  have h2 := t1 k' hk'
  rw [sh_upS ha hb (by omega) (by omega) hs]
  by_cases e : k' = k
  · subst e
    rw [if_pos rfl, if_pos]
    unfold isP at hp; omega
  · rw [if_neg e, if_neg]
    intro z
    refine e (t2 k' k hk' hk ?_ ?_) <;> (unfold isP at hp; omega)
/-- a road of the class's land set, and the ways measured -/
def cS (M : Mem) (w : Nat → Int32) (k s : Nat) : Mem := sa (si M 21 k (nI s)) 22 (fA (dist w) (M.1 22))
theorem s_setRoad {Q : Mem → Prop} {a b k s : Nat} {w : Nat → Int32} (hv : VL w) (hr : RLd 15 M w) (hk : k < rN w) (ha : a < 12) (hb : b < 12) (hs : s ≤ 1) (hp : isP (lo w) (hi w) k a b) (h : Q (cS M (upS w a b (nI s)) k s)) : exV (LY pl tl) (d + 2) 82 [.ref 16, .ref 22, .int (-1)] (si M 21 k (nI s)) Q := by
  have r66 := hv.2.1.2
  have t1 := hv.2.2.2.2.2.2.1
  have hpos := (isP_rd hv hk hp).2.2
  have hv' := VL_upS hv ha hb hpos hs
  obtain ⟨n1, n2, n3, n4⟩ := nm_upS w (nI s) ha hb
  refine s_measure_16_22 (n := rN w) (l := lo w) (g := hi w) (c_ := fun k' => rd w (lo w k') (hi w k')) (s := fun k' => sh (upS w a b (nI s)) (lo w k') (hi w k')) r66 (hr.2.2.1.trans hv.2.1.1) (fun k' hk' => ?_) ?_
  · have f := hr.2.2.2.2.1 k' hk'
    have g := t1 k' hk'
    have l1 := (hv'.2.2.2.2.2.1 (lo w k') (hi w k') (by omega) (by omega)).2.2.1
    have l2 := (hv.2.2.2.2.2.1 (lo w k') (hi w k') (by omega) (by omega)).1.2.1
    refine ⟨f.1, f.2.1, f.2.2.1, ?_, g.2.1, g.2.2.1, l2, l1⟩
    rw [si_s, sh_road hv hk hk' ha hb hs hp]
    by_cases e : k' = k
    · subst e; rw [upd_eq, if_pos rfl]
    · rw [upd_ne e, if_neg e]; exact f.2.2.2
  · have e : fA (FWm (cI (lo w) (hi w) (fun k' => rd w (lo w k') (hi w k')) (fun k' => decide (sh (upS w a b (nI s)) (lo w k') (hi w k') = 0) && !decide (nI k' = -1)) (rN w)) 12) ((si M 21 k (nI s)).1 22) = fA (dist (upS w a b (nI s))) (M.1 22) := by
      refine fA_cg (fun i j hi' hj => ?_)
      rw [← cI_dist hv' (o := fun k' => decide (sh (upS w a b (nI s)) (lo w k') (hi w k') = 0) && !decide (nI k' = -1)) (fun k' hk' => ?_) hi' hj]
      · rw [n2]
        refine FWm_cg (fun i j hi' hj => ?_) 12 (Nat.le_refl _) i j hi' hj
        rw [show lo (upS w a b (nI s)) = lo w from funext n3, show hi (upS w a b (nI s)) = hi w from funext n4]
        refine cI_cg (fun k' hk' => ?_) _ _
        have g := t1 k' hk'
        exact (rd_upS ha hb (by omega) (by omega)).symm
      · rw [n2] at hk'
        rw [n3, n4, decide_eq_false (fun z => (z_m1 (by omega)).mp z)]
        simp
    rw [e]
    exact h
theorem RC_cS {w : Nat → Int32} {a b k s : Nat} (hv : V w t) (hr : RC 15 M w) (hk : k < rN w) (ha : a < 12) (hb : b < 12) (hs : s ≤ 1) (hp : isP (lo w) (hi w) k a b) : V (upS w a b (nI s)) t ∧ RC 15 (cS M (upS w a b (nI s)) k s) (upS w a b (nI s)) := by
  have hpos := (isP_rd hv.1 hk hp).2.2
  have hv' := VL_upS hv.1 ha hb hpos hs
  obtain ⟨n1, n2, n3, n4⟩ := nm_upS w (nI s) ha hb
  have o : ∀ j, (j < 156 ∨ 300 ≤ j) → upS w a b (nI s) j = w j := fun j hj => upS_o ha hb hj
  have t1 := hv.1.2.2.2.2.2.2.1
  refine ⟨⟨hv', VC_cg (fun j hj => o j (by omega)) hv.2.1, VP_cg (fun j hj => o j (by omega)) hv.2.2.1, VM_cg (fun j hj => o j (by omega)) hv.2.2.2⟩, ⟨fun i hi => ?_, ?_, ?_, fun q hq => ?_, fun k' hk' => ?_, fun i j hi hj => ?_⟩, RK_cg (M := cS M (upS w a b (nI s)) k s) (w := w) (fun j hj => o j (by omega)) hv.2.1 hr.2.1, RP_cg (M := cS M (upS w a b (nI s)) k s) (w := w) (fun j hj => o j (by omega)) hr.2.2.1, RH_cg (M := cS M (upS w a b (nI s)) k s) (w := w) (fun j hj => o j (by omega)) hr.2.2.2⟩
  · rw [o i (by omega)]; exact hr.1.1 i hi
  · rw [o _ (by omega)]; exact hr.1.2.1
  · rw [o _ (by omega)]; exact hr.1.2.2.1
  · rw [n1] at hq; rw [o _ (by omega)]; exact hr.1.2.2.2.1 q hq
  · rw [n2] at hk'
    have f := hr.1.2.2.2.2.1 k' hk'
    have g := t1 k' hk'
    rw [n3, n4, rd_upS ha hb (by omega) (by omega), sh_road hv.1 hk hk' ha hb hs hp]
    refine ⟨f.1, f.2.1, f.2.2.1, ?_⟩
    show (si M 21 k (nI s)).1 21 k' = _
    rw [si_s]
    by_cases e : k' = k
    · subst e; rw [upd_eq, if_pos rfl]
    · rw [upd_ne e, if_neg e]; exact f.2.2.2
  · show (sa _ 22 _).1 22 _ = _
    rw [sa_s, fA_at _ _ hi hj]
theorem op_shuts {x y : Int32} {s : Nat} (hs : s ≤ 1) (h : Inv t M) (ht : t < 512) : Op pl tl (d + 12) 8 [.ref 0, .int x, .int y, .int (nI s)] 163 [.ref 52, .int x, .int y, .int (nI s)] t M := by
  have hI := h.up (t' := t + 1) (by omega) (by omega)
  obtain ⟨hv, hr⟩ := hI.1
  have r66 := hv.1.2.1.2
  refine e_X10_shuts (s_cNode (fun a ha e => ?_) (fun q => ⟨fun _ => ?_, fun c => absurd rfl c⟩))
  · subst e
    refine ⟨fun c => absurd c (by decide), fun _ => s_cNode (fun b hb e => ?_) (fun q => ⟨fun c => absurd rfl c, fun _ => ?_⟩)⟩
    · subst e
      refine ⟨fun _ => s_roadOf (w := M.1 53) hv.1 hr.1 ha hb (fun k hk hp => ?_) (fun hp => ?_), fun c => absurd c (by decide)⟩
      · have rk := isP_rd hv.1 hk hp
        have f : M.1 21 k = nI (sh (M.1 53) a b) := (hr.1.2.2.2.2.1 k hk).2.2.2.trans (by rw [rk.2.1])
        have l2 := (hv.1.2.2.2.2.2.1 a b ha hb).2.2.1
        have v6 := (z_in (n := k) (N := 66) (by omega) (by omega)).mpr (by omega)
        obtain ⟨hv', rc'⟩ := RC_cS (t := t + 1) hv hr hk ha hb hs hp
        rw [z_m1 (by omega), z_cl (by omega), f, z_eq (by omega) (by omega), vp_bool hs]
        refine ⟨fun _ => ⟨v6, fun c => ⟨v6, s_setRoad hv.1 hr.1 hk ha hb hs hp (s_shutRoads (w := upS (M.1 53) a b (nI s)) hv'.1 rc'.1 ?_)⟩, fun c => ?_⟩, fun c => c.elim⟩
        · refine m_shuts (M := cS M (upS (M.1 53) a b (nI s)) k s) ha hb hs hv.1 (fun q => absurd (show rd (M.1 53) a b = 0 from q) (by have := rk.2.2; omega)) (fun _ q => absurd q c) (fun _ _ C c53 cc c2 => ⟨congrArg nI (sh_pairs hv'.1), ?_⟩)
          have cx : ∀ i, i ≠ 53 → i ≠ 52 → C.1 i = (cS M (upS (M.1 53) a b (nI s)) k s).1 i := fun i h1 h2 => (cc i h1).trans (si_c h2)
          have c52 : ∀ i, i ≠ 7 → C.1 52 i = M.1 52 i := fun i hi => by
            rw [cc 52 (by omega)]
            show (si _ 52 7 (nI 0)).1 52 i = _
            rw [si_s, upd_ne hi]; rfl
          refine Inv_step (A := M) (B := cS M (upS (M.1 53) a b (nI s)) k s) (w := upS (M.1 53) a b (nI s)) hI ⟨rfl, fun i hi => ?_⟩ hv' rc' c53 (fun i h1 h2 => cx i (by omega) (by omega)) ⟨c52 2 (by omega), c52 4 (by omega)⟩ ?_
          · unfold cS
            rw [sa_n (by omega), si_c (by omega)]
          · have hrow := hI.2.1
            unfold RowOk at hrow ⊢
            rw [c2, cx 1 (by omega) (by omega), c52 6 (by omega)]
            exact hrow
        · exact m_shuts ha hb hs hv.1 (fun q => absurd q (by have := rk.2.2; omega)) (fun _ _ => ⟨rfl, hI⟩) (fun _ q => absurd c q)
      · have z := isP_no hv.1 ha hb hp
        refine ⟨fun c => absurd rfl c, fun _ => ?_⟩
        exact m_shuts ha hb hs hv.1 (fun _ => ⟨rfl, hI⟩) (fun q => absurd q (by omega)) (fun q => absurd q (by omega))
    · refine e_X11_shuts (s_mNode (fun _ _ _ => ⟨fun c => absurd c (by decide), fun _ => s_mNode (fun j hj e => ?_) (fun q => ⟨fun c => absurd rfl c, fun _ => ⟨rfl, hI⟩⟩)⟩) (fun q => (out_nI ha (by omega) q).elim))
      subst e; exact (out_nI hj (by omega) q).elim
  · refine e_X11_shuts (s_mNode (fun j hj e => ?_) (fun _ => ⟨fun _ => ⟨rfl, hI⟩, fun c => absurd rfl c⟩))
    subst e; exact (out_nI hj (by omega) q).elim
end S37
