/-! THE TEXT OF A LAND: what is told keeps the rules -/
theorem GU_r {u : Nat → Int32} {a b c : Nat} (h : GU u) (ha : a < 12) (hb : b < 12) (hab : a ≠ b) (h0 : rd u a b = 0) (hc1 : 1 ≤ c) (hc : c ≤ 60) (hr : rN u < 66) : GU (adR u a b c) ∧ rN (adR u a b c) = rN u + 1 ∧ sN (adR u a b c) = sN u ∧ eN (adR u a b c) = eN u := by
  obtain ⟨⟨v1, v2, v3, v4, v5, v6, v7⟩, h2, h3⟩ := h
  have ne : ∀ j, j ≠ 458 → (j < 12 ∨ 156 ≤ j) → (j < 326 ∨ 392 ≤ j) → adR u a b c j = u j := fun j q1 q2 q3 => by
    unfold adR
    rw [upd_ne q1, upd_ne (by omega), upd_ne (by omega), upd_ne (by omega)]
  have e1' : adR u a b c 458 = nI (rN u + 1) := upd_eq _ _ _
  have e1 : rN (adR u a b c) = rN u + 1 := by show tn (adR u a b c 458) = _; rw [e1', tn_nI (by omega)]
  have e2 : sN (adR u a b c) = sN u := by unfold sN; rw [ne 456 (by omega) (by omega) (by omega)]
  have e3 : eN (adR u a b c) = eN u := by unfold eN; rw [ne 457 (by omega) (by omega) (by omega)]
  have e4' : ∀ x y, x < 12 → y < 12 → adR u a b c (12 + 12 * x + y) = if (x = a ∧ y = b) ∨ (x = b ∧ y = a) then nI c else u (12 + 12 * x + y) := fun x y hx hy => by
    unfold adR
    rw [upd_ne (by omega), upd_ne (by omega)]
    by_cases q : x = b ∧ y = a
    · rw [if_pos (Or.inr q), q.1, q.2, upd_eq]
    · rw [upd_ne (by omega)]
      by_cases q2 : x = a ∧ y = b
      · rw [if_pos (Or.inl q2), q2.1, q2.2, upd_eq]
      · rw [upd_ne (by omega), if_neg (by omega)]
  have e4 : ∀ x y, x < 12 → y < 12 → rd (adR u a b c) x y = if (x = a ∧ y = b) ∨ (x = b ∧ y = a) then c else rd u x y := fun x y hx hy => by
    unfold rd
    rw [e4' x y hx hy]
    by_cases q : (x = a ∧ y = b) ∨ (x = b ∧ y = a)
    · rw [if_pos q, if_pos q, tn_nI (by omega)]
    · rw [if_neg q, if_neg q]
  have e5 : ∀ x y, x < 12 → y < 12 → sh (adR u a b c) x y = sh u x y := fun x y hx hy => by unfold sh; rw [ne _ (by omega) (by omega) (by omega)]
  have s0 : ∀ x y, x < 12 → y < 12 → sh u x y = 0 := fun x y hx hy => by unfold sh; rw [h3 _ (by omega), tn_nI (by omega)]
  have e8' : ∀ k, k < 66 → adR u a b c (326 + k) = if k = rN u then nI (100 * min a b + max a b) else u (326 + k) := fun k hk => by
    unfold adR
    rw [upd_ne (by omega)]
    by_cases q : k = rN u
    · subst q; rw [upd_eq, if_pos rfl]
    · rw [upd_ne (by omega), upd_ne (by omega), upd_ne (by omega), if_neg q]
  have e8 : ∀ k, k < 66 → lo (adR u a b c) k = (if k = rN u then min a b else lo u k) ∧ hi (adR u a b c) k = if k = rN u then max a b else hi u k := fun k hk => by
    unfold lo hi
    rw [e8' k hk]
    by_cases q : k = rN u
    · rw [if_pos q, if_pos q, if_pos q, tn_nI (by omega)]; omega
    · rw [if_neg q, if_neg q, if_neg q]; exact ⟨rfl, rfl⟩
  have r0 : rd u b a = 0 := by rw [← (v6 a b ha hb).1.2.2]; exact h0
  obtain ⟨t1, t2, t3, t4, t5⟩ := v7
  -- no road between the two so far
  have no : ∀ k, k < rN u → ¬ (lo u k = min a b ∧ hi u k = max a b) := fun k hk z => by
    have y := (t1 k hk).2.2.2
    rw [z.1, z.2] at y
    rcases Nat.lt_or_ge a b with q | q
    · rw [show min a b = a by omega, show max a b = b by omega] at y; omega
    · rw [show min a b = b by omega, show max a b = a by omega] at y; omega
  refine ⟨⟨⟨?_, ?_, fun x hx => ?_, fun s hs => ?_, fun s s' hs hs' hq => ?_, fun x y hx hy => ?_, ?_⟩, ?_, fun j hj => by rw [ne j (by omega) (by omega) (by omega)]; exact h3 j hj⟩, e1, e2, e3⟩
  · rw [e2, ne _ (by omega) (by omega) (by omega)]; exact v1
  · rw [e1, e1']; exact ⟨rfl, by omega⟩
  · unfold wt; rw [ne x (by omega) (by omega) (by omega)]; exact v3 x hx
  · rw [e2] at hs
    have := v1.2
    unfold sp; rw [ne _ (by omega) (by omega) (by omega)]; exact v4 s hs
  · rw [e2] at hs hs'
    have := v1.2
    refine v5 s s' hs hs' ?_
    unfold sp at hq ⊢
    rw [ne _ (by omega) (by omega) (by omega), ne _ (by omega) (by omega) (by omega)] at hq
    exact hq
  · rw [e4 x y hx hy, e4 y x hy hx, e5 x y hx hy, e5 y x hy hx, e4' x y hx hy, ne _ (by omega) (by omega) (by omega)]
    refine ⟨?_, (v6 x y hx hy).2⟩
    by_cases q : (x = a ∧ y = b) ∨ (x = b ∧ y = a)
    · rw [if_pos q, if_pos q, if_pos (by omega)]; exact ⟨rfl, hc, rfl⟩
    · rw [if_neg q, if_neg q, if_neg (by omega)]; exact (v6 x y hx hy).1
  · unfold VT
    rw [e1]
    refine ⟨fun k hk => ?_, fun k k' hk hk' q1 q2 => ?_, fun x y hxy hy hpos => ?_, fun x hx => ?_, fun x y hx hy _ => by rw [e5 x y hx hy]; exact s0 x y hx hy⟩
    · rw [(e8 k (by omega)).1, (e8 k (by omega)).2, e8' k (by omega)]
      by_cases q : k = rN u
      · rw [if_pos q, if_pos q, if_pos q, e4 _ _ (by omega) (by omega), if_pos (by omega)]
        exact ⟨rfl, by omega, by omega, by omega⟩
      · rw [if_neg q, if_neg q, if_neg q]
        have z := t1 k (by omega)
        refine ⟨z.1, z.2.1, z.2.2.1, ?_⟩
        rw [e4 _ _ (by omega) (by omega)]
        split
        · omega
        · exact z.2.2.2
    · rw [(e8 k (by omega)).1, (e8 k' (by omega)).1] at q1
      rw [(e8 k (by omega)).2, (e8 k' (by omega)).2] at q2
      by_cases q : k = rN u
      · by_cases q' : k' = rN u
        · omega
        · rw [if_pos q, if_neg q'] at q1 q2
          exact absurd ⟨q1.symm, q2.symm⟩ (no k' (by omega))
      · by_cases q' : k' = rN u
        · rw [if_neg q, if_pos q'] at q1 q2
          exact absurd ⟨q1, q2⟩ (no k (by omega))
        · rw [if_neg q, if_neg q'] at q1 q2
          exact t2 k k' (by omega) (by omega) q1 q2
    · rw [e4 x y (by omega) hy] at hpos
      by_cases q : (x = a ∧ y = b) ∨ (x = b ∧ y = a)
      · refine ⟨rN u, by omega, ?_, ?_⟩
        · rw [(e8 _ hr).1, if_pos rfl]; omega
        · rw [(e8 _ hr).2, if_pos rfl]; omega
      · rw [if_neg q] at hpos
        obtain ⟨k, k1, k2, k3⟩ := t3 x y hxy hy hpos
        exact ⟨k, by omega, by rw [(e8 k (by omega)).1, if_neg (by omega)]; exact k2, by rw [(e8 k (by omega)).2, if_neg (by omega)]; exact k3⟩
    · rw [e4 x x hx hx, if_neg (by omega)]; exact t4 x hx
  · rw [e3, e2, ne 457 (by omega) (by omega) (by omega)]
    refine ⟨h2.1, fun e he => ?_⟩
    have := h2.1.2
    unfold po; rw [ne _ (by omega) (by omega) (by omega)]; exact h2.2 e he
theorem tks_f {T : Nat → Int32} {n c q : Nat} {s : Ps} (h : s.2.1 = some q) : tks T n c s = s := by unfold tks; rw [h]
theorem nms_f {T : Nat → Int32} {n lo hi q : Nat} {s : Ps} (h : s.2.1 = some q) : nms T n lo hi s = (none, s) := by unfold nms; rw [h]
theorem rfs_n {q : Nat} {s : Ps} (h : s.2.1 = none) : rfs q s = (s.1, some q, s.2.2) := by unfold rfs; rw [h]
theorem rfs_f {q x : Nat} {s : Ps} (h : s.2.1 = some x) : rfs q s = s := by
  unfold rfs
  rw [h]
  exact Prod.ext rfl (Prod.ext h.symm rfl)
/-- a fault, all else as it was -/
def Flt (n : Nat) (s s' : Ps) : Prop := (∃ q, s'.2.1 = some q ∧ q ≤ n) ∧ s'.1 ≤ n ∧ s'.2.2 = s.2.2
theorem rdR_c {T : Nat → Int32} {n : Nat} {s : Ps} (hp : s.1 ≤ n) (hf : s.2.1 = none) : Flt n s (rdR T n s) ∨ ∃ a b c p', rdR T n s = (p', none, adR s.2.2.1 a b c, s.2.2.2) ∧ a < 12 ∧ b < 12 ∧ a ≠ b ∧ rd s.2.2.1 a b = 0 ∧ 1 ≤ c ∧ c ≤ 60 ∧ s.1 + 5 ≤ p' ∧ p' ≤ n := by
  unfold rdR
  dsimp only
  rcases nms_ok (T := T) (lo := 0) (hi := 11) hp with ⟨a1, ⟨q, a2, a3⟩, a4, a5⟩ | ⟨a, a1, -, -, a2, a3, a4, a5, a6⟩
  · have hq : q ≤ n := by rcases a3 with z | z; rw [hf] at z; cases z; exact z
    refine Or.inl ?_
    rw [tks_f a2, nms_f a2, a1]
    try dsimp only
    rw [tks_f a2, nms_f a2]
    exact ⟨⟨q, a2, hq⟩, a4, a5⟩
  · rw [a1]
    try dsimp only
    generalize nms T n 0 11 s = x1 at a1 a3 a4 a5 a6 ⊢
    rcases tks_ok (T := T) (n := n) (c := 45) (s := x1.2) (by omega) a5 with ⟨⟨q, b1, b2⟩, b3, b4⟩ | ⟨b1, -, b2, b3, b4⟩
    · have hq : q ≤ n := by rcases b2 with z | z; rw [a3] at z; cases z; exact z
      refine Or.inl ?_
      rw [nms_f b1]
      dsimp only
      rw [tks_f b1, nms_f b1]
      exact ⟨⟨q, b1, hq⟩, b3, b4.trans a6⟩
    · generalize tks T n 45 x1.2 = s2 at b1 b2 b4 ⊢
      rcases nms_ok (T := T) (n := n) (lo := 0) (hi := 11) (s := s2) (by omega) with ⟨c1, ⟨q, c2, c3⟩, c4, c5⟩ | ⟨b, c1, -, -, c2, c3, c4, c5, c6⟩
      · have hq : q ≤ n := by rcases c3 with z | z; rw [b1] at z; cases z; exact z
        refine Or.inl ?_
        rw [c1]
        dsimp only
        rw [tks_f c2, nms_f c2]
        exact ⟨⟨q, c2, hq⟩, c4, c5.trans (b4.trans a6)⟩
      · rw [c1]
        dsimp only
        generalize nms T n 0 11 s2 = x3 at c1 c3 c4 c5 c6 ⊢
        have e3 : x3.2.2.2 = s.2.2 := c6.trans (b4.trans a6)
        by_cases hz : a = b ∨ 0 < rd x3.2.2.2.1 a b
        · rw [if_pos hz]
          refine Or.inl ?_
          have r1 := rfs_n (q := x3.2.1 - 1) c3
          have r2 : (rfs (x3.2.1 - 1) x3.2).2.1 = some (x3.2.1 - 1) := by rw [r1]
          rw [tks_f r2, nms_f r2]
          dsimp only
          rw [r1]
          exact ⟨⟨_, rfl, by omega⟩, c5, e3⟩
        · rw [if_neg hz]
          rcases tks_ok (T := T) (n := n) (c := 61) (s := x3.2) (by omega) c5 with ⟨⟨q, d1, d2⟩, d3, d4⟩ | ⟨d1, -, d2, d3, d4⟩
          · have hq : q ≤ n := by rcases d2 with z | z; rw [c3] at z; cases z; exact z
            refine Or.inl ?_
            rw [nms_f d1]
            exact ⟨⟨q, d1, hq⟩, d3, d4.trans e3⟩
          · generalize tks T n 61 x3.2 = s5 at d1 d2 d4 ⊢
            rcases nms_ok (T := T) (n := n) (lo := 1) (hi := 60) (s := s5) (by omega) with ⟨f1, ⟨q, f2, f3⟩, f4, f5⟩ | ⟨c, f1, -, f0, f2, f3, f4, f5, f6⟩
            · have hq : q ≤ n := by rcases f3 with z | z; rw [d1] at z; cases z; exact z
              refine Or.inl ?_
              rw [f1]
              exact ⟨⟨q, f2, hq⟩, f4, f5.trans (d4.trans e3)⟩
            · rw [f1]
              dsimp only
              have e6 : (nms T n 1 60 s5).2.2.2 = s.2.2 := f6.trans (d4.trans e3)
              rw [e6]
              rw [e3] at hz
              exact Or.inr ⟨a, b, c, _, rfl, by omega, by omega, fun z => hz (Or.inl z), by omega, f0, f2, by omega, f5⟩
theorem rdW_c {T : Nat → Int32} {n : Nat} {s : Ps} (hp : s.1 ≤ n) (hf : s.2.1 = none) : Flt n s (rdW T n s) ∨ ∃ a c p', rdW T n s = (p', none, upd s.2.2.1 a (nI c), s.2.2.2 ||| b1 a) ∧ a < 12 ∧ c ≤ 99 ∧ s.1 + 3 ≤ p' ∧ p' ≤ n := by
  unfold rdW
  dsimp only
  rcases nms_ok (T := T) (lo := 0) (hi := 11) hp with ⟨a1, ⟨q, a2, a3⟩, a4, a5⟩ | ⟨a, a1, -, -, a2, a3, a4, a5, a6⟩
  · have hq : q ≤ n := by rcases a3 with z | z; rw [hf] at z; cases z; exact z
    refine Or.inl ?_
    rw [a1]
    dsimp only
    rw [tks_f a2, nms_f a2]
    exact ⟨⟨q, a2, hq⟩, a4, a5⟩
  · rw [a1]
    dsimp only
    generalize nms T n 0 11 s = x1 at a1 a3 a4 a5 a6 ⊢
    by_cases hz : tb x1.2.2.2.2 a
    · rw [if_pos hz]
      refine Or.inl ?_
      have r1 := rfs_n (q := x1.2.1 - 1) a3
      have r2 : (rfs (x1.2.1 - 1) x1.2).2.1 = some (x1.2.1 - 1) := by rw [r1]
      rw [tks_f r2, nms_f r2]
      dsimp only
      rw [r1]
      exact ⟨⟨_, rfl, by omega⟩, a5, a6⟩
    · rw [if_neg hz]
      rcases tks_ok (T := T) (n := n) (c := 61) (s := x1.2) (by omega) a5 with ⟨⟨q, d1, d2⟩, d3, d4⟩ | ⟨d1, -, d2, d3, d4⟩
      · have hq : q ≤ n := by rcases d2 with z | z; rw [a3] at z; cases z; exact z
        refine Or.inl ?_
        rw [nms_f d1]
        exact ⟨⟨q, d1, hq⟩, d3, d4.trans a6⟩
      · generalize tks T n 61 x1.2 = s5 at d1 d2 d4 ⊢
        rcases nms_ok (T := T) (n := n) (lo := 0) (hi := 99) (s := s5) (by omega) with ⟨f1, ⟨q, f2, f3⟩, f4, f5⟩ | ⟨c, f1, -, f0, f2, f3, f4, f5, f6⟩
        · have hq : q ≤ n := by rcases f3 with z | z; rw [d1] at z; cases z; exact z
          refine Or.inl ?_
          rw [f1]
          exact ⟨⟨q, f2, hq⟩, f4, f5.trans (d4.trans a6)⟩
        · rw [f1]
          dsimp only
          have e6 : (nms T n 0 99 s5).2.2.2 = s.2.2 := f6.trans (d4.trans a6)
          rw [e6]
          exact Or.inr ⟨a, c, _, rfl, by omega, f2, by omega, f5⟩
theorem isSt_no {u : Nat → Int32} {a : Nat} (h : ¬ isSt u a = true) : ∀ s, s < sN u → ¬ u (300 + s) = nI a := fun s hs z => h (by
  unfold isSt
  exact decide_eq_true ((cn_ex _).mpr ⟨s, hs, decide_eq_true z⟩))
theorem stS_ok {T : Nat → Int32} {n : Nat} : ∀ k (s : Ps), s.1 < n → s.2.1 = none → GU s.2.2.1 → eN s.2.2.1 = 0 → sN s.2.2.1 + k = 8 → 1 ≤ k → 6 * rN s.2.2.1 ≤ s.1 → PI n (stS T n k s) ∧ ((stS T n k s).2.1 = none → s.1 < (stS T n k s).1 ∧ 0 < sN (stS T n k s).2.2.1 ∧ eN (stS T n k s).2.2.1 = 0)
  | k + 1, s, hp, hf, hg, he, hk, _, hr => by
    unfold stS
    rcases nms_ok (T := T) (n := n) (lo := 0) (hi := 11) (s := (s.1 + 1, s.2)) (by show s.1 + 1 ≤ n; omega) with ⟨a1, ⟨q, a2, a3⟩, a4, a5⟩ | ⟨a, a1, -, -, a2, a3, a4, a5, a6⟩
    · have hq : q ≤ n := by
        rcases a3 with z | z
        · rw [show (s.1 + 1, s.2).2.1 = s.2.1 from rfl, hf] at z; cases z
        · exact z
      rw [a1]
      dsimp only at a5 ⊢
      refine ⟨⟨a4, by rw [a5]; exact hg, fun z => (by rw [a2] at z; cases z), fun q' z => (by rw [a2] at z; cases z; exact hq)⟩, fun z => (by rw [a2] at z; cases z)⟩
    · rw [a1]
      dsimp only at a4 a6 ⊢
      generalize nms T n 0 11 (s.1 + 1, s.2) = x at a1 a3 a4 a5 a6 ⊢
      by_cases hz : isSt s.2.2.1 a = true
      · rw [if_pos hz, rfs_n a3]
        refine ⟨⟨a5, by show GU x.2.2.2.1; rw [a6]; exact hg, fun z => (by cases z), fun q' z => ?_⟩, fun z => (by cases z)⟩
        have z := Option.some.inj z
        omega
      · rw [if_neg hz]
        obtain ⟨g1, g2', g3, g4⟩ := GU_s hg (show a < 12 by omega) (by omega) he (isSt_no hz)
        have base : PI n (x.2.1, none, adS s.2.2.1 a, s.2.2.2) ∧ ((none : Option Nat) = none → s.1 < x.2.1 ∧ 0 < sN (adS s.2.2.1 a) ∧ eN (adS s.2.2.1 a) = 0) := by
          refine ⟨⟨a5, g1, fun _ => ?_, fun q' z => by cases z⟩, fun _ => ⟨by omega, by omega, by omega⟩⟩
          show 6 * rN (adS s.2.2.1 a) ≤ x.2.1
          omega
        by_cases hc : sg T n x.2.1 = nI 44
        · rw [if_pos hc]
          cases k with
          | zero => exact base
          | succ k =>
            have hlt := sg_lt (by omega) hc
            obtain ⟨i1, i2⟩ := stS_ok (T := T) (n := n) (k + 1) (x.2.1, none, adS s.2.2.1 a, s.2.2.2) hlt rfl g1 (by show eN (adS s.2.2.1 a) = 0; omega) (by show sN (adS s.2.2.1 a) + (k + 1) = 8; omega) (by omega) (by show 6 * rN (adS s.2.2.1 a) ≤ x.2.1; omega)
            exact ⟨i1, fun z => ⟨by have := (i2 z).1; dsimp only at this; omega, (i2 z).2⟩⟩
        · rw [if_neg hc]
          exact base
theorem stE_ok {T : Nat → Int32} {n : Nat} : ∀ k (s : Ps), s.1 < n → s.2.1 = none → GU s.2.2.1 → 0 < sN s.2.2.1 → eN s.2.2.1 + k = 6 → 1 ≤ k → 6 * rN s.2.2.1 ≤ s.1 → PI n (stE T n k s) ∧ ((stE T n k s).2.1 = none → s.1 < (stE T n k s).1)
  | k + 1, s, hp, hf, hg, hs0, hk, _, hr => by
    have s8 := hg.1.1.2
    unfold stE
    rcases nms_ok (T := T) (n := n) (lo := 0) (hi := sN s.2.2.1 - 1) (s := (s.1 + 1, s.2)) (by show s.1 + 1 ≤ n; omega) with ⟨a1, ⟨q, a2, a3⟩, a4, a5⟩ | ⟨a, a1, -, -, a2, a3, a4, a5, a6⟩
    · have hq : q ≤ n := by
        rcases a3 with z | z
        · rw [show (s.1 + 1, s.2).2.1 = s.2.1 from rfl, hf] at z; cases z
        · exact z
      rw [a1]
      dsimp only at a5 ⊢
      refine ⟨⟨a4, by rw [a5]; exact hg, fun z => (by rw [a2] at z; cases z), fun q' z => (by rw [a2] at z; cases z; exact hq)⟩, fun z => (by rw [a2] at z; cases z)⟩
    · rw [a1]
      dsimp only at a4 a6 ⊢
      generalize nms T n 0 (sN s.2.2.1 - 1) (s.1 + 1, s.2) = x at a1 a3 a4 a5 a6 ⊢
      obtain ⟨g1, g2', g3, g4⟩ := GU_e hg (show a < sN s.2.2.1 by omega) (by omega)
      have base : PI n (x.2.1, none, adE s.2.2.1 a, s.2.2.2) ∧ ((none : Option Nat) = none → s.1 < x.2.1) := by
        refine ⟨⟨a5, g1, fun _ => ?_, fun q' z => by cases z⟩, fun _ => by omega⟩
        show 6 * rN (adE s.2.2.1 a) ≤ x.2.1
        omega
      by_cases hc : sg T n x.2.1 = nI 44
      · rw [if_pos hc]
        cases k with
        | zero => exact base
        | succ k =>
          have hlt := sg_lt (by omega) hc
          obtain ⟨i1, i2⟩ := stE_ok (T := T) (n := n) (k + 1) (x.2.1, none, adE s.2.2.1 a, s.2.2.2) hlt rfl g1 (by show 0 < sN (adE s.2.2.1 a); omega) (by show eN (adE s.2.2.1 a) + (k + 1) = 6; omega) (by omega) (by show 6 * rN (adE s.2.2.1 a) ≤ x.2.1; omega)
          exact ⟨i1, fun z => by have := i2 z; dsimp only at this; omega⟩
      · rw [if_neg hc]
        exact base
/-- engines stand at stations -/
def SE (u : Nat → Int32) : Prop := sN u = 0 → eN u = 0
theorem GU_SE {u : Nat → Int32} (h : GU u) : SE u := fun z => by
  rcases Nat.eq_zero_or_pos (eN u) with q | q
  · exact q
  · have := (h.2.1.2 0 q).2
    omega
theorem PI_f {n : Nat} {s s' : Ps} (h : PI n s) (hf : Flt n s s') : PI n s' ∧ (s'.2.1 = none → s.1 < s'.1) := by
  obtain ⟨⟨q, f1, f2⟩, f3, f4⟩ := hf
  exact ⟨⟨f3, by rw [f4]; exact h.2.1, fun z => (by rw [f1] at z; cases z), fun q' z => (by rw [f1] at z; cases z; exact f2)⟩, fun z => (by rw [f1] at z; cases z)⟩
theorem rdL_ok {T : Nat → Int32} {n : Nat} {s : Ps} (h300 : n ≤ 300) (h : PI n s) (hf : s.2.1 = none) : PI n (rdL T n s) ∧ ((rdL T n s).2.1 = none → s.1 < (rdL T n s).1) := by
  have hr := h.2.2.1 hf
  have fl : PI n (rfs s.1 s) ∧ ((rfs s.1 s).2.1 = none → s.1 < (rfs s.1 s).1) := PI_f h ⟨⟨s.1, by rw [rfs_n hf], h.1⟩, h.1, rfl⟩
  unfold rdL
  by_cases c1 : sg T n s.1 = nI 114
  · rw [if_pos c1]
    have hp := sg_lt (by omega) c1
    rcases rdR_c (T := T) (n := n) (s := (s.1 + 1, s.2)) (by show s.1 + 1 ≤ n; omega) hf with q | ⟨a, b, c, p', e, h1, h2, h3, h4, h5, h6, h7, h8⟩
    · exact PI_f h q
    · rw [e]
      dsimp only at h4 h7 ⊢
      obtain ⟨g1, g2', g3, g4⟩ := GU_r h.2.1 h1 h2 h3 h4 h5 h6 (by omega)
      refine ⟨⟨h8, g1, fun _ => ?_, fun q' z => by cases z⟩, fun _ => by omega⟩
      show 6 * rN (adR s.2.2.1 a b c) ≤ p'
      omega
  · rw [if_neg c1]
    by_cases c2 : sg T n s.1 = nI 119
    · rw [if_pos c2]
      have hp := sg_lt (by omega) c2
      rcases rdW_c (T := T) (n := n) (s := (s.1 + 1, s.2)) (by show s.1 + 1 ≤ n; omega) hf with q | ⟨a, c, p', e, h1, h2, h3, h4⟩
      · exact PI_f h q
      · rw [e]
        dsimp only at h3 ⊢
        obtain ⟨g1, g2', g3, g4⟩ := GU_w h.2.1 h1 h2
        refine ⟨⟨h4, g1, fun _ => ?_, fun q' z => by cases z⟩, fun _ => by omega⟩
        show 6 * rN (upd s.2.2.1 a (nI c)) ≤ p'
        omega
    · rw [if_neg c2]
      by_cases c3 : sg T n s.1 = nI 115
      · rw [if_pos c3]
        have hp := sg_lt (by omega) c3
        by_cases z : 0 < sN s.2.2.1
        · rw [if_pos z]; exact fl
        · rw [if_neg z]
          obtain ⟨i1, i2⟩ := stS_ok (T := T) (n := n) 8 s hp hf h.2.1 (GU_SE h.2.1 (by omega)) (by omega) (by omega) hr
          exact ⟨i1, fun q => (i2 q).1⟩
      · rw [if_neg c3]
        by_cases c4 : sg T n s.1 = nI 101
        · rw [if_pos c4]
          have hp := sg_lt (by omega) c4
          by_cases z : sN s.2.2.1 = 0 ∨ 0 < eN s.2.2.1
          · rw [if_pos z]; exact fl
          · rw [if_neg z]
            exact stE_ok (T := T) (n := n) 6 s hp hf h.2.1 (by omega) (by omega) (by omega) hr
        · rw [if_neg c4]; exact fl
