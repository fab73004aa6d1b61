/-! THE CLASS READS: roads, weights -/
theorem adR_f {u : Nat → Int32} {a b c : Nat} (hv : VL u) (ha : a < 12) (hb : b < 12) (h0 : rd u a b = 0) (hc : c ≤ 60) (hr : rN u < 66) : (∀ j, j ≠ 458 → (j < 12 ∨ 156 ≤ j) → (j < 326 ∨ 392 ≤ j) → adR u a b c j = u j) ∧ (∀ k, k < rN u → lo (adR u a b c) k = lo u k ∧ hi (adR u a b c) k = hi u k ∧ rd (adR u a b c) (lo u k) (hi u k) = rd u (lo u k) (hi u k)) ∧ lo (adR u a b c) (rN u) = min a b ∧ hi (adR u a b c) (rN u) = max a b ∧ rd (adR u a b c) (min a b) (max a b) = c := by
  obtain ⟨-, -, -, -, -, v6, t1, t2, t3, t4, t5⟩ := hv
  have r0 : rd u b a = 0 := by rw [← (v6 a b ha hb).1.2.2]; exact h0
  have ne : ∀ j, j ≠ 458 → (j < 12 ∨ 156 ≤ j) → (j < 326 ∨ 392 ≤ j) → adR u a b c j = u j := fun j q1 q2 q3 => by
    unfold adR
    rw [upd_ne q1, upd_ne (by omega), upd_ne (by omega), upd_ne (by omega)]
  have e4' : ∀ x y, x < 12 → y < 12 → adR u a b c (12 + 12 * x + y) = if (x = a ∧ y = b) ∨ (x = b ∧ y = a) then nI c else u (12 + 12 * x + y) := fun x y hx hy => by
    unfold adR
    rw [upd_ne (by omega), upd_ne (by omega)]
    by_cases q : x = b ∧ y = a
    · rw [if_pos (Or.inr q), q.1, q.2, upd_eq]
    · rw [upd_ne (by omega)]
      by_cases q2 : x = a ∧ y = b
      · rw [if_pos (Or.inl q2), q2.1, q2.2, upd_eq]
      · rw [upd_ne (by omega), if_neg (by omega)]
  have e4 : ∀ x y, x < 12 → y < 12 → rd (adR u a b c) x y = if (x = a ∧ y = b) ∨ (x = b ∧ y = a) then c else rd u x y := fun x y hx hy => by
    unfold rd
    rw [e4' x y hx hy]
    by_cases q : (x = a ∧ y = b) ∨ (x = b ∧ y = a)
    · rw [if_pos q, if_pos q, tn_nI (by omega)]
    · rw [if_neg q, if_neg q]
  have e8' : ∀ k, k < 66 → adR u a b c (326 + k) = if k = rN u then nI (100 * min a b + max a b) else u (326 + k) := fun k hk => by
    unfold adR
    rw [upd_ne (by omega)]
    by_cases q : k = rN u
    · subst q; rw [upd_eq, if_pos rfl]
    · rw [upd_ne (by omega), upd_ne (by omega), upd_ne (by omega), if_neg q]
  have e8 : ∀ k, k < 66 → lo (adR u a b c) k = (if k = rN u then min a b else lo u k) ∧ hi (adR u a b c) k = if k = rN u then max a b else hi u k := fun k hk => by
    unfold lo hi
    rw [e8' k hk]
    by_cases q : k = rN u
    · rw [if_pos q, if_pos q, if_pos q, tn_nI (by omega)]; omega
    · rw [if_neg q, if_neg q, if_neg q]; exact ⟨rfl, rfl⟩
  refine ⟨ne, fun k hk => ?_, by rw [(e8 _ hr).1, if_pos rfl], by rw [(e8 _ hr).2, if_pos rfl], by rw [e4 _ _ (by omega) (by omega), if_pos (by omega)]⟩
  have z := t1 k hk
  refine ⟨by rw [(e8 k (by omega)).1, if_neg (by omega)], by rw [(e8 k (by omega)).2, if_neg (by omega)], ?_⟩
  rw [e4 _ _ (by omega) (by omega), if_neg]
  intro q
  rcases q with ⟨q1, q2⟩ | ⟨q1, q2⟩
  · rw [q1, q2] at z; omega
  · rw [q1, q2] at z; omega
section S62
variable {pl : Option Nat} {tl : List LC} {d : Nat} {M : Mem} {t : Nat} {T : Nat → Int32} {n : Nat} {s : Ps}
theorem s_refuse_f {Q : Mem → Prop} {x : Int32} {q : Nat} (hc : CRp T n M s) (hf : s.2.1 = some q) (hq : q ≤ 300) (h : Q M) : exV (LY pl tl) (d + 1) 108 [.ref 3, .int x] M Q := by
  refine e_X5_refuse ?_
  rw [hc.1.1.2.1, hf]
  exact ⟨fun _ => h, fun c => ((z_m1 (show q < 2147483648 by omega)).mp c).elim⟩
theorem s_addRoadC {Q : Mem → Prop} {a b c : Nat} (hc : CRp T n M s) (hg : GU s.2.2.1) (ha : a < 12) (hb : b < 12) (h0 : rd s.2.2.1 a b = 0) (hc' : c ≤ 60) (hr : rN s.2.2.1 < 66) (h : ∀ M', CRp T n M' (s.1, s.2.1, adR s.2.2.1 a b c, s.2.2.2) → FrR M M' → Q M') : exV (LY pl tl) (d + 1) 79 [.ref 6, .int (nI a), .int (nI b), .int (nI c)] M Q := by
  obtain ⟨⟨⟨h1, h2, h3⟩, ⟨d1, d2, d3⟩, d4, d5, d6, d7⟩, h5, h6⟩ := hc
  obtain ⟨f1, f2, f3, f4, f5⟩ := adR_f hg.1 ha hb h0 hc' hr
  have v66 := (z_in (n := rN s.2.2.1) (N := 66) (by omega) (by omega)).mpr hr
  refine e_X3_addRoad_6 ?_
  rw [d1, nI_min a b (by omega) (by omega), nI_max a b (by omega) (by omega), z_cl (by omega), nI_add, vp_bool (by omega)]
  refine br_f (nI_pos (by omega)) (br_f (nI_ge hr (by omega)) ⟨v66, v66, v66, v66, h _ ?_ ⟨rfl, fun c hc => ?_⟩⟩)
  · have e1 : rN (adR s.2.2.1 a b c) = rN s.2.2.1 + 1 := by show tn (adR s.2.2.1 a b c 458) = _; rw [show adR s.2.2.1 a b c 458 = nI (rN s.2.2.1 + 1) from upd_eq _ _ _, tn_nI (by omega)]
    have e2 : sN (adR s.2.2.1 a b c) = sN s.2.2.1 := by unfold sN; rw [f1 456 (by omega) (by omega) (by omega)]
    have e3 : eN (adR s.2.2.1 a b c) = eN s.2.2.1 := by unfold eN; rw [f1 457 (by omega) (by omega) (by omega)]
    have s8 := hg.1.1.2
    have e6 := hg.2.1.1.2
    refine ⟨⟨⟨h1, h2, h3⟩, ⟨?_, ?_, ?_⟩, fun x hx => ?_, fun k hk => ?_, fun x hx => ?_, fun x hx => ?_⟩, h5, h6⟩
    · show (si _ 6 7 _).1 6 7 = nI (rN (adR s.2.2.1 a b c))
      rw [si_s, upd_eq, e1]
    · show (si _ 6 7 _).1 6 8 = nI (sN (adR s.2.2.1 a b c))
      rw [si_s, upd_ne (by omega), e2]; exact d2
    · show M.1 3 3 = nI (eN (adR s.2.2.1 a b c))
      rw [e3]; exact d3
    · show M.1 7 x = adR s.2.2.1 a b c x
      rw [f1 x (by omega) (by omega) (by omega)]; exact d4 x hx
    · rw [show (s.1, s.2.1, adR s.2.2.1 a b c, s.2.2.2).2.2.1 = adR s.2.2.1 a b c from rfl] at hk ⊢
      rw [e1] at hk
      rw [si_c (show (8 : Nat) ≠ 6 by omega), si_c (show (9 : Nat) ≠ 6 by omega), si_c (show (10 : Nat) ≠ 6 by omega), si_c (show (11 : Nat) ≠ 6 by omega), si_c (show (8 : Nat) ≠ 11 by omega), si_c (show (9 : Nat) ≠ 11 by omega), si_c (show (10 : Nat) ≠ 11 by omega), si_s, si_c (show (8 : Nat) ≠ 10 by omega), si_c (show (9 : Nat) ≠ 10 by omega), si_s, si_c (show (8 : Nat) ≠ 9 by omega), si_s, si_s]
      by_cases q : k = rN s.2.2.1
      · subst q
        rw [upd_eq, upd_eq, upd_eq, upd_eq, f3, f4, f5]
        exact ⟨rfl, rfl, rfl, rfl⟩
      · obtain ⟨g1, g2', g3⟩ := f2 k (by omega)
        obtain ⟨k1, k2, k3, k4⟩ := d5 k (by omega)
        rw [upd_ne q, upd_ne q, upd_ne q, upd_ne q, g1, g2', g3]
        exact ⟨k1, k2, k3, k4⟩
    · rw [show (s.1, s.2.1, adR s.2.2.1 a b c, s.2.2.2).2.2.1 = adR s.2.2.1 a b c from rfl] at hx ⊢
      rw [e2] at hx
      rw [f1 _ (by omega) (by omega) (by omega)]
      exact d6 x hx
    · rw [show (s.1, s.2.1, adR s.2.2.1 a b c, s.2.2.2).2.2.1 = adR s.2.2.1 a b c from rfl] at hx ⊢
      rw [e3] at hx
      rw [f1 _ (by omega) (by omega) (by omega)]
      exact d7 x hx
  · rw [si_c (by omega), si_c (by omega), si_c (by omega), si_c (by omega), si_c (by omega)]
theorem s_roadOf6_any {Q : Int32 → Mem → Prop} {x y : Int32} (hc : CRp T n M s) (hg : GU s.2.2.1) (h : ∀ r, Q r M) : exI (LY pl tl) (d + 1) 80 [.ref 6, .int x, .int y] M Q := by
  have r66 := hg.1.2.1.2
  have d1 := hc.1.2.1.1
  refine e_X3_roadOf_6 (lp_0 (X := fx (LY pl tl) d m_X3_roadOf (qI Q)) (fun k => (16, [some (.ref 6), none, none, some (.int (if y < x then y else x)), some (.int (if x < y then y else x)), some (.int (nI k))], [], M)) (rN s.2.2.1) (fun k hk hx => ?_) ?_)
  · refine c_X3_roadOf_6_16 ?_
    have v66 := (z_in (n := k) (N := 66) (by omega) (by omega)).mpr (by omega)
    rw [d1, nI_add k 1]
    exact br_f (nI_ge hk (by omega)) ⟨v66, fun _ => hx, fun _ => ⟨v66, fun _ => hx, fun _ => h _⟩⟩
  · refine c_X3_roadOf_6_16 ?_
    rw [d1]
    exact br_t (nI_le (Nat.le_refl _) (by omega)) (h _)
theorem s_roadOf6 {Q : Int32 → Mem → Prop} {a b : Nat} (hc : CRp T n M s) (hg : GU s.2.2.1) (ha : a < 12) (hb : b < 12) (hab : a ≠ b) (h0 : rd s.2.2.1 a b = 0 → Q (-1) M) (h1 : 0 < rd s.2.2.1 a b → ∀ k, k < 66 → Q (nI k) M) : exI (LY pl tl) (d + 1) 80 [.ref 6, .int (nI a), .int (nI b)] M Q := by
  have r66 := hg.1.2.1.2
  have d1 := hc.1.2.1.1
  have d5 := hc.1.2.2.2.1
  obtain ⟨-, -, -, -, -, v6, t1, t2, t3, t4, t5⟩ := hg.1
  have sym : rd s.2.2.1 (min a b) (max a b) = rd s.2.2.1 a b := by
    rcases Nat.lt_or_ge a b with q | q
    · rw [show min a b = a by omega, show max a b = b by omega]
    · rw [show min a b = b by omega, show max a b = a by omega]; exact (v6 b a hb ha).1.2.2
  refine e_X3_roadOf_6 ?_
  rw [nI_min a b (by omega) (by omega), nI_max a b (by omega) (by omega)]
  refine lp_find (X := fx (LY pl tl) d m_X3_roadOf (qI Q)) (fun k => (16, [some (.ref 6), none, none, some (.int (nI (min a b))), some (.int (nI (max a b))), some (.int (nI k))], [], M)) (rN s.2.2.1) (fun k => lo s.2.2.1 k = min a b ∧ hi s.2.2.1 k = max a b) (fun k hk hno hx => ?_) (fun k hk hy => ?_) (fun hno => ?_)
  · refine c_X3_roadOf_6_16 ?_
    have v66 := (z_in (n := k) (N := 66) (by omega) (by omega)).mpr (by omega)
    obtain ⟨k1, k2, -⟩ := d5 k hk
    have z := t1 k hk
    rw [d1, z_cl (by omega), k1, k2, nI_add k 1, z_eq (by omega) (by omega), z_eq (by omega) (by omega)]
    exact br_f (nI_ge hk (by omega)) ⟨v66, fun _ => hx, fun q1 => ⟨v66, fun _ => hx, fun q2 => absurd ⟨q1, q2⟩ hno⟩⟩
  · refine c_X3_roadOf_6_16 ?_
    have v66 := (z_in (n := k) (N := 66) (by omega) (by omega)).mpr (by omega)
    obtain ⟨k1, k2, -⟩ := d5 k hk
    have z := t1 k hk
    have hpos : 0 < rd s.2.2.1 a b := by rw [← sym, ← hy.1, ← hy.2]; exact z.2.2.2
    rw [d1, z_cl (by omega), k1, k2, nI_add k 1, z_eq (by omega) (by omega), z_eq (by omega) (by omega)]
    exact br_f (nI_ge hk (by omega)) ⟨v66, fun q => absurd hy.1 q, fun _ => ⟨v66, fun q => absurd hy.2 q, fun _ => h1 hpos k (by omega)⟩⟩
  · refine c_X3_roadOf_6_16 ?_
    rw [d1]
    refine br_t (nI_le (Nat.le_refl _) (by omega)) (h0 ?_)
    rcases Nat.eq_zero_or_pos (rd s.2.2.1 a b) with q | q
    · exact q
    · rw [← sym] at q
      obtain ⟨k, k1, k2, k3⟩ := t3 _ _ (by omega) (by omega) q
      exact absurd ⟨k2, k3⟩ (hno k k1)
def s4R (x1 x3 : Option Nat × Ps) : Ps := match x1.1, x3.1 with
  | some a, some b => if a = b ∨ 0 < rd x3.2.2.2.1 a b then rfs (x3.2.1 - 1) x3.2 else x3.2
  | _, _ => x3.2
theorem s_readRoadC {Q : Mem → Prop} (hc : CRp T n M s) (hp : PI n s) (hn : n ≤ 300) (h : ∀ M', CRp T n M' (rdR T n s) → FrR M M' → Q M') : exV (LY pl tl) (d + 5) 100 [.ref 3] M Q := by
  have hr : rN s.2.2.1 < 66 ∨ s.2.1 ≠ none := by
    cases hf : s.2.1 with
    | none => have h1 := hp.2.2.1 hf; have h2 := hp.1; exact Or.inl (by omega)
    | some x => exact Or.inr (by simp)
  have eR : rdR T n s = match (nms T n 0 11 s).1, (nms T n 0 11 (tks T n 45 (nms T n 0 11 s).2)).1, (nms T n 1 60 (tks T n 61 (s4R (nms T n 0 11 s) (nms T n 0 11 (tks T n 45 (nms T n 0 11 s).2))))).1 with
    | some a, some b, some c => ((nms T n 1 60 (tks T n 61 (s4R (nms T n 0 11 s) (nms T n 0 11 (tks T n 45 (nms T n 0 11 s).2))))).2.1, none, adR (nms T n 1 60 (tks T n 61 (s4R (nms T n 0 11 s) (nms T n 0 11 (tks T n 45 (nms T n 0 11 s).2))))).2.2.2.1 a b c, (nms T n 1 60 (tks T n 61 (s4R (nms T n 0 11 s) (nms T n 0 11 (tks T n 45 (nms T n 0 11 s).2))))).2.2.2.2)
    | _, _, _ => (nms T n 1 60 (tks T n 61 (s4R (nms T n 0 11 s) (nms T n 0 11 (tks T n 45 (nms T n 0 11 s).2))))).2 := rfl
  refine e_X5_readRoad (s_numC hc hp hn (by omega) (by omega) (fun M1 c1 f1 => s_takeC c1 (PI_nms hp) hn (fun M2 c2 f2 => s_numC c2 (PI_tks (by omega) (PI_nms hp)) hn (by omega) (by omega) (fun M3 c3 f3 => ?_))))
  have P3 : PI n (nms T n 0 11 (tks T n 45 (nms T n 0 11 s).2)).2 := PI_nms (PI_tks (by omega) (PI_nms hp))
  have n1 := nms_ok (T := T) (lo := 0) (hi := 11) hp.1
  have n2 := tks_ok (T := T) (n := n) (c := 45) (s := (nms T n 0 11 s).2) (by omega) (PI_nms hp).1
  have n3 := nms_ok (T := T) (n := n) (lo := 0) (hi := 11) (s := tks T n 45 (nms T n 0 11 s).2) (PI_tks (by omega) (PI_nms hp)).1
  have F3 : FrR M M3 := (f1.t f2).t f3
  clear c1 c2 f1 f2 f3
  generalize hx1 : nms T n 0 11 s = x1 at *
  generalize hs2 : tks T n 45 x1.2 = s2 at *
  generalize hx3 : nms T n 0 11 s2 = x3 at *
  -- where it ends
  have tail : ∀ M4, CRp T n M4 (s4R x1 x3) → PI n (s4R x1 x3) → FrR M M4 → exV (LY pl tl) (d + 4) 106 [.ref 3, .int (nI 61)] M4 (fun M5 => exI (LY pl tl) (d + 4) 107 [.ref 3, .int (nI 1), .int (nI 60)] M5 (fun r6 M6 => (¬ M6.1 3 5 = -1 → Q M6) ∧ (M6.1 3 5 = -1 → exV (LY pl tl) (d + 4) 79 [.ref 6, .int (oM1 x1.1), .int (oM1 x3.1), .int r6] M6 (fun M7 => Q M7)))) := by
    intro M4 c4 P4 F4
    refine s_takeC c4 P4 hn (fun M5 c5 f5 => s_numC c5 (PI_tks (by omega) P4) hn (by omega) (by omega) (fun M6 c6 f6 => ?_))
    have P6 : PI n (nms T n 1 60 (tks T n 61 (s4R x1 x3))).2 := PI_nms (PI_tks (by omega) P4)
    have n6 := nms_ok (T := T) (n := n) (lo := 1) (hi := 60) (s := tks T n 61 (s4R x1 x3)) (PI_tks (by omega) P4).1
    have n5 := tks_ok (T := T) (n := n) (c := 61) (s := s4R x1 x3) (by omega) P4.1
    have F6 : FrR M M6 := (F4.t f5).t f6
    generalize nms T n 1 60 (tks T n 61 (s4R x1 x3)) = x6 at *
    rw [c6.1.1.2.1, fvO_m1 (fun q z => by have := P6.2.2.2 q z; omega)]
    rcases n6 with ⟨a1, ⟨q, a2, -⟩, -⟩ | ⟨c, a1, a2, a3, a4, a5, a6, a7, a8⟩
    · rw [a2]
      refine ⟨fun _ => h M6 ?_ F6, fun z => by cases z⟩
      rw [eR, a1]
      cases x1.1 <;> cases x3.1 <;> exact c6
    · rw [a5]
      refine ⟨fun z => absurd rfl z, fun _ => ?_⟩
      -- none of them is a fault
      have b2 : (s4R x1 x3).2.1 = none := by
        rcases n5 with ⟨⟨q, z1, -⟩, -⟩ | ⟨-, z2, -⟩
        · rw [z1] at a2; cases a2
        · exact z2
      have e5 : (tks T n 61 (s4R x1 x3)).2.2 = (s4R x1 x3).2.2 := by
        rcases n5 with ⟨-, -, z⟩ | ⟨-, -, -, -, z⟩ <;> exact z
      rcases n3 with ⟨y1, ⟨q, y2, -⟩, -⟩ | ⟨b, y1, y2, y3, y4, y5, y6, y7, y8⟩
      · exfalso
        have : s4R x1 x3 = x3.2 := by unfold s4R; rw [y1]; cases x1.1 <;> rfl
        rw [this, y2] at b2
        cases b2
      · rcases n1 with ⟨w1, ⟨q, w2, -⟩, -⟩ | ⟨a, w1, w2, w3, w4, w5, w6, w7, w8⟩
        · exfalso
          rcases n2 with ⟨⟨q', v1, -⟩, -⟩ | ⟨v1, v2, -⟩
          · rw [v1] at y2; cases y2
          · rw [w2] at v2; cases v2
        · have e4 : s4R x1 x3 = if a = b ∨ 0 < rd x3.2.2.2.1 a b then rfs (x3.2.1 - 1) x3.2 else x3.2 := by unfold s4R; rw [w1, y1]
          have hz : ¬ (a = b ∨ 0 < rd x3.2.2.2.1 a b) := fun z => by
            rw [e4, if_pos z, rfs_n y5] at b2
            cases b2
          rw [if_neg hz] at e4
          have e3 : x3.2.2.2 = s.2.2 := y8.trans (by rcases n2 with ⟨-, -, z⟩ | ⟨-, -, -, -, z⟩ <;> rw [z, w8])
          have e6 : x6.2.2.2 = s.2.2 := by rw [a8, e5, e4, e3]
          rw [e3] at hz
          have hf : s.2.1 = none := w2
          have hr' : rN s.2.2.1 < 66 := hr.resolve_right (fun z => z hf)
          rw [w1, y1, a1]
          have c6' : CRp T n M6 (x6.2.1, x6.2.2.1, s.2.2.1, s.2.2.2) := by
            have : (x6.2.1, x6.2.2.1, s.2.2.1, s.2.2.2) = x6.2 := Prod.ext rfl (Prod.ext rfl (by rw [← e6]))
            rw [this]; exact c6
          refine s_addRoadC (s := (x6.2.1, x6.2.2.1, s.2.2.1, s.2.2.2)) c6' hp.2.1 (by omega) (by omega) (by show rd s.2.2.1 a b = 0; omega) a4 hr' (fun M7 c7 f7 => h M7 ?_ (F6.t f7))
          rw [eR, w1, y1, a1]
          dsimp only
          rw [e6]
          rw [a5] at c7
          exact c7
  rcases n3 with ⟨y1, ⟨q, y2, -⟩, -⟩ | ⟨b, y1, y2, y3, y4, y5, y6, y7, y8⟩
  · -- a fault so far
    have hq := P3.2.2.2 q y2
    have e4 : s4R x1 x3 = x3.2 := by unfold s4R; rw [y1]; cases x1.1 <;> rfl
    have tl' := tail M3 (by rw [e4]; exact c3) (by rw [e4]; exact P3) F3
    refine ⟨fun _ => s_refuse_f c3 y2 (by omega) tl', fun _ => s_roadOf6_any c3 P3.2.1 (fun r => ⟨fun _ => tl', fun _ => s_refuse_f c3 y2 (by omega) tl'⟩)⟩
  · rcases n1 with ⟨w1, ⟨q, w2, -⟩, -⟩ | ⟨a, w1, w2, w3, w4, w5, w6, w7, w8⟩
    · exfalso
      rcases n2 with ⟨⟨q', v1, -⟩, -⟩ | ⟨v1, v2, -⟩
      · rw [v1] at y2; cases y2
      · rw [w2] at v2; cases v2
    · have e4 : s4R x1 x3 = if a = b ∨ 0 < rd x3.2.2.2.1 a b then rfs (x3.2.1 - 1) x3.2 else x3.2 := by unfold s4R; rw [w1, y1]
      have rf' : (a = b ∨ 0 < rd x3.2.2.2.1 a b) → exV (LY pl tl) (d + 4) 108 [.ref 3, .int (nI (x3.2.1 - 1))] M3 (fun M4 => exV (LY pl tl) (d + 4) 106 [.ref 3, .int (nI 61)] M4 (fun M5 => exI (LY pl tl) (d + 4) 107 [.ref 3, .int (nI 1), .int (nI 60)] M5 (fun r6 M6 => (¬ M6.1 3 5 = -1 → Q M6) ∧ (M6.1 3 5 = -1 → exV (LY pl tl) (d + 4) 79 [.ref 6, .int (oM1 x1.1), .int (oM1 x3.1), .int r6] M6 (fun M7 => Q M7))))) := fun z => by
        refine s_refuseC c3 P3.2.2.2 hn (fun M4 c4 f4 => tail M4 ?_ ?_ (F3.t f4))
        · rw [e4, if_pos z]; exact c4
        · rw [e4, if_pos z]; exact PI_rfs (by have := P3.1; omega) P3
      have s1 : oM1 x1.1 = nI a := by rw [w1]; rfl
      have s3 : oM1 x3.1 = nI b := by rw [y1]; rfl
      rw [s1, s3] at rf' tail ⊢
      rw [c3.1.1.1, z_sub (by omega), z_eq (by omega) (by omega)]
      refine ⟨fun z => rf' (Or.inl z), fun z => s_roadOf6 c3 P3.2.1 (by omega) (by omega) z (fun z0 => ⟨fun _ => ?_, fun q => absurd rfl q⟩) (fun z1 k hk => ⟨fun q => ((z_m1 (show k < 2147483648 by omega)).mp q).elim, fun _ => ?_⟩)⟩
      · refine tail M3 ?_ ?_ F3
        · rw [e4, if_neg (by omega)]; exact c3
        · rw [e4, if_neg (by omega)]; exact P3
      · rw [c3.1.1.1, z_sub (by omega)]
        exact rf' (Or.inr z1)
end S62
