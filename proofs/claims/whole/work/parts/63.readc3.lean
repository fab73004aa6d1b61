/-! THE CLASS READS: weights, stations, engines, lines -/
section S63
variable {pl : Option Nat} {tl : List LC} {d : Nat} {M : Mem} {t : Nat} {T : Nat → Int32} {n : Nat} {s : Ps}
def s2W (x1 : Option Nat × Ps) : Ps := match x1.1 with
  | some a => if tb x1.2.2.2.2 a then rfs (x1.2.1 - 1) x1.2 else x1.2
  | none => x1.2
theorem s_readWeightC {Q : Mem → Prop} (hc : CRp T n M s) (hp : PI n s) (hn : n ≤ 300) (h : ∀ M', CRp T n M' (rdW T n s) → FrR M M' → Q M') : exV (LY pl tl) (d + 5) 101 [.ref 3] M Q := by
  have eR : rdW T n s = match (nms T n 0 11 s).1, (nms T n 0 99 (tks T n 61 (s2W (nms T n 0 11 s)))).1 with
    | some a, some c => ((nms T n 0 99 (tks T n 61 (s2W (nms T n 0 11 s)))).2.1, none, upd (nms T n 0 99 (tks T n 61 (s2W (nms T n 0 11 s)))).2.2.2.1 a (nI c), (nms T n 0 99 (tks T n 61 (s2W (nms T n 0 11 s)))).2.2.2.2 ||| b1 a)
    | _, _ => (nms T n 0 99 (tks T n 61 (s2W (nms T n 0 11 s)))).2 := rfl
  refine e_X5_readWeight (s_numC hc hp hn (by omega) (by omega) (fun M1 c1 F1 => ?_))
  have P1 : PI n (nms T n 0 11 s).2 := PI_nms hp
  have n1 := nms_ok (T := T) (lo := 0) (hi := 11) hp.1
  generalize hx1 : nms T n 0 11 s = x1 at *
  have tail : ∀ M4, CRp T n M4 (s2W x1) → PI n (s2W x1) → FrR M M4 → exV (LY pl tl) (d + 4) 106 [.ref 3, .int (nI 61)] M4 (fun M5 => exI (LY pl tl) (d + 4) 107 [.ref 3, .int (nI 0), .int (nI 99)] M5 (fun r6 M6 => (¬ M6.1 3 5 = -1 → Q M6) ∧ (M6.1 3 5 = -1 → exI (LY pl tl) (d + 4) 46 [.int (oM1 x1.1)] M6 (fun r7 M7 => (r7 = 0 → Q M7) ∧ (¬ r7 = 0 → vp_in (oM1 x1.1) 12 ∧ Q (si (si M7 3 6 (M7.1 3 6 ||| (nI 1 <<< (oM1 x1.1 &&& 31)))) 7 (oM1 x1.1).toNatClampNeg r6)))))) := by
    intro M4 c4 P4 F4
    refine s_takeC c4 P4 hn (fun M5 c5 f5 => s_numC c5 (PI_tks (by omega) P4) hn (by omega) (by omega) (fun M6 c6 f6 => ?_))
    have P6 : PI n (nms T n 0 99 (tks T n 61 (s2W x1))).2 := PI_nms (PI_tks (by omega) P4)
    have n6 := nms_ok (T := T) (n := n) (lo := 0) (hi := 99) (s := tks T n 61 (s2W x1)) (PI_tks (by omega) P4).1
    have n5 := tks_ok (T := T) (n := n) (c := 61) (s := s2W x1) (by omega) P4.1
    have F6 : FrR M M6 := (F4.t f5).t f6
    generalize nms T n 0 99 (tks T n 61 (s2W x1)) = x6 at *
    rw [c6.1.1.2.1, fvO_m1 (fun q z => by have := P6.2.2.2 q z; omega)]
    rcases n6 with ⟨a1, ⟨q, a2, -⟩, -⟩ | ⟨c, a1, a2, a3, a4, a5, a6, a7, a8⟩
    · rw [a2]
      refine ⟨fun _ => h M6 ?_ F6, fun z => by cases z⟩
      rw [eR, a1]
      cases x1.1 <;> exact c6
    · rw [a5]
      refine ⟨fun z => absurd rfl z, fun _ => ?_⟩
      have b2 : (s2W x1).2.1 = none := by
        rcases n5 with ⟨⟨q, z1, -⟩, -⟩ | ⟨-, z2, -⟩
        · rw [z1] at a2; cases a2
        · exact z2
      have e5 : (tks T n 61 (s2W x1)).2.2 = (s2W x1).2.2 := by
        rcases n5 with ⟨-, -, z⟩ | ⟨-, -, -, -, z⟩ <;> exact z
      rcases n1 with ⟨w1, ⟨q, w2, -⟩, -⟩ | ⟨a, w1, w2, w3, w4, w5, w6, w7, w8⟩
      · exfalso
        have : s2W x1 = x1.2 := by unfold s2W; rw [w1]
        rw [this, w2] at b2
        cases b2
      · have e4 : s2W x1 = if tb x1.2.2.2.2 a then rfs (x1.2.1 - 1) x1.2 else x1.2 := by unfold s2W; rw [w1]
        have hz : ¬ tb x1.2.2.2.2 a := fun z => by
          rw [e4, if_pos z, rfs_n w5] at b2
          cases b2
        rw [if_neg hz] at e4
        have e6 : x6.2.2.2 = s.2.2 := by rw [a8, e5, e4, w8]
        have s1 : oM1 x1.1 = nI a := by rw [w1]; rfl
        rw [s1, a1]
        refine s_cNode (fun j hj e => ⟨fun z => absurd z (by decide), fun _ => ⟨(z_in (by omega) (by omega)).mpr (by omega), ?_⟩⟩) (fun q => (out_nI (show a < 12 by omega) (by omega) q).elim)
        rw [z_cl (show a < 2147483648 by omega)]
        obtain ⟨⟨⟨k1, k2, k3⟩, ⟨d1, d2, d3⟩, d4, d5, d6, d7⟩, k5, k6⟩ := c6
        obtain ⟨g1, g2', g3, g4⟩ := GU_w hp.2.1 (show a < 12 by omega) a4
        refine h _ ?_ (F6.t ⟨rfl, fun c hc => ?_⟩)
        · rw [eR, w1, a1]
          dsimp only
          rw [e6] at d1 d2 d3 d4 d5 d6 d7 k3 ⊢
          have ne : ∀ j, 12 ≤ j → upd s.2.2.1 a (nI c) j = s.2.2.1 j := fun j hj => upd_ne (by omega)
          refine ⟨⟨⟨?_, ?_, ?_⟩, ⟨?_, ?_, ?_⟩, fun x hx => ?_, fun k hk => ?_, fun x hx => ?_, fun x hx => ?_⟩, k5, k6⟩
          · exact k1
          · rw [a5] at k2; exact k2
          · show upd (M6.1 3) 6 (M6.1 3 6 ||| (nI 1 <<< (nI a &&& 31))) 6 = _
            rw [upd_eq, k3]
          · show M6.1 6 7 = nI (rN (upd s.2.2.1 a (nI c)))
            rw [g2']; exact d1
          · show M6.1 6 8 = nI (sN (upd s.2.2.1 a (nI c)))
            rw [g3]; exact d2
          · show M6.1 3 3 = nI (eN (upd s.2.2.1 a (nI c)))
            rw [g4]; exact d3
          · show (si _ 7 a (nI c)).1 7 x = upd s.2.2.1 a (nI c) x
            rw [si_s]
            by_cases q : x = a
            · subst q; rw [upd_eq, upd_eq]
            · rw [upd_ne q, upd_ne q]; exact d4 x hx
          · rw [show ((x6.2.1, none, upd s.2.2.1 a (nI c), s.2.2.2 ||| b1 a) : Ps).2.2.1 = upd s.2.2.1 a (nI c) from rfl] at hk ⊢
            rw [g2'] at hk
            have el : lo (upd s.2.2.1 a (nI c)) k = lo s.2.2.1 k ∧ hi (upd s.2.2.1 a (nI c)) k = hi s.2.2.1 k := by unfold lo hi; rw [ne _ (by omega)]; exact ⟨rfl, rfl⟩
            have er : ∀ x y, rd (upd s.2.2.1 a (nI c)) x y = rd s.2.2.1 x y := fun x y => by unfold rd; rw [ne _ (by omega)]
            rw [el.1, el.2, er]
            exact d5 k hk
          · rw [show ((x6.2.1, none, upd s.2.2.1 a (nI c), s.2.2.2 ||| b1 a) : Ps).2.2.1 = upd s.2.2.1 a (nI c) from rfl] at hx ⊢
            rw [g3] at hx
            rw [ne _ (by omega)]; exact d6 x hx
          · rw [show ((x6.2.1, none, upd s.2.2.1 a (nI c), s.2.2.2 ||| b1 a) : Ps).2.2.1 = upd s.2.2.1 a (nI c) from rfl] at hx ⊢
            rw [g4] at hx
            rw [ne _ (by omega)]; exact d7 x hx
        · rw [si_c (by omega), si_c (by omega)]
  rw [c1.1.1.2.1, fvO_m1 (fun q z => by have := P1.2.2.2 q z; omega), c1.1.1.2.2, c1.1.1.1]
  rcases n1 with ⟨w1, ⟨q, w2, -⟩, -⟩ | ⟨a, w1, w2, w3, w4, w5, w6, w7, w8⟩
  · have e4 : s2W x1 = x1.2 := by unfold s2W; rw [w1]
    refine ⟨fun _ => tail M1 (by rw [e4]; exact c1) (by rw [e4]; exact P1) F1, fun z => ?_⟩
    rw [w2] at z; cases z
  · have e4 : s2W x1 = if tb x1.2.2.2.2 a then rfs (x1.2.1 - 1) x1.2 else x1.2 := by unfold s2W; rw [w1]
    have s1 : oM1 x1.1 = nI a := by rw [w1]; rfl
    rw [s1] at tail ⊢
    rw [z_sub (show 1 ≤ x1.2.1 by omega)]
    refine ⟨fun z => absurd w5 z, fun _ => ⟨fun z => ?_, fun z => s_refuseC c1 P1.2.2.2 hn (fun M4 c4 f4 => ?_)⟩⟩
    · have z : ¬ tb x1.2.2.2.2 a := z
      exact tail M1 (by rw [e4, if_neg z]; exact c1) (by rw [e4, if_neg z]; exact P1) F1
    · have z : tb x1.2.2.2.2 a := z
      exact tail M4 (by rw [e4, if_pos z]; exact c4) (by rw [e4, if_pos z]; exact PI_rfs (by have := P1.1; omega) P1) (F1.t f4)
theorem s_isCommaC {Q : Int32 → Mem → Prop} (hc : CRp T n M s) (hp : PI n s) (hn : n ≤ 300) (hf : ∀ q, s.2.1 = some q → Q (nI 0) M) (h1 : s.2.1 = none → sg T n s.1 = nI 44 → Q (nI 1) M) (h0 : s.2.1 = none → ¬ sg T n s.1 = nI 44 → Q (nI 0) M) : exI (LY pl tl) (d + 2) 104 [.ref 3] M Q := by
  have p1 := hp.1
  refine e_X5_isCommaNext ?_
  rw [hc.1.1.2.1, fvO_m1 (fun q z => by have := hp.2.2.2 q z; omega), hc.1.1.1]
  refine ⟨fun z => ?_, fun z => s_signAt hn (by omega) hc.2.1 hc.2.2 ⟨fun c => h0 z c, fun c => h1 z c⟩⟩
  cases hq : s.2.1 with
  | none => exact absurd hq z
  | some q => exact hf q hq
theorem s_isStAt_any {Q : Int32 → Mem → Prop} {x : Int32} (hc : CRp T n M s) (hg : GU s.2.2.1) (h : ∀ r, Q r M) : exI (LY pl tl) (d + 1) 87 [.ref 6, .int x] M Q := by
  have s8 := hg.1.1.2
  have d2 := hc.1.2.1.2.1
  refine e_X3_isStationAt_6 (lp_0 (X := fx (LY pl tl) d m_X3_isStationAt (qI Q)) (fun k => (2, [some (.ref 6), some (.int x), some (.int (nI k))], [], M)) (sN s.2.2.1) (fun k hk hx => ?_) ?_)
  · refine c_X3_isStationAt_6_2 ?_
    rw [d2, nI_add k 1]
    exact br_f (nI_ge hk (by omega)) ⟨(z_in (by omega) (by omega)).mpr (by omega), fun _ => hx, fun _ => h _⟩
  · refine c_X3_isStationAt_6_2 ?_
    rw [d2]
    exact br_t (nI_le (Nat.le_refl _) (by omega)) (h _)
theorem s_isStAt {Q : Int32 → Mem → Prop} {a : Nat} (hc : CRp T n M s) (hg : GU s.2.2.1) (h1 : isSt s.2.2.1 a = true → Q (nI 1) M) (h0 : ¬ isSt s.2.2.1 a = true → Q (nI 0) M) : exI (LY pl tl) (d + 1) 87 [.ref 6, .int (nI a)] M Q := by
  have s8 := hg.1.1.2
  have d2 := hc.1.2.1.2.1
  have d6 := hc.1.2.2.2.2.1
  refine e_X3_isStationAt_6 (lp_find (X := fx (LY pl tl) d m_X3_isStationAt (qI Q)) (fun k => (2, [some (.ref 6), some (.int (nI a)), some (.int (nI k))], [], M)) (sN s.2.2.1) (fun k => s.2.2.1 (300 + k) = nI a) (fun k hk hno hx => ?_) (fun k hk hy => ?_) (fun hno => ?_))
  · refine c_X3_isStationAt_6_2 ?_
    rw [d2, z_cl (by omega), d6 k hk, nI_add k 1]
    exact br_f (nI_ge hk (by omega)) ⟨(z_in (by omega) (by omega)).mpr (by omega), fun _ => hx, fun q => absurd q hno⟩
  · refine c_X3_isStationAt_6_2 ?_
    rw [d2, z_cl (by omega), d6 k hk, nI_add k 1]
    refine br_f (nI_ge hk (by omega)) ⟨(z_in (by omega) (by omega)).mpr (by omega), fun q => absurd hy q, fun _ => h1 ?_⟩
    unfold isSt
    exact decide_eq_true ((cn_ex _).mpr ⟨k, hk, decide_eq_true hy⟩)
  · refine c_X3_isStationAt_6_2 ?_
    rw [d2]
    refine br_t (nI_le (Nat.le_refl _) (by omega)) (h0 (fun z => ?_))
    unfold isSt at z
    obtain ⟨k, hk, e⟩ := (cn_ex _).mp (of_decide_eq_true z)
    exact hno k hk (of_decide_eq_true e)
theorem s_stS {Q : Mem → Prop} (hn : n ≤ 300) : ∀ k {M : Mem} {s : Ps}, CRp T n M s → s.1 < n → s.2.1 = none → GU s.2.2.1 → eN s.2.2.1 = 0 → sN s.2.2.1 + k = 8 → 6 * rN s.2.2.1 ≤ s.1 → (∀ M', CRp T n M' (stS T n k s) → FrR M M' → Q M') → fx (LY pl tl) (d + 4) m_X5_readStations (qV Q) (23, [some (.ref 3), some (.int (nI 1)), some (.int (nI (sN s.2.2.1))), none], [], M)
  | 0, M, s, hc, hp, hf, hg, he, hk, hr, h => by
    refine c_X5_readStations_23 (br_f (by decide) (br_t (nI_le (by omega) (by omega)) (h M hc (FrR.r M))))
  | k + 1, M, s, hc, hp, hf, hg, he, hk, hr, h => by
    refine c_X5_readStations_23 (br_f (by decide) (br_f (nI_ge (by omega) (by omega)) ?_))
    rw [hc.1.1.1, nI_add]
    have hc1 := CR_4 (p := s.1 + 1) hc
    have f1 := FrR_3 M 4 (nI (s.1 + 1))
    generalize si M 3 4 (nI (s.1 + 1)) = M1 at hc1 f1 ⊢
    have P1 : PI n (s.1 + 1, s.2) := ⟨by show s.1 + 1 ≤ n; omega, hg, fun _ => by show 6 * rN s.2.2.1 ≤ s.1 + 1; omega, fun q z => (by rw [show (s.1 + 1, s.2).2.1 = s.2.1 from rfl, hf] at z; cases z)⟩
    refine s_numC hc1 P1 hn (by omega) (by omega) (fun M2 c2 f2 => ?_)
    have P2 : PI n (nms T n 0 11 (s.1 + 1, s.2)).2 := PI_nms P1
    have n1 := nms_ok (T := T) (n := n) (lo := 0) (hi := 11) (s := (s.1 + 1, s.2)) P1.1
    have F2 := f1.t f2
    have eS : stS T n (k + 1) s = match (nms T n 0 11 (s.1 + 1, s.2)).1 with
      | none => (nms T n 0 11 (s.1 + 1, s.2)).2
      | some a => if isSt s.2.2.1 a = true then rfs ((nms T n 0 11 (s.1 + 1, s.2)).2.1 - 1) (nms T n 0 11 (s.1 + 1, s.2)).2 else if sg T n (nms T n 0 11 (s.1 + 1, s.2)).2.1 = nI 44 then stS T n k ((nms T n 0 11 (s.1 + 1, s.2)).2.1, none, adS s.2.2.1 a, s.2.2.2) else ((nms T n 0 11 (s.1 + 1, s.2)).2.1, none, adS s.2.2.1 a, s.2.2.2) := rfl
    generalize nms T n 0 11 (s.1 + 1, s.2) = x at *
    have fin : ∀ {M5 : Mem} {s5 : Ps} {q : Nat}, CRp T n M5 s5 → PI n s5 → s5.2.1 = some q → stS T n (k + 1) s = s5 → FrR M M5 → exI (LY pl tl) (d + 4) 104 [.ref 3] M5 (fun r3 M3 => fx (LY pl tl) (d + 4) m_X5_readStations (qV Q) (23, [some (.ref 3), some (.int r3), some (.int (nI (sN s.2.2.1) + nI 1)), none], [], M3)) := fun {M5 s5 q} c5 p5 e5 e6 f5 => s_isCommaC c5 p5 hn (fun q _ => c_X5_readStations_23 (br_t rfl (h M5 (by rw [e6]; exact c5) f5))) (fun z => by rw [e5] at z; cases z) (fun z => by rw [e5] at z; cases z)
    rcases n1 with ⟨w1, ⟨q, w2, -⟩, -⟩ | ⟨a, w1, w2, w3, w4, w5, w6, w7, w8⟩
    · have e1 : stS T n (k + 1) s = x.2 := by rw [eS, w1]
      have hq := P2.2.2.2 q w2
      have f5' : M2.1 3 5 = nI q := by rw [c2.1.1.2.1, w2]; rfl
      have nm : ¬ M2.1 3 5 = -1 := fun z => (z_m1 (show q < 2147483648 by omega)).mp (f5'.symm.trans z)
      refine s_isStAt_any c2 P2.2.1 (fun r => ⟨fun _ => ⟨fun _ => fin c2 P2 w2 e1 F2, fun z => absurd z nm⟩, fun _ => s_refuse_f c2 w2 (by omega) ⟨fun _ => fin c2 P2 w2 e1 F2, fun z => absurd z nm⟩⟩)
    · rw [w1] at eS ⊢
      dsimp only at eS w6 w8
      have e22 : x.2.2.2 = s.2.2 := w8
      have m1 : M2.1 3 5 = -1 := by rw [c2.1.1.2.1, w5]; rfl
      refine s_isStAt c2 P2.2.1 (fun z => ⟨fun q => absurd q (by decide), fun _ => ?_⟩) (fun z => ⟨fun _ => ⟨fun q => absurd m1 q, fun _ => ⟨(z_in (by omega) (by omega)).mpr (by omega), ?_⟩⟩, fun q => absurd rfl q⟩)
      · rw [e22] at z
        rw [if_pos z] at eS
        rw [c2.1.1.1, z_sub (by omega)]
        refine s_refuseC c2 P2.2.2.2 hn (fun M3 c3 f3 => ?_)
        have e3 : (rfs (x.2.1 - 1) x.2).2.1 = some (x.2.1 - 1) := by rw [rfs_n w5]
        have nm : ¬ M3.1 3 5 = -1 := fun y => (z_m1 (show x.2.1 - 1 < 2147483648 by omega)).mp (by rw [c3.1.1.2.1, e3] at y; exact y)
        exact ⟨fun _ => fin c3 (PI_rfs (by omega) P2) e3 eS (F2.t f3), fun y => absurd y nm⟩
      · rw [e22] at z
        rw [if_neg z] at eS
        rw [z_cl (by omega), nI_add]
        obtain ⟨g1, g2', g3, g4⟩ := GU_s hg (show a < 12 by omega) (by omega) he (isSt_no z)
        have ne : ∀ j, j ≠ 456 → (j < 300 ∨ 308 ≤ j) → adS s.2.2.1 a j = s.2.2.1 j := fun j q1 q2 => by unfold adS; rw [upd_ne q1, upd_ne (by omega)]
        have c4 : CRp T n (si (si M2 13 (sN s.2.2.1) (oM1 (some a))) 6 8 (nI (sN s.2.2.1 + 1))) (x.2.1, none, adS s.2.2.1 a, s.2.2.2) := by
          obtain ⟨⟨⟨k1, k2, k3⟩, ⟨d1, d2, d3⟩, d4, d5, d6, d7⟩, k5, k6⟩ := c2
          rw [e22] at d1 d2 d3 d4 d5 d6 d7 k3
          rw [w5] at k2
          have r66 := hg.1.2.1.2
          refine ⟨⟨⟨k1, k2, k3⟩, ⟨?_, ?_, ?_⟩, fun y hy => ?_, fun j hj => ?_, fun y hy => ?_, fun y hy => ?_⟩, k5, k6⟩
          · show (si _ 6 8 _).1 6 7 = nI (rN (adS s.2.2.1 a))
            rw [si_s, upd_ne (by omega), g2']; exact d1
          · show (si _ 6 8 _).1 6 8 = nI (sN (adS s.2.2.1 a))
            rw [si_s, upd_eq, g3]
          · show M2.1 3 3 = nI (eN (adS s.2.2.1 a))
            rw [g4]; exact d3
          · show M2.1 7 y = adS s.2.2.1 a y
            rw [ne _ (by omega) (by omega)]; exact d4 y hy
          · rw [show ((x.2.1, none, adS s.2.2.1 a, s.2.2.2) : Ps).2.2.1 = adS s.2.2.1 a from rfl] at hj ⊢
            rw [g2'] at hj
            have z1 := hg.1.2.2.2.2.2.2.1 j hj
            have el : lo (adS s.2.2.1 a) j = lo s.2.2.1 j ∧ hi (adS s.2.2.1 a) j = hi s.2.2.1 j := by unfold lo hi; rw [ne _ (by omega) (by omega)]; exact ⟨rfl, rfl⟩
            have er : rd (adS s.2.2.1 a) (lo s.2.2.1 j) (hi s.2.2.1 j) = rd s.2.2.1 (lo s.2.2.1 j) (hi s.2.2.1 j) := by unfold rd; rw [ne _ (by omega) (by omega)]
            rw [el.1, el.2, er]
            exact d5 j hj
          · rw [show ((x.2.1, none, adS s.2.2.1 a, s.2.2.2) : Ps).2.2.1 = adS s.2.2.1 a from rfl] at hy ⊢
            rw [g3] at hy
            have ea : adS s.2.2.1 a (300 + y) = if y = sN s.2.2.1 then nI a else s.2.2.1 (300 + y) := by
              unfold adS
              rw [upd_ne (by omega)]
              by_cases q : y = sN s.2.2.1
              · subst q; rw [upd_eq, if_pos rfl]
              · rw [upd_ne (by omega), if_neg q]
            show upd (M2.1 13) (sN s.2.2.1) (nI a) y = _
            rw [ea]
            by_cases q : y = sN s.2.2.1
            · subst q; rw [upd_eq, if_pos rfl]
            · rw [upd_ne q, if_neg q]; exact d6 y (by omega)
          · rw [show ((x.2.1, none, adS s.2.2.1 a, s.2.2.2) : Ps).2.2.1 = adS s.2.2.1 a from rfl] at hy ⊢
            rw [g4] at hy
            omega
        have F4 : FrR M (si (si M2 13 (sN s.2.2.1) (oM1 (some a))) 6 8 (nI (sN s.2.2.1 + 1))) := F2.t ⟨rfl, fun c hc => by rw [si_c (by omega), si_c (by omega)]⟩
        generalize si (si M2 13 (sN s.2.2.1) (oM1 (some a))) 6 8 (nI (sN s.2.2.1 + 1)) = M4 at c4 F4 ⊢
        have P4 : PI n (x.2.1, none, adS s.2.2.1 a, s.2.2.2) := ⟨w7, g1, fun _ => by show 6 * rN (adS s.2.2.1 a) ≤ x.2.1; omega, fun q y => (by cases y)⟩
        refine s_isCommaC c4 P4 hn (fun q y => by cases y) (fun _ y => ?_) (fun _ y => ?_)
        · have y : sg T n x.2.1 = nI 44 := y
          rw [if_pos y] at eS
          have := s_stS hn k c4 (sg_lt (by omega) y) rfl g1 (by show eN (adS s.2.2.1 a) = 0; omega) (by show sN (adS s.2.2.1 a) + k = 8; omega) (by show 6 * rN (adS s.2.2.1 a) ≤ x.2.1; omega) (fun M' c' f' => h M' (by rw [eS]; exact c') (F4.t f'))
          rw [show sN ((x.2.1, none, adS s.2.2.1 a, s.2.2.2) : Ps).2.2.1 = sN s.2.2.1 + 1 from g3] at this
          exact this
        · have y : ¬ sg T n x.2.1 = nI 44 := y
          rw [if_neg y] at eS
          exact c_X5_readStations_23 (br_t rfl (h M4 (by rw [eS]; exact c4) F4))
theorem s_stE {Q : Mem → Prop} (hn : n ≤ 300) : ∀ k {M : Mem} {s : Ps}, CRp T n M s → s.1 < n → s.2.1 = none → GU s.2.2.1 → 0 < sN s.2.2.1 → eN s.2.2.1 + k = 6 → 6 * rN s.2.2.1 ≤ s.1 → (∀ M', CRp T n M' (stE T n k s) → FrR M M' → Q M') → fx (LY pl tl) (d + 4) m_X5_readEngines (qV Q) (30, [some (.ref 3), some (.int (nI 1)), some (.int (nI (eN s.2.2.1))), none], [], M)
  | 0, M, s, hc, hp, hf, hg, he, hk, hr, h => by
    refine c_X5_readEngines_30 (br_f (by decide) (br_t (nI_le (by omega) (by omega)) (h M hc (FrR.r M))))
  | k + 1, M, s, hc, hp, hf, hg, he, hk, hr, h => by
    have s8 := hg.1.1.2
    refine c_X5_readEngines_30 (br_f (by decide) (br_f (nI_ge (by omega) (by omega)) ?_))
    rw [hc.1.1.1, nI_add, hc.1.2.1.2.1, z_sub (by omega)]
    have hc1 := CR_4 (p := s.1 + 1) hc
    have f1 := FrR_3 M 4 (nI (s.1 + 1))
    generalize si M 3 4 (nI (s.1 + 1)) = M1 at hc1 f1 ⊢
    have P1 : PI n (s.1 + 1, s.2) := ⟨by show s.1 + 1 ≤ n; omega, hg, fun _ => by show 6 * rN s.2.2.1 ≤ s.1 + 1; omega, fun q z => (by rw [show (s.1 + 1, s.2).2.1 = s.2.1 from rfl, hf] at z; cases z)⟩
    refine s_numC hc1 P1 hn (by omega) (by omega) (fun M2 c2 f2 => ?_)
    have P2 : PI n (nms T n 0 (sN s.2.2.1 - 1) (s.1 + 1, s.2)).2 := PI_nms P1
    have n1 := nms_ok (T := T) (n := n) (lo := 0) (hi := sN s.2.2.1 - 1) (s := (s.1 + 1, s.2)) P1.1
    have F2 := f1.t f2
    have eS : stE T n (k + 1) s = match (nms T n 0 (sN s.2.2.1 - 1) (s.1 + 1, s.2)).1 with
      | none => (nms T n 0 (sN s.2.2.1 - 1) (s.1 + 1, s.2)).2
      | some a => if sg T n (nms T n 0 (sN s.2.2.1 - 1) (s.1 + 1, s.2)).2.1 = nI 44 then stE T n k ((nms T n 0 (sN s.2.2.1 - 1) (s.1 + 1, s.2)).2.1, none, adE s.2.2.1 a, s.2.2.2) else ((nms T n 0 (sN s.2.2.1 - 1) (s.1 + 1, s.2)).2.1, none, adE s.2.2.1 a, s.2.2.2) := rfl
    generalize nms T n 0 (sN s.2.2.1 - 1) (s.1 + 1, s.2) = x at *
    rw [c2.1.1.2.1, fvO_m1 (fun q z => by have := P2.2.2.2 q z; omega)]
    rcases n1 with ⟨w1, ⟨q, w2, -⟩, -⟩ | ⟨a, w1, w2, w3, w4, w5, w6, w7, w8⟩
    · have e1 : stE T n (k + 1) s = x.2 := by rw [eS, w1]
      refine ⟨fun _ => s_isCommaC c2 P2 hn (fun q _ => c_X5_readEngines_30 (br_t rfl (h M2 (by rw [e1]; exact c2) F2))) (fun z => by rw [w2] at z; cases z) (fun z => by rw [w2] at z; cases z), fun z => ?_⟩
      rw [w2] at z; cases z
    · rw [w1] at eS ⊢
      dsimp only at eS w6 w8
      have e22 : x.2.2.2 = s.2.2 := w8
      refine ⟨fun z => absurd w5 z, fun _ => ⟨(z_in (by omega) (by omega)).mpr (by omega), ?_⟩⟩
      rw [z_cl (by omega), nI_add]
      obtain ⟨g1, g2', g3, g4⟩ := GU_e hg (show a < sN s.2.2.1 by omega) (by omega)
      have ne : ∀ j, j ≠ 457 → (j < 308 ∨ 314 ≤ j) → adE s.2.2.1 a j = s.2.2.1 j := fun j q1 q2 => by unfold adE; rw [upd_ne q1, upd_ne (by omega)]
      have c4 : CRp T n (si (si M2 14 (eN s.2.2.1) (oM1 (some a))) 3 3 (nI (eN s.2.2.1 + 1))) (x.2.1, none, adE s.2.2.1 a, s.2.2.2) := by
        obtain ⟨⟨⟨k1, k2, k3⟩, ⟨d1, d2, d3⟩, d4, d5, d6, d7⟩, k5, k6⟩ := c2
        rw [e22] at d1 d2 d3 d4 d5 d6 d7 k3
        rw [w5] at k2
        have r66 := hg.1.2.1.2
        refine ⟨⟨⟨?_, ?_, ?_⟩, ⟨?_, ?_, ?_⟩, fun y hy => ?_, fun j hj => ?_, fun y hy => ?_, fun y hy => ?_⟩, k5, k6⟩
        · show (si _ 3 3 _).1 3 4 = _
          rw [si_s, upd_ne (by omega)]; exact k1
        · show (si _ 3 3 _).1 3 5 = _
          rw [si_s, upd_ne (by omega)]; exact k2
        · show (si _ 3 3 _).1 3 6 = _
          rw [si_s, upd_ne (by omega)]; exact k3
        · show M2.1 6 7 = nI (rN (adE s.2.2.1 a))
          rw [g2']; exact d1
        · show M2.1 6 8 = nI (sN (adE s.2.2.1 a))
          rw [g3]; exact d2
        · show (si _ 3 3 _).1 3 3 = nI (eN (adE s.2.2.1 a))
          rw [si_s, upd_eq, g4]
        · show M2.1 7 y = adE s.2.2.1 a y
          rw [ne _ (by omega) (by omega)]; exact d4 y hy
        · rw [show ((x.2.1, none, adE s.2.2.1 a, s.2.2.2) : Ps).2.2.1 = adE s.2.2.1 a from rfl] at hj ⊢
          rw [g2'] at hj
          have z1 := hg.1.2.2.2.2.2.2.1 j hj
          have el : lo (adE s.2.2.1 a) j = lo s.2.2.1 j ∧ hi (adE s.2.2.1 a) j = hi s.2.2.1 j := by unfold lo hi; rw [ne _ (by omega) (by omega)]; exact ⟨rfl, rfl⟩
          have er : rd (adE s.2.2.1 a) (lo s.2.2.1 j) (hi s.2.2.1 j) = rd s.2.2.1 (lo s.2.2.1 j) (hi s.2.2.1 j) := by unfold rd; rw [ne _ (by omega) (by omega)]
          rw [el.1, el.2, er]
          exact d5 j hj
        · rw [show ((x.2.1, none, adE s.2.2.1 a, s.2.2.2) : Ps).2.2.1 = adE s.2.2.1 a from rfl] at hy ⊢
          rw [g3] at hy
          rw [ne _ (by omega) (by omega)]; exact d6 y hy
        · rw [show ((x.2.1, none, adE s.2.2.1 a, s.2.2.2) : Ps).2.2.1 = adE s.2.2.1 a from rfl] at hy ⊢
          rw [g4] at hy
          have ea : adE s.2.2.1 a (308 + y) = if y = eN s.2.2.1 then nI a else s.2.2.1 (308 + y) := by
            unfold adE
            rw [upd_ne (by omega)]
            by_cases q : y = eN s.2.2.1
            · subst q; rw [upd_eq, if_pos rfl]
            · rw [upd_ne (by omega), if_neg q]
          show upd (M2.1 14) (eN s.2.2.1) (nI a) y = _
          rw [ea]
          by_cases q : y = eN s.2.2.1
          · subst q; rw [upd_eq, if_pos rfl]
          · rw [upd_ne q, if_neg q]; exact d7 y (by omega)
      have F4 : FrR M (si (si M2 14 (eN s.2.2.1) (oM1 (some a))) 3 3 (nI (eN s.2.2.1 + 1))) := F2.t ⟨rfl, fun c hc => by rw [si_c (by omega), si_c (by omega)]⟩
      generalize si (si M2 14 (eN s.2.2.1) (oM1 (some a))) 3 3 (nI (eN s.2.2.1 + 1)) = M4 at c4 F4 ⊢
      have P4 : PI n (x.2.1, none, adE s.2.2.1 a, s.2.2.2) := ⟨w7, g1, fun _ => by show 6 * rN (adE s.2.2.1 a) ≤ x.2.1; omega, fun q y => (by cases y)⟩
      refine s_isCommaC c4 P4 hn (fun q y => by cases y) (fun _ y => ?_) (fun _ y => ?_)
      · have y : sg T n x.2.1 = nI 44 := y
        rw [if_pos y] at eS
        have := s_stE hn k c4 (sg_lt (by omega) y) rfl g1 (by show 0 < sN (adE s.2.2.1 a); omega) (by show eN (adE s.2.2.1 a) + k = 6; omega) (by show 6 * rN (adE s.2.2.1 a) ≤ x.2.1; omega) (fun M' c' f' => h M' (by rw [eS]; exact c') (F4.t f'))
        rw [show eN ((x.2.1, none, adE s.2.2.1 a, s.2.2.2) : Ps).2.2.1 = eN s.2.2.1 + 1 from g4] at this
        exact this
      · have y : ¬ sg T n x.2.1 = nI 44 := y
        rw [if_neg y] at eS
        exact c_X5_readEngines_30 (br_t rfl (h M4 (by rw [eS]; exact c4) F4))
theorem s_readLineC {Q : Mem → Prop} (hc : CRp T n M s) (hp : PI n s) (hn : n ≤ 300) (hf : s.2.1 = none) (h : ∀ M', CRp T n M' (rdL T n s) → FrR M M' → Q M') : exV (LY pl tl) (d + 6) 99 [.ref 3] M Q := by
  have p1 := hp.1
  have hr := hp.2.2.1 hf
  have s8 := hp.2.1.1.1.2
  have e6 := hp.2.1.2.1.1.2
  refine e_X5_readLine ?_
  rw [hc.1.1.2.1, hf]
  refine br_t rfl ?_
  rw [hc.1.1.1]
  refine s_signAt hn (by omega) hc.2.1 hc.2.2 ⟨fun z => ?_, fun z => ?_, fun z => ?_, fun z => ?_, fun z => ?_, trivial⟩
  · rw [hc.1.1.1]
    refine s_refuseC hc hp.2.2.2 hn (fun M' c' f' => h M' ?_ f')
    unfold rdL
    rw [if_neg z.2.1, if_neg z.2.2.2.1, if_neg z.2.2.1, if_neg z.1]
    exact c'
  · have hlt := sg_lt (by omega) z
    have eL : rdL T n s = if sN s.2.2.1 = 0 ∨ 0 < eN s.2.2.1 then rfs s.1 s else stE T n 6 s := by
      unfold rdL
      rw [z, if_neg (by decide), if_neg (by decide), if_neg (by decide), if_pos rfl]
    refine e_X5_readEngines ?_
    rw [hc.1.2.1.2.1, hc.1.2.1.2.2, z_eq0 (by omega), z_le0 (by omega), hc.1.1.1]
    have rf' : (sN s.2.2.1 = 0 ∨ 0 < eN s.2.2.1) → exV (LY pl tl) (d + 4) 108 [.ref 3, .int (nI s.1)] M (fun M1 => Q M1) := fun y => s_refuseC hc hp.2.2.2 hn (fun M' c' f' => h M' (by rw [eL, if_pos y]; exact c') f')
    refine ⟨fun y => rf' (Or.inl y), fun y => ⟨fun y2 => ?_, fun y2 => rf' (Or.inr (by omega))⟩⟩
    have := s_stE (d := d) (pl := pl) (tl := tl) (T := T) (Q := Q) hn 6 hc hlt hf hp.2.1 (by omega) (by omega) hr (fun M' c' f' => h M' (by rw [eL, if_neg (by omega)]; exact c') f')
    rw [y2] at this
    exact this
  · have hlt := sg_lt (by omega) z
    rw [hc.1.1.1, nI_add]
    refine s_readRoadC (CR_4 (p := s.1 + 1) hc) ⟨by show s.1 + 1 ≤ n; omega, hp.2.1, fun _ => by show 6 * rN s.2.2.1 ≤ s.1 + 1; omega, hp.2.2.2⟩ hn (fun M' c' f' => h M' ?_ ((FrR_3 _ _ _).t f'))
    unfold rdL
    rw [if_pos z]
    exact c'
  · have hlt := sg_lt (by omega) z
    have eL : rdL T n s = if 0 < sN s.2.2.1 then rfs s.1 s else stS T n 8 s := by
      unfold rdL
      rw [z, if_neg (by decide), if_neg (by decide), if_pos rfl]
    refine e_X5_readStations ?_
    rw [hc.1.2.1.2.1, z_le0 (by omega), hc.1.1.1]
    refine ⟨fun y => ?_, fun y => s_refuseC hc hp.2.2.2 hn (fun M' c' f' => h M' (by rw [eL, if_pos (by omega)]; exact c') f')⟩
    have := s_stS (d := d) (pl := pl) (tl := tl) (T := T) (Q := Q) hn 8 hc hlt hf hp.2.1 (GU_SE hp.2.1 y) (by omega) hr (fun M' c' f' => h M' (by rw [eL, if_neg (by omega)]; exact c') f')
    rw [y] at this
    exact this
  · have hlt := sg_lt (by omega) z
    rw [hc.1.1.1, nI_add]
    refine s_readWeightC (CR_4 (p := s.1 + 1) hc) ⟨by show s.1 + 1 ≤ n; omega, hp.2.1, fun _ => by show 6 * rN s.2.2.1 ≤ s.1 + 1; omega, hp.2.2.2⟩ hn (fun M' c' f' => h M' ?_ ((FrR_3 _ _ _).t f'))
    unfold rdL
    rw [z, if_neg (by decide), if_pos rfl]
    exact c'
end S63
