/-! THE REFERENCE READS: roads, weights, stations, engines -/
section S66
variable {pl : Option Nat} {tl : List LC} {d : Nat} {M : Mem} {t : Nat} {T : Nat → Int32} {n : Nat} {s : Ps}
theorem MR_57 {M : Mem} {s : Ps} {u : Nat → Int32} (h : MR T n M s) : MR T n (sa M 57 u) (s.1, s.2.1, u, s.2.2.2) := ⟨h.1, sa_s _ _ _, h.2.2⟩
theorem FrM_sa (M : Mem) (u : Nat → Int32) : FrM M (sa M 57 u) := ⟨rfl, fun c h1 h2 => sa_n h2, fun j h1 h2 h3 => by rw [sa_n (by omega)]⟩
theorem m_readsRoad {Q : Mem → Prop} (hc0 : MR T n M s) (hp : PI n (s.1 + 1, s.2)) (hr0 : 6 * rN s.2.2.1 ≤ s.1) (hn : n ≤ 300) (h : ∀ M', MR T n M' (rdR T n (s.1 + 1, s.2)) → FrM M M' → Q M') : exV (LY pl tl) (d + 3) 147 [.ref 52] M Q := by
  have eR : rdR T n (s.1 + 1, s.2) = match (nms T n 0 11 (s.1 + 1, s.2)).1, (nms T n 0 11 (tks T n 45 (nms T n 0 11 (s.1 + 1, s.2)).2)).1, (nms T n 1 60 (tks T n 61 (s4R (nms T n 0 11 (s.1 + 1, s.2)) (nms T n 0 11 (tks T n 45 (nms T n 0 11 (s.1 + 1, s.2)).2))))).1 with
    | some a, some b, some c => ((nms T n 1 60 (tks T n 61 (s4R (nms T n 0 11 (s.1 + 1, s.2)) (nms T n 0 11 (tks T n 45 (nms T n 0 11 (s.1 + 1, s.2)).2))))).2.1, none, adR (nms T n 1 60 (tks T n 61 (s4R (nms T n 0 11 (s.1 + 1, s.2)) (nms T n 0 11 (tks T n 45 (nms T n 0 11 (s.1 + 1, s.2)).2))))).2.2.2.1 a b c, (nms T n 1 60 (tks T n 61 (s4R (nms T n 0 11 (s.1 + 1, s.2)) (nms T n 0 11 (tks T n 45 (nms T n 0 11 (s.1 + 1, s.2)).2))))).2.2.2.2)
    | _, _, _ => (nms T n 1 60 (tks T n 61 (s4R (nms T n 0 11 (s.1 + 1, s.2)) (nms T n 0 11 (tks T n 45 (nms T n 0 11 (s.1 + 1, s.2)).2))))).2 := rfl
  have hr : rN s.2.2.1 < 66 := by have := hp.1; dsimp only at this; omega
  refine e_X11_readsRoad ?_
  rw [hc0.1.1, nI_add]
  have hc := MR_10 (p := s.1 + 1) hc0
  have f0 := FrM_52 M (k := 10) (nI (s.1 + 1)) (by omega)
  generalize si M 52 10 (nI (s.1 + 1)) = M0 at hc f0 ⊢
  have hg : GU s.2.2.1 := hp.2.1
  generalize hs' : ((s.1 + 1, s.2) : Ps) = s' at *
  have hs2' : s'.2 = s.2 := by rw [← hs']
  refine m_number hc hp hn (by omega) (by omega) (fun M1 c1 f1 => m_expect c1 (PI_nms hp) hn (fun M2 c2 f2 => m_number c2 (PI_tks (by omega) (PI_nms hp)) hn (by omega) (by omega) (fun M3 c3 f3 => ?_)))
  have P3 : PI n (nms T n 0 11 (tks T n 45 (nms T n 0 11 s').2)).2 := PI_nms (PI_tks (by omega) (PI_nms hp))
  have n1 := nms_ok (T := T) (lo := 0) (hi := 11) hp.1
  have n2 := tks_ok (T := T) (n := n) (c := 45) (s := (nms T n 0 11 s').2) (by omega) (PI_nms hp).1
  have n3 := nms_ok (T := T) (n := n) (lo := 0) (hi := 11) (s := tks T n 45 (nms T n 0 11 s').2) (PI_tks (by omega) (PI_nms hp)).1
  have F3 : FrM M M3 := (f0.t (f1.t f2)).t f3
  clear c1 c2 f1 f2 f3
  generalize hx1 : nms T n 0 11 s' = x1 at *
  generalize hs2 : tks T n 45 x1.2 = s2 at *
  generalize hx3 : nms T n 0 11 s2 = x3 at *
  have tail : ∀ M4, MR T n M4 (s4R x1 x3) → PI n (s4R x1 x3) → FrM M M4 → fx (LY pl tl) (d + 2) m_X11_readsRoad (qV Q) (72, [some (.ref 52), some (.int (nvl 0 x1.1)), some (.int (nvl 0 x3.1)), none], [], M4) := by
    intro M4 c4 P4 F4
    refine c_X11_readsRoad_72 (m_expect c4 P4 hn (fun M5 c5 f5 => m_number c5 (PI_tks (by omega) P4) hn (by omega) (by omega) (fun M6 c6 f6 => ?_)))
    have P6 : PI n (nms T n 1 60 (tks T n 61 (s4R x1 x3))).2 := PI_nms (PI_tks (by omega) P4)
    have n6 := nms_ok (T := T) (n := n) (lo := 1) (hi := 60) (s := tks T n 61 (s4R x1 x3)) (PI_tks (by omega) P4).1
    have n5 := tks_ok (T := T) (n := n) (c := 61) (s := s4R x1 x3) (by omega) P4.1
    have F6 : FrM M M6 := (F4.t f5).t f6
    generalize nms T n 1 60 (tks T n 61 (s4R x1 x3)) = x6 at *
    rw [c6.1.2.1, fvO_m1 (fun q z => by have := P6.2.2.2 q z; omega)]
    rcases n6 with ⟨a1, ⟨q, a2, -⟩, -⟩ | ⟨c, a1, a2, a3, a4, a5, a6, a7, a8⟩
    · rw [a2]
      refine ⟨fun z => (by cases z), fun _ => h M6 ?_ F6⟩
      rw [eR, a1]
      cases x1.1 <;> cases x3.1 <;> exact c6
    · rw [a5]
      refine ⟨fun _ => ?_, fun z => absurd rfl z⟩
      have b2 : (s4R x1 x3).2.1 = none := by
        rcases n5 with ⟨⟨q, z1, -⟩, -⟩ | ⟨-, z2, -⟩
        · rw [z1] at a2; cases a2
        · exact z2
      have e5 : (tks T n 61 (s4R x1 x3)).2.2 = (s4R x1 x3).2.2 := by
        rcases n5 with ⟨-, -, z⟩ | ⟨-, -, -, -, z⟩ <;> exact z
      rcases n3 with ⟨y1, ⟨q, y2, -⟩, -⟩ | ⟨b, y1, y2, y3, y4, y5, y6, y7, y8⟩
      · exfalso
        have : s4R x1 x3 = x3.2 := by unfold s4R; rw [y1]; cases x1.1 <;> rfl
        rw [this, y2] at b2
        cases b2
      · rcases n1 with ⟨w1, ⟨q, w2, -⟩, -⟩ | ⟨a, w1, w2, w3, w4, w5, w6, w7, w8⟩
        · exfalso
          rcases n2 with ⟨⟨q', v1, -⟩, -⟩ | ⟨v1, v2, -⟩
          · rw [v1] at y2; cases y2
          · rw [w2] at v2; cases v2
        · have e4 : s4R x1 x3 = if a = b ∨ 0 < rd x3.2.2.2.1 a b then rfs (x3.2.1 - 1) x3.2 else x3.2 := by unfold s4R; rw [w1, y1]
          have hz : ¬ (a = b ∨ 0 < rd x3.2.2.2.1 a b) := fun z => by
            rw [e4, if_pos z, rfs_n y5] at b2
            cases b2
          rw [if_neg hz] at e4
          have e3 : x3.2.2.2 = s.2.2 := y8.trans ((by rcases n2 with ⟨-, -, z⟩ | ⟨-, -, -, -, z⟩ <;> rw [z, w8] : s2.2.2 = s'.2.2).trans (by rw [hs2']))
          have e6 : x6.2.2.2 = s.2.2 := by rw [a8, e5, e4, e3]
          rw [w1, y1, a1]
          have s1 : nvl 0 (some a) = nI a := rfl
          have s3 : nvl 0 (some b) = nI b := rfl
          have s6 : nvl 1 (some c) = nI c := rfl
          have u57 : M6.1 57 = s.2.2.1 := by rw [c6.2.1, e6]
          have u458 : s.2.2.1 458 = nI (rN s.2.2.1) := hg.1.2.1.1
          rw [s1, s3, s6, pk_mul, pk_mul, nI_add 12 (12 * a), nI_add 12 (12 * b), nI_add (12 + 12 * a) b, nI_add (12 + 12 * b) a, z_cl (show 12 + 12 * a + b < 2147483648 by omega), z_cl (show 12 + 12 * b + a < 2147483648 by omega)]
          have g1 : (si (si M6 57 (12 + 12 * a + b) (nI c)) 57 (12 + 12 * b + a) (nI c)).1 57 458 = nI (rN s.2.2.1) := by
            rw [si_s, upd_ne (by omega), si_s, upd_ne (by omega), u57]; exact u458
          rw [g1, nI_add 326 _, z_cl (show 326 + rN s.2.2.1 < 2147483648 by omega), nI_min a b (by omega) (by omega), nI_max a b (by omega) (by omega), pk_mul, nI_add (100 * min a b) _]
          have g2'' : (si (si (si M6 57 (12 + 12 * a + b) (nI c)) 57 (12 + 12 * b + a) (nI c)) 57 (326 + rN s.2.2.1) (nI (100 * min a b + max a b))).1 57 458 = nI (rN s.2.2.1) := by
            rw [si_s, upd_ne (by omega)]; exact g1
          rw [g2'', nI_add (rN s.2.2.1) 1]
          have em : si (si (si (si M6 57 (12 + 12 * a + b) (nI c)) 57 (12 + 12 * b + a) (nI c)) 57 (326 + rN s.2.2.1) (nI (100 * min a b + max a b))) 57 458 (nI (rN s.2.2.1 + 1)) = sa M6 57 (adR s.2.2.1 a b c) := by
            unfold adR
            simp only [si_sa, sa_s, sa_sa, u57]
          rw [em]
          refine ⟨(z_in (by omega) (by omega)).mpr (by omega), (z_in (by omega) (by omega)).mpr (by omega), (z_in (by omega) (by omega)).mpr (by omega), h _ ?_ (F6.t (FrM_sa _ _))⟩
          rw [eR, w1, y1, a1]
          dsimp only
          rw [e6]
          have c7 := MR_57 (u := adR s.2.2.1 a b c) c6
          rw [a5, e6] at c7
          exact c7
  rw [c3.1.2.1, fvO_m1 (fun q z => by have := P3.2.2.2 q z; omega)]
  rcases n3 with ⟨y1, ⟨q, y2, -⟩, -⟩ | ⟨b, y1, y2, y3, y4, y5, y6, y7, y8⟩
  · have e4 : s4R x1 x3 = x3.2 := by unfold s4R; rw [y1]; cases x1.1 <;> rfl
    refine ⟨fun _ => tail M3 (by rw [e4]; exact c3) (by rw [e4]; exact P3) F3, fun z => ?_⟩
    rw [y2] at z; cases z
  · rcases n1 with ⟨w1, ⟨q, w2, -⟩, -⟩ | ⟨a, w1, w2, w3, w4, w5, w6, w7, w8⟩
    · exfalso
      rcases n2 with ⟨⟨q', v1, -⟩, -⟩ | ⟨v1, v2, -⟩
      · rw [v1] at y2; cases y2
      · rw [w2] at v2; cases v2
    · have e4 : s4R x1 x3 = if a = b ∨ 0 < rd x3.2.2.2.1 a b then rfs (x3.2.1 - 1) x3.2 else x3.2 := by unfold s4R; rw [w1, y1]
      have rf' : (a = b ∨ 0 < rd x3.2.2.2.1 a b) → exV (LY pl tl) (d + 2) 144 [.ref 52, .int (nI (x3.2.1 - 1))] M3 (fun M4 => fx (LY pl tl) (d + 2) m_X11_readsRoad (qV Q) (72, [some (.ref 52), some (.int (nvl 0 x1.1)), some (.int (nvl 0 x3.1)), none], [], M4)) := fun z => by
        refine m_fault c3 P3.2.2.2 hn (fun M4 c4 f4 _ => tail M4 ?_ ?_ (F3.t f4))
        · rw [e4, if_pos z]; exact c4
        · rw [e4, if_pos z]; exact PI_rfs (by have := P3.1; omega) P3
      have s1 : nvl 0 x1.1 = nI a := by rw [w1]; rfl
      have s3 : nvl 0 x3.1 = nI b := by rw [y1]; rfl
      have hrd := P3.2.1.1.2.2.2.2.2.1 a b (by omega) (by omega)
      rw [s1, s3] at rf' tail ⊢
      rw [c3.1.1, z_sub (by omega), z_eq (by omega) (by omega), pk_mul, nI_add 12 (12 * a), nI_add (12 + 12 * a) b, z_cl (show 12 + 12 * a + b < 2147483648 by omega), c3.2.1, hrd.1.1, z_le0 (by omega)]
      refine ⟨fun z => absurd y5 z, fun _ => ⟨fun z => rf' (Or.inl z), fun z => ⟨(z_in (by omega) (by omega)).mpr (by omega), fun z0 => ?_, fun z1 => rf' (Or.inr (by omega))⟩⟩⟩
      refine tail M3 ?_ ?_ F3
      · rw [e4, if_neg (by omega)]; exact c3
      · rw [e4, if_neg (by omega)]; exact P3
theorem m_readsWeight {Q : Mem → Prop} (hc0 : MR T n M s) (hp : PI n (s.1 + 1, s.2)) (hn : n ≤ 300) (h : ∀ M', MR T n M' (rdW T n (s.1 + 1, s.2)) → FrM M M' → Q M') : exV (LY pl tl) (d + 3) 148 [.ref 52] M Q := by
  have eR : rdW T n (s.1 + 1, s.2) = match (nms T n 0 11 (s.1 + 1, s.2)).1, (nms T n 0 99 (tks T n 61 (s2W (nms T n 0 11 (s.1 + 1, s.2))))).1 with
    | some a, some c => ((nms T n 0 99 (tks T n 61 (s2W (nms T n 0 11 (s.1 + 1, s.2))))).2.1, none, upd (nms T n 0 99 (tks T n 61 (s2W (nms T n 0 11 (s.1 + 1, s.2))))).2.2.2.1 a (nI c), (nms T n 0 99 (tks T n 61 (s2W (nms T n 0 11 (s.1 + 1, s.2))))).2.2.2.2 ||| b1 a)
    | _, _ => (nms T n 0 99 (tks T n 61 (s2W (nms T n 0 11 (s.1 + 1, s.2))))).2 := rfl
  refine e_X11_readsWeight ?_
  rw [hc0.1.1, nI_add]
  have hc := MR_10 (p := s.1 + 1) hc0
  have f0 := FrM_52 M (k := 10) (nI (s.1 + 1)) (by omega)
  generalize si M 52 10 (nI (s.1 + 1)) = M0 at hc f0 ⊢
  generalize hs' : ((s.1 + 1, s.2) : Ps) = s' at *
  have hs2' : s'.2 = s.2 := by rw [← hs']
  refine m_number hc hp hn (by omega) (by omega) (fun M1 c1 f1 => ?_)
  have P1 : PI n (nms T n 0 11 s').2 := PI_nms hp
  have n1 := nms_ok (T := T) (lo := 0) (hi := 11) hp.1
  have F1 := f0.t f1
  generalize hx1 : nms T n 0 11 s' = x1 at *
  have tail : ∀ M4, MR T n M4 (s2W x1) → PI n (s2W x1) → FrM M M4 → exV (LY pl tl) (d + 2) 145 [.ref 52, .int (nI 61)] M4 (fun M5 => exI (LY pl tl) (d + 2) 146 [.ref 52, .int (nI 0), .int (nI 99)] M5 (fun r3 M3 => (M3.1 52 11 = -1 → vp_in (nI 0 + nvl 0 x1.1) 480 ∧ Q (si (si M3 52 15 (M3.1 52 15 ||| (nI 1 <<< (nvl 0 x1.1 &&& 31)))) 57 (nI 0 + nvl 0 x1.1).toNatClampNeg r3)) ∧ (¬ M3.1 52 11 = -1 → Q M3))) := by
    intro M4 c4 P4 F4
    refine m_expect c4 P4 hn (fun M5 c5 f5 => m_number c5 (PI_tks (by omega) P4) hn (by omega) (by omega) (fun M6 c6 f6 => ?_))
    have P6 : PI n (nms T n 0 99 (tks T n 61 (s2W x1))).2 := PI_nms (PI_tks (by omega) P4)
    have n6 := nms_ok (T := T) (n := n) (lo := 0) (hi := 99) (s := tks T n 61 (s2W x1)) (PI_tks (by omega) P4).1
    have n5 := tks_ok (T := T) (n := n) (c := 61) (s := s2W x1) (by omega) P4.1
    have F6 : FrM M M6 := (F4.t f5).t f6
    generalize nms T n 0 99 (tks T n 61 (s2W x1)) = x6 at *
    rw [c6.1.2.1, fvO_m1 (fun q z => by have := P6.2.2.2 q z; omega)]
    rcases n6 with ⟨a1, ⟨q, a2, -⟩, -⟩ | ⟨c, a1, a2, a3, a4, a5, a6, a7, a8⟩
    · rw [a2]
      refine ⟨fun z => (by cases z), fun _ => h M6 ?_ F6⟩
      rw [eR, a1]
      cases x1.1 <;> exact c6
    · rw [a5]
      refine ⟨fun _ => ?_, fun z => absurd rfl z⟩
      have b2 : (s2W x1).2.1 = none := by
        rcases n5 with ⟨⟨q, z1, -⟩, -⟩ | ⟨-, z2, -⟩
        · rw [z1] at a2; cases a2
        · exact z2
      have e5 : (tks T n 61 (s2W x1)).2.2 = (s2W x1).2.2 := by
        rcases n5 with ⟨-, -, z⟩ | ⟨-, -, -, -, z⟩ <;> exact z
      rcases n1 with ⟨w1, ⟨q, w2, -⟩, -⟩ | ⟨a, w1, w2, w3, w4, w5, w6, w7, w8⟩
      · exfalso
        have : s2W x1 = x1.2 := by unfold s2W; rw [w1]
        rw [this, w2] at b2
        cases b2
      · have e4 : s2W x1 = if tb x1.2.2.2.2 a then rfs (x1.2.1 - 1) x1.2 else x1.2 := by unfold s2W; rw [w1]
        have hz : ¬ tb x1.2.2.2.2 a := fun z => by
          rw [e4, if_pos z, rfs_n w5] at b2
          cases b2
        rw [if_neg hz] at e4
        have e6 : x6.2.2.2 = s.2.2 := by rw [a8, e5, e4, w8, hs2']
        have s1 : nvl 0 x1.1 = nI a := by rw [w1]; rfl
        have s6 : nvl 0 (some c) = nI c := rfl
        rw [s1, a1, s6, z_0add, z_cl (show a < 2147483648 by omega)]
        refine ⟨(z_in (by omega) (by omega)).mpr (by omega), h _ ?_ (F6.t ⟨rfl, fun c h1 h2 => by rw [si_c h2, si_c h1], fun j h1 h2 h3 => by rw [si_c (by omega), si_s, upd_ne (by omega)]⟩)⟩
        rw [eR, w1, a1]
        dsimp only
        obtain ⟨⟨k1, k2, k3⟩, k4, k5, k6⟩ := c6
        rw [e6] at k3 k4 ⊢
        rw [a5] at k2
        refine ⟨⟨?_, ?_, ?_⟩, ?_, ?_, k6⟩
        · exact k1
        · exact k2
        · show upd (M6.1 52) 15 (M6.1 52 15 ||| (nI 1 <<< (nI a &&& 31))) 15 = _
          rw [upd_eq, k3]
        · show upd (M6.1 57) a (nI c) = _
          rw [k4]
        · exact k5
  rw [c1.1.2.1, fvO_m1 (fun q z => by have := P1.2.2.2 q z; omega), c1.1.2.2, c1.1.1]
  rcases n1 with ⟨w1, ⟨q, w2, -⟩, -⟩ | ⟨a, w1, w2, w3, w4, w5, w6, w7, w8⟩
  · have e4 : s2W x1 = x1.2 := by unfold s2W; rw [w1]
    refine ⟨fun _ => tail M1 (by rw [e4]; exact c1) (by rw [e4]; exact P1) F1, fun z => ?_⟩
    rw [w2] at z; cases z
  · have e4 : s2W x1 = if tb x1.2.2.2.2 a then rfs (x1.2.1 - 1) x1.2 else x1.2 := by unfold s2W; rw [w1]
    have s1 : nvl 0 x1.1 = nI a := by rw [w1]; rfl
    rw [s1] at tail ⊢
    rw [z_sub (show 1 ≤ x1.2.1 by omega)]
    refine ⟨fun z => absurd w5 z, fun _ => ⟨fun z => ?_, fun z => m_fault c1 P1.2.2.2 hn (fun M4 c4 f4 _ => ?_)⟩⟩
    · have z : ¬ tb x1.2.2.2.2 a := z
      exact tail M1 (by rw [e4, if_neg z]; exact c1) (by rw [e4, if_neg z]; exact P1) F1
    · have z : tb x1.2.2.2.2 a := z
      exact tail M4 (by rw [e4, if_pos z]; exact c4) (by rw [e4, if_pos z]; exact PI_rfs (by have := P1.1; omega) P1) (F1.t f4)
theorem m_isTold {Q : Int32 → Mem → Prop} {a : Nat} (hc : MR T n M s) (hg : GU s.2.2.1) (h1 : isSt s.2.2.1 a = true → Q (nI 1) M) (h0 : ¬ isSt s.2.2.1 a = true → Q (nI 0) M) : exI (LY pl tl) (d + 1) 149 [.ref 52, .int (nI a)] M Q := by
  have s8 := hg.1.1.2
  have e57 := hc.2.1
  have d2 : M.1 57 456 = nI (sN s.2.2.1) := by rw [e57]; exact hg.1.1.1
  refine e_X11_isToldStation (lp_find (X := fx (LY pl tl) d m_X11_isToldStation (qI Q)) (fun k => (2, [some (.ref 52), some (.int (nI a)), some (.int (nI k))], [], M)) (sN s.2.2.1) (fun k => s.2.2.1 (300 + k) = nI a) (fun k hk hno hx => ?_) (fun k hk hy => ?_) (fun hno => ?_))
  · refine c_X11_isToldStation_2 ?_
    rw [d2, nI_add 300 k, z_cl (show 300 + k < 2147483648 by omega), e57, nI_add k 1]
    exact br_f (nI_ge hk (by omega)) ⟨(z_in (by omega) (by omega)).mpr (by omega), fun _ => hx, fun q => absurd q hno⟩
  · refine c_X11_isToldStation_2 ?_
    rw [d2, nI_add 300 k, z_cl (show 300 + k < 2147483648 by omega), e57, nI_add k 1]
    refine br_f (nI_ge hk (by omega)) ⟨(z_in (by omega) (by omega)).mpr (by omega), fun q => absurd hy q, fun _ => h1 ?_⟩
    unfold isSt
    exact decide_eq_true ((cn_ex _).mpr ⟨k, hk, decide_eq_true hy⟩)
  · refine c_X11_isToldStation_2 ?_
    rw [d2]
    refine br_t (nI_le (Nat.le_refl _) (by omega)) (h0 (fun z => ?_))
    unfold isSt at z
    obtain ⟨k, hk, e⟩ := (cn_ex _).mp (of_decide_eq_true z)
    exact hno k hk (of_decide_eq_true e)
/-- as the pure reading says, or a fault that the next sign brings there too -/
def MRl (T : Nat → Int32) (n : Nat) (M : Mem) (s : Ps) : Prop := MR T n M s ∨ (s.2.1 = none ∧ sg T n s.1 = nI 44 ∧ MR T n M (rfs s.1 s))
theorem m_stS {Q : Mem → Prop} (hn : n ≤ 300) : ∀ k {M : Mem} {s : Ps}, MR T n M s → s.1 < n → s.2.1 = none → GU s.2.2.1 → eN s.2.2.1 = 0 → sN s.2.2.1 + (k + 1) = 8 → 6 * rN s.2.2.1 ≤ s.1 → (∀ M', MRl T n M' (stS T n (k + 1) s) → FrM M M' → Q M') → fx (LY pl tl) (d + 2) m_X11_readsStations (qV Q) (21, [some (.ref 52), none], [], M) := by
  intro k
  induction k with
  | zero => ?_
  | succ k ih => ?_
  all_goals
    intro M s hc0 hp hf hg he hk hr h
    refine c_X11_readsStations_21 ?_
    rw [hc0.1.1, nI_add]
    have hc := MR_10 (p := s.1 + 1) hc0
    have f0 := FrM_52 M (k := 10) (nI (s.1 + 1)) (by omega)
    generalize si M 52 10 (nI (s.1 + 1)) = M0 at hc f0 ⊢
    have P1 : PI n (s.1 + 1, s.2) := ⟨by show s.1 + 1 ≤ n; omega, hg, fun _ => by show 6 * rN s.2.2.1 ≤ s.1 + 1; omega, fun q z => (by rw [show (s.1 + 1, s.2).2.1 = s.2.1 from rfl, hf] at z; cases z)⟩
    refine m_number hc P1 hn (by omega) (by omega) (fun M2 c2 f2 => ?_)
    have P2 : PI n (nms T n 0 11 (s.1 + 1, s.2)).2 := PI_nms P1
    have n1 := nms_ok (T := T) (n := n) (lo := 0) (hi := 11) (s := (s.1 + 1, s.2)) P1.1
    have F2 := f0.t f2
    unfold stS at h
    generalize nms T n 0 11 (s.1 + 1, s.2) = x at *
    rw [c2.1.2.1, fvO_m1 (fun q z => by have := P2.2.2.2 q z; omega)]
    rcases n1 with ⟨w1, ⟨q, w2, -⟩, -⟩ | ⟨a, w1, w2, w3, w4, w5, w6, w7, w8⟩
    · rw [w1] at h
      have nm : ¬ M2.1 52 11 = -1 := fun y => (z_m1 (show q < 2147483648 by have := P2.2.2.2 q w2; omega)).mp (by rw [c2.1.2.1, w2] at y; exact y)
      refine ⟨fun _ => c_X11_readsStations_65 ⟨fun y => absurd y nm, fun _ => h M2 (Or.inl c2) F2⟩, fun z => ?_⟩
      rw [w2] at z; cases z
    · rw [w1] at h ⊢
      dsimp only at h w6 w8
      have e22 : x.2.2.2 = s.2.2 := w8
      have sv : nvl 0 (some a) = nI a := rfl
      rw [sv]
      refine ⟨fun z => absurd w5 z, fun _ => m_isTold c2 P2.2.1 (fun z => ⟨fun q => absurd q (by decide), fun _ => ?_⟩) (fun z => ⟨fun _ => ?_, fun q => absurd rfl q⟩)⟩
      · rw [e22] at z
        rw [if_pos z] at h
        rw [c2.1.1, z_sub (by omega)]
        refine m_fault c2 P2.2.2.2 hn (fun M3 c3 f3 _ => ?_)
        have e3 : (rfs (x.2.1 - 1) x.2).2.1 = some (x.2.1 - 1) := by rw [rfs_n w5]
        have nm : ¬ M3.1 52 11 = -1 := fun y => (z_m1 (show x.2.1 - 1 < 2147483648 by omega)).mp (by rw [c3.1.2.1, e3] at y; exact y)
        exact c_X11_readsStations_65 ⟨fun y => absurd y nm, fun _ => h M3 (Or.inl c3) (F2.t f3)⟩
      · rw [e22] at z
        rw [if_neg z] at h
        obtain ⟨g1, g2', g3, g4⟩ := GU_s hg (show a < 12 by omega) (by omega) he (isSt_no z)
        have u57 : M2.1 57 = s.2.2.1 := by rw [c2.2.1, e22]
        have u456 : s.2.2.1 456 = nI (sN s.2.2.1) := hg.1.1.1
        have m1 : M2.1 52 11 = -1 := by rw [c2.1.2.1, w5]; rfl
        refine c_X11_readsStations_65 ⟨fun _ => ?_, fun y => absurd m1 y⟩
        rw [u57, u456, nI_add 300 _, z_cl (show 300 + sN s.2.2.1 < 2147483648 by omega)]
        have g0 : (si M2 57 (300 + sN s.2.2.1) (nI a)).1 57 456 = nI (sN s.2.2.1) := by rw [si_s, upd_ne (by omega), u57]; exact u456
        rw [g0, nI_add]
        have em : si (si M2 57 (300 + sN s.2.2.1) (nI a)) 57 456 (nI (sN s.2.2.1 + 1)) = sa M2 57 (adS s.2.2.1 a) := by
          unfold adS
          simp only [si_sa, sa_s, sa_sa, u57]
        rw [em]
        have c4 : MR T n (sa M2 57 (adS s.2.2.1 a)) (x.2.1, none, adS s.2.2.1 a, s.2.2.2) := by
          have := MR_57 (u := adS s.2.2.1 a) c2
          rw [w5, e22] at this
          exact this
        have F4 : FrM M (sa M2 57 (adS s.2.2.1 a)) := F2.t (FrM_sa _ _)
        generalize sa M2 57 (adS s.2.2.1 a) = M4 at c4 F4 ⊢
        refine ⟨(z_in (by omega) (by omega)).mpr (by omega), m_sees (s := (x.2.1, none, adS s.2.2.1 a, s.2.2.2)) hn (by show x.2.1 ≤ 302; omega) c4 ?_⟩
        have m4 : M4.1 52 11 = -1 := c4.1.2.1
        have k4 : M4.1 57 456 = nI (sN s.2.2.1 + 1) := by rw [c4.2.1]; show adS s.2.2.1 a 456 = _; rw [g1.1.1.1, g3]
        dsimp only
        rw [k4, z_eq (by omega) (by omega)]
        refine ⟨fun y => ⟨fun y2 => absurd m4 y2, fun _ => m_sees (s := (x.2.1, none, adS s.2.2.1 a, s.2.2.2)) hn (by show x.2.1 ≤ 302; omega) c4 ⟨fun y3 => absurd y3 y, fun _ => ?_⟩⟩, fun y => ⟨fun y2 => ⟨fun y3 => absurd m4 y3, fun _ => m_sees (s := (x.2.1, none, adS s.2.2.1 a, s.2.2.2)) hn (by show x.2.1 ≤ 302; omega) c4 ⟨fun y3 => ?_, fun y3 => absurd y y3⟩⟩, fun y2 => ?_⟩⟩
        · rw [if_neg y] at h
          exact h M4 (Or.inl c4) F4
        · rw [if_pos y] at h
          first
          | omega
          | exact ih c4 (sg_lt (by omega) y) rfl g1 (by show eN (adS s.2.2.1 a) = 0; omega) (by show sN (adS s.2.2.1 a) + (k + 1) = 8; omega) (by show 6 * rN (adS s.2.2.1 a) ≤ x.2.1; omega) (fun M' c' f' => h M' c' (F4.t f'))
        · first
          | omega
          | (rw [if_pos y] at h
             rw [c4.1.1]
             refine m_fault (s := (x.2.1, none, adS s.2.2.1 a, s.2.2.2)) (q := x.2.1) c4 (fun q z => by cases z) hn (fun M5 c5 f5 _ => ?_)
             have nm : ¬ M5.1 52 11 = -1 := fun y5 => (z_m1 (show x.2.1 < 2147483648 by omega)).mp (by rw [c5.1.2.1] at y5; exact y5)
             exact ⟨fun _ => h M5 (Or.inr ⟨rfl, y, c5⟩) (F4.t f5), fun y5 => absurd y5 nm⟩)
end S66
