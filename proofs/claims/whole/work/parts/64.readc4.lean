/-! THE CLASS READS: the whole text -/
theorem GU_0 {u : Nat → Int32} (h : ∀ j, j < 480 → u j = nI 0) : GU u ∧ rN u = 0 ∧ sN u = 0 ∧ eN u = 0 := by
  have e1 : rN u = 0 := by unfold rN; rw [h 458 (by omega), tn_nI (by omega)]
  have e2 : sN u = 0 := by unfold sN; rw [h 456 (by omega), tn_nI (by omega)]
  have e3 : eN u = 0 := by unfold eN; rw [h 457 (by omega), tn_nI (by omega)]
  have e4 : ∀ x y, x < 12 → y < 12 → rd u x y = 0 := fun x y hx hy => by unfold rd; rw [h _ (by omega), tn_nI (by omega)]
  have e5 : ∀ x y, x < 12 → y < 12 → sh u x y = 0 := fun x y hx hy => by unfold sh; rw [h _ (by omega), tn_nI (by omega)]
  refine ⟨⟨⟨?_, ?_, fun x hx => ?_, fun s hs => ?_, fun s s' hs => ?_, fun x y hx hy => ?_, ?_⟩, ⟨?_, fun e he => ?_⟩, fun j hj => h j (by omega)⟩, e1, e2, e3⟩
  · rw [e2]; exact ⟨h 456 (by omega), by omega⟩
  · rw [e1]; exact ⟨h 458 (by omega), by omega⟩
  · unfold wt; rw [h x (by omega), tn_nI (by omega)]; exact ⟨rfl, by omega⟩
  · omega
  · omega
  · rw [e4 x y hx hy, e4 y x hy hx, e5 x y hx hy, e5 y x hy hx, h _ (by omega), h _ (by omega)]
    exact ⟨⟨rfl, by omega, rfl⟩, rfl, by omega, rfl⟩
  · refine ⟨fun k hk => by omega, fun k k' hk => by omega, fun x y hxy hy hp => ?_, fun x hx => e4 x x hx hx, fun x y hx hy _ => e5 x y hx hy⟩
    rw [e4 x y (by omega) hy] at hp; omega
  · rw [e3]; exact ⟨h 457 (by omega), by omega⟩
  · omega
theorem rdA_ok {T : Nat → Int32} {n : Nat} (h300 : n ≤ 300) : ∀ k l s, PI n s → s.2.1 = none → PI n (rdA T n k l s).2
  | 0, _, s, h, _ => h
  | k + 1, l, s, h, hf => by
    obtain ⟨i1, -⟩ := rdL_ok (T := T) h300 h hf
    unfold rdA
    cases h1 : (rdL T n s).2.1 with
    | some q => exact i1
    | none =>
      dsimp only
      by_cases c : (rdL T n s).1 < n
      · rw [if_pos c]
        have i2 : PI n (tks T n 59 (rdL T n s)) := PI_tks (by omega) i1
        cases h2 : (tks T n 59 (rdL T n s)).2.1 with
        | some q => exact i2
        | none => exact rdA_ok h300 k (l + 1) _ i2 h2
      · rw [if_neg c]; exact i1
/-- the text, read -/
def rdT (T : Nat → Int32) (n : Nat) (u0 : Nat → Int32) : Nat × Ps := if n = 0 then (0, (0, none, u0, nI 0)) else rdA T n 301 0 (0, none, u0, nI 0)
def rvA (x : Nat × Ps) : Int32 := match x.2.2.1 with
  | none => nI x.1
  | some q => (-21) - nI q
theorem rdT_ok {T : Nat → Int32} {n : Nat} {u0 : Nat → Int32} (h300 : n ≤ 300) (h0 : ∀ j, j < 480 → u0 j = nI 0) : PI n (rdT T n u0).2 := by
  obtain ⟨g, g1, g2', g3⟩ := GU_0 h0
  have p0 : PI n (0, none, u0, nI 0) := ⟨Nat.zero_le _, g, fun _ => by show 6 * rN u0 ≤ 0; omega, fun q z => (by cases z)⟩
  unfold rdT
  split
  · exact p0
  · exact rdA_ok h300 301 0 _ p0 rfl
section S64
variable {pl : Option Nat} {tl : List LC} {d : Nat} {M : Mem} {t : Nat} {T : Nat → Int32} {n : Nat} {s : Ps}
theorem s_fill_7 {Q : Mem → Prop} {v : Int32} (h : Q (sa M 7 (pfx 12 (fun _ => v) (M.1 7)))) : exV (LY pl tl) (d + 1) 1 [.ref 7, .int v] M Q := by
  refine e_J_fill_7 ?_
  have e0 : M = sa M 7 (pfx 0 (fun _ => v) (M.1 7)) := by rw [pfx_0, sa_id]
  have st := lp_0 (X := fx (LY pl tl) d m_J_fill (qV Q)) (fun i => (5, [some (.ref 7), some (.int v), some (.int (nI i)), some (.int (nI 12))], [], sa M 7 (pfx i (fun _ => v) (M.1 7)))) 12 (fun i hi hx => ?_) ?_
  · rw [← e0] at st; exact st
  · refine c_J_fill_7_5 (br_f (nI_ge hi (by omega)) ⟨(z_in (by omega) (by omega)).mpr hi, ?_⟩)
    rw [z_cl (by omega), sa_upd, pfx_s i (fun _ => v) (M.1 7) rfl, nI_add]
    exact hx
  · exact c_J_fill_7_5 (br_t (nI_le (Nat.le_refl _) (by omega)) h)
theorem s_readC {Q : Int32 → Mem → Prop} {u0 : Nat → Int32} (hn : n ≤ 300) (h4 : M.1 4 1 = nI n) (h5 : ∀ j, j < n → M.1 5 j = T j) (h0 : ∀ j, j < 480 → u0 j = nI 0) (h : ∀ M', CRp T n M' (rdT T n u0).2 → FrR M M' → (∀ a b, a < 12 → b < 12 → M'.1 12 (12 * a + b) = nI (dist (rdT T n u0).2.2.2.1 a b)) → Q (rvA (rdT T n u0)) M') : exI (LY pl tl) (d + 8) 98 [.ref 3] M Q := by
  obtain ⟨g, g1, g2', g3⟩ := GU_0 h0
  have hPT := rdT_ok (T := T) hn h0
  refine e_X5_read (e_X3_empty_6 (s_fill_7 ?_))
  generalize hM1 : si (si (sa (si (si (si (si M 3 4 (nI 0)) 3 5 (-1)) 3 6 (nI 0)) 3 3 (nI 0)) 7 (pfx 12 (fun _ => nI 0) ((si (si (si (si M 3 4 (nI 0)) 3 5 (-1)) 3 6 (nI 0)) 3 3 (nI 0)).1 7))) 6 7 (nI 0)) 6 8 (nI 0) = M1
  have c1 : CRp T n M1 (0, none, u0, nI 0) := by
    refine ⟨⟨⟨by rw [← hM1]; rfl, by rw [← hM1]; rfl, by rw [← hM1]; rfl⟩, ⟨?_, ?_, ?_⟩, fun a ha => ?_, fun k hk => ?_, fun x hx => ?_, fun x hx => ?_⟩, ?_, ?_⟩
    · show M1.1 6 7 = nI (rN u0); rw [g1, ← hM1]; rfl
    · show M1.1 6 8 = nI (sN u0); rw [g2', ← hM1]; rfl
    · show M1.1 3 3 = nI (eN u0); rw [g3, ← hM1]; rfl
    · show M1.1 7 a = u0 a
      rw [h0 a (by omega), ← hM1]
      show pfx 12 (fun _ => nI 0) (M.1 7) a = nI 0
      rw [pfx_lt ha]
    · have hk : k < rN u0 := hk
      omega
    · have hx : x < sN u0 := hx
      omega
    · have hx : x < eN u0 := hx
      omega
    · rw [← hM1]; exact h4
    · rw [← hM1]; exact h5
  have F1 : FrR M M1 := by
    rw [← hM1]
    exact ⟨rfl, fun c hc => by rw [si_c (by omega), si_c (by omega), sa_n (by omega), si_c (by omega), si_c (by omega), si_c (by omega), si_c (by omega)]⟩
  clear hM1
  have P1 : PI n (0, none, u0, nI 0) := ⟨Nat.zero_le _, g, fun _ => by show 6 * rN u0 ≤ 0; omega, fun q z => (by cases z)⟩
  -- behind the lines
  have fin : ∀ (M' : Mem) (l : Nat), CRp T n M' (rdT T n u0).2 → FrR M M' → ((rdT T n u0).2.2.1 = none → l = (rdT T n u0).1) → fx (LY pl tl) (d + 7) m_X5_read (qI Q) (45, [some (.ref 3), some (.int (nI l)), some (.int (nI 0))], [], M') := by
    intro M' l c' f' hl
    have PT' := hPT
    obtain ⟨-, -, -, -, -, -, t1, -⟩ := PT'.2.1.1
    have r66 := PT'.2.1.1.2.1.2
    have hrd := PT'.2.1.1.2.2.2.2.2.1
    refine c_X5_read_45 (br_t rfl ?_)
    refine s_measure_6_12 (n := rN (rdT T n u0).2.2.2.1) (l := lo (rdT T n u0).2.2.2.1) (g := hi (rdT T n u0).2.2.2.1) (c_ := fun k => rd (rdT T n u0).2.2.2.1 (lo (rdT T n u0).2.2.2.1 k) (hi (rdT T n u0).2.2.2.1 k)) (s := fun _ => 0) r66 c'.1.2.1.1 (fun k hk => ?_) ?_
    · obtain ⟨k1, k2, k3, k4⟩ := c'.1.2.2.2.1 k hk
      have z := t1 k hk
      exact ⟨k1, k2, k3, k4, z.2.1, z.2.2.1, (hrd _ _ (by omega) (by omega)).1.2.1, by omega⟩
    · generalize hM2 : sa M' 12 (fA (FWm (cI (lo (rdT T n u0).2.2.2.1) (hi (rdT T n u0).2.2.2.1) (fun k => rd (rdT T n u0).2.2.2.1 (lo (rdT T n u0).2.2.2.1 k) (hi (rdT T n u0).2.2.2.1 k)) (fun k => decide (0 = 0) && !decide (nI k = -1)) (rN (rdT T n u0).2.2.2.1)) 12) (M'.1 12)) = M2
      have c2 : CRp T n M2 (rdT T n u0).2 := by rw [← hM2]; exact c'
      have f2 : FrR M M2 := by rw [← hM2]; exact f'.t ⟨rfl, fun c hc => sa_n (by omega)⟩
      have w2 : ∀ a b, a < 12 → b < 12 → M2.1 12 (12 * a + b) = nI (dist (rdT T n u0).2.2.2.1 a b) := fun a b ha hb => by
        rw [← hM2, sa_s, fA_at _ _ ha hb, cI_dist hPT.2.1.1 (fun k hk => ?_) ha hb]
        have z := t1 k hk
        rw [decide_eq_false (fun q => (z_m1 (show k < 2147483648 by omega)).mp q)]
        have : sh (rdT T n u0).2.2.2.1 (lo (rdT T n u0).2.2.2.1 k) (hi (rdT T n u0).2.2.2.1 k) = 0 := by
          unfold sh
          rw [hPT.2.1.2.2 _ (by omega), tn_nI (by omega)]
        rw [this]; rfl
      have h := h M2 c2 f2 w2
      rw [c2.1.1.2.1, fvO_m1 (fun q z => by have := hPT.2.2.2 q z; omega)]
      unfold rvA at h
      cases hf : (rdT T n u0).2.2.1 with
      | none =>
        rw [hf] at h
        refine ⟨fun z => absurd rfl z, fun _ => ?_⟩
        rw [hl hf]
        exact h
      | some q =>
        rw [hf] at h
        exact ⟨fun _ => h, fun z => by cases z⟩
  rw [c1.2.1]
  by_cases hn0 : n = 0
  · have eT : rdT T n u0 = (0, (0, none, u0, nI 0)) := if_pos hn0
    refine ⟨fun _ => fin M1 0 (by rw [eT]; exact c1) F1 (fun _ => by rw [eT]), fun z => ?_⟩
    exact absurd ((z_le0 (by omega)).mpr hn0) z
  · refine ⟨fun z => absurd ((z_le0 (by omega)).mp z) hn0, fun _ => ?_⟩
    have key : ∀ k l (s : Ps) (M' : Mem), CRp T n M' s → PI n s → s.2.1 = none → n + 1 ≤ s.1 + k → 2 * l ≤ s.1 → FrR M M' → rdA T n k l s = rdT T n u0 → fx (LY pl tl) (d + 7) m_X5_read (qI Q) (45, [some (.ref 3), some (.int (nI l)), some (.int (nI 1))], [], M') := by
      intro k
      induction k with
      | zero =>
        intro l s M' c' p' f' hk
        have := p'.1
        omega
      | succ k ih =>
        intro l s M' c' p' f' hk hl fr e
        have pn := p'.1
        obtain ⟨i1, i2⟩ := rdL_ok (T := T) hn p' f'
        refine c_X5_read_45 (br_f (by decide) (br_f (nI_ge (by omega) (by omega)) (s_readLineC c' p' hn f' (fun M3 c3 f3 => ?_))))
        have F3 := fr.t f3
        have p3 := i1.1
        rw [c3.1.1.2.1, fvO_m1 (fun q z => by have := i1.2.2.2 q z; omega), c3.2.1, c3.1.1.1, z_le (by omega) (by omega), nI_add l 1]
        unfold rdA at e
        cases h1 : (rdL T n s).2.1 with
        | some q =>
          rw [h1] at e
          have e : (l + 1, rdL T n s) = rdT T n u0 := e
          refine ⟨fun _ => br_t rfl (fin M3 (l + 1) (by rw [← e]; exact c3) F3 (fun _ => by rw [← e])), fun z => by cases z⟩
        | none =>
          rw [h1] at e
          dsimp only at e
          refine ⟨fun z => absurd rfl z, fun _ => ⟨fun z => ?_, fun z => ?_⟩⟩
          · rw [if_neg (by omega)] at e
            exact br_t rfl (fin M3 (l + 1) (by rw [← e]; exact c3) F3 (fun _ => by rw [← e]))
          · rw [if_pos (by omega)] at e
            refine ⟨fun q => absurd q (by decide), fun _ => s_takeC c3 i1 hn (fun M4 c4 f4 => ?_)⟩
            have i4 : PI n (tks T n 59 (rdL T n s)) := PI_tks (by omega) i1
            have F4 := F3.t f4
            have k4 := tks_ok (T := T) (n := n) (c := 59) (s := rdL T n s) (by omega) i1.1
            cases h2 : (tks T n 59 (rdL T n s)).2.1 with
            | some q =>
              rw [h2] at e
              have e : (l + 1, tks T n 59 (rdL T n s)) = rdT T n u0 := e
              have hq := i4.2.2.2 q h2
              have nm : ¬ M4.1 3 5 = -1 := fun y => (z_m1 (show q < 2147483648 by omega)).mp (by rw [c4.1.1.2.1, h2] at y; exact y)
              refine c_X5_read_45 (br_f (by decide) (br_f (nI_ge (by omega) (by omega)) (e_X5_readLine (br_f nm ⟨fun _ => br_t rfl ?_, fun y => absurd y nm⟩))))
              rw [nI_add]
              refine fin M4 (l + 1 + 1) (by rw [← e]; exact c4) F4 (fun y => ?_)
              rw [← e] at y
              dsimp only at y
              rw [h2] at y; cases y
            | none =>
              rw [h2] at e
              have e : rdA T n k (l + 1) (tks T n 59 (rdL T n s)) = rdT T n u0 := e
              have z2 : (tks T n 59 (rdL T n s)).1 = (rdL T n s).1 + 1 := by
                rcases k4 with ⟨⟨q, y, -⟩, -⟩ | ⟨-, -, y, -⟩
                · rw [h2] at y; cases y
                · exact y
              have := i2 h1
              exact ih (l + 1) _ M4 c4 i4 h2 (by omega) (by omega) F4 e
    exact key 301 0 (0, none, u0, nI 0) M1 c1 P1 rfl (by show n + 1 ≤ 0 + 301; omega) (by show 2 * 0 ≤ 0; omega) F1 (if_neg hn0).symm
end S64
