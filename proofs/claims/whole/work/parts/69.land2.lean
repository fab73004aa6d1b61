/-! land: both -/
theorem u4_f (u w : Nat → Int32) : (∀ j, j ≠ 459 → j ≠ 460 → j ≠ 461 → j ≠ 469 → u4 u w j = u j) ∧ ∀ j, (j = 459 ∨ j = 460 ∨ j = 461 ∨ j = 469) → u4 u w j = w j := by
  refine ⟨fun j h1 h2 h3 h4 => by unfold u4; rw [upd_ne h4, upd_ne h3, upd_ne h2, upd_ne h1], fun j hj => ?_⟩
  unfold u4
  rcases hj with h | h | h | h
  · rw [h, upd_ne (by omega), upd_ne (by omega), upd_ne (by omega), upd_eq]
  · rw [h, upd_ne (by omega), upd_ne (by omega), upd_eq]
  · rw [h, upd_ne (by omega), upd_eq]
  · rw [h, upd_eq]
theorem u4_V {u w : Nat → Int32} {t : Nat} (hg : GU u) (hp : VP w) : V (u4 u w) t := by
  obtain ⟨f1, f2⟩ := u4_f u w
  obtain ⟨v1, ⟨⟨a1, a2⟩, a3⟩, z⟩ := hg
  have e1 : eN (u4 u w) = eN u := by unfold eN; rw [f1 457 (by omega) (by omega) (by omega) (by omega)]
  have e2 : sN (u4 u w) = sN u := by unfold sN; rw [f1 456 (by omega) (by omega) (by omega) (by omega)]
  have m0 : u4 u w 462 = nI 0 := by rw [f1 462 (by omega) (by omega) (by omega) (by omega)]; exact z 462 (by omega)
  have b0 : u4 u w 468 = nI 0 := by rw [f1 468 (by omega) (by omega) (by omega) (by omega)]; exact z 468 (by omega)
  have m1 : miN (u4 u w) = 0 := by unfold miN; rw [m0, tn_nI (by omega)]
  have b1 : bN (u4 u w) = 0 := by unfold bN; rw [b0, tn_nI (by omega)]
  refine ⟨(VL_cg (fun j hj => f1 j (by omega) (by omega) (by omega) (by omega))).1.mpr v1, ⟨?_, fun e he => ?_⟩, VP_cg (fun j hj => f2 j (by omega)) hp, ?_⟩
  · rw [e1, f1 457 (by omega) (by omega) (by omega) (by omega)]; exact ⟨a1, a2⟩
  · rw [e1] at he
    have m : u4 u w (320 + e) = nI 0 := by rw [f1 _ (by omega) (by omega) (by omega) (by omega)]; exact z _ (by omega)
    have p : po (u4 u w) e = po u e := by unfold po; rw [f1 _ (by omega) (by omega) (by omega) (by omega)]
    have mo' : mo (u4 u w) e = 0 := by unfold mo; rw [m, tn_nI (by omega)]
    rw [e2, p, mo', f1 (308 + e) (by omega) (by omega) (by omega) (by omega)]
    exact ⟨a3 e he, m, by omega⟩
  · unfold VM
    rw [m1, b1]
    exact ⟨⟨m0, by omega⟩, ⟨b0, by omega⟩, fun i hi => by omega, fun i j _ hj => by omega⟩
theorem rdA_l (T : Nat → Int32) (n : Nat) : ∀ k l s, (rdA T n k l s).1 ≤ l + k
  | 0, l, s => Nat.le_refl _
  | k + 1, l, s => by
    unfold rdA
    cases (rdL T n s).2.1 with
    | some q => show l + 1 ≤ l + (k + 1); omega
    | none =>
      dsimp only
      split
      · cases (tks T n 59 (rdL T n s)).2.1 with
        | some q => show l + 1 ≤ l + (k + 1); omega
        | none =>
          have := rdA_l T n k (l + 1) (tks T n 59 (rdL T n s))
          show (rdA T n k (l + 1) (tks T n 59 (rdL T n s))).1 ≤ _
          omega
      · show l + 1 ≤ l + (k + 1); omega
section S69
variable {pl : Option Nat} {tl : List LC} {d : Nat} {M : Mem} {t : Nat}
theorem s_beginC {Q : Mem → Prop} {e : Nat} (he : e ≤ 6) (h : ∀ M', M'.2 = M.2 → (∀ c, c ≠ 24 → c ≠ 25 → c ≠ 26 → c ≠ 27 → M'.1 c = M.1 c) → M'.1 24 4 = nI e → (∀ i, i < e → M'.1 25 i = M.1 14 i ∧ M'.1 26 i = nI 0 ∧ M'.1 27 i = nI 0) → (∀ j, 5 ≤ j → j ≤ 11 → M'.1 24 j = nI 0) → Q M') : exV (LY pl tl) (d + 1) 66 [.ref 24, .ref 14, .int (nI e)] M Q := by
  refine e_X2_begin_14 ?_
  have e6 : (if nI 6 < nI 6 then nI 6 else nI 6) = nI 6 := by decide
  rw [e6, if_neg (nI_nlt he (by omega)), mx0 _ (by omega)]
  have st := lp_p (σ := Mem) (X := fx (LY pl tl) d m_X2_begin (qV Q)) (fun i A => (21, [some (.ref 24), some (.ref 14), none, some (.int (nI i))], [], A)) (fun i A => A.2 = M.2 ∧ (∀ c, c ≠ 24 → c ≠ 25 → c ≠ 26 → c ≠ 27 → A.1 c = M.1 c) ∧ A.1 24 4 = nI e ∧ ∀ j, j < i → A.1 25 j = M.1 14 j ∧ A.1 26 j = nI 0 ∧ A.1 27 j = nI 0) e (fun i A hi hP hx => ?_) (fun A hP => ?_) (si M 24 4 (nI e)) ⟨rfl, fun c h1 h2 h3 h4 => si_c h1, by rw [si_s, upd_eq], fun j hj => by omega⟩
  · exact st
  · obtain ⟨a1, a2, a3, a4⟩ := hP
    refine c_X2_begin_14_21 ?_
    have v6 := (z_in (n := i) (N := 6) (by omega) (by omega)).mpr (by omega)
    rw [a3, z_cl (by omega), nI_add]
    refine br_f (nI_ge hi (by omega)) ⟨v6, v6, v6, v6, hx _ ⟨a1, fun c h1 h2 h3 h4 => ?_, a3, fun j hj => ?_⟩⟩
    · rw [si_c h4, si_c h3, si_c h2]; exact a2 c h1 h2 h3 h4
    · rw [si_c (show (25 : Nat) ≠ 27 by omega), si_c (show (26 : Nat) ≠ 27 by omega), si_s, si_c (show (25 : Nat) ≠ 26 by omega), si_s, si_s]
      have q25 : (si (si A 25 i (A.1 14 i)) 26 i (nI 0)).1 27 = A.1 27 := by rw [si_c (by omega), si_c (by omega)]
      have q26 : (si A 25 i (A.1 14 i)).1 26 = A.1 26 := by rw [si_c (by omega)]
      rw [q25, q26]
      by_cases q : j = i
      · subst q
        rw [upd_eq, upd_eq, upd_eq, a2 14 (by omega) (by omega) (by omega) (by omega)]
        exact ⟨rfl, rfl, rfl⟩
      · rw [upd_ne q, upd_ne q, upd_ne q]
        exact a4 j (by omega)
  · obtain ⟨a1, a2, a3, a4⟩ := hP
    refine c_X2_begin_14_21 ?_
    rw [a3]
    refine br_t (nI_le (Nat.le_refl _) (by omega)) (h _ a1 (fun c h1 h2 h3 h4 => ?_) ?_ (fun i hi => a4 i hi) (fun j h1 h2 => ?_))
    · rw [si_c h1, si_c h1, si_c h1, si_c h1, si_c h1, si_c h1, si_c h1]; exact a2 c h1 h2 h3 h4
    · exact a3
    · have : j = 5 ∨ j = 6 ∨ j = 7 ∨ j = 8 ∨ j = 9 ∨ j = 10 ∨ j = 11 := by omega
      rcases this with q | q | q | q | q | q | q <;> subst q <;> rfl
theorem op_land (h : Inv t M) (ht : t < 512) : Op pl tl (d + 12) 4 [.ref 0] 153 [.ref 52] t M := by
  have hI := h.up (t' := t + 1) (by omega) (by omega)
  obtain ⟨⟨hv, hr⟩, hrow, ⟨n, hn, t1, t2, t3⟩, hkp, h512⟩ := hI
  have h0 : ∀ j, j < 480 → pfx 480 (fun _ => nI 0) (M.1 57) j = nI 0 := fun j hj => pfx_lt hj
  have hPT := rdT_ok (T := M.1 5) hn h0
  generalize hu : pfx 480 (fun _ => nI 0) (M.1 57) = u0 at h0 hPT
  refine e_X10_land (s_readC (T := M.1 5) (u0 := u0) hn t1 (fun j _ => rfl) h0 (fun M1 c1 f1 w1 => ?_))
  have k4 : M1.1 4 1 = nI n := c1.2.1
  refine e_X8_cutTo (br_f (by decide) ?_)
  rw [k4]
  refine br_t (nI_le (Nat.zero_le _) (by omega)) ?_
  have g4 : ∀ c, c ≠ 4 → (si M1 4 1 (nI 0)).1 c = M1.1 c := fun c hc => si_c hc
  have g41 : (si M1 4 1 (nI 0)).1 4 1 = nI 0 := by rw [si_s, upd_eq]
  have g2'' : (si M1 4 1 (nI 0)).2 = M1.2 := rfl
  generalize si M1 4 1 (nI 0) = M2 at g4 g41 g2'' ⊢
  have hS : ∀ c, (c < 3 ∨ 15 ≤ c) → M2.1 c = M.1 c := fun c hc => (g4 c (by omega)).trans (f1.2 c (by omega))
  have h2 : M2.2 = M.2 := g2''.trans f1.1
  cases hf : (rdT (M.1 5) n u0).2.2.1 with
  | some q =>
    have hq := hPT.2.2.2 q hf
    have rv : rvA (rdT (M.1 5) n u0) = (-21) - nI q := by unfold rvA; rw [hf]
    rw [rv]
    have neg : ¬ (0 : Int32) ≤ (-21) - nI q := fun z => by
      rw [Int32.le_iff_toInt_le, Int32.toInt_sub, nI_toInt (by omega)] at z
      have e1 : (-21 : Int32).toInt = -21 := by decide
      have e0 : (0 : Int32).toInt = 0 := by decide
      rw [e1, e0, Int.bmod_eq_of_le (by omega) (by omega)] at z
      omega
    refine ⟨fun z => absurd z neg, fun _ => ?_⟩
    refine m_land (M := M2) (T := M.1 5) (n := n) (u0 := u0) hn (by rw [hS 52 (by omega)]; exact t2) (fun j hj => by rw [hS 55 (by omega)]; exact (t3 j hj).symm) (by rw [hS 57 (by omega), hu]) (fun q' D e1 lg d53 d2 => ?_) (fun D e1 => by rw [hf] at e1; cases e1)
    rw [hf] at e1
    have e1 := Option.some.inj e1
    subst e1
    refine ⟨rfl, ?_⟩
    have w53 : D.1 53 = M.1 53 := d53.trans (hS 53 (by omega))
    have dc : ∀ c, (c < 3 ∨ (15 ≤ c ∧ c < 52) ∨ c = 54) → D.1 c = M.1 c := fun c hc => (lg.2.1 c (by omega) (by omega) (by omega)).trans (hS c (by omega))
    refine ⟨⟨by rw [w53]; exact hv, by rw [w53]; exact RC_cells (fun c h1 h2 => dc c (by omega)) hr⟩, ?_, ⟨0, by omega, ?_, lg.2.2.1, fun j hj => by omega⟩, ?_, h512⟩
    · obtain ⟨m, m1, m2, m3, m4⟩ := hrow
      refine ⟨m, m1, ?_, ?_, fun j hj => ?_⟩
      · rw [dc 1 (by omega)]; exact m2
      · rw [lg.2.2.2 6 (by omega) (by omega) (by omega) (by omega), hS 52 (by omega)]; exact m3
      · rw [lg.1, h2]; exact m4 j hj
    · rw [lg.2.1 4 (by omega) (by omega) (by omega)]; exact g41
    · unfold KpOk at hkp ⊢
      rw [dc 0 (by omega), d2, hS 52 (by omega), dc 54 (by omega)]
      rcases hkp with z | ⟨z1, z2, z3, z4⟩
      · exact Or.inl z
      · exact Or.inr ⟨z1, z2, z3, RC_cells (fun c h1 h2 => dc c (by omega)) z4⟩
  | none =>
    have rv : rvA (rdT (M.1 5) n u0) = nI (rdT (M.1 5) n u0).1 := by unfold rvA; rw [hf]
    rw [rv]
    have lb : (rdT (M.1 5) n u0).1 ≤ 301 := by
      unfold rdT
      split
      · show 0 ≤ 301; omega
      · have := rdA_l (M.1 5) n 301 0 (0, none, u0, nI 0); omega
    refine ⟨fun _ => s_lTake_16_6 ?_, fun z => absurd (nI_pos' (by omega)) z⟩
    -- the class's draft
    have cu : DRp M2 (rdT (M.1 5) n u0).2.2.2.1 := by
      obtain ⟨⟨d1, d2, d3⟩, d4, d5, d6, d7⟩ := c1.1.2
      unfold DRp
      rw [g4 6 (by omega), g4 3 (by omega), g4 7 (by omega), g4 8 (by omega), g4 9 (by omega), g4 10 (by omega), g4 11 (by omega), g4 13 (by omega), g4 14 (by omega)]
      exact ⟨⟨d1, d2, d3⟩, d4, d5, d6, d7⟩
    have cw : ∀ a b, a < 12 → b < 12 → M2.1 12 (12 * a + b) = nI (dist (rdT (M.1 5) n u0).2.2.2.1 a b) := by rw [g4 12 (by omega)]; exact w1
    have hg := hPT.2.1
    generalize hX : rdT (M.1 5) n u0 = X at *
    obtain ⟨⟨d1, d2, d3⟩, d4, d5, d6, d7⟩ := cu
    have s8 := hg.1.1.2
    have e6 := hg.2.1.1.2
    have r66 := hg.1.2.1.2
    have j3 : (LT_16_6 M2).1 3 3 = nI (eN X.2.2.2.1) := d3
    rw [j3]
    refine s_beginC (M := LT_16_6 M2) e6 (fun M4 b2 bc b4 bp bz => ?_)
    obtain ⟨f1', f2'⟩ := u4_f X.2.2.2.1 (M.1 53)
    have V' := u4_V (t := t + 1) hg hv.2.2.1 (w := M.1 53)
    -- the new world
    have lc : ∀ c, (c < 16 ∨ 24 ≤ c) → (LT_16_6 M2).1 c = M2.1 c := fun c hc => by
      unfold LT_16_6
      rw [sa_n (by omega), sa_n (by omega), sa_n (by omega), sa_n (by omega), si_c (by omega), si_c (by omega), sa_n (by omega), sa_n (by omega), sa_n (by omega)]
    have R' : RC 15 (si M4 0 8 (nI 0)) (u4 X.2.2.2.1 (M.1 53)) := by
      have eE : eN (u4 X.2.2.2.1 (M.1 53)) = eN X.2.2.2.1 := by unfold eN; rw [f1' 457 (by omega) (by omega) (by omega) (by omega)]
      have eS : sN (u4 X.2.2.2.1 (M.1 53)) = sN X.2.2.2.1 := by unfold sN; rw [f1' 456 (by omega) (by omega) (by omega) (by omega)]
      have cg := VL_cg (w := X.2.2.2.1) (w' := u4 X.2.2.2.1 (M.1 53)) (fun j hj => f1' j (by omega) (by omega) (by omega) (by omega))
      have eR := cg.2.2.1
      have z0 : ∀ j, ((314 ≤ j ∧ j < 326) ∨ (462 ≤ j ∧ j < 469)) → u4 X.2.2.2.1 (M.1 53) j = nI 0 := fun j hj => by rw [f1' j (by omega) (by omega) (by omega) (by omega)]; exact hg.2.2 j (by omega)
      have n4 : ∀ c, c ≠ 0 → (si M4 0 8 (nI 0)).1 c = M4.1 c := fun c hc => si_c hc
      have mb : ∀ c, (15 ≤ c ∧ c < 24) → M4.1 c = (LT_16_6 M2).1 c := fun c hc => bc c (by omega) (by omega) (by omega) (by omega)
      refine ⟨⟨fun a ha => ?_, ?_, ?_, fun x hx => ?_, fun k hk => ?_, fun a b ha hb => ?_⟩, ⟨?_, fun e he => ?_, ?_, ?_, ?_, ?_, ?_, ?_⟩, ⟨?_, ?_, ?_, ?_⟩, ?_⟩
      · rw [n4 _ (by omega), mb _ (by omega), f1' a (by omega) (by omega) (by omega) (by omega), ← d4 a ha]
        show va_cpy (M2.1 7) (M2.1 17) 0 0 12 a = _
        unfold va_cpy
        rw [if_pos (by omega), show 0 + (a - 0) = a by omega]
      · rw [n4 _ (by omega), mb _ (by omega), f1' 456 (by omega) (by omega) (by omega) (by omega), hg.1.1.1]
        exact d2
      · rw [n4 _ (by omega), mb _ (by omega), f1' 458 (by omega) (by omega) (by omega) (by omega), hg.1.2.1.1]
        exact d1
      · rw [eS] at hx
        rw [n4 _ (by omega), mb _ (by omega), f1' (300 + x) (by omega) (by omega) (by omega) (by omega), ← d6 x hx]
        show va_cpy (M2.1 13) (M2.1 23) 0 0 8 x = _
        unfold va_cpy
        rw [if_pos (by omega), show 0 + (x - 0) = x by omega]
      · rw [eR] at hk
        obtain ⟨k1, k2, k3, k5⟩ := d5 k hk
        have tt := hg.1.2.2.2.2.2.2.1 k hk
        obtain ⟨l1, l2⟩ := cg.2.2.2.2.1 k (by omega)
        have rs := cg.2.2.2.1 (lo X.2.2.2.1 k) (hi X.2.2.2.1 k) (by omega) (by omega)
        have s0 : sh X.2.2.2.1 (lo X.2.2.2.1 k) (hi X.2.2.2.1 k) = 0 := by unfold sh; rw [hg.2.2 _ (by omega), tn_nI (by omega)]
        rw [l1, l2, rs.1, rs.2, s0, n4 _ (by omega), n4 _ (by omega), n4 _ (by omega), n4 _ (by omega), mb _ (by omega), mb _ (by omega), mb _ (by omega), mb _ (by omega)]
        refine ⟨?_, ?_, ?_, ?_⟩
        · show pfx 66 (M2.1 8) _ k = _
          rw [pfx_lt (by omega)]; exact k1
        · show pfx 66 (M2.1 9) _ k = _
          rw [pfx_lt (by omega)]; exact k2
        · show pfx 66 (M2.1 10) _ k = _
          rw [pfx_lt (by omega)]; exact k3
        · show pfx 66 (fun j => vp_nar .boolean (M2.1 11 j)) _ k = _
          rw [pfx_lt (by omega), k5, vp_bool (by omega)]
      · rw [n4 _ (by omega), mb _ (by omega), cg.2.2.2.2.2 a b ha hb, ← cw a b ha hb]
        show va_cpy (M2.1 12) (M2.1 22) 0 0 144 (12 * a + b) = _
        unfold va_cpy
        rw [if_pos (by omega), show 0 + (12 * a + b - 0) = 12 * a + b by omega]
      · rw [n4 _ (by omega), f1' 457 (by omega) (by omega) (by omega) (by omega), hg.2.1.1.1]; exact b4
      · rw [eE] at he
        obtain ⟨p1, p2, p3⟩ := bp e he
        rw [n4 _ (by omega), n4 _ (by omega), n4 _ (by omega), f1' (308 + e) (by omega) (by omega) (by omega) (by omega), z0 (320 + e) (by omega), z0 (314 + e) (by omega)]
        refine ⟨p1.trans ?_, p2, p3⟩
        rw [lc 14 (by omega)]; exact d7 e he
      · rw [n4 _ (by omega), z0 462 (by omega)]; exact bz 6 (by omega) (by omega)
      · rw [n4 _ (by omega), z0 463 (by omega)]; exact bz 7 (by omega) (by omega)
      · rw [n4 _ (by omega), z0 464 (by omega)]; exact bz 8 (by omega) (by omega)
      · rw [n4 _ (by omega), z0 465 (by omega)]; exact bz 9 (by omega) (by omega)
      · rw [n4 _ (by omega), z0 466 (by omega)]; exact bz 10 (by omega) (by omega)
      · rw [n4 _ (by omega), z0 467 (by omega)]; exact bz 11 (by omega) (by omega)
      · rw [n4 _ (by omega), mb _ (by omega), lc 15 (by omega), hS 15 (by omega), f2' 459 (by omega)]; exact hr.2.2.1.1
      · rw [n4 _ (by omega), mb _ (by omega), lc 15 (by omega), hS 15 (by omega), f2' 460 (by omega)]; exact hr.2.2.1.2.1
      · rw [n4 _ (by omega), mb _ (by omega), lc 15 (by omega), hS 15 (by omega), f2' 461 (by omega)]; exact hr.2.2.1.2.2.1
      · rw [n4 _ (by omega), mb _ (by omega), lc 15 (by omega), hS 15 (by omega), f2' 469 (by omega)]; exact hr.2.2.1.2.2.2
      · have bb0 : bN (u4 X.2.2.2.1 (M.1 53)) = 0 := by unfold bN; rw [z0 468 (by omega), tn_nI (by omega)]
        unfold RH
        rw [bb0]
        refine ⟨?_, fun j hj => by omega⟩
        rw [n4 _ (by omega)]
        exact bz 5 (by omega) (by omega)
    have oc : ∀ c, c ≠ 0 → (c < 15 ∨ 28 < c) → (si M4 0 8 (nI 0)).1 c = M2.1 c := fun c h1 h2' => by
      rw [si_c h1, bc c (by omega) (by omega) (by omega) (by omega), lc c (by omega)]
    have o2 : (si M4 0 8 (nI 0)).2 = M.2 := by
      show M4.2 = _
      rw [b2]
      exact h2
    have o08 : (si M4 0 8 (nI 0)).1 0 8 = nI 0 := by rw [si_s, upd_eq]
    generalize si M4 0 8 (nI 0) = C at R' oc o2 o08 ⊢
    have oM : ∀ c, c ≠ 0 → ((c < 3 ∧ c ≠ 0) ∨ 28 < c) → C.1 c = M.1 c := fun c h1 h2' => (oc c h1 (by omega)).trans (hS c (by omega))
    refine m_land (M := C) (T := M.1 5) (n := n) (u0 := u0) hn (by rw [oM 52 (by omega) (by omega)]; exact t2) (fun j hj => by rw [oM 55 (by omega) (by omega)]; exact (t3 j hj).symm) (by rw [oM 57 (by omega) (by omega), hu]) (fun q' D e1 => by rw [hX, hf] at e1; cases e1) (fun D e1 lg d53 d2' => ?_)
    rw [hX] at d53 ⊢
    refine ⟨rfl, ?_⟩
    have w53 : C.1 53 = M.1 53 := oM 53 (by omega) (by omega)
    rw [w53] at d53
    have eq : ∀ j, j < 480 → D.1 53 j = u4 X.2.2.2.1 (M.1 53) j := fun j hj => by rw [d53, pfx_lt hj]
    refine ⟨⟨V_eq eq V', RC_eq eq V' (RC_cells (fun c h1 h2' => lg.2.1 c (by omega) (by omega) (by omega)) R')⟩, ?_, ⟨0, by omega, ?_, lg.2.2.1, fun j hj => by omega⟩, Or.inl ⟨?_, d2'⟩, h512⟩
    · obtain ⟨m, m1, m2, m3, m4⟩ := hrow
      refine ⟨m, m1, ?_, ?_, fun j hj => ?_⟩
      · rw [lg.2.1 1 (by omega) (by omega) (by omega), oM 1 (by omega) (by omega)]; exact m2
      · rw [lg.2.2.2 6 (by omega) (by omega) (by omega) (by omega), oM 52 (by omega) (by omega)]; exact m3
      · rw [lg.1, o2]; exact m4 j hj
    · rw [lg.2.1 4 (by omega) (by omega) (by omega), oc 4 (by omega) (by omega)]; exact g41
    · rw [lg.2.1 0 (by omega) (by omega) (by omega)]; exact o08
end S69
