/-! land -/
def rdB (T : Nat → Int32) (n k l : Nat) (s1 : Ps) : Nat × Ps := match s1.2.1 with
  | some _ => (l, s1)
  | none => if s1.1 < n then (match (tks T n 59 s1).2.1 with
    | some _ => (l, tks T n 59 s1)
    | none => rdA T n k l (tks T n 59 s1)) else (l, s1)
theorem rdA_B (T : Nat → Int32) (n k l : Nat) (s : Ps) : rdA T n (k + 1) l s = rdB T n k (l + 1) (rdL T n s) := rfl
def u4 (u w : Nat → Int32) : Nat → Int32 := upd (upd (upd (upd u 459 (w 459)) 460 (w 460)) 461 (w 461)) 469 (w 469)
def LG (A B : Mem) : Prop := B.2 = A.2 ∧ (∀ c, c ≠ 52 → c ≠ 53 → c ≠ 57 → B.1 c = A.1 c) ∧ B.1 52 4 = nI 0 ∧ ∀ j, j < 9 → j ≠ 2 → j ≠ 4 → j ≠ 7 → B.1 52 j = A.1 52 j
section S68
variable {pl : Option Nat} {tl : List LC} {d : Nat} {M : Mem} {t : Nat} {T : Nat → Int32} {n : Nat} {s : Ps}
theorem m_land {Q : Int32 → Mem → Prop} {u0 : Nat → Int32} (hn : n ≤ 300) (h4 : M.1 52 4 = nI n) (hT : ∀ j, j < n → M.1 55 j &&& nI 255 = T j) (hu : u0 = pfx 480 (fun _ => nI 0) (M.1 57)) (hF : ∀ q M', (rdT T n u0).2.2.1 = some q → LG M M' → M'.1 53 = M.1 53 → M'.1 52 2 = M.1 52 2 → Q ((-21) - nI q) M') (hS : ∀ M', (rdT T n u0).2.2.1 = none → LG M M' → M'.1 53 = pfx 480 (u4 (rdT T n u0).2.2.2.1 (M.1 53)) (M.1 53) → M'.1 52 2 = nI 0 → Q (nI (rdT T n u0).1) M') : exI (LY pl tl) (d + 5) 153 [.ref 52] M Q := by
  have h0 : ∀ j, j < 480 → u0 j = nI 0 := fun j hj => by rw [hu, pfx_lt hj]
  obtain ⟨g, g1, g2', g3⟩ := GU_0 h0
  have hPT := rdT_ok (T := T) hn h0
  refine e_X11_land ?_
  rw [h4]
  generalize hM1 : si (si (si (si (si (si (si (si (si M 52 7 (nI 0)) 52 9 (nI n)) 52 4 (nI 0)) 52 10 (nI 0)) 52 11 (-1)) 52 12 (nI 0)) 52 13 (nI 0)) 52 14 (nI 0)) 52 15 (nI 0) = M1
  have m2 : M1.2 = M.2 := by rw [← hM1]; rfl
  have mc : ∀ c, c ≠ 52 → M1.1 c = M.1 c := fun c hc => by rw [← hM1, si_c hc, si_c hc, si_c hc, si_c hc, si_c hc, si_c hc, si_c hc, si_c hc, si_c hc]
  have mj : ∀ j, j < 9 → j ≠ 4 → j ≠ 7 → M1.1 52 j = M.1 52 j := fun j q1 q2 q3 => by
    rw [← hM1, si_s, upd_ne (by omega), si_s, upd_ne (by omega), si_s, upd_ne (by omega), si_s, upd_ne (by omega), si_s, upd_ne (by omega), si_s, upd_ne (by omega), si_s, upd_ne (by omega), si_s, upd_ne (by omega), si_s, upd_ne (by omega)]
  have k4 : M1.1 52 4 = nI 0 := by rw [← hM1]; rfl
  have k9 : M1.1 52 9 = nI n := by rw [← hM1]; rfl
  have k10 : M1.1 52 10 = nI 0 := by rw [← hM1]; rfl
  have k11 : M1.1 52 11 = -1 := by rw [← hM1]; rfl
  have k12 : M1.1 52 12 = nI 0 := by rw [← hM1]; rfl
  have k13 : M1.1 52 13 = nI 0 := by rw [← hM1]; rfl
  have k14 : M1.1 52 14 = nI 0 := by rw [← hM1]; rfl
  have k15 : M1.1 52 15 = nI 0 := by rw [← hM1]; rfl
  clear hM1
  have st := lp_0 (X := fx (LY pl tl) (d + 4) m_X11_land (qI Q)) (fun i => (50, [some (.ref 52), some (.int (nI i))], [], sa M1 57 (pfx i (fun _ => nI 0) (M1.1 57)))) 480 (fun i hi hx => ?_) ?_
  · rw [pfx_0, sa_id] at st; exact st
  · refine c_X11_land_50 (br_f (nI_ge hi (by omega)) ⟨(z_in (by omega) (by omega)).mpr hi, ?_⟩)
    rw [z_cl (by omega), sa_upd, pfx_s i (fun _ => nI 0) (M1.1 57) rfl, nI_add]
    exact hx
  · refine c_X11_land_50 (br_t (nI_le (Nat.le_refl _) (by omega)) ?_)
    rw [mc 57 (by omega), ← hu]
    have c2 : MR T n (sa M1 57 u0) (0, none, u0, nI 0) := ⟨⟨k10, k11, k15⟩, sa_s _ _ _, k9, fun j hj => by show M1.1 55 j &&& _ = _; rw [mc 55 (by omega)]; exact hT j hj⟩
    have fl2 : FLg (sa M1 57 u0) (0, none, u0, nI 0) := fun _ => ⟨by show M1.1 52 13 = nI (if sN u0 = 0 then 0 else 1); rw [if_pos g2']; exact k13, by show M1.1 52 14 = nI (if eN u0 = 0 then 0 else 1); rw [if_pos g3]; exact k14⟩
    have l2 : (sa M1 57 u0).1 52 12 = nI 0 := k12
    have q2 : (sa M1 57 u0).2 = M.2 := m2
    have qc : ∀ c, c ≠ 52 → c ≠ 57 → (sa M1 57 u0).1 c = M.1 c := fun c h1 h2 => by rw [sa_n h2]; exact mc c h1
    have q4 : (sa M1 57 u0).1 52 4 = nI 0 := k4
    have qj : ∀ j, j < 9 → j ≠ 4 → j ≠ 7 → (sa M1 57 u0).1 52 j = M.1 52 j := mj
    generalize sa M1 57 u0 = M2 at c2 fl2 l2 q2 qc q4 qj ⊢
    -- the end
    have fin : ∀ M', MR T n M' (rdT T n u0).2 → FrL M2 M' → ((rdT T n u0).2.2.1 = none → M'.1 52 12 = nI (rdT T n u0).1) → fx (LY pl tl) (d + 4) m_X11_land (qI Q) (142, [some (.ref 52), none], [], M') := by
      intro M' c' f' hl
      have w53 : M'.1 53 = M.1 53 := (f'.2.1 53 (by omega) (by omega)).trans (qc 53 (by omega) (by omega))
      have lg : ∀ D : Mem, D.2 = M'.2 → (∀ c, c ≠ 52 → c ≠ 53 → c ≠ 57 → D.1 c = M'.1 c) → (∀ j, j < 9 → j ≠ 2 → D.1 52 j = M'.1 52 j) → LG M D := fun D d1 d2 d3 => ⟨d1.trans (f'.1.trans q2), fun c h1 h2 h3 => (d2 c h1 h2 h3).trans ((f'.2.1 c h1 h3).trans (qc c h1 h3)), (d3 4 (by omega) (by omega)).trans ((f'.2.2 4 (by omega)).trans q4), fun j h1 h2 h3 h4 => (d3 j h1 h2).trans ((f'.2.2 j (by omega)).trans (qj j h1 h3 h4))⟩
      refine c_X11_land_142 ?_
      rw [c'.1.2.1, fvO_m1 (fun q z => by have := hPT.2.2.2 q z; omega)]
      cases hf : (rdT T n u0).2.2.1 with
      | some q =>
        refine ⟨fun z => (by cases z), fun _ => hF q M' hf (lg M' rfl (fun _ _ _ _ => rfl) (fun _ _ _ => rfl)) w53 ((f'.2.2 2 (by omega)).trans (qj 2 (by omega) (by omega) (by omega)))⟩
      | none =>
        refine ⟨fun _ => ?_, fun z => absurd rfl z⟩
        have em : si (si (si (si M' 57 459 (M'.1 53 459)) 57 460 (M'.1 53 460)) 57 461 (M'.1 53 461)) 57 469 (M'.1 53 469) = sa M' 57 (u4 (rdT T n u0).2.2.2.1 (M.1 53)) := by
          unfold u4
          simp only [si_sa, sa_s, sa_sa, c'.2.1, w53]
        rw [em]
        have st2 := lp_0 (X := fx (LY pl tl) (d + 4) m_X11_land (qI Q)) (fun i => (224, [some (.ref 52), some (.int (nI i))], [], sa (sa M' 57 (u4 (rdT T n u0).2.2.2.1 (M.1 53))) 53 (pfx i (u4 (rdT T n u0).2.2.2.1 (M.1 53)) (M.1 53)))) 480 (fun i hi hx => ?_) ?_
        · rw [pfx_0, ← w53] at st2
          have e9 : sa (sa M' 57 (u4 (rdT T n u0).2.2.2.1 (M'.1 53))) 53 (M'.1 53) = sa M' 57 (u4 (rdT T n u0).2.2.2.1 (M'.1 53)) := sa_eq (fun j => by rw [sa_n (by omega)])
          rw [e9, w53] at st2
          exact st2
        · refine c_X11_land_224 (br_f (nI_ge hi (by omega)) ?_)
          have v4 := (z_in (n := i) (N := 480) (by omega) (by omega)).mpr hi
          have e57 : (sa (sa M' 57 (u4 (rdT T n u0).2.2.2.1 (M.1 53))) 53 (pfx i (u4 (rdT T n u0).2.2.2.1 (M.1 53)) (M.1 53))).1 57 = u4 (rdT T n u0).2.2.2.1 (M.1 53) := by rw [sa_n (by omega), sa_s]
          rw [z_cl (by omega), e57, sa_upd, pfx_s i _ (M.1 53) rfl, nI_add]
          exact ⟨v4, v4, hx⟩
        · refine c_X11_land_224 (br_t (nI_le (Nat.le_refl _) (by omega)) ?_)
          have e12 : (sa (sa M' 57 (u4 (rdT T n u0).2.2.2.1 (M.1 53))) 53 (pfx 480 (u4 (rdT T n u0).2.2.2.1 (M.1 53)) (M.1 53))).1 52 12 = nI (rdT T n u0).1 := hl hf
          rw [e12]
          refine hS _ hf (lg _ rfl (fun c h1 h2 h3 => ?_) (fun j h1 h2 => ?_)) ?_ (by rw [si_s, upd_eq])
          · rw [si_c h1, sa_n h2, sa_n h3]
          · rw [si_s, upd_ne h2]; rfl
          · rw [si_c (by omega), sa_s]
    have key : ∀ k l (s1 : Ps) (M' : Mem), MRl T n M' s1 → PI n s1 → FLg M' s1 → (s1.2.1 = none → n ≤ s1.1 + k) → M'.1 52 12 = nI l → FrL M2 M' → rdB T n k l s1 = rdT T n u0 → fx (LY pl tl) (d + 4) m_X11_land (qI Q) (81, [some (.ref 52), none], [], M') := by
      intro k
      induction k with
      | zero => ?_
      | succ k ih => ?_
      all_goals
        intro l s1 M' c' p' fl' hk hl fr e
        have pn := p'.1
        refine c_X11_land_81 ?_
        unfold rdB at e
        cases hf : s1.2.1 with
        | some q =>
          rw [hf] at e
          have e : (l, s1) = rdT T n u0 := e
          have c' : MR T n M' s1 := by
            rcases c' with c' | ⟨z, -, -⟩
            · exact c'
            · rw [hf] at z; cases z
          have hq := p'.2.2.2 q hf
          have nm : ¬ M'.1 52 11 = -1 := fun y => (z_m1 (show q < 2147483648 by omega)).mp (by rw [c'.1.2.1, hf] at y; exact y)
          have f := fin M' (by rw [← e]; exact c') fr (fun _ => by rw [← e]; exact hl)
          exact ⟨fun _ => ⟨fun _ => f, fun y => absurd y nm⟩, fun y => absurd y nm⟩
        | none =>
          rw [hf] at e
          dsimp only at e
          have hk := hk hf
          rcases c' with c' | ⟨-, z2, z3⟩
          · have m1 : M'.1 52 11 = -1 := by rw [c'.1.2.1, hf]; rfl
            refine ⟨fun y => absurd m1 y, fun _ => m_sees hn (by omega) c' ⟨fun y => ⟨fun y2 => absurd m1 y2, fun _ => ?_⟩, fun y => ?_⟩⟩
            · rw [c'.2.2.1, c'.1.1, z_le (by omega) (by omega)]
              refine ⟨fun y3 => ?_, fun y3 => ?_⟩
              · rw [if_neg (by omega)] at e
                exact fin M' (by rw [← e]; exact c') fr (fun _ => by rw [← e]; exact hl)
              · rw [if_pos (by omega)] at e
                have et : tks T n 59 s1 = rfs s1.1 s1 := by
                  unfold tks
                  rw [hf]
                  dsimp only
                  rw [if_neg y]
                have e2 : (tks T n 59 s1).2.1 = some s1.1 := by rw [et, rfs_n hf]
                rw [e2] at e
                have e : (l, tks T n 59 s1) = rdT T n u0 := e
                refine m_fault c' p'.2.2.2 hn (fun M4 c4 f4 _ => fin M4 (by rw [← e, et]; exact c4) (fr.t f4.l) (fun q => ?_))
                rw [← e] at q
                dsimp only at q
                rw [e2] at q; cases q
            · have hlt := sg_lt (by omega) y
              first
              | omega
              | (rw [if_pos hlt] at e
                 have et : tks T n 59 s1 = (s1.1 + 1, s1.2) := by
                   unfold tks
                   rw [hf]
                   dsimp only
                   rw [if_pos y]
                 have e2 : (tks T n 59 s1).2.1 = none := by rw [et]; exact hf
                 rw [e2] at e
                 have e : rdB T n k (l + 1) (rdL T n (s1.1 + 1, s1.2)) = rdT T n u0 := by rw [← rdA_B, ← et]; exact e
                 rw [c'.1.1, nI_add]
                 have P3 : PI n (s1.1 + 1, s1.2) := ⟨by show s1.1 + 1 ≤ n; omega, p'.2.1, fun z => by have := p'.2.2.1 hf; show 6 * rN s1.2.2.1 ≤ s1.1 + 1; omega, p'.2.2.2⟩
                 obtain ⟨i1, i2⟩ := rdL_ok (T := T) hn P3 hf
                 have fl3 : FLg (si M' 52 10 (nI (s1.1 + 1))) (s1.1 + 1, s1.2) := fun z => by
                   obtain ⟨y1, y2⟩ := fl' z
                   exact ⟨by rw [si_s, upd_ne (by omega)]; exact y1, by rw [si_s, upd_ne (by omega)]; exact y2⟩
                 refine m_readsLine (MR_10 c') P3 hn hf fl3 (fun M5 c5 fl5 f5 l5 => ?_)
                 have l5' : M5.1 52 12 = nI (l + 1) := by rw [l5, si_s, upd_ne (by omega), hl, nI_add]
                 exact ih (l + 1) _ M5 c5 i1 fl5 (fun hq => by have := i2 hq; dsimp only at this; omega) l5' ((fr.t (FrL_52 M' (k := 10) (nI (s1.1 + 1)) (by omega))).t f5) e)
          · have hlt := sg_lt (by omega) z2
            rw [if_pos hlt] at e
            have et : tks T n 59 s1 = rfs s1.1 s1 := by
              unfold tks
              rw [hf]
              dsimp only
              rw [z2, if_neg (by decide)]
            have e2 : (tks T n 59 s1).2.1 = some s1.1 := by rw [et, rfs_n hf]
            rw [e2] at e
            have e : (l, tks T n 59 s1) = rdT T n u0 := e
            have nm : ¬ M'.1 52 11 = -1 := fun y => (z_m1 (show s1.1 < 2147483648 by omega)).mp (by rw [z3.1.2.1, rfs_n hf] at y; exact y)
            have f := fin M' (by rw [← e, et]; exact z3) fr (fun q => by rw [← e] at q; dsimp only at q; rw [e2] at q; cases q)
            exact ⟨fun _ => ⟨fun _ => f, fun y => absurd y nm⟩, fun y => absurd y nm⟩
    rw [c2.2.2.1, z_le0 (by omega)]
    have P0 : PI n (0, none, u0, nI 0) := ⟨Nat.zero_le _, g, fun _ => by show 6 * rN u0 ≤ 0; omega, fun q z => (by cases z)⟩
    refine ⟨fun z => ?_, fun z => ?_⟩
    · refine key 0 0 (0, none, u0, nI 0) M2 (Or.inl c2) P0 fl2 (fun _ => by show n ≤ 0 + 0; omega) l2 ⟨rfl, fun _ _ _ => rfl, fun _ _ => rfl⟩ ?_
      have e1 : rdT T n u0 = (0, (0, none, u0, nI 0)) := if_pos z
      rw [e1]
      unfold rdB
      dsimp only
      rw [if_neg (by omega)]
    · obtain ⟨i1, i2⟩ := rdL_ok (T := T) hn P0 rfl
      refine m_readsLine c2 P0 hn rfl fl2 (fun M5 c5 fl5 f5 l5 => key 300 1 _ M5 c5 i1 fl5 (fun _ => by omega) (by rw [l5, l2, nI_add]) f5 ?_)
      rw [show rdT T n u0 = rdA T n 301 0 (0, none, u0, nI 0) from if_neg z, ← rdA_B T n 300 0]
end S68
