/-! KEPT AND BACK, ENGINES, COUNTS, THE TEXT'S SIGNS (gen/ops2.py) -/
theorem V_eq {w w' : Nat → Int32} {t : Nat} (h : ∀ j, j < 480 → w' j = w j) (hv : V w t) : V w' t := ⟨(VL_cg (fun j hj => h j (by omega))).1.mpr hv.1, VC_cg (fun j hj => h j (by omega)) hv.2.1, VP_cg (fun j hj => h j (by omega)) hv.2.2.1, VM_cg (fun j hj => h j (by omega)) hv.2.2.2⟩
theorem RC_eq {b : Nat} {M : Mem} {w w' : Nat → Int32} {t : Nat} (h : ∀ j, j < 480 → w' j = w j) (hv : V w t) (hr : RC b M w) : RC b M w' := ⟨RLd_cg (fun j hj => h j (by omega)) hv.1 hr.1, RK_cg (fun j hj => h j (by omega)) hv.2.1 hr.2.1, RP_cg (fun j hj => h j (by omega)) hr.2.2.1, RH_cg (fun j hj => h j (by omega)) hr.2.2.2⟩
theorem vp_bool {s : Nat} (h : s ≤ 1) : vp_nar .boolean (nI s) = nI s := by
  have : s = 0 ∨ s = 1 := by omega
  rcases this with rfl | rfl <;> decide
/-- a world copied -/
theorem RC_copy {b b' : Nat} {M M' : Mem} {w : Nat → Int32} {t : Nat} (hv : V w t) (hr : RC b M w)
    (c2 : ∀ a, a < 12 → M'.1 (b' + 2) a = M.1 (b + 2) a) (c17 : M'.1 (b' + 1) 7 = M.1 (b + 1) 7) (c18 : M'.1 (b' + 1) 8 = M.1 (b + 1) 8) (c8 : ∀ a, a < 8 → M'.1 (b' + 8) a = M.1 (b + 8) a)
    (c3 : ∀ k, k < 66 → M'.1 (b' + 3) k = M.1 (b + 3) k ∧ M'.1 (b' + 4) k = M.1 (b + 4) k ∧ M'.1 (b' + 5) k = M.1 (b + 5) k ∧ M'.1 (b' + 6) k = vp_nar .boolean (M.1 (b + 6) k)) (c7 : ∀ j, j < 144 → M'.1 (b' + 7) j = M.1 (b + 7) j)
    (c9 : ∀ j, 4 ≤ j → j < 12 → M'.1 (b' + 9) j = M.1 (b + 9) j) (c10 : ∀ e, e < 6 → M'.1 (b' + 10) e = M.1 (b + 10) e ∧ M'.1 (b' + 11) e = M.1 (b + 11) e ∧ M'.1 (b' + 12) e = M.1 (b + 12) e) (c13 : ∀ j, j < 20 → M'.1 (b' + 13) j = M.1 (b + 13) j)
    (c0 : ∀ j, 2 ≤ j → j < 6 → M'.1 b' j = M.1 b j) : RC b' M' w := by
  obtain ⟨⟨a1, a2, a3, a4, a5, a6⟩, ⟨k1, k2, k3⟩, p1, h1, h2⟩ := hr
  have hs := hv.1.1.2
  have hrn := hv.1.2.1.2
  have he := hv.2.1.1.2
  refine ⟨⟨fun a ha => by rw [c2 a ha]; exact a1 a ha, c18.trans a2, c17.trans a3, fun s hs' => by rw [c8 s (by omega)]; exact a4 s hs', fun k hk => ?_, fun a c ha hc => by rw [c7 _ (by omega)]; exact a6 a c ha hc⟩, ⟨by rw [c9 4 (by omega) (by omega)]; exact k1, fun e he' => ?_, ?_⟩, ?_, by rw [c9 5 (by omega) (by omega)]; exact h1, fun j hj => by rw [c13 j (by omega)]; exact h2 j hj⟩
  · obtain ⟨q1, q2, q3, q4⟩ := c3 k (by omega)
    obtain ⟨x1, x2, x3, x4⟩ := a5 k hk
    have y := hv.1.2.2.2.2.2.2.1 k hk
    have z := (hv.1.2.2.2.2.2.1 (lo w k) (hi w k) (by omega) (by omega)).2.2.1
    rw [q1, q2, q3, q4, x4, vp_bool z]
    exact ⟨x1, x2, x3, rfl⟩
  · obtain ⟨q1, q2, q3⟩ := c10 e (by omega)
    rw [q1, q2, q3]; exact k2 e he'
  · rw [c9 6 (by omega) (by omega), c9 7 (by omega) (by omega), c9 8 (by omega) (by omega), c9 9 (by omega) (by omega), c9 10 (by omega) (by omega), c9 11 (by omega) (by omega)]; exact k3
  · unfold RP; rw [c0 2 (by omega) (by omega), c0 3 (by omega) (by omega), c0 4 (by omega) (by omega), c0 5 (by omega) (by omega)]; exact p1
section O2
variable {pl : Option Nat} {tl : List LC} {d : Nat} {M : Mem} {t : Nat}
/-- the class's land 30 as 16 has it -/
def LT_30_16 (M : Mem) : Mem := sa (sa (sa (sa (si (si (sa (sa (sa M 31 (va_cpy (M.1 17) (M.1 31) 0 0 12)) 36 (va_cpy (M.1 22) (M.1 36) 0 0 144)) 37 (va_cpy (M.1 23) (M.1 37) 0 0 8)) 30 7 (M.1 16 7)) 30 8 (M.1 16 8)) 32 (pfx (66) (M.1 18) (M.1 32))) 33 (pfx (66) (M.1 19) (M.1 33))) 34 (pfx (66) (M.1 20) (M.1 34))) 35 (pfx (66) (fun j => vp_nar .boolean (M.1 21 j)) (M.1 35))
theorem s_lTake_30_16 {Q : Mem → Prop} (h : Q (LT_30_16 M)) : exV (LY pl tl) (d + 1) 78 [.ref 30, .ref 16] M Q := by
  refine e_X3_takeOver_30_16 ?_
  have e0 : (si (si (sa (sa (sa M 31 (va_cpy (M.1 17) (M.1 31) 0 0 12)) 36 (va_cpy (M.1 22) (M.1 36) 0 0 144)) 37 (va_cpy (M.1 23) (M.1 37) 0 0 8)) 30 7 (M.1 16 7)) 30 8 (M.1 16 8)) = sa (sa (sa (sa (si (si (sa (sa (sa M 31 (va_cpy (M.1 17) (M.1 31) 0 0 12)) 36 (va_cpy (M.1 22) (M.1 36) 0 0 144)) 37 (va_cpy (M.1 23) (M.1 37) 0 0 8)) 30 7 (M.1 16 7)) 30 8 (M.1 16 8)) 32 (pfx (0) (M.1 18) (M.1 32))) 33 (pfx (0) (M.1 19) (M.1 33))) 34 (pfx (0) (M.1 20) (M.1 34))) 35 (pfx (0) (fun j => vp_nar .boolean (M.1 21 j)) (M.1 35)) := by
    refine Prod.ext (funext fun c => ?_) rfl
    simp only [pfx_0]
    by_cases h1 : c = 32
    · subst h1; rfl
    · by_cases h2 : c = 33
      · subst h2; rfl
      · by_cases h3 : c = 34
        · subst h3; rfl
        · by_cases h4 : c = 35
          · subst h4; rfl
          · rw [sa_n h4, sa_n h3, sa_n h2, sa_n h1]
  rw [e0]
  refine lp_0 (X := fx (LY pl tl) d m_X3_takeOver (qV Q)) (fun k => (64, [some (.ref 30), some (.ref 16), some (.int (nI k))], [], sa (sa (sa (sa (si (si (sa (sa (sa M 31 (va_cpy (M.1 17) (M.1 31) 0 0 12)) 36 (va_cpy (M.1 22) (M.1 36) 0 0 144)) 37 (va_cpy (M.1 23) (M.1 37) 0 0 8)) 30 7 (M.1 16 7)) 30 8 (M.1 16 8)) 32 (pfx (k) (M.1 18) (M.1 32))) 33 (pfx (k) (M.1 19) (M.1 33))) 34 (pfx (k) (M.1 20) (M.1 34))) 35 (pfx (k) (fun j => vp_nar .boolean (M.1 21 j)) (M.1 35)))) 66 (fun k hk hn => ?_) ?_
  · have hv : vp_in (nI k) 66 := (z_in (by omega) (by omega)).mpr hk
    refine c_X3_takeOver_30_16_64 (br_f (nI_ge hk (by omega)) ⟨hv, hv, hv, hv, hv, hv, hv, hv, ?_⟩)
    rw [nI_add, z_cl (by omega)]
    have e1 : si (si (si (si (sa (sa (sa (sa (si (si (sa (sa (sa M 31 (va_cpy (M.1 17) (M.1 31) 0 0 12)) 36 (va_cpy (M.1 22) (M.1 36) 0 0 144)) 37 (va_cpy (M.1 23) (M.1 37) 0 0 8)) 30 7 (M.1 16 7)) 30 8 (M.1 16 8)) 32 (pfx (k) (M.1 18) (M.1 32))) 33 (pfx (k) (M.1 19) (M.1 33))) 34 (pfx (k) (M.1 20) (M.1 34))) 35 (pfx (k) (fun j => vp_nar .boolean (M.1 21 j)) (M.1 35))) 32 k ((sa (sa (sa (sa (si (si (sa (sa (sa M 31 (va_cpy (M.1 17) (M.1 31) 0 0 12)) 36 (va_cpy (M.1 22) (M.1 36) 0 0 144)) 37 (va_cpy (M.1 23) (M.1 37) 0 0 8)) 30 7 (M.1 16 7)) 30 8 (M.1 16 8)) 32 (pfx (k) (M.1 18) (M.1 32))) 33 (pfx (k) (M.1 19) (M.1 33))) 34 (pfx (k) (M.1 20) (M.1 34))) 35 (pfx (k) (fun j => vp_nar .boolean (M.1 21 j)) (M.1 35))).1 18 k)) 33 k ((sa (sa (sa (sa (si (si (sa (sa (sa M 31 (va_cpy (M.1 17) (M.1 31) 0 0 12)) 36 (va_cpy (M.1 22) (M.1 36) 0 0 144)) 37 (va_cpy (M.1 23) (M.1 37) 0 0 8)) 30 7 (M.1 16 7)) 30 8 (M.1 16 8)) 32 (pfx (k) (M.1 18) (M.1 32))) 33 (pfx (k) (M.1 19) (M.1 33))) 34 (pfx (k) (M.1 20) (M.1 34))) 35 (pfx (k) (fun j => vp_nar .boolean (M.1 21 j)) (M.1 35))).1 19 k)) 34 k ((sa (sa (sa (sa (si (si (sa (sa (sa M 31 (va_cpy (M.1 17) (M.1 31) 0 0 12)) 36 (va_cpy (M.1 22) (M.1 36) 0 0 144)) 37 (va_cpy (M.1 23) (M.1 37) 0 0 8)) 30 7 (M.1 16 7)) 30 8 (M.1 16 8)) 32 (pfx (k) (M.1 18) (M.1 32))) 33 (pfx (k) (M.1 19) (M.1 33))) 34 (pfx (k) (M.1 20) (M.1 34))) 35 (pfx (k) (fun j => vp_nar .boolean (M.1 21 j)) (M.1 35))).1 20 k)) 35 k (vp_nar .boolean ((sa (sa (sa (sa (si (si (sa (sa (sa M 31 (va_cpy (M.1 17) (M.1 31) 0 0 12)) 36 (va_cpy (M.1 22) (M.1 36) 0 0 144)) 37 (va_cpy (M.1 23) (M.1 37) 0 0 8)) 30 7 (M.1 16 7)) 30 8 (M.1 16 8)) 32 (pfx (k) (M.1 18) (M.1 32))) 33 (pfx (k) (M.1 19) (M.1 33))) 34 (pfx (k) (M.1 20) (M.1 34))) 35 (pfx (k) (fun j => vp_nar .boolean (M.1 21 j)) (M.1 35))).1 21 k)) = sa (sa (sa (sa (si (si (sa (sa (sa M 31 (va_cpy (M.1 17) (M.1 31) 0 0 12)) 36 (va_cpy (M.1 22) (M.1 36) 0 0 144)) 37 (va_cpy (M.1 23) (M.1 37) 0 0 8)) 30 7 (M.1 16 7)) 30 8 (M.1 16 8)) 32 (pfx (k + 1) (M.1 18) (M.1 32))) 33 (pfx (k + 1) (M.1 19) (M.1 33))) 34 (pfx (k + 1) (M.1 20) (M.1 34))) 35 (pfx (k + 1) (fun j => vp_nar .boolean (M.1 21 j)) (M.1 35)) := by
      refine Prod.ext (funext fun c => ?_) rfl
      by_cases h1 : c = 32
      · subst h1
        show upd (pfx k (M.1 18) (M.1 32)) k (M.1 18 k) = pfx (k + 1) (M.1 18) (M.1 32)
        exact pfx_s _ _ _ rfl
      · by_cases h2 : c = 33
        · subst h2
          show upd (pfx k (M.1 19) (M.1 33)) k (M.1 19 k) = pfx (k + 1) (M.1 19) (M.1 33)
          exact pfx_s _ _ _ rfl
        · by_cases h3 : c = 34
          · subst h3
            show upd (pfx k (M.1 20) (M.1 34)) k (M.1 20 k) = pfx (k + 1) (M.1 20) (M.1 34)
            exact pfx_s _ _ _ rfl
          · by_cases h4 : c = 35
            · subst h4
              show upd (pfx k (fun j => vp_nar .boolean (M.1 21 j)) (M.1 35)) k (vp_nar .boolean (M.1 21 k)) = pfx (k + 1) (fun j => vp_nar .boolean (M.1 21 j)) (M.1 35)
              exact pfx_s _ _ _ rfl
            · rw [si_c h4, si_c h3, si_c h2, si_c h1, sa_n h4, sa_n h3, sa_n h2, sa_n h1, sa_n h4, sa_n h3, sa_n h2, sa_n h1]
    rw [e1]
    exact hn
  · exact c_X3_takeOver_30_16_64 (br_t (nI_le (Nat.le_refl _) (by omega)) h)
/-- the class's land 16 as 30 has it -/
def LT_16_30 (M : Mem) : Mem := sa (sa (sa (sa (si (si (sa (sa (sa M 17 (va_cpy (M.1 31) (M.1 17) 0 0 12)) 22 (va_cpy (M.1 36) (M.1 22) 0 0 144)) 23 (va_cpy (M.1 37) (M.1 23) 0 0 8)) 16 7 (M.1 30 7)) 16 8 (M.1 30 8)) 18 (pfx (66) (M.1 32) (M.1 18))) 19 (pfx (66) (M.1 33) (M.1 19))) 20 (pfx (66) (M.1 34) (M.1 20))) 21 (pfx (66) (fun j => vp_nar .boolean (M.1 35 j)) (M.1 21))
theorem s_lTake_16_30 {Q : Mem → Prop} (h : Q (LT_16_30 M)) : exV (LY pl tl) (d + 1) 78 [.ref 16, .ref 30] M Q := by
  refine e_X3_takeOver_16_30 ?_
  have e0 : (si (si (sa (sa (sa M 17 (va_cpy (M.1 31) (M.1 17) 0 0 12)) 22 (va_cpy (M.1 36) (M.1 22) 0 0 144)) 23 (va_cpy (M.1 37) (M.1 23) 0 0 8)) 16 7 (M.1 30 7)) 16 8 (M.1 30 8)) = sa (sa (sa (sa (si (si (sa (sa (sa M 17 (va_cpy (M.1 31) (M.1 17) 0 0 12)) 22 (va_cpy (M.1 36) (M.1 22) 0 0 144)) 23 (va_cpy (M.1 37) (M.1 23) 0 0 8)) 16 7 (M.1 30 7)) 16 8 (M.1 30 8)) 18 (pfx (0) (M.1 32) (M.1 18))) 19 (pfx (0) (M.1 33) (M.1 19))) 20 (pfx (0) (M.1 34) (M.1 20))) 21 (pfx (0) (fun j => vp_nar .boolean (M.1 35 j)) (M.1 21)) := by
    refine Prod.ext (funext fun c => ?_) rfl
    simp only [pfx_0]
    by_cases h1 : c = 18
    · subst h1; rfl
    · by_cases h2 : c = 19
      · subst h2; rfl
      · by_cases h3 : c = 20
        · subst h3; rfl
        · by_cases h4 : c = 21
          · subst h4; rfl
          · rw [sa_n h4, sa_n h3, sa_n h2, sa_n h1]
  rw [e0]
  refine lp_0 (X := fx (LY pl tl) d m_X3_takeOver (qV Q)) (fun k => (64, [some (.ref 16), some (.ref 30), some (.int (nI k))], [], sa (sa (sa (sa (si (si (sa (sa (sa M 17 (va_cpy (M.1 31) (M.1 17) 0 0 12)) 22 (va_cpy (M.1 36) (M.1 22) 0 0 144)) 23 (va_cpy (M.1 37) (M.1 23) 0 0 8)) 16 7 (M.1 30 7)) 16 8 (M.1 30 8)) 18 (pfx (k) (M.1 32) (M.1 18))) 19 (pfx (k) (M.1 33) (M.1 19))) 20 (pfx (k) (M.1 34) (M.1 20))) 21 (pfx (k) (fun j => vp_nar .boolean (M.1 35 j)) (M.1 21)))) 66 (fun k hk hn => ?_) ?_
  · have hv : vp_in (nI k) 66 := (z_in (by omega) (by omega)).mpr hk
    refine c_X3_takeOver_16_30_64 (br_f (nI_ge hk (by omega)) ⟨hv, hv, hv, hv, hv, hv, hv, hv, ?_⟩)
    rw [nI_add, z_cl (by omega)]
    have e1 : si (si (si (si (sa (sa (sa (sa (si (si (sa (sa (sa M 17 (va_cpy (M.1 31) (M.1 17) 0 0 12)) 22 (va_cpy (M.1 36) (M.1 22) 0 0 144)) 23 (va_cpy (M.1 37) (M.1 23) 0 0 8)) 16 7 (M.1 30 7)) 16 8 (M.1 30 8)) 18 (pfx (k) (M.1 32) (M.1 18))) 19 (pfx (k) (M.1 33) (M.1 19))) 20 (pfx (k) (M.1 34) (M.1 20))) 21 (pfx (k) (fun j => vp_nar .boolean (M.1 35 j)) (M.1 21))) 18 k ((sa (sa (sa (sa (si (si (sa (sa (sa M 17 (va_cpy (M.1 31) (M.1 17) 0 0 12)) 22 (va_cpy (M.1 36) (M.1 22) 0 0 144)) 23 (va_cpy (M.1 37) (M.1 23) 0 0 8)) 16 7 (M.1 30 7)) 16 8 (M.1 30 8)) 18 (pfx (k) (M.1 32) (M.1 18))) 19 (pfx (k) (M.1 33) (M.1 19))) 20 (pfx (k) (M.1 34) (M.1 20))) 21 (pfx (k) (fun j => vp_nar .boolean (M.1 35 j)) (M.1 21))).1 32 k)) 19 k ((sa (sa (sa (sa (si (si (sa (sa (sa M 17 (va_cpy (M.1 31) (M.1 17) 0 0 12)) 22 (va_cpy (M.1 36) (M.1 22) 0 0 144)) 23 (va_cpy (M.1 37) (M.1 23) 0 0 8)) 16 7 (M.1 30 7)) 16 8 (M.1 30 8)) 18 (pfx (k) (M.1 32) (M.1 18))) 19 (pfx (k) (M.1 33) (M.1 19))) 20 (pfx (k) (M.1 34) (M.1 20))) 21 (pfx (k) (fun j => vp_nar .boolean (M.1 35 j)) (M.1 21))).1 33 k)) 20 k ((sa (sa (sa (sa (si (si (sa (sa (sa M 17 (va_cpy (M.1 31) (M.1 17) 0 0 12)) 22 (va_cpy (M.1 36) (M.1 22) 0 0 144)) 23 (va_cpy (M.1 37) (M.1 23) 0 0 8)) 16 7 (M.1 30 7)) 16 8 (M.1 30 8)) 18 (pfx (k) (M.1 32) (M.1 18))) 19 (pfx (k) (M.1 33) (M.1 19))) 20 (pfx (k) (M.1 34) (M.1 20))) 21 (pfx (k) (fun j => vp_nar .boolean (M.1 35 j)) (M.1 21))).1 34 k)) 21 k (vp_nar .boolean ((sa (sa (sa (sa (si (si (sa (sa (sa M 17 (va_cpy (M.1 31) (M.1 17) 0 0 12)) 22 (va_cpy (M.1 36) (M.1 22) 0 0 144)) 23 (va_cpy (M.1 37) (M.1 23) 0 0 8)) 16 7 (M.1 30 7)) 16 8 (M.1 30 8)) 18 (pfx (k) (M.1 32) (M.1 18))) 19 (pfx (k) (M.1 33) (M.1 19))) 20 (pfx (k) (M.1 34) (M.1 20))) 21 (pfx (k) (fun j => vp_nar .boolean (M.1 35 j)) (M.1 21))).1 35 k)) = sa (sa (sa (sa (si (si (sa (sa (sa M 17 (va_cpy (M.1 31) (M.1 17) 0 0 12)) 22 (va_cpy (M.1 36) (M.1 22) 0 0 144)) 23 (va_cpy (M.1 37) (M.1 23) 0 0 8)) 16 7 (M.1 30 7)) 16 8 (M.1 30 8)) 18 (pfx (k + 1) (M.1 32) (M.1 18))) 19 (pfx (k + 1) (M.1 33) (M.1 19))) 20 (pfx (k + 1) (M.1 34) (M.1 20))) 21 (pfx (k + 1) (fun j => vp_nar .boolean (M.1 35 j)) (M.1 21)) := by
      refine Prod.ext (funext fun c => ?_) rfl
      by_cases h1 : c = 18
      · subst h1
        show upd (pfx k (M.1 32) (M.1 18)) k (M.1 32 k) = pfx (k + 1) (M.1 32) (M.1 18)
        exact pfx_s _ _ _ rfl
      · by_cases h2 : c = 19
        · subst h2
          show upd (pfx k (M.1 33) (M.1 19)) k (M.1 33 k) = pfx (k + 1) (M.1 33) (M.1 19)
          exact pfx_s _ _ _ rfl
        · by_cases h3 : c = 20
          · subst h3
            show upd (pfx k (M.1 34) (M.1 20)) k (M.1 34 k) = pfx (k + 1) (M.1 34) (M.1 20)
            exact pfx_s _ _ _ rfl
          · by_cases h4 : c = 21
            · subst h4
              show upd (pfx k (fun j => vp_nar .boolean (M.1 35 j)) (M.1 21)) k (vp_nar .boolean (M.1 35 k)) = pfx (k + 1) (fun j => vp_nar .boolean (M.1 35 j)) (M.1 21)
              exact pfx_s _ _ _ rfl
            · rw [si_c h4, si_c h3, si_c h2, si_c h1, sa_n h4, sa_n h3, sa_n h2, sa_n h1, sa_n h4, sa_n h3, sa_n h2, sa_n h1]
    rw [e1]
    exact hn
  · exact c_X3_takeOver_16_30_64 (br_t (nI_le (Nat.le_refl _) (by omega)) h)
/-- the class's land 16 as 6 has it -/
def LT_16_6 (M : Mem) : Mem := sa (sa (sa (sa (si (si (sa (sa (sa M 17 (va_cpy (M.1 7) (M.1 17) 0 0 12)) 22 (va_cpy (M.1 12) (M.1 22) 0 0 144)) 23 (va_cpy (M.1 13) (M.1 23) 0 0 8)) 16 7 (M.1 6 7)) 16 8 (M.1 6 8)) 18 (pfx (66) (M.1 8) (M.1 18))) 19 (pfx (66) (M.1 9) (M.1 19))) 20 (pfx (66) (M.1 10) (M.1 20))) 21 (pfx (66) (fun j => vp_nar .boolean (M.1 11 j)) (M.1 21))
theorem s_lTake_16_6 {Q : Mem → Prop} (h : Q (LT_16_6 M)) : exV (LY pl tl) (d + 1) 78 [.ref 16, .ref 6] M Q := by
  refine e_X3_takeOver_16_6 ?_
  have e0 : (si (si (sa (sa (sa M 17 (va_cpy (M.1 7) (M.1 17) 0 0 12)) 22 (va_cpy (M.1 12) (M.1 22) 0 0 144)) 23 (va_cpy (M.1 13) (M.1 23) 0 0 8)) 16 7 (M.1 6 7)) 16 8 (M.1 6 8)) = sa (sa (sa (sa (si (si (sa (sa (sa M 17 (va_cpy (M.1 7) (M.1 17) 0 0 12)) 22 (va_cpy (M.1 12) (M.1 22) 0 0 144)) 23 (va_cpy (M.1 13) (M.1 23) 0 0 8)) 16 7 (M.1 6 7)) 16 8 (M.1 6 8)) 18 (pfx (0) (M.1 8) (M.1 18))) 19 (pfx (0) (M.1 9) (M.1 19))) 20 (pfx (0) (M.1 10) (M.1 20))) 21 (pfx (0) (fun j => vp_nar .boolean (M.1 11 j)) (M.1 21)) := by
    refine Prod.ext (funext fun c => ?_) rfl
    simp only [pfx_0]
    by_cases h1 : c = 18
    · subst h1; rfl
    · by_cases h2 : c = 19
      · subst h2; rfl
      · by_cases h3 : c = 20
        · subst h3; rfl
        · by_cases h4 : c = 21
          · subst h4; rfl
          · rw [sa_n h4, sa_n h3, sa_n h2, sa_n h1]
  rw [e0]
  refine lp_0 (X := fx (LY pl tl) d m_X3_takeOver (qV Q)) (fun k => (64, [some (.ref 16), some (.ref 6), some (.int (nI k))], [], sa (sa (sa (sa (si (si (sa (sa (sa M 17 (va_cpy (M.1 7) (M.1 17) 0 0 12)) 22 (va_cpy (M.1 12) (M.1 22) 0 0 144)) 23 (va_cpy (M.1 13) (M.1 23) 0 0 8)) 16 7 (M.1 6 7)) 16 8 (M.1 6 8)) 18 (pfx (k) (M.1 8) (M.1 18))) 19 (pfx (k) (M.1 9) (M.1 19))) 20 (pfx (k) (M.1 10) (M.1 20))) 21 (pfx (k) (fun j => vp_nar .boolean (M.1 11 j)) (M.1 21)))) 66 (fun k hk hn => ?_) ?_
  · have hv : vp_in (nI k) 66 := (z_in (by omega) (by omega)).mpr hk
    refine c_X3_takeOver_16_6_64 (br_f (nI_ge hk (by omega)) ⟨hv, hv, hv, hv, hv, hv, hv, hv, ?_⟩)
    rw [nI_add, z_cl (by omega)]
    have e1 : si (si (si (si (sa (sa (sa (sa (si (si (sa (sa (sa M 17 (va_cpy (M.1 7) (M.1 17) 0 0 12)) 22 (va_cpy (M.1 12) (M.1 22) 0 0 144)) 23 (va_cpy (M.1 13) (M.1 23) 0 0 8)) 16 7 (M.1 6 7)) 16 8 (M.1 6 8)) 18 (pfx (k) (M.1 8) (M.1 18))) 19 (pfx (k) (M.1 9) (M.1 19))) 20 (pfx (k) (M.1 10) (M.1 20))) 21 (pfx (k) (fun j => vp_nar .boolean (M.1 11 j)) (M.1 21))) 18 k ((sa (sa (sa (sa (si (si (sa (sa (sa M 17 (va_cpy (M.1 7) (M.1 17) 0 0 12)) 22 (va_cpy (M.1 12) (M.1 22) 0 0 144)) 23 (va_cpy (M.1 13) (M.1 23) 0 0 8)) 16 7 (M.1 6 7)) 16 8 (M.1 6 8)) 18 (pfx (k) (M.1 8) (M.1 18))) 19 (pfx (k) (M.1 9) (M.1 19))) 20 (pfx (k) (M.1 10) (M.1 20))) 21 (pfx (k) (fun j => vp_nar .boolean (M.1 11 j)) (M.1 21))).1 8 k)) 19 k ((sa (sa (sa (sa (si (si (sa (sa (sa M 17 (va_cpy (M.1 7) (M.1 17) 0 0 12)) 22 (va_cpy (M.1 12) (M.1 22) 0 0 144)) 23 (va_cpy (M.1 13) (M.1 23) 0 0 8)) 16 7 (M.1 6 7)) 16 8 (M.1 6 8)) 18 (pfx (k) (M.1 8) (M.1 18))) 19 (pfx (k) (M.1 9) (M.1 19))) 20 (pfx (k) (M.1 10) (M.1 20))) 21 (pfx (k) (fun j => vp_nar .boolean (M.1 11 j)) (M.1 21))).1 9 k)) 20 k ((sa (sa (sa (sa (si (si (sa (sa (sa M 17 (va_cpy (M.1 7) (M.1 17) 0 0 12)) 22 (va_cpy (M.1 12) (M.1 22) 0 0 144)) 23 (va_cpy (M.1 13) (M.1 23) 0 0 8)) 16 7 (M.1 6 7)) 16 8 (M.1 6 8)) 18 (pfx (k) (M.1 8) (M.1 18))) 19 (pfx (k) (M.1 9) (M.1 19))) 20 (pfx (k) (M.1 10) (M.1 20))) 21 (pfx (k) (fun j => vp_nar .boolean (M.1 11 j)) (M.1 21))).1 10 k)) 21 k (vp_nar .boolean ((sa (sa (sa (sa (si (si (sa (sa (sa M 17 (va_cpy (M.1 7) (M.1 17) 0 0 12)) 22 (va_cpy (M.1 12) (M.1 22) 0 0 144)) 23 (va_cpy (M.1 13) (M.1 23) 0 0 8)) 16 7 (M.1 6 7)) 16 8 (M.1 6 8)) 18 (pfx (k) (M.1 8) (M.1 18))) 19 (pfx (k) (M.1 9) (M.1 19))) 20 (pfx (k) (M.1 10) (M.1 20))) 21 (pfx (k) (fun j => vp_nar .boolean (M.1 11 j)) (M.1 21))).1 11 k)) = sa (sa (sa (sa (si (si (sa (sa (sa M 17 (va_cpy (M.1 7) (M.1 17) 0 0 12)) 22 (va_cpy (M.1 12) (M.1 22) 0 0 144)) 23 (va_cpy (M.1 13) (M.1 23) 0 0 8)) 16 7 (M.1 6 7)) 16 8 (M.1 6 8)) 18 (pfx (k + 1) (M.1 8) (M.1 18))) 19 (pfx (k + 1) (M.1 9) (M.1 19))) 20 (pfx (k + 1) (M.1 10) (M.1 20))) 21 (pfx (k + 1) (fun j => vp_nar .boolean (M.1 11 j)) (M.1 21)) := by
      refine Prod.ext (funext fun c => ?_) rfl
      by_cases h1 : c = 18
      · subst h1
        show upd (pfx k (M.1 8) (M.1 18)) k (M.1 8 k) = pfx (k + 1) (M.1 8) (M.1 18)
        exact pfx_s _ _ _ rfl
      · by_cases h2 : c = 19
        · subst h2
          show upd (pfx k (M.1 9) (M.1 19)) k (M.1 9 k) = pfx (k + 1) (M.1 9) (M.1 19)
          exact pfx_s _ _ _ rfl
        · by_cases h3 : c = 20
          · subst h3
            show upd (pfx k (M.1 10) (M.1 20)) k (M.1 10 k) = pfx (k + 1) (M.1 10) (M.1 20)
            exact pfx_s _ _ _ rfl
          · by_cases h4 : c = 21
            · subst h4
              show upd (pfx k (fun j => vp_nar .boolean (M.1 11 j)) (M.1 21)) k (vp_nar .boolean (M.1 11 k)) = pfx (k + 1) (fun j => vp_nar .boolean (M.1 11 j)) (M.1 21)
              exact pfx_s _ _ _ rfl
            · rw [si_c h4, si_c h3, si_c h2, si_c h1, sa_n h4, sa_n h3, sa_n h2, sa_n h1, sa_n h4, sa_n h3, sa_n h2, sa_n h1]
    rw [e1]
    exact hn
  · exact c_X3_takeOver_16_6_64 (br_t (nI_le (Nat.le_refl _) (by omega)) h)
theorem s_keepsM {Q : Int32 → Mem → Prop} (h : Q (M.1 53 462) (si (sa (si M 52 7 (nI 0)) 54 (pfx 480 (M.1 53) (M.1 54))) 52 2 (nI 1))) : exI (LY pl tl) (d + 1) 232 [.ref 52] M Q := by
  refine e_X11_keeps ?_
  have e0 : si M 52 7 (nI 0) = sa (si M 52 7 (nI 0)) 54 (pfx 0 (M.1 53) (M.1 54)) := by rw [pfx_0]; exact (sa_id _ 54).symm
  rw [e0]
  refine lp_0 (X := fx (LY pl tl) d m_X11_keeps (qI Q)) (fun k => (7, [some (.ref 52), some (.int (nI k))], [], sa (si M 52 7 (nI 0)) 54 (pfx k (M.1 53) (M.1 54)))) 480 (fun k hk hn => ?_) ?_
  · have hv : vp_in (nI k) 480 := (z_in (by omega) (by omega)).mpr hk
    refine c_X11_keeps_7 (br_f (nI_ge hk (by omega)) ⟨hv, hv, ?_⟩)
    have e1 : upd (pfx k (M.1 53) (M.1 54)) k ((sa (si M 52 7 (nI 0)) 54 (pfx k (M.1 53) (M.1 54))).1 53 k) = pfx (k + 1) (M.1 53) (M.1 54) := pfx_s _ _ _ rfl
    rw [nI_add, z_cl (by omega), sa_upd, e1]
    exact hn
  · exact c_X11_keeps_7 (br_t (nI_le (Nat.le_refl _) (by omega)) h)
theorem s_backM {Q : Int32 → Mem → Prop} (hk : M.1 52 2 = nI 1) (h : Q (M.1 54 462) (sa (si M 52 7 (nI 0)) 53 (pfx 480 (M.1 54) (M.1 53)))) : exI (LY pl tl) (d + 1) 233 [.ref 52] M Q := by
  refine e_X11_back ⟨fun _ => ?_, fun c => ?_⟩
  · have e0 : si M 52 7 (nI 0) = sa (si M 52 7 (nI 0)) 53 (pfx 0 (M.1 54) (M.1 53)) := by rw [pfx_0]; exact (sa_id _ 53).symm
    rw [e0]
    refine lp_0 (X := fx (LY pl tl) d m_X11_back (qI Q)) (fun k => (17, [some (.ref 52), some (.int (nI k))], [], sa (si M 52 7 (nI 0)) 53 (pfx k (M.1 54) (M.1 53)))) 480 (fun k hk hn => ?_) ?_
    · have hv : vp_in (nI k) 480 := (z_in (by omega) (by omega)).mpr hk
      refine c_X11_back_17 (br_f (nI_ge hk (by omega)) ⟨hv, hv, ?_⟩)
      have e1 : upd (pfx k (M.1 54) (M.1 53)) k ((sa (si M 52 7 (nI 0)) 53 (pfx k (M.1 54) (M.1 53))).1 54 k) = pfx (k + 1) (M.1 54) (M.1 53) := pfx_s _ _ _ rfl
      rw [nI_add, z_cl (by omega), sa_upd, e1]
      exact hn
    · exact c_X11_back_17 (br_t (nI_le (Nat.le_refl _) (by omega)) h)
  · rw [hk] at c; exact absurd c (by decide)
theorem op_keeps (h : Inv t M) (ht : t < 512) : Op pl tl (d + 12) 43 [.ref 0] 232 [.ref 52] t M := by
  have hI := h.up (t' := t + 1) (by omega) (by omega)
  obtain ⟨⟨hv, hr⟩, hrow, htx, hkp, -⟩ := hI
  refine e_X10_keeps (e_X9_takeOver_29_15 (s_lTake_30_16 (e_X2_takeOver_38_24 (s_keepsM ⟨hr.2.1.2.2.1.symm, ⟨hv, ?_⟩, hrow, htx, Or.inr ⟨rfl, rfl, ?_, ?_⟩, by omega⟩))))
  · exact hr
  · exact V_eq (w := M.1 53) (fun j hj => pfx_lt hj) hv
  · refine RC_eq (w := M.1 53) (t := t + 1) (fun j hj => pfx_lt hj) hv ?_
    refine RC_copy (b := 15) (M := M) hv hr (fun a ha => ?_) rfl rfl (fun a ha => ?_) (fun k hk => ⟨?_, ?_, ?_, ?_⟩) (fun j hj => ?_) (fun j h1 h2 => ?_) (fun e he => ⟨?_, ?_, ?_⟩) (fun j hj => ?_) (fun j h1 h2 => ?_)
    · exact sb_cpy0 (f := M.1 17) ha
    · exact sb_cpy0 (f := M.1 23) ha
    · exact pfx_lt hk
    · exact pfx_lt hk
    · exact pfx_lt hk
    · exact pfx_lt (G := fun j => vp_nar .boolean (M.1 21 j)) hk
    · exact sb_cpy0 (f := M.1 22) hj
    · have : j = 4 ∨ j = 5 ∨ j = 6 ∨ j = 7 ∨ j = 8 ∨ j = 9 ∨ j = 10 ∨ j = 11 := by omega
      rcases this with rfl | rfl | rfl | rfl | rfl | rfl | rfl | rfl <;> rfl
    · exact sb_cpy0 (f := M.1 25) he
    · exact sb_cpy0 (f := M.1 26) he
    · exact sb_cpy0 (f := M.1 27) he
    · exact sb_cpy0 (f := M.1 28) hj
    · have : j = 2 ∨ j = 3 ∨ j = 4 ∨ j = 5 := by omega
      rcases this with rfl | rfl | rfl | rfl <;> rfl
theorem op_back (h : Inv t M) (ht : t < 512) : Op pl tl (d + 12) 44 [.ref 0] 233 [.ref 52] t M := by
  have hI := h.up (t' := t + 1) (by omega) (by omega)
  obtain ⟨⟨hv, hr⟩, hrow, htx, hkp, h512⟩ := hI
  rcases hkp with ⟨k1, k2⟩ | ⟨k1, k2, kv, kr⟩
  · refine e_X10_back ⟨fun c => absurd (by rw [k1]; rfl) c, fun _ => e_X11_back ⟨fun c => absurd (by rw [k2]; rfl) c, fun _ => ⟨rfl, ⟨hv, hr⟩, hrow, htx, Or.inl ⟨k1, k2⟩, h512⟩⟩⟩
  · refine e_X10_back ⟨fun _ => e_X9_takeOver_29 (s_lTake_16_30 (e_X2_takeOver_38 (s_backM k2 ⟨kr.2.1.2.2.1.symm, ⟨?_, ?_⟩, hrow, htx, Or.inr ⟨k1, k2, kv, kr⟩, h512⟩))), fun c => by rw [k1] at c; exact absurd c (by decide)⟩
    · exact V_eq (w := M.1 54) (fun j hj => pfx_lt hj) kv
    · refine RC_eq (w := M.1 54) (t := t + 1) (fun j hj => pfx_lt hj) kv ?_
      refine RC_copy (b := 29) (M := M) kv kr (fun a ha => ?_) rfl rfl (fun a ha => ?_) (fun k hk => ⟨?_, ?_, ?_, ?_⟩) (fun j hj => ?_) (fun j h1 h2 => ?_) (fun e he => ⟨?_, ?_, ?_⟩) (fun j hj => ?_) (fun j h1 h2 => ?_)
      · exact sb_cpy0 (f := M.1 31) ha
      · exact sb_cpy0 (f := M.1 37) ha
      · exact pfx_lt hk
      · exact pfx_lt hk
      · exact pfx_lt hk
      · exact pfx_lt (G := fun j => vp_nar .boolean (M.1 35 j)) hk
      · exact sb_cpy0 (f := M.1 36) hj
      · have : j = 4 ∨ j = 5 ∨ j = 6 ∨ j = 7 ∨ j = 8 ∨ j = 9 ∨ j = 10 ∨ j = 11 := by omega
        rcases this with rfl | rfl | rfl | rfl | rfl | rfl | rfl | rfl <;> rfl
      · exact sb_cpy0 (f := M.1 39) he
      · exact sb_cpy0 (f := M.1 40) he
      · exact sb_cpy0 (f := M.1 41) he
      · exact sb_cpy0 (f := M.1 42) hj
      · have : j = 2 ∨ j = 3 ∨ j = 4 ∨ j = 5 := by omega
        rcases this with rfl | rfl | rfl | rfl <;> rfl
/-! engines -/
theorem s_isReady {Q : Int32 → Mem → Prop} {e : Nat} (he : e < 6) (h : Q (if M.1 53 (320 + e) = nI 0 then nI 1 else nI 0) M) : exI (LY pl tl) (d + 1) 167 [.ref 52, .int (nI e)] M Q := by
  refine e_X11_isReady ?_
  rw [nI_add, z_cl (by omega)]
  refine ⟨(z_in (by omega) (by omega)).mpr (by omega), fun c => ?_, fun c => ?_⟩
  · rw [if_neg (show ¬ M.1 53 (320 + e) = nI 0 from c)] at h; exact h
  · rw [if_pos (show M.1 53 (320 + e) = nI 0 from c)] at h; exact h
theorem op_engine {x y : Int32} (h : Inv t M) (ht : t < 512) : Op pl tl (d + 12) 12 [.ref 0, .int x, .int y] 174 [.ref 52, .int x, .int y] t M := by
  have hI := h.up (t' := t + 1) (by omega) (by omega)
  obtain ⟨⟨⟨v1, v2, v3, v4⟩, r1, r2, r3, r4⟩, -⟩ := h
  have hn := v2.1.2
  have hM : M.1 24 4 = nI (eN (M.1 53)) := r2.1.trans v2.1.1
  refine e_X10_engine (s_cEngine hn hM (fun e he q => ?_) (fun q => ⟨fun c => absurd rfl c, fun _ => e_X11_engine (s_mEngine hn v2.1.1 (fun e he q2 => ?_) (fun _ => ⟨fun c => absurd rfl c, fun _ => ⟨rfl, hI⟩⟩))⟩))
  · subst q
    obtain ⟨w1, w2, w3⟩ := r2.2.1 e he
    have hv6 : vp_in (nI e) 6 := (z_in (by omega) (by omega)).mpr (by omega)
    have hmo := (v2.2 e he).2.1
    refine ⟨fun _ => ?_, fun c => absurd c (by decide)⟩
    rw [z_cl (by omega)]
    have goM : ∀ (Q : Int32 → Mem → Prop), ((y.toInt < 0 ∨ 2 < y.toInt) → Q (-1) (si M 52 7 (nI 0))) → (y = nI 0 → Q (M.1 53 (308 + e)) (si M 52 7 (nI 0))) → (y = nI 1 → Q (M.1 53 (320 + e)) (si M 52 7 (nI 0))) → (y = nI 2 → Q (if M.1 53 (320 + e) = nI 0 then nI 0 else M.1 53 (314 + e) - M.1 53 462) (si M 52 7 (nI 0))) → exI (LY pl tl) (d + 12) 174 [.ref 52, .int (nI e), .int y] M Q := by
      intro Q g0 g1 g2 g3
      refine e_X11_engine (s_mEngine hn v2.1.1 (fun j hj q => ?_) (fun q => (out_nI he (by omega) q).elim))
      refine ⟨fun _ => ⟨g0, fun q => ⟨?_, ?_⟩, fun q => ⟨?_, ?_⟩, fun q => s_isReady (by omega) ?_, trivial⟩, fun c => absurd c (by decide)⟩
      · rw [nI_add]; exact (z_in (by omega) (by omega)).mpr (by omega)
      · rw [nI_add, z_cl (by omega)]; exact g1 q
      · rw [nI_add]; exact (z_in (by omega) (by omega)).mpr (by omega)
      · rw [nI_add, z_cl (by omega)]; exact g2 q
      · rw [nI_add, z_cl (by omega)]
        have g3 := g3 q
        refine ⟨fun c => ⟨(z_in (by omega) (by omega)).mpr (by omega), ?_⟩, fun c => ?_⟩
        · have c : ¬ M.1 53 (320 + e) = nI 0 := by
            intro z
            have c : (if M.1 53 (320 + e) = nI 0 then nI 1 else nI 0) = 0 := c
            rw [if_pos z] at c
            exact absurd c (by decide)
          rw [if_neg c] at g3
          exact g3
        · have c : M.1 53 (320 + e) = nI 0 := by
            apply Classical.byContradiction
            intro z
            have c : ¬ (if M.1 53 (320 + e) = nI 0 then nI 1 else nI 0) = 0 := c
            rw [if_neg z] at c
            exact c rfl
          rw [if_pos c] at g3
          exact g3
    refine ⟨fun q => goM _ (fun _ => ⟨rfl, hI⟩) (fun z => ?_) (fun z => ?_) (fun z => ?_), fun q => ⟨hv6, goM _ (fun z => ?_) (fun z => ⟨w1.symm, hI⟩) (fun z => ?_) (fun z => ?_)⟩, fun q => ⟨hv6, goM _ (fun z => ?_) (fun z => ?_) (fun z => ⟨w2.symm, hI⟩) (fun z => ?_)⟩, fun q => ?_, trivial⟩
    · rw [z, nI_toInt (by omega)] at q; omega
    · rw [z, nI_toInt (by omega)] at q; omega
    · rw [z, nI_toInt (by omega)] at q; omega
    · rw [q, nI_toInt (by omega)] at z; omega
    · rw [q] at z; exact absurd z (by decide)
    · rw [q] at z; exact absurd z (by decide)
    · rw [q, nI_toInt (by omega)] at z; omega
    · rw [q] at z; exact absurd z (by decide)
    · rw [q] at z; exact absurd z (by decide)
    · refine e_X2_waitOf ?_
      rw [hM, z_cl (by omega), w2, w3]
      have hmin : M.1 24 6 = M.1 53 462 := r2.2.2.1
      rw [hmin]
      refine br_f (nI_pos (by omega)) (br_f (nI_ge he (by omega)) ⟨hv6, fun c => ⟨hv6, goM _ (fun z => ?_) (fun z => ?_) (fun z => ?_) (fun z => ⟨if_neg c, hI⟩)⟩, fun c => goM _ (fun z => ?_) (fun z => ?_) (fun z => ?_) (fun z => ⟨if_pos c, hI⟩)⟩)
      · rw [q, nI_toInt (by omega)] at z; omega
      · rw [q] at z; exact absurd z (by decide)
      · rw [q] at z; exact absurd z (by decide)
      · rw [q, nI_toInt (by omega)] at z; omega
      · rw [q] at z; exact absurd z (by decide)
      · rw [q] at z; exact absurd z (by decide)
  · subst q2; exact (out_nI he (by omega) q).elim
/-! counts -/
def inM (f : Nat → Int32) (v : Int32) : Nat → Int32 := mk (fun e => decide (f e = v))
theorem s_inMode {Q : Int32 → Mem → Prop} {v : Int32} {n : Nat} (hn : n ≤ 6) (hM : M.1 24 4 = nI n) (h : Q (inM (M.1 26) v n) M) : exI (LY pl tl) (d + 1) 69 [.ref 24, .int v] M Q := by
  refine e_X2_inMode (lp_0 (X := fx (LY pl tl) d m_X2_inMode (qI Q)) (fun e => (4, [some (.ref 24), some (.int v), some (.int (inM (M.1 26) v e)), some (.int (nI e))], [], M)) n (fun e he hx => ?_) ?_)
  · refine c_X2_inMode_4 ?_
    rw [hM, z_cl (by omega), nI_add]
    refine br_f (nI_ge he (by omega)) ⟨(z_in (by omega) (by omega)).mpr (by omega), fun c => ?_, fun c => ?_⟩
    · have : inM (M.1 26) v (e + 1) = inM (M.1 26) v e := by unfold inM; simp [mk, c]
      rw [this] at hx; exact hx
    · have : inM (M.1 26) v (e + 1) = inM (M.1 26) v e ||| (nI 1 <<< (nI e &&& 31)) := by unfold inM; simp [mk, c]
      rw [this] at hx; exact hx
  · refine c_X2_inMode_4 ?_
    rw [hM]
    exact br_t (nI_le (Nat.le_refl _) (by omega)) h
theorem or_0 (x : Int32) : x ||| nI 0 = x := Int32.or_zero
theorem s_inState {Q : Int32 → Mem → Prop} {v : Int32} {n : Nat} (hn : n ≤ 6) (hM : M.1 53 457 = nI n) (h : Q (inM (fun e => M.1 53 (320 + e)) v n) M) : exI (LY pl tl) (d + 1) 234 [.ref 52, .int v] M Q := by
  refine e_X11_inState (lp_0 (X := fx (LY pl tl) d m_X11_inState (qI Q)) (fun e => (4, [some (.ref 52), some (.int v), some (.int (inM (fun e => M.1 53 (320 + e)) v e)), some (.int (nI e))], [], M)) n (fun e he hx => ?_) ?_)
  · refine c_X11_inState_4 ?_
    rw [hM, nI_add, nI_add, z_cl (by omega), or_0]
    refine br_f (nI_ge he (by omega)) ⟨(z_in (by omega) (by omega)).mpr (by omega), fun c => ?_, fun c => ?_⟩
    · have : inM (fun e => M.1 53 (320 + e)) v (e + 1) = inM (fun e => M.1 53 (320 + e)) v e := by unfold inM; simp [mk, c]
      rw [this] at hx; exact hx
    · have : inM (fun e => M.1 53 (320 + e)) v (e + 1) = inM (fun e => M.1 53 (320 + e)) v e ||| (nI 1 <<< (nI e &&& 31)) := by unfold inM; simp [mk, c]
      rw [this] at hx; exact hx
  · refine c_X11_inState_4 ?_
    rw [hM]
    exact br_t (nI_le (Nat.le_refl _) (by omega)) h
theorem inM_congr {f g : Nat → Int32} {v : Int32} {n : Nat} (h : ∀ e, e < n → f e = g e) : inM f v n = inM g v n := mk_congr n (fun e he => by rw [h e he])
theorem z_cases {x : Int32} (n : Nat) (hn : n < 2147483647) : (x.toInt < 0 ∨ (n : Int) < x.toInt) ∨ ∃ j, j ≤ n ∧ x = nI j := by
  rcases z_ix x (n := n + 1) (by omega) with (q | q) | ⟨j, hj, e⟩
  · rw [Int32.lt_iff_toInt_lt] at q
    have : (0 : Int32).toInt = 0 := by decide
    exact Or.inl (Or.inl (by omega))
  · rw [Int32.le_iff_toInt_le] at q
    rcases Nat.lt_or_ge (n + 1) 2147483648 with z | z
    · rw [nI_toInt z] at q
      exact Or.inl (Or.inr (by omega))
    · omega
  · exact Or.inr ⟨j, by omega, e⟩
theorem op_count {x : Int32} (h : Inv t M) (ht : t < 512) : Op pl tl (d + 12) 45 [.ref 0, .int x] 235 [.ref 52, .int x] t M := by
  have hI := h.up (t' := t + 1) (by omega) (by omega)
  obtain ⟨⟨⟨v1, v2, v3, v4⟩, r1, r2, r3, r4⟩, hrow, htx, -⟩ := h
  have hn := v2.1.2
  have hM : M.1 24 4 = nI (eN (M.1 53)) := r2.1.trans v2.1.1
  obtain ⟨rn, hrn, ra, rb, -⟩ := hrow
  obtain ⟨tx, htn, ta, tb', -⟩ := htx
  have md : ∀ v, inM (fun e => M.1 53 (320 + e)) v (eN (M.1 53)) = inM (M.1 26) v (eN (M.1 53)) := fun v => inM_congr (fun e he => (r2.2.1 e he).2.1.symm)
  rcases z_cases (x := x) 14 (by omega) with q | ⟨j, hj, e⟩
  · have nj : ∀ j : Nat, j ≤ 14 → ¬ x = nI j := fun j hj e => by rw [e, nI_toInt (by omega)] at q; omega
    refine e_X10_count ⟨fun _ => e_X11_count ⟨fun _ => ⟨rfl, hI⟩, ?_⟩, ?_⟩
    · exact ⟨fun z => absurd z (nj 0 (by omega)), fun z => absurd z (nj 1 (by omega)), fun z => absurd z (nj 2 (by omega)), fun z => absurd z (nj 3 (by omega)), fun z => absurd z (nj 4 (by omega)), fun z => absurd z (nj 5 (by omega)), fun z => absurd z (nj 6 (by omega)), fun z => absurd z (nj 7 (by omega)), fun z => absurd z (nj 8 (by omega)), fun z => absurd z (nj 9 (by omega)), fun z => absurd z (nj 10 (by omega)), fun z => absurd z (nj 11 (by omega)), fun z => absurd z (nj 12 (by omega)), fun z => absurd z (nj 13 (by omega)), fun z => absurd z (nj 14 (by omega)), trivial⟩
    · exact ⟨fun z => absurd z (nj 0 (by omega)), fun z => absurd z (nj 1 (by omega)), fun z => absurd z (nj 2 (by omega)), fun z => absurd z (nj 3 (by omega)), fun z => absurd z (nj 4 (by omega)), fun z => absurd z (nj 5 (by omega)), fun z => absurd z (nj 6 (by omega)), fun z => absurd z (nj 7 (by omega)), fun z => absurd z (nj 8 (by omega)), fun z => absurd z (nj 9 (by omega)), fun z => absurd z (nj 10 (by omega)), fun z => absurd z (nj 11 (by omega)), fun z => absurd z (nj 12 (by omega)), fun z => absurd z (nj 13 (by omega)), fun z => absurd z (nj 14 (by omega)), trivial⟩
  · subst e
    have hc : j = 0 ∨ j = 1 ∨ j = 2 ∨ j = 3 ∨ j = 4 ∨ j = 5 ∨ j = 6 ∨ j = 7 ∨ j = 8 ∨ j = 9 ∨ j = 10 ∨ j = 11 ∨ j = 12 ∨ j = 13 ∨ j = 14 := by omega
    have no : ∀ {a b : Nat} {X : Prop}, a < 15 → b < 15 → a ≠ b → nI a = nI b → X := fun ha hb hab z => absurd ((nI_eq (by omega) (by omega)).mp z) hab
    have inn : ∀ {a : Nat} {X : Prop}, a < 15 → ((nI a).toInt < 0 ∨ 14 < (nI a).toInt) → X := fun ha z => by rw [nI_toInt (by omega)] at z; omega
    rcases hc with rfl | rfl | rfl | rfl | rfl | rfl | rfl | rfl | rfl | rfl | rfl | rfl | rfl | rfl | rfl
    · exact e_X10_count ⟨fun z => inn (by omega) z, fun _ => e_X11_count ⟨fun z => inn (by omega) z, fun _ => ⟨(r1.2.1).symm, hI⟩, fun z => no (by omega) (by omega) (by omega) z, fun z => no (by omega) (by omega) (by omega) z, fun z => no (by omega) (by omega) (by omega) z, fun z => no (by omega) (by omega) (by omega) z, fun z => no (by omega) (by omega) (by omega) z, fun z => no (by omega) (by omega) (by omega) z, fun z => no (by omega) (by omega) (by omega) z, fun z => no (by omega) (by omega) (by omega) z, fun z => no (by omega) (by omega) (by omega) z, fun z => no (by omega) (by omega) (by omega) z, fun z => no (by omega) (by omega) (by omega) z, fun z => no (by omega) (by omega) (by omega) z, fun z => no (by omega) (by omega) (by omega) z, fun z => no (by omega) (by omega) (by omega) z, trivial⟩, fun z => no (by omega) (by omega) (by omega) z, fun z => no (by omega) (by omega) (by omega) z, fun z => no (by omega) (by omega) (by omega) z, fun z => no (by omega) (by omega) (by omega) z, fun z => no (by omega) (by omega) (by omega) z, fun z => no (by omega) (by omega) (by omega) z, fun z => no (by omega) (by omega) (by omega) z, fun z => no (by omega) (by omega) (by omega) z, fun z => no (by omega) (by omega) (by omega) z, fun z => no (by omega) (by omega) (by omega) z, fun z => no (by omega) (by omega) (by omega) z, fun z => no (by omega) (by omega) (by omega) z, fun z => no (by omega) (by omega) (by omega) z, fun z => no (by omega) (by omega) (by omega) z, trivial⟩
    · exact e_X10_count ⟨fun z => inn (by omega) z, fun z => no (by omega) (by omega) (by omega) z, fun _ => e_X11_count ⟨fun z => inn (by omega) z, fun z => no (by omega) (by omega) (by omega) z, fun _ => ⟨(r2.1).symm, hI⟩, fun z => no (by omega) (by omega) (by omega) z, fun z => no (by omega) (by omega) (by omega) z, fun z => no (by omega) (by omega) (by omega) z, fun z => no (by omega) (by omega) (by omega) z, fun z => no (by omega) (by omega) (by omega) z, fun z => no (by omega) (by omega) (by omega) z, fun z => no (by omega) (by omega) (by omega) z, fun z => no (by omega) (by omega) (by omega) z, fun z => no (by omega) (by omega) (by omega) z, fun z => no (by omega) (by omega) (by omega) z, fun z => no (by omega) (by omega) (by omega) z, fun z => no (by omega) (by omega) (by omega) z, fun z => no (by omega) (by omega) (by omega) z, trivial⟩, fun z => no (by omega) (by omega) (by omega) z, fun z => no (by omega) (by omega) (by omega) z, fun z => no (by omega) (by omega) (by omega) z, fun z => no (by omega) (by omega) (by omega) z, fun z => no (by omega) (by omega) (by omega) z, fun z => no (by omega) (by omega) (by omega) z, fun z => no (by omega) (by omega) (by omega) z, fun z => no (by omega) (by omega) (by omega) z, fun z => no (by omega) (by omega) (by omega) z, fun z => no (by omega) (by omega) (by omega) z, fun z => no (by omega) (by omega) (by omega) z, fun z => no (by omega) (by omega) (by omega) z, fun z => no (by omega) (by omega) (by omega) z, trivial⟩
    · exact e_X10_count ⟨fun z => inn (by omega) z, fun z => no (by omega) (by omega) (by omega) z, fun z => no (by omega) (by omega) (by omega) z, fun _ => s_inMode hn hM (e_X11_count ⟨fun z => inn (by omega) z, fun z => no (by omega) (by omega) (by omega) z, fun z => no (by omega) (by omega) (by omega) z, fun _ => s_inState hn v2.1.1 ⟨md _, hI⟩, fun z => no (by omega) (by omega) (by omega) z, fun z => no (by omega) (by omega) (by omega) z, fun z => no (by omega) (by omega) (by omega) z, fun z => no (by omega) (by omega) (by omega) z, fun z => no (by omega) (by omega) (by omega) z, fun z => no (by omega) (by omega) (by omega) z, fun z => no (by omega) (by omega) (by omega) z, fun z => no (by omega) (by omega) (by omega) z, fun z => no (by omega) (by omega) (by omega) z, fun z => no (by omega) (by omega) (by omega) z, fun z => no (by omega) (by omega) (by omega) z, fun z => no (by omega) (by omega) (by omega) z, trivial⟩), fun z => no (by omega) (by omega) (by omega) z, fun z => no (by omega) (by omega) (by omega) z, fun z => no (by omega) (by omega) (by omega) z, fun z => no (by omega) (by omega) (by omega) z, fun z => no (by omega) (by omega) (by omega) z, fun z => no (by omega) (by omega) (by omega) z, fun z => no (by omega) (by omega) (by omega) z, fun z => no (by omega) (by omega) (by omega) z, fun z => no (by omega) (by omega) (by omega) z, fun z => no (by omega) (by omega) (by omega) z, fun z => no (by omega) (by omega) (by omega) z, fun z => no (by omega) (by omega) (by omega) z, trivial⟩
    · exact e_X10_count ⟨fun z => inn (by omega) z, fun z => no (by omega) (by omega) (by omega) z, fun z => no (by omega) (by omega) (by omega) z, fun z => no (by omega) (by omega) (by omega) z, fun _ => s_inMode hn hM (e_X11_count ⟨fun z => inn (by omega) z, fun z => no (by omega) (by omega) (by omega) z, fun z => no (by omega) (by omega) (by omega) z, fun z => no (by omega) (by omega) (by omega) z, fun _ => s_inState hn v2.1.1 ⟨md _, hI⟩, fun z => no (by omega) (by omega) (by omega) z, fun z => no (by omega) (by omega) (by omega) z, fun z => no (by omega) (by omega) (by omega) z, fun z => no (by omega) (by omega) (by omega) z, fun z => no (by omega) (by omega) (by omega) z, fun z => no (by omega) (by omega) (by omega) z, fun z => no (by omega) (by omega) (by omega) z, fun z => no (by omega) (by omega) (by omega) z, fun z => no (by omega) (by omega) (by omega) z, fun z => no (by omega) (by omega) (by omega) z, fun z => no (by omega) (by omega) (by omega) z, trivial⟩), fun z => no (by omega) (by omega) (by omega) z, fun z => no (by omega) (by omega) (by omega) z, fun z => no (by omega) (by omega) (by omega) z, fun z => no (by omega) (by omega) (by omega) z, fun z => no (by omega) (by omega) (by omega) z, fun z => no (by omega) (by omega) (by omega) z, fun z => no (by omega) (by omega) (by omega) z, fun z => no (by omega) (by omega) (by omega) z, fun z => no (by omega) (by omega) (by omega) z, fun z => no (by omega) (by omega) (by omega) z, fun z => no (by omega) (by omega) (by omega) z, trivial⟩
    · exact e_X10_count ⟨fun z => inn (by omega) z, fun z => no (by omega) (by omega) (by omega) z, fun z => no (by omega) (by omega) (by omega) z, fun z => no (by omega) (by omega) (by omega) z, fun z => no (by omega) (by omega) (by omega) z, fun _ => s_inMode hn hM (e_X11_count ⟨fun z => inn (by omega) z, fun z => no (by omega) (by omega) (by omega) z, fun z => no (by omega) (by omega) (by omega) z, fun z => no (by omega) (by omega) (by omega) z, fun z => no (by omega) (by omega) (by omega) z, fun _ => s_inState hn v2.1.1 ⟨md _, hI⟩, fun z => no (by omega) (by omega) (by omega) z, fun z => no (by omega) (by omega) (by omega) z, fun z => no (by omega) (by omega) (by omega) z, fun z => no (by omega) (by omega) (by omega) z, fun z => no (by omega) (by omega) (by omega) z, fun z => no (by omega) (by omega) (by omega) z, fun z => no (by omega) (by omega) (by omega) z, fun z => no (by omega) (by omega) (by omega) z, fun z => no (by omega) (by omega) (by omega) z, fun z => no (by omega) (by omega) (by omega) z, trivial⟩), fun z => no (by omega) (by omega) (by omega) z, fun z => no (by omega) (by omega) (by omega) z, fun z => no (by omega) (by omega) (by omega) z, fun z => no (by omega) (by omega) (by omega) z, fun z => no (by omega) (by omega) (by omega) z, fun z => no (by omega) (by omega) (by omega) z, fun z => no (by omega) (by omega) (by omega) z, fun z => no (by omega) (by omega) (by omega) z, fun z => no (by omega) (by omega) (by omega) z, fun z => no (by omega) (by omega) (by omega) z, trivial⟩
    · exact e_X10_count ⟨fun z => inn (by omega) z, fun z => no (by omega) (by omega) (by omega) z, fun z => no (by omega) (by omega) (by omega) z, fun z => no (by omega) (by omega) (by omega) z, fun z => no (by omega) (by omega) (by omega) z, fun z => no (by omega) (by omega) (by omega) z, fun _ => e_X11_count ⟨fun z => inn (by omega) z, fun z => no (by omega) (by omega) (by omega) z, fun z => no (by omega) (by omega) (by omega) z, fun z => no (by omega) (by omega) (by omega) z, fun z => no (by omega) (by omega) (by omega) z, fun z => no (by omega) (by omega) (by omega) z, fun _ => ⟨(r2.2.2.1).symm, hI⟩, fun z => no (by omega) (by omega) (by omega) z, fun z => no (by omega) (by omega) (by omega) z, fun z => no (by omega) (by omega) (by omega) z, fun z => no (by omega) (by omega) (by omega) z, fun z => no (by omega) (by omega) (by omega) z, fun z => no (by omega) (by omega) (by omega) z, fun z => no (by omega) (by omega) (by omega) z, fun z => no (by omega) (by omega) (by omega) z, fun z => no (by omega) (by omega) (by omega) z, trivial⟩, fun z => no (by omega) (by omega) (by omega) z, fun z => no (by omega) (by omega) (by omega) z, fun z => no (by omega) (by omega) (by omega) z, fun z => no (by omega) (by omega) (by omega) z, fun z => no (by omega) (by omega) (by omega) z, fun z => no (by omega) (by omega) (by omega) z, fun z => no (by omega) (by omega) (by omega) z, fun z => no (by omega) (by omega) (by omega) z, fun z => no (by omega) (by omega) (by omega) z, trivial⟩
    · exact e_X10_count ⟨fun z => inn (by omega) z, fun z => no (by omega) (by omega) (by omega) z, fun z => no (by omega) (by omega) (by omega) z, fun z => no (by omega) (by omega) (by omega) z, fun z => no (by omega) (by omega) (by omega) z, fun z => no (by omega) (by omega) (by omega) z, fun z => no (by omega) (by omega) (by omega) z, fun _ => e_X11_count ⟨fun z => inn (by omega) z, fun z => no (by omega) (by omega) (by omega) z, fun z => no (by omega) (by omega) (by omega) z, fun z => no (by omega) (by omega) (by omega) z, fun z => no (by omega) (by omega) (by omega) z, fun z => no (by omega) (by omega) (by omega) z, fun z => no (by omega) (by omega) (by omega) z, fun _ => ⟨(r2.2.2.2.1).symm, hI⟩, fun z => no (by omega) (by omega) (by omega) z, fun z => no (by omega) (by omega) (by omega) z, fun z => no (by omega) (by omega) (by omega) z, fun z => no (by omega) (by omega) (by omega) z, fun z => no (by omega) (by omega) (by omega) z, fun z => no (by omega) (by omega) (by omega) z, fun z => no (by omega) (by omega) (by omega) z, fun z => no (by omega) (by omega) (by omega) z, trivial⟩, fun z => no (by omega) (by omega) (by omega) z, fun z => no (by omega) (by omega) (by omega) z, fun z => no (by omega) (by omega) (by omega) z, fun z => no (by omega) (by omega) (by omega) z, fun z => no (by omega) (by omega) (by omega) z, fun z => no (by omega) (by omega) (by omega) z, fun z => no (by omega) (by omega) (by omega) z, fun z => no (by omega) (by omega) (by omega) z, trivial⟩
    · exact e_X10_count ⟨fun z => inn (by omega) z, fun z => no (by omega) (by omega) (by omega) z, fun z => no (by omega) (by omega) (by omega) z, fun z => no (by omega) (by omega) (by omega) z, fun z => no (by omega) (by omega) (by omega) z, fun z => no (by omega) (by omega) (by omega) z, fun z => no (by omega) (by omega) (by omega) z, fun z => no (by omega) (by omega) (by omega) z, fun _ => e_X11_count ⟨fun z => inn (by omega) z, fun z => no (by omega) (by omega) (by omega) z, fun z => no (by omega) (by omega) (by omega) z, fun z => no (by omega) (by omega) (by omega) z, fun z => no (by omega) (by omega) (by omega) z, fun z => no (by omega) (by omega) (by omega) z, fun z => no (by omega) (by omega) (by omega) z, fun z => no (by omega) (by omega) (by omega) z, fun _ => ⟨(r2.2.2.2.2.1).symm, hI⟩, fun z => no (by omega) (by omega) (by omega) z, fun z => no (by omega) (by omega) (by omega) z, fun z => no (by omega) (by omega) (by omega) z, fun z => no (by omega) (by omega) (by omega) z, fun z => no (by omega) (by omega) (by omega) z, fun z => no (by omega) (by omega) (by omega) z, fun z => no (by omega) (by omega) (by omega) z, trivial⟩, fun z => no (by omega) (by omega) (by omega) z, fun z => no (by omega) (by omega) (by omega) z, fun z => no (by omega) (by omega) (by omega) z, fun z => no (by omega) (by omega) (by omega) z, fun z => no (by omega) (by omega) (by omega) z, fun z => no (by omega) (by omega) (by omega) z, fun z => no (by omega) (by omega) (by omega) z, trivial⟩
    · exact e_X10_count ⟨fun z => inn (by omega) z, fun z => no (by omega) (by omega) (by omega) z, fun z => no (by omega) (by omega) (by omega) z, fun z => no (by omega) (by omega) (by omega) z, fun z => no (by omega) (by omega) (by omega) z, fun z => no (by omega) (by omega) (by omega) z, fun z => no (by omega) (by omega) (by omega) z, fun z => no (by omega) (by omega) (by omega) z, fun z => no (by omega) (by omega) (by omega) z, fun _ => e_X11_count ⟨fun z => inn (by omega) z, fun z => no (by omega) (by omega) (by omega) z, fun z => no (by omega) (by omega) (by omega) z, fun z => no (by omega) (by omega) (by omega) z, fun z => no (by omega) (by omega) (by omega) z, fun z => no (by omega) (by omega) (by omega) z, fun z => no (by omega) (by omega) (by omega) z, fun z => no (by omega) (by omega) (by omega) z, fun z => no (by omega) (by omega) (by omega) z, fun _ => ⟨(r2.2.2.2.2.2.1).symm, hI⟩, fun z => no (by omega) (by omega) (by omega) z, fun z => no (by omega) (by omega) (by omega) z, fun z => no (by omega) (by omega) (by omega) z, fun z => no (by omega) (by omega) (by omega) z, fun z => no (by omega) (by omega) (by omega) z, fun z => no (by omega) (by omega) (by omega) z, trivial⟩, fun z => no (by omega) (by omega) (by omega) z, fun z => no (by omega) (by omega) (by omega) z, fun z => no (by omega) (by omega) (by omega) z, fun z => no (by omega) (by omega) (by omega) z, fun z => no (by omega) (by omega) (by omega) z, fun z => no (by omega) (by omega) (by omega) z, trivial⟩
    · exact e_X10_count ⟨fun z => inn (by omega) z, fun z => no (by omega) (by omega) (by omega) z, fun z => no (by omega) (by omega) (by omega) z, fun z => no (by omega) (by omega) (by omega) z, fun z => no (by omega) (by omega) (by omega) z, fun z => no (by omega) (by omega) (by omega) z, fun z => no (by omega) (by omega) (by omega) z, fun z => no (by omega) (by omega) (by omega) z, fun z => no (by omega) (by omega) (by omega) z, fun z => no (by omega) (by omega) (by omega) z, fun _ => e_X11_count ⟨fun z => inn (by omega) z, fun z => no (by omega) (by omega) (by omega) z, fun z => no (by omega) (by omega) (by omega) z, fun z => no (by omega) (by omega) (by omega) z, fun z => no (by omega) (by omega) (by omega) z, fun z => no (by omega) (by omega) (by omega) z, fun z => no (by omega) (by omega) (by omega) z, fun z => no (by omega) (by omega) (by omega) z, fun z => no (by omega) (by omega) (by omega) z, fun z => no (by omega) (by omega) (by omega) z, fun _ => ⟨(r2.2.2.2.2.2.2.1).symm, hI⟩, fun z => no (by omega) (by omega) (by omega) z, fun z => no (by omega) (by omega) (by omega) z, fun z => no (by omega) (by omega) (by omega) z, fun z => no (by omega) (by omega) (by omega) z, fun z => no (by omega) (by omega) (by omega) z, trivial⟩, fun z => no (by omega) (by omega) (by omega) z, fun z => no (by omega) (by omega) (by omega) z, fun z => no (by omega) (by omega) (by omega) z, fun z => no (by omega) (by omega) (by omega) z, fun z => no (by omega) (by omega) (by omega) z, trivial⟩
    · exact e_X10_count ⟨fun z => inn (by omega) z, fun z => no (by omega) (by omega) (by omega) z, fun z => no (by omega) (by omega) (by omega) z, fun z => no (by omega) (by omega) (by omega) z, fun z => no (by omega) (by omega) (by omega) z, fun z => no (by omega) (by omega) (by omega) z, fun z => no (by omega) (by omega) (by omega) z, fun z => no (by omega) (by omega) (by omega) z, fun z => no (by omega) (by omega) (by omega) z, fun z => no (by omega) (by omega) (by omega) z, fun z => no (by omega) (by omega) (by omega) z, fun _ => e_X11_count ⟨fun z => inn (by omega) z, fun z => no (by omega) (by omega) (by omega) z, fun z => no (by omega) (by omega) (by omega) z, fun z => no (by omega) (by omega) (by omega) z, fun z => no (by omega) (by omega) (by omega) z, fun z => no (by omega) (by omega) (by omega) z, fun z => no (by omega) (by omega) (by omega) z, fun z => no (by omega) (by omega) (by omega) z, fun z => no (by omega) (by omega) (by omega) z, fun z => no (by omega) (by omega) (by omega) z, fun z => no (by omega) (by omega) (by omega) z, fun _ => ⟨(r2.2.2.2.2.2.2.2).symm, hI⟩, fun z => no (by omega) (by omega) (by omega) z, fun z => no (by omega) (by omega) (by omega) z, fun z => no (by omega) (by omega) (by omega) z, fun z => no (by omega) (by omega) (by omega) z, trivial⟩, fun z => no (by omega) (by omega) (by omega) z, fun z => no (by omega) (by omega) (by omega) z, fun z => no (by omega) (by omega) (by omega) z, fun z => no (by omega) (by omega) (by omega) z, trivial⟩
    · exact e_X10_count ⟨fun z => inn (by omega) z, fun z => no (by omega) (by omega) (by omega) z, fun z => no (by omega) (by omega) (by omega) z, fun z => no (by omega) (by omega) (by omega) z, fun z => no (by omega) (by omega) (by omega) z, fun z => no (by omega) (by omega) (by omega) z, fun z => no (by omega) (by omega) (by omega) z, fun z => no (by omega) (by omega) (by omega) z, fun z => no (by omega) (by omega) (by omega) z, fun z => no (by omega) (by omega) (by omega) z, fun z => no (by omega) (by omega) (by omega) z, fun z => no (by omega) (by omega) (by omega) z, fun _ => e_X11_count ⟨fun z => inn (by omega) z, fun z => no (by omega) (by omega) (by omega) z, fun z => no (by omega) (by omega) (by omega) z, fun z => no (by omega) (by omega) (by omega) z, fun z => no (by omega) (by omega) (by omega) z, fun z => no (by omega) (by omega) (by omega) z, fun z => no (by omega) (by omega) (by omega) z, fun z => no (by omega) (by omega) (by omega) z, fun z => no (by omega) (by omega) (by omega) z, fun z => no (by omega) (by omega) (by omega) z, fun z => no (by omega) (by omega) (by omega) z, fun z => no (by omega) (by omega) (by omega) z, fun _ => ⟨(r1.2.2.1).symm, hI⟩, fun z => no (by omega) (by omega) (by omega) z, fun z => no (by omega) (by omega) (by omega) z, fun z => no (by omega) (by omega) (by omega) z, trivial⟩, fun z => no (by omega) (by omega) (by omega) z, fun z => no (by omega) (by omega) (by omega) z, fun z => no (by omega) (by omega) (by omega) z, trivial⟩
    · exact e_X10_count ⟨fun z => inn (by omega) z, fun z => no (by omega) (by omega) (by omega) z, fun z => no (by omega) (by omega) (by omega) z, fun z => no (by omega) (by omega) (by omega) z, fun z => no (by omega) (by omega) (by omega) z, fun z => no (by omega) (by omega) (by omega) z, fun z => no (by omega) (by omega) (by omega) z, fun z => no (by omega) (by omega) (by omega) z, fun z => no (by omega) (by omega) (by omega) z, fun z => no (by omega) (by omega) (by omega) z, fun z => no (by omega) (by omega) (by omega) z, fun z => no (by omega) (by omega) (by omega) z, fun z => no (by omega) (by omega) (by omega) z, fun _ => e_X11_count ⟨fun z => inn (by omega) z, fun z => no (by omega) (by omega) (by omega) z, fun z => no (by omega) (by omega) (by omega) z, fun z => no (by omega) (by omega) (by omega) z, fun z => no (by omega) (by omega) (by omega) z, fun z => no (by omega) (by omega) (by omega) z, fun z => no (by omega) (by omega) (by omega) z, fun z => no (by omega) (by omega) (by omega) z, fun z => no (by omega) (by omega) (by omega) z, fun z => no (by omega) (by omega) (by omega) z, fun z => no (by omega) (by omega) (by omega) z, fun z => no (by omega) (by omega) (by omega) z, fun z => no (by omega) (by omega) (by omega) z, fun _ => ⟨(r3.2.2.2).symm, hI⟩, fun z => no (by omega) (by omega) (by omega) z, fun z => no (by omega) (by omega) (by omega) z, trivial⟩, fun z => no (by omega) (by omega) (by omega) z, fun z => no (by omega) (by omega) (by omega) z, trivial⟩
    · exact e_X10_count ⟨fun z => inn (by omega) z, fun z => no (by omega) (by omega) (by omega) z, fun z => no (by omega) (by omega) (by omega) z, fun z => no (by omega) (by omega) (by omega) z, fun z => no (by omega) (by omega) (by omega) z, fun z => no (by omega) (by omega) (by omega) z, fun z => no (by omega) (by omega) (by omega) z, fun z => no (by omega) (by omega) (by omega) z, fun z => no (by omega) (by omega) (by omega) z, fun z => no (by omega) (by omega) (by omega) z, fun z => no (by omega) (by omega) (by omega) z, fun z => no (by omega) (by omega) (by omega) z, fun z => no (by omega) (by omega) (by omega) z, fun z => no (by omega) (by omega) (by omega) z, fun _ => e_X11_count ⟨fun z => inn (by omega) z, fun z => no (by omega) (by omega) (by omega) z, fun z => no (by omega) (by omega) (by omega) z, fun z => no (by omega) (by omega) (by omega) z, fun z => no (by omega) (by omega) (by omega) z, fun z => no (by omega) (by omega) (by omega) z, fun z => no (by omega) (by omega) (by omega) z, fun z => no (by omega) (by omega) (by omega) z, fun z => no (by omega) (by omega) (by omega) z, fun z => no (by omega) (by omega) (by omega) z, fun z => no (by omega) (by omega) (by omega) z, fun z => no (by omega) (by omega) (by omega) z, fun z => no (by omega) (by omega) (by omega) z, fun z => no (by omega) (by omega) (by omega) z, fun _ => ⟨(ra.trans rb.symm).symm, hI⟩, fun z => no (by omega) (by omega) (by omega) z, trivial⟩, fun z => no (by omega) (by omega) (by omega) z, trivial⟩
    · exact e_X10_count ⟨fun z => inn (by omega) z, fun z => no (by omega) (by omega) (by omega) z, fun z => no (by omega) (by omega) (by omega) z, fun z => no (by omega) (by omega) (by omega) z, fun z => no (by omega) (by omega) (by omega) z, fun z => no (by omega) (by omega) (by omega) z, fun z => no (by omega) (by omega) (by omega) z, fun z => no (by omega) (by omega) (by omega) z, fun z => no (by omega) (by omega) (by omega) z, fun z => no (by omega) (by omega) (by omega) z, fun z => no (by omega) (by omega) (by omega) z, fun z => no (by omega) (by omega) (by omega) z, fun z => no (by omega) (by omega) (by omega) z, fun z => no (by omega) (by omega) (by omega) z, fun z => no (by omega) (by omega) (by omega) z, fun _ => e_X11_count ⟨fun z => inn (by omega) z, fun z => no (by omega) (by omega) (by omega) z, fun z => no (by omega) (by omega) (by omega) z, fun z => no (by omega) (by omega) (by omega) z, fun z => no (by omega) (by omega) (by omega) z, fun z => no (by omega) (by omega) (by omega) z, fun z => no (by omega) (by omega) (by omega) z, fun z => no (by omega) (by omega) (by omega) z, fun z => no (by omega) (by omega) (by omega) z, fun z => no (by omega) (by omega) (by omega) z, fun z => no (by omega) (by omega) (by omega) z, fun z => no (by omega) (by omega) (by omega) z, fun z => no (by omega) (by omega) (by omega) z, fun z => no (by omega) (by omega) (by omega) z, fun z => no (by omega) (by omega) (by omega) z, fun _ => ⟨(ta.trans tb'.symm).symm, hI⟩, trivial⟩, trivial⟩
/-! the text's end -/
theorem op_end {x : Int32} (h : Inv t M) (ht : t < 512) : Op pl tl (d + 12) 3 [.ref 0, .int x] 139 [.ref 52, .int x] t M := by
  have hI := h.up (t' := t + 1) (by omega) (by omega)
  obtain ⟨hw, hrow, htx, hk, h512⟩ := hI
  obtain ⟨n, hn, ta, tb', tc⟩ := id htx
  have yes : ∀ Q : Int32 → Mem → Prop, ∀ M : Mem, M.1 52 4 = nI n → ∀ j, j ≤ n → Q (nI 1) (si (si M 52 7 (nI 0)) 52 4 (nI j)) → exI (LY pl tl) (d + 12) 139 [.ref 52, .int (nI j)] M Q := by
    intro Q M e j hj hq
    refine e_X11_end (s_in ?_)
    rw [e, show lN 0 = (nI 0).toInt64 from rfl]
    simp only [z_wle]
    rw [if_pos ⟨nI_le (Nat.zero_le _) (by omega), nI_le hj (by omega)⟩]
    exact ⟨fun _ => hq, fun c => absurd c (by decide)⟩
  have no : ∀ Q : Int32 → Mem → Prop, ∀ M : Mem, M.1 52 4 = nI n → (x < 0 ∨ ¬ x ≤ nI n) → Q (nI 0) (si M 52 7 (nI 0)) → exI (LY pl tl) (d + 12) 139 [.ref 52, .int x] M Q := by
    intro Q M e hx hq
    refine e_X11_end (s_in ?_)
    rw [e, show lN 0 = (nI 0).toInt64 from rfl]
    simp only [z_wle]
    rw [if_neg]
    · exact ⟨fun c => absurd rfl c, fun _ => hq⟩
    · intro q
      rcases hx with hx | hx
      · have := q.1
        rw [Int32.lt_iff_toInt_lt] at hx
        rw [Int32.le_iff_toInt_le] at this
        have e1 : (nI 0).toInt = 0 := by decide
        have e2 : (0 : Int32).toInt = 0 := by decide
        omega
      · exact hx q.2
  refine e_X10_end (e_X8_cutTo ⟨fun c => ⟨Or.inl rfl, no _ M tb' (Or.inl c) ⟨rfl, hw, hrow, htx, hk, h512⟩⟩, fun c => ?_⟩)
  rw [ta]
  refine ⟨fun c2 => ⟨Or.inr rfl, ?_⟩, fun c2 => ⟨Or.inl rfl, no _ M tb' (Or.inr c2) ⟨rfl, hw, hrow, htx, hk, h512⟩⟩⟩
  obtain ⟨j, hj, e⟩ := z_0 c (by omega) c2
  subst e
  refine yes (fun r2 M2 => r2 = nI 1 ∧ Inv (t + 1) M2) (si M 4 1 (nI j)) tb' j hj ⟨rfl, hw, hrow, ?_, hk, h512⟩
  exact ⟨j, by omega, rfl, rfl, fun i hi => tc i (by omega)⟩
end O2
