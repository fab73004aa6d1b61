/-! THE WORST STATE; STATES BY HOW MANY ARE OUT -/
theorem V_stV {w : Nat → Int32} (hv : VL w) (r m : Nat) : ∃ k, k ≤ 1188 ∧ stV w r m = nI k := V_wS hv _
abbrev wlW (w : Nat → Int32) (k m : Nat) : Option (Nat × Nat) := wl (stV w (rcN w)) (fun m => decide (pcn m = k)) m
section S29
variable {pl : Option Nat} {tl : List LC} {d : Nat} {M : Mem} {t : Nat}
theorem wlW_ok {w : Nat → Int32} {k : Nat} (hn : eN w ≤ 6) (hk : k ≤ eN w) : ∃ b c, wlW w k (2 ^ eN w) = some (b, c) ∧ b < 2 ^ eN w ∧ c ≤ 2 ^ eN w := by
  obtain ⟨q1, q2⟩ := pc_full (eN w) (by omega) k hk
  obtain ⟨b, c, h⟩ := wl_some (v := stV w (rcN w)) (ok := fun m => decide (pcn m = k)) q1 (by simp [q2])
  obtain ⟨h1, h2⟩ := wl_lt h
  exact ⟨b, c, h, h1, h2⟩
theorem m_worst_n {Q : Int32 → Mem → Prop} {x : Int32} (hv : V (M.1 53) t) (hx : x < 0 ∨ ¬ x ≤ nI (eN (M.1 53))) (h : Q (-1) (thr M)) : exI (LY pl tl) (d + 4) 209 [.ref 52, .int x] M Q := by
  have n6 := hv.2.1.1.2
  refine e_X11_worst ?_
  rw [hv.2.1.1.1]
  refine s_inN1 (by omega) (fun j hj e => ?_) (fun _ => ⟨fun c => absurd rfl c, fun _ => h⟩)
  subst e
  rcases hx with q | q
  · exact (nI_pos (by omega) q).elim
  · exact (q (nI_le hj (by omega))).elim
theorem m_worst_y {Q : Int32 → Mem → Prop} {k b c : Nat} (hv : V (M.1 53) t) (hk : k ≤ eN (M.1 53)) (hb : wlW (M.1 53) k (2 ^ eN (M.1 53)) = some (b, c)) (h : ∀ o t', Q (stV (M.1 53) (rcN (M.1 53)) b) (rwM (sM (lyM (thr M) (rcN (M.1 53))) o t') 2 (fun j => if j = 0 then (nI b).toInt64 else (nI c).toInt64))) : exI (LY pl tl) (d + 6) 209 [.ref 52, .int (nI k)] M Q := by
  have n6 := hv.2.1.1.2
  have hp := pow8 (n := eN (M.1 53)) (by omega)
  have hpw : nI 1 <<< (nI (eN (M.1 53)) &&& 31) = nI (2 ^ eN (M.1 53)) := b1_pow _ (by omega)
  refine e_X11_worst ?_
  rw [hv.2.1.1.1]
  refine s_inN1 (by omega) (fun j hj e => ⟨fun _ => s_lyT (t := t) hv ?_, fun c => absurd c (by decide)⟩) (fun q => ?_)
  · have q1 : ∀ o t', (sM (lyM (thr M) (rcN (M.1 53))) o t').1 53 457 = nI (eN (M.1 53)) := fun o t' => hv.2.1.1.1
    have st := lp_s (σ := Int32 × Int32) (X := fx (LY pl tl) (d + 5) m_X11_worst (qI Q)) (fun m s => (39, [some (.ref 52), some (.int (nI k)), some (.int (wlB (-1) (wlW (M.1 53) k m))), some (.int (wlV (stV (M.1 53) (rcN (M.1 53))) (nI 0) (wlW (M.1 53) k m))), some (.int (wlC (wlW (M.1 53) k m))), some (.int (nI m)), none], [], sM (lyM (thr M) (rcN (M.1 53))) s.1 s.2)) (2 ^ eN (M.1 53)) (fun m s hm hx => ?_) (fun s => ?_)
    · have := st ((lyM (thr M) (rcN (M.1 53))).1 52 21, (lyM (thr M) (rcN (M.1 53))).1 52 22)
      simp only [sM_id] at this
      exact this
    · refine c_X11_worst_39 ?_
      rw [q1, hpw]
      have h1 : pcn m ≤ 8 := cn_le _ _
      refine br_f (nI_ge hm (by omega)) (s_ones (by omega) ⟨fun cc => ?_, fun cc => ?_⟩)
      · have hok : (fun m => decide (pcn m = k)) m = true := by
          rw [z_eq (by omega) (by omega)] at cc
          simpa using cc
        refine s_stateCover (t := t) (r := rcN (M.1 53)) (M := lyM (thr M) (rcN (M.1 53))) hv (ly59 (M := thr M)) ?_
        have vE : wS ((lyM (thr M) (rcN (M.1 53))).1 53) (stO ((lyM (thr M) (rcN (M.1 53))).1 53) (rcN (M.1 53)) (nI m)) 12 = stV (M.1 53) (rcN (M.1 53)) m := rfl
        rw [vE, nI_add m 1]
        have hx := hx (stO ((lyM (thr M) (rcN (M.1 53))).1 53) (rcN (M.1 53)) (nI m), stT ((lyM (thr M) (rcN (M.1 53))).1 53) (rcN (M.1 53)) (nI m))
        obtain ⟨s1, s2⟩ := wl_step (v := stV (M.1 53) (rcN (M.1 53))) (ok := fun m => decide (pcn m = k)) hok
        cases hw : wlW (M.1 53) k m with
        | none =>
          have e1 : wlW (M.1 53) k (m + 1) = some (m, 1) := s1 hw
          rw [e1] at hx
          refine br_t rfl ⟨fun z => absurd rfl z, fun _ => ?_⟩
          rw [nI_add]
          exact hx
        | some bc =>
          obtain ⟨b', c'⟩ := bc
          obtain ⟨t1, t2, t3⟩ := s2 b' c' hw
          obtain ⟨u1, u2⟩ := wl_lt hw
          refine br_f (show ¬ nI b' = -1 by rw [z_m1 (by omega)]; exact id) ⟨fun z => ?_, fun z => ?_⟩
          · have z : stV (M.1 53) (rcN (M.1 53)) b' ≤ stV (M.1 53) (rcN (M.1 53)) m := z
            have nz : ¬ stV (M.1 53) (rcN (M.1 53)) m < stV (M.1 53) (rcN (M.1 53)) b' := by rw [Int32.lt_iff_toInt_lt]; rw [Int32.le_iff_toInt_le] at z; omega
            refine ⟨fun q => ?_, fun q => ?_⟩
            · have e1 : wlW (M.1 53) k (m + 1) = some (b', c') := t3 nz q
              rw [e1] at hx
              show fx _ _ _ _ (39, [_, _, _, _, some (.int (nI c' + nI 0)), _, _], _, _)
              rw [z_add0]
              exact hx
            · have e1 : wlW (M.1 53) k (m + 1) = some (b', c' + 1) := t2 nz q
              rw [e1] at hx
              show fx _ _ _ _ (39, [_, _, _, _, some (.int (nI c' + nI 1)), _, _], _, _)
              rw [nI_add]
              exact hx
          · have z : ¬ stV (M.1 53) (rcN (M.1 53)) b' ≤ stV (M.1 53) (rcN (M.1 53)) m := z
            have e1 : wlW (M.1 53) k (m + 1) = some (m, 1) := t1 (by rw [Int32.lt_iff_toInt_lt]; rw [Int32.le_iff_toInt_le] at z; omega)
            rw [e1] at hx
            refine ⟨fun z => absurd rfl z, fun _ => ?_⟩
            rw [nI_add]
            exact hx
      · have hok : ¬ (fun m => decide (pcn m = k)) m = true := by
          rw [z_eq (by omega) (by omega)] at cc
          simpa using cc
        have hx := hx s
        rw [show wlW (M.1 53) k (m + 1) = wlW (M.1 53) k m from wl_no hok] at hx
        rw [nI_add m 1]
        exact hx
    · refine c_X11_worst_39 ?_
      rw [q1, hpw, hb]
      refine br_t (nI_le (Nat.le_refl _) (by omega)) ?_
      rw [rwM_0 _ (fun j => if j = 0 then (nI b).toInt64 else (nI c).toInt64)]
      exact s_mtell 1 rfl (by omega) rfl (s_mtell 2 rfl (by omega) rfl (h _ _))
  · rcases q with q | q
    · exact (nI_pos (by omega) q).elim
    · exact (q (nI_le hk (by omega))).elim
theorem op_worst {x : Int32} (h : Inv t M) (ht : t < 512) : Op pl tl (d + 12) 32 [.ref 0, .int x] 209 [.ref 52, .int x] t M := by
  have hI := h.up (t' := t + 1) (by omega) (by omega)
  obtain ⟨⟨hv, hr⟩, -⟩ := h
  have n6 := hv.2.1.1.2
  have hM : M.1 24 4 = nI (eN (M.1 53)) := hr.2.1.1.trans hv.2.1.1.1
  have hp := pow8 (n := eN (M.1 53)) (by omega)
  have hpw : nI 1 <<< (nI (eN (M.1 53)) &&& 31) = nI (2 ^ eN (M.1 53)) := b1_pow _ (by omega)
  refine e_X10_worst ⟨fun c => m_worst_n (t := t) hv (Or.inl c) ⟨rfl, hI⟩, fun c => ?_⟩
  rw [hM]
  refine ⟨fun c2 => ?_, fun c2 => m_worst_n (t := t) hv (Or.inr c2) ⟨rfl, hI⟩⟩
  obtain ⟨k, hk, e⟩ := z_0 c (by omega) c2
  subst e
  obtain ⟨b, c0, hb, hb1, hb2⟩ := wlW_ok n6 hk
  refine s_lk hv hr ?_
  have q1 : ∀ o t', (pM (lkC M (M.1 53)) o t').1 24 4 = nI (eN (M.1 53)) := fun o t' => hM
  have st := lp_s (σ := Int32 × Int32) (X := fx (LY pl tl) (d + 11) m_X10_worst (qI (fun r M1 => exI (LY pl tl) (d + 12) 209 [.ref 52, .int (nI k)] M1 (fun r2 M2 => r2 = r ∧ Inv (t + 1) M2)))) (fun m s => (36, [some (.ref 0), some (.int (nI k)), some (.int (wlV (stV (M.1 53) (rcN (M.1 53))) (nI 2147483647) (wlW (M.1 53) k m))), some (.int (wlB (nI 0) (wlW (M.1 53) k m))), some (.int (wlC (wlW (M.1 53) k m))), some (.int (nI m)), none], [], pM (lkC M (M.1 53)) s.1 s.2)) (2 ^ eN (M.1 53)) (fun m s hm hx => ?_) (fun s => ?_)
  · have := st ((lkC M (M.1 53)).1 43 2, (lkC M (M.1 53)).1 43 3)
    simp only [pM_id] at this
    exact this
  · refine c_X10_worst_36 ?_
    rw [q1, hpw]
    have h1 : pcn m ≤ 8 := cn_le _ _
    refine br_f (nI_ge hm (by omega)) (s_bitCount (by omega) ⟨fun cc => ?_, fun cc => ?_⟩)
    · have hok : ¬ (fun m => decide (pcn m = k)) m = true := by
        rw [z_eq (by omega) (by omega)] at cc
        simpa using cc
      have hx := hx s
      rw [show wlW (M.1 53) k (m + 1) = wlW (M.1 53) k m from wl_no hok] at hx
      rw [nI_add m 1]
      exact hx
    · have hok : (fun m => decide (pcn m = k)) m = true := by
        rw [z_eq (by omega) (by omega)] at cc
        simpa using cc
      refine s_coverWithout hv hr ?_
      have vE : wS (M.1 53) (stO (M.1 53) (rcN (M.1 53)) (nI m)) 12 = stV (M.1 53) (rcN (M.1 53)) m := rfl
      rw [vE, nI_add m 1]
      obtain ⟨jm, hjm, ejm⟩ := V_stV hv.1 (rcN (M.1 53)) m
      have hx := hx (stO (M.1 53) (rcN (M.1 53)) (nI m), stT (M.1 53) (rcN (M.1 53)) (nI m))
      obtain ⟨s1, s2⟩ := wl_step (v := stV (M.1 53) (rcN (M.1 53))) (ok := fun m => decide (pcn m = k)) hok
      cases hw : wlW (M.1 53) k m with
      | none =>
        have e1 : wlW (M.1 53) k (m + 1) = some (m, 1) := s1 hw
        rw [e1] at hx
        refine br_f ?_ ⟨fun z => absurd rfl z, fun _ => ?_⟩
        · show ¬ nI 2147483647 ≤ stV (M.1 53) (rcN (M.1 53)) m
          rw [ejm]; exact nI_ge (by omega) (by omega)
        · rw [nI_add]
          exact hx
      | some bc =>
        obtain ⟨b', c'⟩ := bc
        obtain ⟨t1, t2, t3⟩ := s2 b' c' hw
        obtain ⟨u1, u2⟩ := wl_lt hw
        refine ⟨fun z => ?_, fun z => ?_⟩
        · have z : stV (M.1 53) (rcN (M.1 53)) b' ≤ stV (M.1 53) (rcN (M.1 53)) m := z
          have nz : ¬ stV (M.1 53) (rcN (M.1 53)) m < stV (M.1 53) (rcN (M.1 53)) b' := by rw [Int32.lt_iff_toInt_lt]; rw [Int32.le_iff_toInt_le] at z; omega
          refine ⟨fun q => ?_, fun q => ?_⟩
          · have e1 : wlW (M.1 53) k (m + 1) = some (b', c') := t3 nz q
            rw [e1] at hx
            exact hx
          · have e1 : wlW (M.1 53) k (m + 1) = some (b', c' + 1) := t2 nz q
            rw [e1] at hx
            show fx _ _ _ _ (36, [_, _, _, _, some (.int (nI c' + nI 1)), _, _], _, _)
            rw [nI_add]
            exact hx
        · have z : ¬ stV (M.1 53) (rcN (M.1 53)) b' ≤ stV (M.1 53) (rcN (M.1 53)) m := z
          have e1 : wlW (M.1 53) k (m + 1) = some (m, 1) := t1 (by rw [Int32.lt_iff_toInt_lt]; rw [Int32.le_iff_toInt_le] at z; omega)
          rw [e1] at hx
          refine ⟨fun z => absurd rfl z, fun _ => ?_⟩
          rw [nI_add]
          exact hx
  · refine c_X10_worst_36 ?_
    rw [q1, hpw, hb]
    refine br_t (nI_le (Nat.le_refl _) (by omega)) (s_tell2 (m_worst_y (t := t) hv hk hb (fun o t' => ⟨rfl, hI.1, rows_ok (n := 2) (by omega) rfl rfl rfl rfl (fun j hj => rfl), hI.2.2⟩)))
end S29
