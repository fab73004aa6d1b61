/-! SIGN -/
theorem b_i8 (x : Int32) {i : Nat} (hi : i < 8) : bt (x.toInt8.toInt32) i = bt x i := by
  show ((x.toBitVec.signExtend 8).signExtend 32).getLsbD i = x.toBitVec.getLsbD i
  rw [BitVec.getLsbD_signExtend, BitVec.getLsbD_signExtend]
  simp [hi, show i < 32 by omega]
def sgC (v : Int32) (k : Nat) : Int32 := ((Int32.toUInt32 v >>> (Int32.toUInt32 (nI (8 * k)) &&& Int32.toUInt32 31)).toInt32) &&& (nI 255)
def sgM (v : Int32) (k : Nat) : Int32 := vp_nar .byte ((Int32.toInt8 (v >>> ((nI (8 * k)) &&& 31))).toInt32)
theorem sg_eq (v : Int32) {k : Nat} (hk : k < 4) : sgC v k = sgM v k &&& nI 255 := by
  refine b_ext (fun i hi => ?_)
  unfold sgC
  rw [b_and, b_and, b_ushr (8 * k) (by omega), show bt (nI 255) i = decide (i < 8) from b_255 i]
  by_cases h : i < 8
  · have e : bt (sgM v k) i = bt v (8 * k + i) := by
      show bt ((Int32.toInt8 (v >>> ((nI (8 * k)) &&& 31))).toInt32.toInt8.toInt32) i = _
      rw [b_i8 _ h, b_i8 _ h, b_sshr (8 * k) (by omega) v hi, if_pos (by omega)]
    rw [e]
  · rw [decide_eq_false h, Bool.and_false, Bool.and_false]
def cB (X : Mem) (v : Int32) (n k : Nat) : Mem := si (si X 5 n (sgC v k)) 4 1 (nI (n + 1))
def mB (X : Mem) (v : Int32) (n k : Nat) : Mem := si (si X 52 4 (nI (n + 1))) 55 n (sgM v k)
section S34
variable {pl : Option Nat} {tl : List LC} {d : Nat} {M : Mem} {t : Nat}
theorem t_c {Q : Int32 → Mem → Prop} {X : Mem} {v v2 v3 : Int32} {n : Nat} (k : Nat) (hX : X.1 4 1 = nI n) (hn : n < 300) (hk : k < 4) (e2 : v2 = nI (8 * k)) (e3 : v2 + (-8) = v3) (h : fx (LY pl tl) d m_X8_append (qI Q) (24, [some (.ref 4), some (.int v), some (.int v3)], [], cB X v n k)) : fx (LY pl tl) d m_X8_append (qI Q) (24, [some (.ref 4), some (.int v), some (.int v2)], [], X) := by
  refine c_X8_append_24 ⟨fun c => absurd c (by rw [e2]; exact nI_pos (by omega)), fun _ => ?_⟩
  rw [hX, z_cl (by omega), nI_add n 1, e3, e2]
  exact ⟨(z_in (by omega) (by omega)).mpr hn, h⟩
theorem t_m {Q : Int32 → Mem → Prop} {X : Mem} {v v2 v3 : Int32} {n : Nat} (k : Nat) (hX : X.1 52 4 = nI n) (hn : n < 300) (hk : k < 4) (e2 : v2 = nI k) (e4 : nI 8 * v2 = nI (8 * k)) (e3 : v2 + (-1) = v3) (h : fx (LY pl tl) d m_X11_sign (qI Q) (21, [some (.ref 52), some (.int v), some (.int v3)], [], mB X v n k)) : fx (LY pl tl) d m_X11_sign (qI Q) (21, [some (.ref 52), some (.int v), some (.int v2)], [], X) := by
  refine c_X11_sign_21 ⟨fun c => absurd c (by rw [e2]; exact nI_pos (by omega)), fun _ => ?_⟩
  rw [hX, z_cl (by omega), nI_add n 1, e3, e4]
  exact ⟨(z_in (by omega) (by omega)).mpr hn, h⟩
theorem m_sign {Q : Int32 → Mem → Prop} {n : Nat} {x : Int32} (hM : M.1 52 4 = nI n) (hn : n + 4 ≤ 300) (h : Q (nI (n + 4)) (mB (mB (mB (mB (si M 52 7 (nI 0)) x n 3) x (n + 1) 2) x (n + 2) 1) x (n + 3) 0)) : exI (LY pl tl) (d + 1) 138 [.ref 52, .int x] M Q := by
  refine e_X11_sign ?_
  rw [hM, nI_add n 4]
  refine ⟨fun _ => t_m (n := n) (v3 := nI 2) 3 hM (by omega) (by omega) rfl (by decide) (by decide) (t_m (n := n + 1) (v3 := nI 1) 2 rfl (by omega) (by omega) rfl (by decide) (by decide) (t_m (n := n + 2) (v3 := nI 0) 1 rfl (by omega) (by omega) rfl (by decide) (by decide) (t_m (n := n + 3) (v3 := -1) 0 rfl (by omega) (by omega) rfl (by decide) (by decide) (c_X11_sign_21 ⟨fun _ => h, fun c => absurd (by decide) c⟩)))), fun c => absurd ((z_le (by omega) (by omega)).mpr hn) c⟩
theorem op_sign {x : Int32} (h : Inv t M) (ht : t < 512) : Op pl tl (d + 12) 2 [.ref 0, .int x] 138 [.ref 52, .int x] t M := by
  have hI := h.up (t' := t + 1) (by omega) (by omega)
  obtain ⟨hw, hrow, htx, hk, h512⟩ := hI
  obtain ⟨n, hn, ta, tb', tc⟩ := id htx
  refine e_X10_sign (e_X8_append ?_)
  rw [ta, nI_add n 4]
  refine ⟨fun c => absurd c (nI_pos (by omega)), fun _ => ⟨fun c => ?_, fun c => e_X11_sign ?_⟩⟩
  · rw [z_le (by omega) (by omega)] at c
    refine t_c (n := n) (v3 := nI 16) 3 ta (by omega) (by omega) rfl (by decide) (t_c (n := n + 1) (v3 := nI 8) 2 rfl (by omega) (by omega) rfl (by decide) (t_c (n := n + 2) (v3 := nI 0) 1 rfl (by omega) (by omega) rfl (by decide) (t_c (n := n + 3) (v3 := -8) 0 rfl (by omega) (by omega) rfl (by decide) (c_X8_append_24 ⟨fun _ => ?_, fun c => absurd (by decide) c⟩))))
    refine m_sign (n := n) tb' c ⟨rfl, hw, hrow, ⟨n + 4, c, rfl, rfl, fun j hj => ?_⟩, hk, h512⟩
    show upd (upd (upd (upd (M.1 5) n (sgC x 3)) (n + 1) (sgC x 2)) (n + 2) (sgC x 1)) (n + 3) (sgC x 0) j = upd (upd (upd (upd (M.1 55) n (sgM x 3)) (n + 1) (sgM x 2)) (n + 2) (sgM x 1)) (n + 3) (sgM x 0) j &&& nI 255
    have hc : j < n ∨ j = n ∨ j = n + 1 ∨ j = n + 2 ∨ j = n + 3 := by omega
    rcases hc with q | rfl | rfl | rfl | rfl
    · rw [upd_ne (by omega), upd_ne (by omega), upd_ne (by omega), upd_ne (by omega), upd_ne (by omega), upd_ne (by omega), upd_ne (by omega), upd_ne (by omega)]
      exact tc j q
    · rw [upd_ne (by omega), upd_ne (by omega), upd_ne (by omega), upd_eq, upd_ne (by omega), upd_ne (by omega), upd_ne (by omega), upd_eq]
      exact sg_eq x (by omega)
    · rw [upd_ne (by omega), upd_ne (by omega), upd_eq, upd_ne (by omega), upd_ne (by omega), upd_eq]
      exact sg_eq x (by omega)
    · rw [upd_ne (by omega), upd_eq, upd_ne (by omega), upd_eq]
      exact sg_eq x (by omega)
    · rw [upd_eq, upd_eq]
      exact sg_eq x (by omega)
  · rw [tb', nI_add n 4]
    exact ⟨fun q => absurd q c, fun _ => ⟨rfl, hw, hrow, htx, hk, h512⟩⟩
end S34
