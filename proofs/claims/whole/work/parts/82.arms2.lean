theorem vl_X10_shuts : VOk m_X10_shuts.1 m_X10_shuts.2.1 m_X10_shuts.2.2.1 m_X10_shuts.2.2.2.1 3 10 := ⟨⟨_, _, rfl⟩, ⟨wd_561, wd_562, wd_88, wd_563⟩, ⟨by decide, by decide, by decide +kernel⟩⟩
theorem cl_46 : p_cv MT RL 46 8 10 3 := ⟨m_X10_shuts, t_X10_shuts, vl_X10_shuts, wd_560, by decide⟩
theorem vl_X11_shuts : VOk m_X11_shuts.1 m_X11_shuts.2.1 m_X11_shuts.2.2.1 m_X11_shuts.2.2.2.1 3 11 := ⟨⟨_, _, rfl⟩, ⟨wd_1309, wd_1310, wd_99, wd_1311⟩, ⟨by decide, by decide, by decide +kernel⟩⟩
theorem cl_50 : p_cv MT RL 50 163 11 3 := ⟨m_X11_shuts, t_X11_shuts, vl_X11_shuts, wd_1308, by decide⟩
theorem vl_X10_share : VOk m_X10_share.1 m_X10_share.2.1 m_X10_share.2.2.1 m_X10_share.2.2.2.1 0 10 := ⟨⟨_, _, rfl⟩, ⟨wd_764, wd_765, wd_88, wd_766⟩, ⟨by decide, by decide, by decide +kernel⟩⟩
theorem cl_104 : p_cv MT RL 104 22 10 0 := ⟨m_X10_share, t_X10_share, vl_X10_share, wd_763, by decide⟩
theorem vl_X11_row : VOk m_X11_row.1 m_X11_row.2.1 m_X11_row.2.2.1 m_X11_row.2.2.2.1 1 11 := ⟨⟨_, _, rfl⟩, ⟨wd_1658, wd_1659, wd_99, wd_1660⟩, ⟨by decide, by decide, by decide +kernel⟩⟩
theorem cl_205 : p_cv MT RL 205 236 11 1 := ⟨m_X11_row, t_X11_row, vl_X11_row, wd_1657, by decide⟩
theorem vl_X11_thrown : VOk m_X11_thrown.1 m_X11_thrown.2.1 m_X11_thrown.2.2.1 m_X11_thrown.2.2.2.1 0 11 := ⟨⟨_, _, rfl⟩, ⟨wd_1230, wd_1231, wd_99, wd_1232⟩, ⟨by decide, by decide, by decide +kernel⟩⟩
theorem cl_206 : p_cv MT RL 206 133 11 0 := ⟨m_X11_thrown, t_X11_thrown, vl_X11_thrown, wd_1229, by decide⟩
/-! THE LAW'S ARM OF shuts -/
def btN (x : Int32) : Nat := if x = 0 then 0 else 1
section S82
variable {p : Program} {l : Launch} {e : Env} {s : State} {m : MethodId} {below : List Frame} {meth : Method} {c : Code} {b L : Nat} {xs : Nat → Int32} {D : va_G} {cT : Nat → ClassId} {t : Nat} {d0 : Drawn} {H : Heap} {locs : List Loc} {kc ks pc : Nat} {ls : Array Slot} {st : List Value}
theorem l_bit {x : Int32} (hx : p.tables.exec = Jvm.exec) (hb : c.code = code) (d1 : decode code pc = .ok (.ifCond .eq 7, 3)) (d2 : decode code (pc + 3) = .ok (.iconst 1, 1)) (d3 : decode code (pc + 3 + 1) = .ok (.goto 4, 3)) (d4 : decode code (pc + 7) = .ok (.iconst 0, 1)) (kk : Wl p l e s m below meth c b d0 H locs kc ks (pc + 7 + 1) ls (.int (nI (btN x)) :: st)) : Wl p l e s m below meth c b d0 H locs kc ks pc ls (.int x :: st) := by
  refine lv_if_eq (tgt := pc + 7) hx hb d1 (by omega) (fun h => ?_) (fun h => ?_)
  · refine lv_iconst (v := nI 0) hx hb d4 rfl ?_
    have : btN x = 0 := if_pos h
    rw [this] at kk
    exact kk
  · refine lv_iconst (v := nI 1) hx hb d2 rfl (lv_goto (tgt := pc + 7 + 1) hx hb d3 (by omega) ?_)
    have : btN x = 1 := if_neg h
    rw [this] at kk
    exact kk
end S82
theorem ar_370 : ArmL 370 := by
  intro p l e s m below meth c b L xs D cT t d0 H locs kc ks ls hf C0 hK hd0 hL h4 hI hl kk
  obtain ⟨pl, tl, ad, M, hc, hJ, hne, hax, S, hInv, hout⟩ := hI
  have C := law_C C0 hK hJ d0
  have hx := C0.1
  have hb := C0.2.1
  have hcs := hc_cs (by omega) hc
  have hop := op_shuts (pl := pl) (tl := tl) (d := 0) (x := xs (4 * t + 1)) (y := xs (4 * t + 2)) (s := btN (xs (4 * t + 3))) (by unfold btN; split <;> omega) hInv (by omega)
  have l1 : ls[1]? = some (.val (.ref (ad 0))) := by rw [hax.1]; exact lv_at hl 1 rfl
  have l2 : ls[2]? = some (.val (.ref (ad 52))) := by rw [hax.2]; exact lv_at hl 2 rfl
  refine lv_aload_n (k := 1) (i := 1) hx hb (by decide +kernel) rfl l1 ?_
  refine l_arg' (pc := 371) (k := 1) C0 S.2 hl h4 hL (by omega) rfl (by unfold dArg; decide +kernel) ?_
  refine l_arg' (pc := 377) (k := 2) C0 S.2 hl h4 hL (by omega) rfl (by unfold dArg; decide +kernel) ?_
  refine l_arg' (pc := 383) C0 S.2 hl h4 hL (k := 3) (by omega) rfl (by unfold dArg; decide +kernel) ?_
  refine l_bit (pc := 389) hx hb (by decide +kernel) (by decide +kernel) (by decide +kernel) (by decide +kernel) ?_
  refine l_call (pc := 397) (as := [xs (4 * t + 1), xs (4 * t + 2), nI (btN (xs (4 * t + 3)))]) (rest := []) C S cl_46 hop rfl rfl hl.1 hcs (Nat.le_of_ble_eq_true rfl) (by decide +kernel) (fun v M1 H1 locs1 hq S1 hk1 hz1 => ?_)
  refine lv_aload_n (k := 2) (i := 2) hx hb (by decide +kernel) rfl l2 ?_
  refine l_arg' (pc := 401) (k := 1) C0 S1.2 hl h4 hL (by omega) rfl (by unfold dArg; decide +kernel) ?_
  refine l_arg' (pc := 407) (k := 2) C0 S1.2 hl h4 hL (by omega) rfl (by unfold dArg; decide +kernel) ?_
  refine l_arg' (pc := 413) C0 S1.2 hl h4 hL (k := 3) (by omega) rfl (by unfold dArg; decide +kernel) ?_
  refine l_bit (pc := 419) hx hb (by decide +kernel) (by decide +kernel) (by decide +kernel) (by decide +kernel) ?_
  refine l_call (pc := 427) (as := [xs (4 * t + 1), xs (4 * t + 2), nI (btN (xs (4 * t + 3)))]) (rest := [.int v]) C S1 cl_50 hq rfl rfl hl.1 hcs (Nat.le_of_ble_eq_true rfl) (by decide +kernel) (fun v2 M2 H2 locs2 hq2 S2 hk2 hz2 => ?_)
  refine lv_icmp_eq (off := 913) (tgt := 1343) hx hb (by decide +kernel) (by decide) (fun _ => kk d0 H2 locs2 kc ks ls hd0 ⟨pl, tl, ad, M2, hc_up hc, hJ, hne, hax, S2, hq2.2, (hout.kept hne hk1).kept hne hk2⟩ hl) (fun h => absurd hq2.1.symm h)
