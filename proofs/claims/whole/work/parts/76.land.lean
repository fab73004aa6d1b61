/-! THE LAND: made; its ways are filled -/
def LLand : List LC := [.inr (3, [some (some 1), some (some 2), some (some 3), some (some 4), some (some 5), some (some 6), some (some 7), none, none]), .inl (0, 12), .inl (0, 66), .inl (0, 66), .inl (0, 66), .inl (2, 66), .inl (0, 144), .inl (0, 8)]
def wy0 (a : Nat) : Nat → Int32 := fun j => if j < 144 then (if j % 13 = 0 ∧ j / 13 < a then nI 0 else nI 999) else 0
def MK_X3 : Mem := sa Zm 6 (wy0 12)
theorem f_fill {d : Nat} {Q : Mem → Prop} {M : Mem} {v : Int32} (h : Q (sa M 6 (pfx 144 (fun _ => v) (M.1 6)))) : exV LLand (d + 1) 1 [.ref 6, .int v] M Q := by
  refine fx_ex t_J_fill rfl (Nat.le_of_ble_eq_true rfl) rfl (fx_iconst (v := (nI 0)) rfl rfl (fx_istore_n rfl rfl (fx_aload_n rfl rfl (fx_alen (v := (nI 144)) rfl rfl (by decide) rfl (fx_istore_n rfl rfl ?_)))))
  have e0 : M = sa M 6 (pfx 0 (fun _ => v) (M.1 6)) := by rw [pfx_0, sa_id]
  rw [e0]
  refine lp_0 (X := fx LLand d m_J_fill (qV Q)) (fun a => (5, [some (.ref 6), some (.int v), some (.int (nI a)), some (.int (nI 144))], [], sa M 6 (pfx a (fun _ => v) (M.1 6)))) 144 (fun a ha hn => ?_) ?_
  · refine fx_iload_n rfl rfl (fx_iload_n rfl rfl (fx_icmp_ge rfl ⟨fun hc => absurd hc (nI_ge ha (by omega)), fun hc => fx_aload_n rfl rfl (fx_iload_n rfl rfl (fx_iload_n rfl rfl (fx_iastore rfl rfl rfl ((z_in (by omega) (by omega)).mpr ha) (fx_iinc (v := (nI a + (nI 1))) rfl rfl rfl rfl (fx_goto rfl ?_)))))⟩))
    rw [z_cl (by omega), sa_upd, pfx_s _ _ _ rfl, nI_add]
    exact hn
  · exact fx_iload_n rfl rfl (fx_iload_n rfl rfl (fx_icmp_ge rfl ⟨fun hc => fx_vret rfl rfl h, fun hc => absurd (nI_le (Nat.le_refl _) (by omega)) hc⟩))
def k_X3t : List pEn := [(71, 72, .aload_n 0, 0, 0, 0), (72, 75, .getfield 28, 3, 5, 0), (75, 78, .sipush 999, 0, 0, 0), (78, 81, .invokestatic 41, 1, 1, 2), (81, 82, .iconst 0, 0, 0, 0), (82, 83, .istore_n 1, 0, 0, 0), (83, 84, .iload_n 1, 0, 0, 0), (84, 86, .bipush 12, 0, 0, 0), (86, 89, .if_icmp .ge 21, 107, 0, 0), (89, 90, .aload_n 0, 0, 0, 0), (90, 93, .getfield 28, 3, 5, 0), (93, 95, .bipush 12, 0, 0, 0), (95, 96, .iload_n 1, 0, 0, 0), (96, 97, .imul, 0, 0, 0), (97, 98, .iload_n 1, 0, 0, 0), (98, 99, .iadd, 0, 0, 0), (99, 100, .iconst 0, 0, 0, 0), (100, 101, .iastore, 0, 0, 0), (101, 104, .iinc 1 1, 0, 0, 0), (104, 107, .goto (-21), 83, 0, 0), (107, 108, .return_, 0, 0, 0)]
def m_X3t : pCd := (yX3_init, cX3_init, 2, none, k_X3t)
theorem q_X3t : p_mok MT m_X3t := p_mok_of (by decide +kernel) (by decide +kernel) ⟨trivial, fr_X3_28, trivial, cs_X3_41, trivial, trivial, trivial, trivial, trivial, trivial, fr_X3_28, trivial, trivial, trivial, trivial, trivial, trivial, trivial, trivial, trivial, trivial, trivial⟩
theorem wy_s {a : Nat} (ha : a < 12) : upd (wy0 a) (12 * a + a) (nI 0) = wy0 (a + 1) := by
  funext j
  unfold upd wy0
  by_cases e : j = 12 * a + a
  · subst e
    rw [if_pos rfl, if_pos (by omega), if_pos (by omega)]
  · rw [if_neg e]
    by_cases hj : j < 144
    · rw [if_pos hj, if_pos hj]
      by_cases h : j % 13 = 0 ∧ j / 13 < a
      · rw [if_pos h, if_pos (by omega)]
      · rw [if_neg h, if_neg (by omega)]
    · rw [if_neg hj, if_neg hj]
theorem f_X3t : fx LLand 1 m_X3t (qV (fun M => M = MK_X3)) (71, [some (.ref 0), none], [], Zm) := by
  refine fx_aload_n rfl rfl (fx_getR rfl rfl rfl (fx_sipush (v := nI 999) rfl rfl (fx_csV rfl (by decide) rfl (Nat.le_of_ble_eq_true rfl) (Nat.le_of_ble_eq_true rfl) rfl ?_)))
  refine f_fill (d := 0) ?_
  refine fx_iconst (v := nI 0) rfl rfl (fx_istore_n rfl rfl ?_)
  have e0 : sa Zm 6 (pfx 144 (fun _ => nI 999) (Zm.1 6)) = sa Zm 6 (wy0 0) := by
    congr 1
    funext j
    unfold pfx wy0
    by_cases hj : j < 144
    · rw [if_pos hj, if_pos hj, if_neg (by omega)]
    · rw [if_neg hj, if_neg hj]; rfl
  rw [e0]
  refine lp_0 (X := fx LLand 1 m_X3t (qV (fun M => M = MK_X3))) (fun a => (83, [some (.ref 0), some (.int (nI a))], [], sa Zm 6 (wy0 a))) 12 (fun a ha hn => ?_) ?_
  · refine fx_iload_n rfl rfl (fx_bipush (v := nI 12) rfl rfl (fx_icmp_ge rfl ⟨fun hc => absurd hc (nI_ge ha (by omega)), fun hc => fx_aload_n rfl rfl (fx_getR rfl rfl rfl (fx_bipush (v := nI 12) rfl rfl (fx_iload_n rfl rfl (fx_imul rfl (fx_iload_n rfl rfl (fx_iadd rfl (fx_iconst (v := nI 0) rfl rfl ?_)))))))⟩))
    rw [pk_mul, nI_add]
    refine fx_iastore rfl rfl rfl ((z_in (by omega) (by omega)).mpr (by omega)) (fx_iinc (v := (nI a + (nI 1))) rfl rfl rfl rfl (fx_goto rfl ?_))
    rw [z_cl (by omega), sa_upd, wy_s ha, nI_add]
    exact hn
  · exact fx_iload_n rfl rfl (fx_bipush (v := nI 12) rfl rfl (fx_icmp_ge rfl ⟨fun hc => fx_vret rfl rfl rfl, fun hc => absurd (nI_le (Nat.le_refl _) (by omega)) hc⟩))
theorem tail_X3 {p : Program} {l : Launch} {e : Env} {s : State} {m : MethodId} {args : Array Value} {below : List Frame} {meth : Method} {c : Code} {H : Heap} {locs : List Loc} {D : va_G} {cT : Nat → ClassId} {ls : Array Slot} {o : Nat} (hx : p.tables.exec = Jvm.exec) (hb : c.code = cX3_init) (C : Bx p s m args meth c RX3 cX3_init 2 none D cT (oa o) [] (oA o)) (hm : meth.name = "<init>") (hl : lv_has ls 2 [(0, .ref o)]) (hz : s.heap.size = o + 1) (S : ST D cT (oa o) LLand (oA o) s Zm H locs) : W p l e (Rk 2 7 428 128) s m args below meth c H locs 7 428 (MQ below (KQ D cT o LLand MK_X3) args s 7 428 (oA o)) (F0 m 71 ls []) := by
  refine fw_W (cd := m_X3t) (mt := MT) (d := 1) (l := l) (e := e) (R := Rk 2 7 428 128) (below := below) (kc := 7) (ks := 428) (Qc := KQ D cT o LLand MK_X3) (Q := qV (fun M => M = MK_X3)) (Bx_lay C (oJ o LLand)) q_X3t ⟨Nat.le_refl _, Nat.le_refl _⟩ ⟨Nat.le_refl _, Nat.le_refl _⟩ (ex_met MT_ok l LLand D cT (oa o) 1) (fun r M t hQ hP hF => ?_) f_X3t ls H locs ⟨hl.1, hl.2.1, fun q hq => ?_⟩ S
  · obtain ⟨rfl, rfl⟩ := hQ
    exact ⟨⟨rfl, hP⟩, hF⟩
  · obtain ⟨v, hv, ev⟩ := p_ll_mem.mp (show (q.1, q.2) ∈ _ from hq)
    obtain ⟨q1, q2⟩ := q
    have hv : p_lg [some (.ref 0), none] q1 = some v := hv
    match q1, hv with
    | 0, hv =>
      cases hv
      have ev : q2 = .ref (o + 0) := ev
      rw [ev]
      exact hl.2.2 (0, .ref o) List.mem_cons_self
    | 1, hv => cases hv
    | n + 2, hv => cases hv
theorem kf_X3_0 : KFd RX3 3 0 9 RX3 TX3 9 tyX3 := ⟨rfl, uw_X3, tyX3_ok, nmX3, by decide, wd_165, rfl⟩
theorem kf_X3_1 : KFd RX3 3 1 15 RX3 TX3 9 tyX3 := ⟨rfl, uw_X3, tyX3_ok, nmX3, by decide, wd_170, rfl⟩
theorem kf_X3_2 : KFd RX3 3 2 18 RX3 TX3 9 tyX3 := ⟨rfl, uw_X3, tyX3_ok, nmX3, by decide, wd_172, rfl⟩
theorem kf_X3_3 : KFd RX3 3 3 21 RX3 TX3 9 tyX3 := ⟨rfl, uw_X3, tyX3_ok, nmX3, by decide, wd_174, rfl⟩
theorem kf_X3_4 : KFd RX3 3 4 24 RX3 TX3 9 tyX3 := ⟨rfl, uw_X3, tyX3_ok, nmX3, by decide, wd_175, rfl⟩
theorem kf_X3_5 : KFd RX3 3 5 28 RX3 TX3 9 tyX3 := ⟨rfl, uw_X3, tyX3_ok, nmX3, by decide, wd_177, rfl⟩
theorem kf_X3_6 : KFd RX3 3 6 31 RX3 TX3 9 tyX3 := ⟨rfl, uw_X3, tyX3_ok, nmX3, by decide, wd_180, rfl⟩
theorem kf_X3_7 : KFd RX3 3 7 34 RX3 TX3 9 tyX3 := ⟨rfl, uw_X3, tyX3_ok, nmX3, by decide, wd_182, rfl⟩
theorem kf_X3_8 : KFd RX3 3 8 38 RX3 TX3 9 tyX3 := ⟨rfl, uw_X3, tyX3_ok, nmX3, by decide, wd_184, rfl⟩
theorem kc_X3 : KC yX3_init cX3_init 2 2 128 7 428 3 [some none, some none, some none, some none, some none, some none, some none, none, none] [.inr (3, [some (some 1), some (some 2), some (some 3), some (some 4), some (some 5), some (some 6), some (some 7), none, none]), .inl (0, 12), .inl (0, 66), .inl (0, 66), .inl (0, 66), .inl (2, 66), .inl (0, 144), .inl (0, 8)] (MK_X3) := by
  refine kbody (by decide) (by decide) rfl ?_
  intro l D cT o p e s m args below meth c ls C hm hl hz S
  have hx := C.1.1.1
  have hb := C.1.1.2.1
  refine lv_aload_n (k := 0) (i := 0) hx hb (by decide +kernel) rfl (lv_at hl 0 rfl) ?_
  refine xq_obj C hl.1 wd_161 wd_116 wd_117 (by decide +kernel) (Nat.le_of_ble_eq_true rfl) (Nat.le_of_ble_eq_true rfl) ?_
  refine k_arr (pc := 4) (q := 2) (t := 0) (n := 12) (atype := .int) (lay' := [.inr (3, [some (some 1), some none, some none, some none, some none, some none, some none, none, none]), .inl (0, 12)]) C hm hl hz S rfl kf_X3_0 rfl (Nat.le_of_ble_eq_true rfl) (fun _ => rfl) (fun _ => rfl) (Nat.le_of_ble_eq_true rfl) rfl wd_155 (Nat.le_of_ble_eq_true rfl) (Nat.le_of_ble_eq_true rfl) (Nat.le_of_ble_eq_true rfl) (Nat.le_of_ble_eq_true rfl) (by decide +kernel) (fun h => lv_bipush (n := 12) hx hb (by decide +kernel) rfl h) (by decide +kernel) (by decide +kernel) rfl rfl rfl (fun H locs S => ?_)
  refine k_arr (pc := 12) (q := 2) (t := 0) (n := 66) (atype := .int) (lay' := [.inr (3, [some (some 1), some (some 2), some none, some none, some none, some none, some none, none, none]), .inl (0, 12), .inl (0, 66)]) C hm hl hz S rfl kf_X3_1 rfl (Nat.le_of_ble_eq_true rfl) (fun _ => rfl) (fun _ => rfl) (Nat.le_of_ble_eq_true rfl) rfl wd_155 (Nat.le_of_ble_eq_true rfl) (Nat.le_of_ble_eq_true rfl) (Nat.le_of_ble_eq_true rfl) (Nat.le_of_ble_eq_true rfl) (by decide +kernel) (fun h => lv_bipush (n := 66) hx hb (by decide +kernel) rfl h) (by decide +kernel) (by decide +kernel) rfl rfl rfl (fun H locs S => ?_)
  refine k_arr (pc := 20) (q := 2) (t := 0) (n := 66) (atype := .int) (lay' := [.inr (3, [some (some 1), some (some 2), some (some 3), some none, some none, some none, some none, none, none]), .inl (0, 12), .inl (0, 66), .inl (0, 66)]) C hm hl hz S rfl kf_X3_2 rfl (Nat.le_of_ble_eq_true rfl) (fun _ => rfl) (fun _ => rfl) (Nat.le_of_ble_eq_true rfl) rfl wd_155 (Nat.le_of_ble_eq_true rfl) (Nat.le_of_ble_eq_true rfl) (Nat.le_of_ble_eq_true rfl) (Nat.le_of_ble_eq_true rfl) (by decide +kernel) (fun h => lv_bipush (n := 66) hx hb (by decide +kernel) rfl h) (by decide +kernel) (by decide +kernel) rfl rfl rfl (fun H locs S => ?_)
  refine k_arr (pc := 28) (q := 2) (t := 0) (n := 66) (atype := .int) (lay' := [.inr (3, [some (some 1), some (some 2), some (some 3), some (some 4), some none, some none, some none, none, none]), .inl (0, 12), .inl (0, 66), .inl (0, 66), .inl (0, 66)]) C hm hl hz S rfl kf_X3_3 rfl (Nat.le_of_ble_eq_true rfl) (fun _ => rfl) (fun _ => rfl) (Nat.le_of_ble_eq_true rfl) rfl wd_155 (Nat.le_of_ble_eq_true rfl) (Nat.le_of_ble_eq_true rfl) (Nat.le_of_ble_eq_true rfl) (Nat.le_of_ble_eq_true rfl) (by decide +kernel) (fun h => lv_bipush (n := 66) hx hb (by decide +kernel) rfl h) (by decide +kernel) (by decide +kernel) rfl rfl rfl (fun H locs S => ?_)
  refine k_arr (pc := 36) (q := 2) (t := 2) (n := 66) (atype := .boolean) (lay' := [.inr (3, [some (some 1), some (some 2), some (some 3), some (some 4), some (some 5), some none, some none, none, none]), .inl (0, 12), .inl (0, 66), .inl (0, 66), .inl (0, 66), .inl (2, 66)]) C hm hl hz S rfl kf_X3_4 rfl (Nat.le_of_ble_eq_true rfl) (fun _ => rfl) (fun _ => rfl) (Nat.le_of_ble_eq_true rfl) rfl wd_209 (Nat.le_of_ble_eq_true rfl) (Nat.le_of_ble_eq_true rfl) (Nat.le_of_ble_eq_true rfl) (Nat.le_of_ble_eq_true rfl) (by decide +kernel) (fun h => lv_bipush (n := 66) hx hb (by decide +kernel) rfl h) (by decide +kernel) (by decide +kernel) rfl rfl rfl (fun H locs S => ?_)
  refine k_arr (pc := 44) (q := 3) (t := 0) (n := 144) (atype := .int) (lay' := [.inr (3, [some (some 1), some (some 2), some (some 3), some (some 4), some (some 5), some (some 6), some none, none, none]), .inl (0, 12), .inl (0, 66), .inl (0, 66), .inl (0, 66), .inl (2, 66), .inl (0, 144)]) C hm hl hz S rfl kf_X3_5 rfl (Nat.le_of_ble_eq_true rfl) (fun _ => rfl) (fun _ => rfl) (Nat.le_of_ble_eq_true rfl) rfl wd_155 (Nat.le_of_ble_eq_true rfl) (Nat.le_of_ble_eq_true rfl) (Nat.le_of_ble_eq_true rfl) (Nat.le_of_ble_eq_true rfl) (by decide +kernel) (fun h => lv_sipush (n := 144) hx hb (by decide +kernel) rfl h) (by decide +kernel) (by decide +kernel) rfl rfl rfl (fun H locs S => ?_)
  refine k_arr (pc := 53) (q := 2) (t := 0) (n := 8) (atype := .int) (lay' := [.inr (3, [some (some 1), some (some 2), some (some 3), some (some 4), some (some 5), some (some 6), some (some 7), none, none]), .inl (0, 12), .inl (0, 66), .inl (0, 66), .inl (0, 66), .inl (2, 66), .inl (0, 144), .inl (0, 8)]) C hm hl hz S rfl kf_X3_6 rfl (Nat.le_of_ble_eq_true rfl) (fun _ => rfl) (fun _ => rfl) (Nat.le_of_ble_eq_true rfl) rfl wd_155 (Nat.le_of_ble_eq_true rfl) (Nat.le_of_ble_eq_true rfl) (Nat.le_of_ble_eq_true rfl) (Nat.le_of_ble_eq_true rfl) (by decide +kernel) (fun h => lv_bipush (n := 8) hx hb (by decide +kernel) rfl h) (by decide +kernel) (by decide +kernel) rfl rfl rfl (fun H locs S => ?_)
  refine k_int (pc := 61) (q := 1) (v := (0)) (M' := Zm) C hl S kf_X3_7 rfl rfl rfl rfl rfl (by decide +kernel) (fun h => lv_iconst (n := 0) hx hb (by decide +kernel) rfl h) (by decide +kernel) (si_id rfl) (fun H locs S => ?_)
  refine k_int (pc := 66) (q := 1) (v := (0)) (M' := Zm) C hl S kf_X3_8 rfl rfl rfl rfl rfl (by decide +kernel) (fun h => lv_iconst (n := 0) hx hb (by decide +kernel) rfl h) (by decide +kernel) (si_id rfl) (fun H locs S => ?_)
  exact tail_X3 hx hb C hm hl hz S
