/-! THE LAW'S ARMS: calls of none, one, two numbers (by program: gen/arms.py) -/
def dArg (pc k : Nat) : Prop := decode code pc = .ok (.aload_n 0, 1) ∧ decode code (pc + 1) = .ok (.iload 4, 2) ∧ decode code (pc + 3) = .ok (.iconst k, 1) ∧ decode code (pc + 4) = .ok (.iadd, 1) ∧ decode code (pc + 5) = .ok (.iaload, 1)
theorem hc_up {pl : Option Nat} {tl : List LC} {kc ks t : Nat} (h : (pl = none ∧ tl = [] ∧ kc ≤ 66 + t ∧ ks ≤ 4000 + 6 * t) ∨ (pl = some 65 ∧ tl = PT ∧ kc ≤ 72 + t ∧ ks ≤ 12000 + 6 * t)) : (pl = none ∧ tl = [] ∧ kc ≤ 66 + (t + 1) ∧ ks ≤ 4000 + 6 * (t + 1)) ∨ (pl = some 65 ∧ tl = PT ∧ kc ≤ 72 + (t + 1) ∧ ks ≤ 12000 + 6 * (t + 1)) := by
  rcases h with ⟨a, b, c, d⟩ | ⟨a, b, c, d⟩
  · exact Or.inl ⟨a, b, by omega, by omega⟩
  · exact Or.inr ⟨a, b, by omega, by omega⟩
theorem hc_cs {pl : Option Nat} {tl : List LC} {kc ks t : Nat} (ht : t < 512) (h : (pl = none ∧ tl = [] ∧ kc ≤ 66 + t ∧ ks ≤ 4000 + 6 * t) ∨ (pl = some 65 ∧ tl = PT ∧ kc ≤ 72 + t ∧ ks ≤ 12000 + 6 * t)) : kc ≤ 601024 ∧ ks ≤ 7293034 := by
  rcases h with ⟨a, b, c, d⟩ | ⟨a, b, c, d⟩ <;> exact ⟨by omega, by omega⟩
section S81
variable {p : Program} {l : Launch} {e : Env} {s : State} {m : MethodId} {below : List Frame} {meth : Method} {c : Code} {b L : Nat} {xs : Nat → Int32} {D : va_G} {cT : Nat → ClassId} {t : Nat} {d0 : Drawn} {H : Heap} {locs : List Loc} {kc ks pc : Nat} {ls : Array Slot} {st : List Value}
theorem l_arg' {k : Nat} (C0 : lw_At p s m meth c b L xs) (hS : va_S (oA s.heap.size) s.heap H locs) (hl : lv_has ls 8 (LV s b t)) (h4 : 4 * t + 4 ≤ L) (hL : L ≤ 2048) (hk : k < 4) (hki : Int32.ofInt k = nI k) (d : dArg pc k) (kk : Wl p l e s m below meth c b d0 H locs kc ks (pc + 6) ls (.int (xs (4 * t + k)) :: st)) : Wl p l e s m below meth c b d0 H locs kc ks pc ls st :=
  l_arg C0 hS hl h4 hL hk hki d.1 d.2.1 d.2.2.1 d.2.2.2.1 d.2.2.2.2 kk
end S81
theorem arm0 {pc i1 i2 yc ym : Nat} (hop : ∀ (pl : Option Nat) (tl : List LC) (M : Mem) (t : Nat), ((pl = none ∧ tl = []) ∨ (pl = some 65 ∧ tl = PT)) → Inv t M → t < 512 → Op pl tl 12 yc [.ref 0] ym [.ref 52] t M) (G1 : p_cv MT RL i1 yc 10 0) (G2 : p_cv MT RL i2 ym 11 0) {off : Int} (ho : ((pc + 8 : Nat) : Int) + off = (1343 : Nat)) (d1 : decode code pc = .ok (.aload_n 1, 1)) (d2 : decode code (pc + 1) = .ok (.invokevirtual i1, 3)) (d3 : decode code (pc + 4) = .ok (.aload_n 2, 1)) (d4 : decode code (pc + 5) = .ok (.invokevirtual i2, 3)) (d5 : decode code (pc + 8) = .ok (.if_icmp .eq off, 3)) : ArmL pc := by
  intro p l e s m below meth c b L xs D cT t d0 H locs kc ks ls hf C0 hK hd0 hL h4 hI hl kk
  obtain ⟨pl, tl, ad, M, hc, hJ, hne, hax, S, hInv, hout⟩ := hI
  have C := law_C C0 hK hJ d0
  have hx := C0.1
  have hb := C0.2.1
  have hcs := hc_cs (by omega) hc
  have hop := hop pl tl M t (hc.imp (fun h => ⟨h.1, h.2.1⟩) (fun h => ⟨h.1, h.2.1⟩)) hInv (by omega)
  have l1 : ls[1]? = some (.val (.ref (ad 0))) := by rw [hax.1]; exact lv_at hl 1 rfl
  have l2 : ls[2]? = some (.val (.ref (ad 52))) := by rw [hax.2]; exact lv_at hl 2 rfl
  refine lv_aload_n (k := 1) (i := 1) hx hb d1 rfl l1 ?_
  refine l_call (as := []) (rest := []) C S G1 hop rfl rfl hl.1 hcs (Nat.le_of_ble_eq_true rfl) d2 (fun v M1 H1 locs1 hq S1 hk1 hz1 => ?_)
  refine lv_aload_n (k := 2) (i := 2) hx hb d3 rfl l2 ?_
  refine l_call (as := []) (rest := [.int v]) C S1 G2 hq rfl rfl hl.1 hcs (Nat.le_of_ble_eq_true rfl) d4 (fun v2 M2 H2 locs2 hq2 S2 hk2 hz2 => ?_)
  refine lv_icmp_eq (tgt := 1343) hx hb d5 ho (fun _ => kk d0 H2 locs2 kc ks ls hd0 ⟨pl, tl, ad, M2, hc_up hc, hJ, hne, hax, S2, hq2.2, (hout.kept hne hk1).kept hne hk2⟩ hl) (fun h => absurd hq2.1.symm h)
theorem arm1 {pc i1 i2 yc ym : Nat} (hop : ∀ (pl : Option Nat) (tl : List LC) (M : Mem) (t : Nat) (x : Int32), ((pl = none ∧ tl = []) ∨ (pl = some 65 ∧ tl = PT)) → Inv t M → t < 512 → Op pl tl 12 yc [.ref 0, .int x] ym [.ref 52, .int x] t M) (G1 : p_cv MT RL i1 yc 10 1) (G2 : p_cv MT RL i2 ym 11 1) {off : Int} (ho : ((pc + 20 : Nat) : Int) + off = (1343 : Nat)) (d1 : decode code pc = .ok (.aload_n 1, 1)) (a1 : dArg (pc + 1) 1) (d2 : decode code (pc + 7) = .ok (.invokevirtual i1, 3)) (d3 : decode code (pc + 10) = .ok (.aload_n 2, 1)) (a2 : dArg (pc + 11) 1) (d4 : decode code (pc + 17) = .ok (.invokevirtual i2, 3)) (d5 : decode code (pc + 20) = .ok (.if_icmp .eq off, 3)) : ArmL pc := by
  intro p l e s m below meth c b L xs D cT t d0 H locs kc ks ls hf C0 hK hd0 hL h4 hI hl kk
  obtain ⟨pl, tl, ad, M, hc, hJ, hne, hax, S, hInv, hout⟩ := hI
  have C := law_C C0 hK hJ d0
  have hx := C0.1
  have hb := C0.2.1
  have hcs := hc_cs (by omega) hc
  have hop := hop pl tl M t (xs (4 * t + 1)) (hc.imp (fun h => ⟨h.1, h.2.1⟩) (fun h => ⟨h.1, h.2.1⟩)) hInv (by omega)
  have l1 : ls[1]? = some (.val (.ref (ad 0))) := by rw [hax.1]; exact lv_at hl 1 rfl
  have l2 : ls[2]? = some (.val (.ref (ad 52))) := by rw [hax.2]; exact lv_at hl 2 rfl
  refine lv_aload_n (k := 1) (i := 1) hx hb d1 rfl l1 ?_
  refine l_arg' C0 S.2 hl h4 hL (by omega) rfl a1 ?_
  refine l_call (as := [xs (4 * t + 1)]) (rest := []) C S G1 hop rfl rfl hl.1 hcs (Nat.le_of_ble_eq_true rfl) d2 (fun v M1 H1 locs1 hq S1 hk1 hz1 => ?_)
  refine lv_aload_n (k := 2) (i := 2) hx hb d3 rfl l2 ?_
  refine l_arg' C0 S1.2 hl h4 hL (by omega) rfl a2 ?_
  refine l_call (as := [xs (4 * t + 1)]) (rest := [.int v]) C S1 G2 hq rfl rfl hl.1 hcs (Nat.le_of_ble_eq_true rfl) d4 (fun v2 M2 H2 locs2 hq2 S2 hk2 hz2 => ?_)
  refine lv_icmp_eq (tgt := 1343) hx hb d5 ho (fun _ => kk d0 H2 locs2 kc ks ls hd0 ⟨pl, tl, ad, M2, hc_up hc, hJ, hne, hax, S2, hq2.2, (hout.kept hne hk1).kept hne hk2⟩ hl) (fun h => absurd hq2.1.symm h)
theorem arm2 {pc i1 i2 yc ym : Nat} (hop : ∀ (pl : Option Nat) (tl : List LC) (M : Mem) (t : Nat) (x y : Int32), ((pl = none ∧ tl = []) ∨ (pl = some 65 ∧ tl = PT)) → Inv t M → t < 512 → Op pl tl 12 yc [.ref 0, .int x, .int y] ym [.ref 52, .int x, .int y] t M) (G1 : p_cv MT RL i1 yc 10 2) (G2 : p_cv MT RL i2 ym 11 2) {off : Int} (ho : ((pc + 32 : Nat) : Int) + off = (1343 : Nat)) (d1 : decode code pc = .ok (.aload_n 1, 1)) (a1 : dArg (pc + 1) 1) (b1 : dArg (pc + 7) 2) (d2 : decode code (pc + 13) = .ok (.invokevirtual i1, 3)) (d3 : decode code (pc + 16) = .ok (.aload_n 2, 1)) (a2 : dArg (pc + 17) 1) (b2 : dArg (pc + 23) 2) (d4 : decode code (pc + 29) = .ok (.invokevirtual i2, 3)) (d5 : decode code (pc + 32) = .ok (.if_icmp .eq off, 3)) : ArmL pc := by
  intro p l e s m below meth c b L xs D cT t d0 H locs kc ks ls hf C0 hK hd0 hL h4 hI hl kk
  obtain ⟨pl, tl, ad, M, hc, hJ, hne, hax, S, hInv, hout⟩ := hI
  have C := law_C C0 hK hJ d0
  have hx := C0.1
  have hb := C0.2.1
  have hcs := hc_cs (by omega) hc
  have hop := hop pl tl M t (xs (4 * t + 1)) (xs (4 * t + 2)) (hc.imp (fun h => ⟨h.1, h.2.1⟩) (fun h => ⟨h.1, h.2.1⟩)) hInv (by omega)
  have l1 : ls[1]? = some (.val (.ref (ad 0))) := by rw [hax.1]; exact lv_at hl 1 rfl
  have l2 : ls[2]? = some (.val (.ref (ad 52))) := by rw [hax.2]; exact lv_at hl 2 rfl
  refine lv_aload_n (k := 1) (i := 1) hx hb d1 rfl l1 ?_
  refine l_arg' C0 S.2 hl h4 hL (by omega) rfl a1 ?_
  refine l_arg' C0 S.2 hl h4 hL (by omega) rfl b1 ?_
  refine l_call (as := [xs (4 * t + 1), xs (4 * t + 2)]) (rest := []) C S G1 hop rfl rfl hl.1 hcs (Nat.le_of_ble_eq_true rfl) d2 (fun v M1 H1 locs1 hq S1 hk1 hz1 => ?_)
  refine lv_aload_n (k := 2) (i := 2) hx hb d3 rfl l2 ?_
  refine l_arg' C0 S1.2 hl h4 hL (by omega) rfl a2 ?_
  refine l_arg' C0 S1.2 hl h4 hL (by omega) rfl b2 ?_
  refine l_call (as := [xs (4 * t + 1), xs (4 * t + 2)]) (rest := [.int v]) C S1 G2 hq rfl rfl hl.1 hcs (Nat.le_of_ble_eq_true rfl) d4 (fun v2 M2 H2 locs2 hq2 S2 hk2 hz2 => ?_)
  refine lv_icmp_eq (tgt := 1343) hx hb d5 ho (fun _ => kk d0 H2 locs2 kc ks ls hd0 ⟨pl, tl, ad, M2, hc_up hc, hJ, hne, hax, S2, hq2.2, (hout.kept hne hk1).kept hne hk2⟩ hl) (fun h => absurd hq2.1.symm h)
theorem vl_X10_sign : VOk m_X10_sign.1 m_X10_sign.2.1 m_X10_sign.2.2.1 m_X10_sign.2.2.2.1 1 10 := ⟨⟨_, _, rfl⟩, ⟨wd_436, wd_437, wd_88, wd_438⟩, ⟨by decide, by decide, by decide +kernel⟩⟩
theorem cl_19 : p_cv MT RL 19 2 10 1 := ⟨m_X10_sign, t_X10_sign, vl_X10_sign, wd_435, by decide⟩
theorem vl_X11_sign : VOk m_X11_sign.1 m_X11_sign.2.1 m_X11_sign.2.2.1 m_X11_sign.2.2.2.1 1 11 := ⟨⟨_, _, rfl⟩, ⟨wd_1234, wd_1235, wd_99, wd_1236⟩, ⟨by decide, by decide, by decide +kernel⟩⟩
theorem cl_23 : p_cv MT RL 23 138 11 1 := ⟨m_X11_sign, t_X11_sign, vl_X11_sign, wd_1233, by decide⟩
theorem ar_232 : ArmL 232 := arm1 (off := 1091) (fun pl tl M t x _ h ht => op_sign (d := 0) h ht) cl_19 cl_23 (by decide) (by decide +kernel) (by unfold dArg; decide +kernel) (by decide +kernel) (by decide +kernel) (by unfold dArg; decide +kernel) (by decide +kernel) (by decide +kernel)
theorem vl_X10_end : VOk m_X10_end.1 m_X10_end.2.1 m_X10_end.2.2.1 m_X10_end.2.2.2.1 1 10 := ⟨⟨_, _, rfl⟩, ⟨wd_444, wd_445, wd_88, wd_446⟩, ⟨by decide, by decide, by decide +kernel⟩⟩
theorem cl_24 : p_cv MT RL 24 3 10 1 := ⟨m_X10_end, t_X10_end, vl_X10_end, wd_443, by decide⟩
theorem vl_X11_end : VOk m_X11_end.1 m_X11_end.2.1 m_X11_end.2.2.1 m_X11_end.2.2.2.1 1 11 := ⟨⟨_, _, rfl⟩, ⟨wd_1238, wd_1239, wd_99, wd_1240⟩, ⟨by decide, by decide, by decide +kernel⟩⟩
theorem cl_28 : p_cv MT RL 28 139 11 1 := ⟨m_X11_end, t_X11_end, vl_X11_end, wd_1237, by decide⟩
theorem ar_257 : ArmL 257 := arm1 (off := 1066) (fun pl tl M t x _ h ht => op_end (d := 0) h ht) cl_24 cl_28 (by decide) (by decide +kernel) (by unfold dArg; decide +kernel) (by decide +kernel) (by decide +kernel) (by unfold dArg; decide +kernel) (by decide +kernel) (by decide +kernel)
theorem vl_X10_land : VOk m_X10_land.1 m_X10_land.2.1 m_X10_land.2.2.1 m_X10_land.2.2.2.1 0 10 := ⟨⟨_, _, rfl⟩, ⟨wd_452, wd_453, wd_88, wd_454⟩, ⟨by decide, by decide, by decide +kernel⟩⟩
theorem cl_29 : p_cv MT RL 29 4 10 0 := ⟨m_X10_land, t_X10_land, vl_X10_land, wd_451, by decide⟩
theorem vl_X11_land : VOk m_X11_land.1 m_X11_land.2.1 m_X11_land.2.2.1 m_X11_land.2.2.2.1 0 11 := ⟨⟨_, _, rfl⟩, ⟨wd_1245, wd_1246, wd_99, wd_1247⟩, ⟨by decide, by decide, by decide +kernel⟩⟩
theorem cl_33 : p_cv MT RL 33 153 11 0 := ⟨m_X11_land, t_X11_land, vl_X11_land, wd_1244, by decide⟩
theorem ar_282 : ArmL 282 := arm0 (off := 1053) (fun pl tl M t _ h ht => op_land (d := 0) h ht) cl_29 cl_33 (by decide) (by decide +kernel) (by decide +kernel) (by decide +kernel) (by decide +kernel) (by decide +kernel)
theorem vl_X10_reach : VOk m_X10_reach.1 m_X10_reach.2.1 m_X10_reach.2.2.1 m_X10_reach.2.2.2.1 1 10 := ⟨⟨_, _, rfl⟩, ⟨wd_549, wd_550, wd_88, wd_551⟩, ⟨by decide, by decide, by decide +kernel⟩⟩
theorem cl_34 : p_cv MT RL 34 5 10 1 := ⟨m_X10_reach, t_X10_reach, vl_X10_reach, wd_548, by decide⟩
theorem vl_X11_reach : VOk m_X11_reach.1 m_X11_reach.2.1 m_X11_reach.2.2.1 m_X11_reach.2.2.2.1 1 11 := ⟨⟨_, _, rfl⟩, ⟨wd_1293, wd_1294, wd_99, wd_1295⟩, ⟨by decide, by decide, by decide +kernel⟩⟩
theorem cl_37 : p_cv MT RL 37 155 11 1 := ⟨m_X11_reach, t_X11_reach, vl_X11_reach, wd_1292, by decide⟩
theorem ar_295 : ArmL 295 := arm1 (off := 1028) (fun pl tl M t x _ h ht => op_reach (d := 0) h ht) cl_34 cl_37 (by decide) (by decide +kernel) (by unfold dArg; decide +kernel) (by decide +kernel) (by decide +kernel) (by unfold dArg; decide +kernel) (by decide +kernel) (by decide +kernel)
theorem vl_X10_service : VOk m_X10_service.1 m_X10_service.2.1 m_X10_service.2.2.1 m_X10_service.2.2.2.1 1 10 := ⟨⟨_, _, rfl⟩, ⟨wd_553, wd_554, wd_88, wd_555⟩, ⟨by decide, by decide, by decide +kernel⟩⟩
theorem cl_38 : p_cv MT RL 38 6 10 1 := ⟨m_X10_service, t_X10_service, vl_X10_service, wd_552, by decide⟩
theorem vl_X11_service : VOk m_X11_service.1 m_X11_service.2.1 m_X11_service.2.2.1 m_X11_service.2.2.2.1 1 11 := ⟨⟨_, _, rfl⟩, ⟨wd_1301, wd_1302, wd_99, wd_1303⟩, ⟨by decide, by decide, by decide +kernel⟩⟩
theorem cl_41 : p_cv MT RL 41 156 11 1 := ⟨m_X11_service, t_X11_service, vl_X11_service, wd_1300, by decide⟩
theorem ar_320 : ArmL 320 := arm1 (off := 1003) (fun pl tl M t x _ h ht => op_service (d := 0) h ht) cl_38 cl_41 (by decide) (by decide +kernel) (by unfold dArg; decide +kernel) (by decide +kernel) (by decide +kernel) (by unfold dArg; decide +kernel) (by decide +kernel) (by decide +kernel)
theorem vl_X10_limit : VOk m_X10_limit.1 m_X10_limit.2.1 m_X10_limit.2.2.1 m_X10_limit.2.2.2.1 1 10 := ⟨⟨_, _, rfl⟩, ⟨wd_557, wd_558, wd_88, wd_559⟩, ⟨by decide, by decide, by decide +kernel⟩⟩
theorem cl_42 : p_cv MT RL 42 7 10 1 := ⟨m_X10_limit, t_X10_limit, vl_X10_limit, wd_556, by decide⟩
theorem vl_X11_limit : VOk m_X11_limit.1 m_X11_limit.2.1 m_X11_limit.2.2.1 m_X11_limit.2.2.2.1 1 11 := ⟨⟨_, _, rfl⟩, ⟨wd_1305, wd_1306, wd_99, wd_1307⟩, ⟨by decide, by decide, by decide +kernel⟩⟩
theorem cl_45 : p_cv MT RL 45 157 11 1 := ⟨m_X11_limit, t_X11_limit, vl_X11_limit, wd_1304, by decide⟩
theorem ar_345 : ArmL 345 := arm1 (off := 978) (fun pl tl M t x _ h ht => op_limit (d := 0) h ht) cl_42 cl_45 (by decide) (by decide +kernel) (by unfold dArg; decide +kernel) (by decide +kernel) (by decide +kernel) (by unfold dArg; decide +kernel) (by decide +kernel) (by decide +kernel)
theorem vl_X10_far : VOk m_X10_far.1 m_X10_far.2.1 m_X10_far.2.2.1 m_X10_far.2.2.2.1 2 10 := ⟨⟨_, _, rfl⟩, ⟨wd_572, wd_573, wd_88, wd_574⟩, ⟨by decide, by decide, by decide +kernel⟩⟩
theorem cl_51 : p_cv MT RL 51 9 10 2 := ⟨m_X10_far, t_X10_far, vl_X10_far, wd_571, by decide⟩
theorem vl_X11_far : VOk m_X11_far.1 m_X11_far.2.1 m_X11_far.2.2.1 m_X11_far.2.2.2.1 2 11 := ⟨⟨_, _, rfl⟩, ⟨wd_1325, wd_1326, wd_99, wd_1327⟩, ⟨by decide, by decide, by decide +kernel⟩⟩
theorem cl_55 : p_cv MT RL 55 164 11 2 := ⟨m_X11_far, t_X11_far, vl_X11_far, wd_1324, by decide⟩
theorem ar_435 : ArmL 435 := arm2 (off := 876) (fun pl tl M t x y _ h ht => op_far (d := 0) h ht) cl_51 cl_55 (by decide) (by decide +kernel) (by unfold dArg; decide +kernel) (by unfold dArg; decide +kernel) (by decide +kernel) (by decide +kernel) (by unfold dArg; decide +kernel) (by unfold dArg; decide +kernel) (by decide +kernel) (by decide +kernel)
theorem vl_X10_reached : VOk m_X10_reached.1 m_X10_reached.2.1 m_X10_reached.2.2.1 m_X10_reached.2.2.2.1 1 10 := ⟨⟨_, _, rfl⟩, ⟨wd_581, wd_582, wd_88, wd_583⟩, ⟨by decide, by decide, by decide +kernel⟩⟩
theorem cl_56 : p_cv MT RL 56 10 10 1 := ⟨m_X10_reached, t_X10_reached, vl_X10_reached, wd_580, by decide⟩
theorem vl_X11_reached : VOk m_X11_reached.1 m_X11_reached.2.1 m_X11_reached.2.2.1 m_X11_reached.2.2.2.1 1 11 := ⟨⟨_, _, rfl⟩, ⟨wd_1341, wd_1342, wd_99, wd_1343⟩, ⟨by decide, by decide, by decide +kernel⟩⟩
theorem cl_59 : p_cv MT RL 59 168 11 1 := ⟨m_X11_reached, t_X11_reached, vl_X11_reached, wd_1340, by decide⟩
theorem ar_472 : ArmL 472 := arm1 (off := 851) (fun pl tl M t x _ h ht => op_reached (d := 0) h ht) cl_56 cl_59 (by decide) (by decide +kernel) (by unfold dArg; decide +kernel) (by decide +kernel) (by decide +kernel) (by unfold dArg; decide +kernel) (by decide +kernel) (by decide +kernel)
theorem vl_X10_node : VOk m_X10_node.1 m_X10_node.2.1 m_X10_node.2.2.1 m_X10_node.2.2.2.1 2 10 := ⟨⟨_, _, rfl⟩, ⟨wd_617, wd_618, wd_88, wd_619⟩, ⟨by decide, by decide, by decide +kernel⟩⟩
theorem cl_60 : p_cv MT RL 60 11 10 2 := ⟨m_X10_node, t_X10_node, vl_X10_node, wd_616, by decide⟩
theorem vl_X11_node : VOk m_X11_node.1 m_X11_node.2.1 m_X11_node.2.2.1 m_X11_node.2.2.2.1 2 11 := ⟨⟨_, _, rfl⟩, ⟨wd_1361, wd_1362, wd_99, wd_1363⟩, ⟨by decide, by decide, by decide +kernel⟩⟩
theorem cl_63 : p_cv MT RL 63 173 11 2 := ⟨m_X11_node, t_X11_node, vl_X11_node, wd_1360, by decide⟩
theorem ar_497 : ArmL 497 := arm2 (off := 814) (fun pl tl M t x y _ h ht => op_node (d := 0) h ht) cl_60 cl_63 (by decide) (by decide +kernel) (by unfold dArg; decide +kernel) (by unfold dArg; decide +kernel) (by decide +kernel) (by decide +kernel) (by unfold dArg; decide +kernel) (by unfold dArg; decide +kernel) (by decide +kernel) (by decide +kernel)
theorem vl_X10_engine : VOk m_X10_engine.1 m_X10_engine.2.1 m_X10_engine.2.2.1 m_X10_engine.2.2.2.1 2 10 := ⟨⟨_, _, rfl⟩, ⟨wd_641, wd_642, wd_88, wd_643⟩, ⟨by decide, by decide, by decide +kernel⟩⟩
theorem cl_64 : p_cv MT RL 64 12 10 2 := ⟨m_X10_engine, t_X10_engine, vl_X10_engine, wd_640, by decide⟩
theorem vl_X11_engine : VOk m_X11_engine.1 m_X11_engine.2.1 m_X11_engine.2.2.1 m_X11_engine.2.2.2.1 2 11 := ⟨⟨_, _, rfl⟩, ⟨wd_1385, wd_1386, wd_99, wd_1387⟩, ⟨by decide, by decide, by decide +kernel⟩⟩
theorem cl_67 : p_cv MT RL 67 174 11 2 := ⟨m_X11_engine, t_X11_engine, vl_X11_engine, wd_1384, by decide⟩
theorem ar_534 : ArmL 534 := arm2 (off := 777) (fun pl tl M t x y _ h ht => op_engine (d := 0) h ht) cl_64 cl_67 (by decide) (by decide +kernel) (by unfold dArg; decide +kernel) (by unfold dArg; decide +kernel) (by decide +kernel) (by decide +kernel) (by unfold dArg; decide +kernel) (by unfold dArg; decide +kernel) (by decide +kernel) (by decide +kernel)
theorem vl_X10_station : VOk m_X10_station.1 m_X10_station.2.1 m_X10_station.2.2.1 m_X10_station.2.2.2.1 1 10 := ⟨⟨_, _, rfl⟩, ⟨wd_653, wd_654, wd_88, wd_655⟩, ⟨by decide, by decide, by decide +kernel⟩⟩
theorem cl_68 : p_cv MT RL 68 13 10 1 := ⟨m_X10_station, t_X10_station, vl_X10_station, wd_652, by decide⟩
theorem vl_X11_station : VOk m_X11_station.1 m_X11_station.2.1 m_X11_station.2.2.1 m_X11_station.2.2.2.1 1 11 := ⟨⟨_, _, rfl⟩, ⟨wd_1393, wd_1394, wd_99, wd_1395⟩, ⟨by decide, by decide, by decide +kernel⟩⟩
theorem cl_71 : p_cv MT RL 71 175 11 1 := ⟨m_X11_station, t_X11_station, vl_X11_station, wd_1392, by decide⟩
theorem ar_571 : ArmL 571 := arm1 (off := 752) (fun pl tl M t x _ h ht => op_station (d := 0) h ht) cl_68 cl_71 (by decide) (by decide +kernel) (by unfold dArg; decide +kernel) (by decide +kernel) (by decide +kernel) (by unfold dArg; decide +kernel) (by decide +kernel) (by decide +kernel)
theorem vl_X10_call : VOk m_X10_call.1 m_X10_call.2.1 m_X10_call.2.2.1 m_X10_call.2.2.2.1 1 10 := ⟨⟨_, _, rfl⟩, ⟨wd_658, wd_659, wd_88, wd_660⟩, ⟨by decide, by decide, by decide +kernel⟩⟩
theorem cl_72 : p_cv MT RL 72 14 10 1 := ⟨m_X10_call, t_X10_call, vl_X10_call, wd_657, by decide⟩
theorem vl_X11_call : VOk m_X11_call.1 m_X11_call.2.1 m_X11_call.2.2.1 m_X11_call.2.2.2.1 1 11 := ⟨⟨_, _, rfl⟩, ⟨wd_1397, wd_1398, wd_99, wd_1399⟩, ⟨by decide, by decide, by decide +kernel⟩⟩
theorem cl_75 : p_cv MT RL 75 177 11 1 := ⟨m_X11_call, t_X11_call, vl_X11_call, wd_1396, by decide⟩
theorem ar_596 : ArmL 596 := arm1 (off := 727) (fun pl tl M t x _ h ht => op_call (d := 0) h ht) cl_72 cl_75 (by decide) (by decide +kernel) (by unfold dArg; decide +kernel) (by decide +kernel) (by decide +kernel) (by unfold dArg; decide +kernel) (by decide +kernel) (by decide +kernel)
theorem vl_X10_pair : VOk m_X10_pair.1 m_X10_pair.2.1 m_X10_pair.2.2.1 m_X10_pair.2.2.2.1 2 10 := ⟨⟨_, _, rfl⟩, ⟨wd_676, wd_677, wd_88, wd_678⟩, ⟨by decide, by decide, by decide +kernel⟩⟩
theorem cl_76 : p_cv MT RL 76 15 10 2 := ⟨m_X10_pair, t_X10_pair, vl_X10_pair, wd_675, by decide⟩
theorem vl_X11_pair : VOk m_X11_pair.1 m_X11_pair.2.1 m_X11_pair.2.2.1 m_X11_pair.2.2.2.1 2 11 := ⟨⟨_, _, rfl⟩, ⟨wd_1405, wd_1406, wd_99, wd_1407⟩, ⟨by decide, by decide, by decide +kernel⟩⟩
theorem cl_79 : p_cv MT RL 79 180 11 2 := ⟨m_X11_pair, t_X11_pair, vl_X11_pair, wd_1404, by decide⟩
theorem ar_621 : ArmL 621 := arm2 (off := 690) (fun pl tl M t x y _ h ht => op_pair (d := 0) h ht) cl_76 cl_79 (by decide) (by decide +kernel) (by unfold dArg; decide +kernel) (by unfold dArg; decide +kernel) (by decide +kernel) (by decide +kernel) (by unfold dArg; decide +kernel) (by unfold dArg; decide +kernel) (by decide +kernel) (by decide +kernel)
theorem vl_X10_worstPair : VOk m_X10_worstPair.1 m_X10_worstPair.2.1 m_X10_worstPair.2.2.1 m_X10_worstPair.2.2.2.1 0 10 := ⟨⟨_, _, rfl⟩, ⟨wd_695, wd_696, wd_88, wd_697⟩, ⟨by decide, by decide, by decide +kernel⟩⟩
theorem cl_80 : p_cv MT RL 80 16 10 0 := ⟨m_X10_worstPair, t_X10_worstPair, vl_X10_worstPair, wd_694, by decide⟩
theorem vl_X11_worstPair : VOk m_X11_worstPair.1 m_X11_worstPair.2.1 m_X11_worstPair.2.2.1 m_X11_worstPair.2.2.2.1 0 11 := ⟨⟨_, _, rfl⟩, ⟨wd_1417, wd_1418, wd_99, wd_1419⟩, ⟨by decide, by decide, by decide +kernel⟩⟩
theorem cl_83 : p_cv MT RL 83 181 11 0 := ⟨m_X11_worstPair, t_X11_worstPair, vl_X11_worstPair, wd_1416, by decide⟩
theorem ar_658 : ArmL 658 := arm0 (off := 677) (fun pl tl M t _ h ht => op_worstPair (d := 0) h ht) cl_80 cl_83 (by decide) (by decide +kernel) (by decide +kernel) (by decide +kernel) (by decide +kernel) (by decide +kernel)
theorem vl_X10_pass : VOk m_X10_pass.1 m_X10_pass.2.1 m_X10_pass.2.2.1 m_X10_pass.2.2.2.1 1 10 := ⟨⟨_, _, rfl⟩, ⟨wd_699, wd_700, wd_88, wd_701⟩, ⟨by decide, by decide, by decide +kernel⟩⟩
theorem cl_84 : p_cv MT RL 84 17 10 1 := ⟨m_X10_pass, t_X10_pass, vl_X10_pass, wd_698, by decide⟩
theorem vl_X11_pass : VOk m_X11_pass.1 m_X11_pass.2.1 m_X11_pass.2.2.1 m_X11_pass.2.2.2.1 1 11 := ⟨⟨_, _, rfl⟩, ⟨wd_1421, wd_1422, wd_99, wd_1423⟩, ⟨by decide, by decide, by decide +kernel⟩⟩
theorem cl_87 : p_cv MT RL 87 183 11 1 := ⟨m_X11_pass, t_X11_pass, vl_X11_pass, wd_1420, by decide⟩
theorem ar_671 : ArmL 671 := arm1 (off := 652) (fun pl tl M t x _ h ht => op_pass (d := 0) h ht) cl_84 cl_87 (by decide) (by decide +kernel) (by unfold dArg; decide +kernel) (by decide +kernel) (by decide +kernel) (by unfold dArg; decide +kernel) (by decide +kernel) (by decide +kernel)
theorem vl_X10_seed : VOk m_X10_seed.1 m_X10_seed.2.1 m_X10_seed.2.2.1 m_X10_seed.2.2.2.1 1 10 := ⟨⟨_, _, rfl⟩, ⟨wd_707, wd_708, wd_88, wd_709⟩, ⟨by decide, by decide, by decide +kernel⟩⟩
theorem cl_88 : p_cv MT RL 88 18 10 1 := ⟨m_X10_seed, t_X10_seed, vl_X10_seed, wd_706, by decide⟩
theorem vl_X11_seed : VOk m_X11_seed.1 m_X11_seed.2.1 m_X11_seed.2.2.1 m_X11_seed.2.2.2.1 1 11 := ⟨⟨_, _, rfl⟩, ⟨wd_1430, wd_1431, wd_99, wd_1432⟩, ⟨by decide, by decide, by decide +kernel⟩⟩
theorem cl_91 : p_cv MT RL 91 184 11 1 := ⟨m_X11_seed, t_X11_seed, vl_X11_seed, wd_1429, by decide⟩
theorem ar_696 : ArmL 696 := arm1 (off := 627) (fun pl tl M t x _ h ht => op_seed (d := 0) h ht) cl_88 cl_91 (by decide) (by decide +kernel) (by unfold dArg; decide +kernel) (by decide +kernel) (by decide +kernel) (by unfold dArg; decide +kernel) (by decide +kernel) (by decide +kernel)
theorem vl_X10_storms : VOk m_X10_storms.1 m_X10_storms.2.1 m_X10_storms.2.2.1 m_X10_storms.2.2.2.1 2 10 := ⟨⟨_, _, rfl⟩, ⟨wd_711, wd_712, wd_88, wd_713⟩, ⟨by decide, by decide, by decide +kernel⟩⟩
theorem cl_92 : p_cv MT RL 92 19 10 2 := ⟨m_X10_storms, t_X10_storms, vl_X10_storms, wd_710, by decide⟩
theorem vl_X11_storms : VOk m_X11_storms.1 m_X11_storms.2.1 m_X11_storms.2.2.1 m_X11_storms.2.2.2.1 2 11 := ⟨⟨_, _, rfl⟩, ⟨wd_1434, wd_1435, wd_99, wd_1436⟩, ⟨by decide, by decide, by decide +kernel⟩⟩
theorem cl_95 : p_cv MT RL 95 188 11 2 := ⟨m_X11_storms, t_X11_storms, vl_X11_storms, wd_1433, by decide⟩
theorem ar_721 : ArmL 721 := arm2 (off := 590) (fun pl tl M t x y _ h ht => op_storms (d := 0) h ht) cl_92 cl_95 (by decide) (by decide +kernel) (by unfold dArg; decide +kernel) (by unfold dArg; decide +kernel) (by decide +kernel) (by decide +kernel) (by unfold dArg; decide +kernel) (by unfold dArg; decide +kernel) (by decide +kernel) (by decide +kernel)
theorem vl_X10_cover : VOk m_X10_cover.1 m_X10_cover.2.1 m_X10_cover.2.2.1 m_X10_cover.2.2.2.1 0 10 := ⟨⟨_, _, rfl⟩, ⟨wd_727, wd_728, wd_88, wd_729⟩, ⟨by decide, by decide, by decide +kernel⟩⟩
theorem cl_96 : p_cv MT RL 96 20 10 0 := ⟨m_X10_cover, t_X10_cover, vl_X10_cover, wd_726, by decide⟩
theorem vl_X11_cover : VOk m_X11_cover.1 m_X11_cover.2.1 m_X11_cover.2.2.1 m_X11_cover.2.2.2.1 0 11 := ⟨⟨_, _, rfl⟩, ⟨wd_1452, wd_1453, wd_99, wd_1454⟩, ⟨by decide, by decide, by decide +kernel⟩⟩
theorem cl_99 : p_cv MT RL 99 191 11 0 := ⟨m_X11_cover, t_X11_cover, vl_X11_cover, wd_1451, by decide⟩
theorem ar_758 : ArmL 758 := arm0 (off := 577) (fun pl tl M t _ h ht => op_cover (d := 0) h ht) cl_96 cl_99 (by decide) (by decide +kernel) (by decide +kernel) (by decide +kernel) (by decide +kernel) (by decide +kernel)
theorem vl_X10_covers : VOk m_X10_covers.1 m_X10_covers.2.1 m_X10_covers.2.2.1 m_X10_covers.2.2.2.1 1 10 := ⟨⟨_, _, rfl⟩, ⟨wd_756, wd_757, wd_88, wd_758⟩, ⟨by decide, by decide, by decide +kernel⟩⟩
theorem cl_100 : p_cv MT RL 100 21 10 1 := ⟨m_X10_covers, t_X10_covers, vl_X10_covers, wd_755, by decide⟩
theorem vl_X11_covers : VOk m_X11_covers.1 m_X11_covers.2.1 m_X11_covers.2.2.1 m_X11_covers.2.2.2.1 1 11 := ⟨⟨_, _, rfl⟩, ⟨wd_1464, wd_1465, wd_99, wd_1466⟩, ⟨by decide, by decide, by decide +kernel⟩⟩
theorem cl_103 : p_cv MT RL 103 195 11 1 := ⟨m_X11_covers, t_X11_covers, vl_X11_covers, wd_1463, by decide⟩
theorem ar_771 : ArmL 771 := arm1 (off := 552) (fun pl tl M t x _ h ht => op_covers (d := 0) h ht) cl_100 cl_103 (by decide) (by decide +kernel) (by unfold dArg; decide +kernel) (by decide +kernel) (by decide +kernel) (by unfold dArg; decide +kernel) (by decide +kernel) (by decide +kernel)
theorem vl_X10_best : VOk m_X10_best.1 m_X10_best.2.1 m_X10_best.2.2.1 m_X10_best.2.2.2.1 1 10 := ⟨⟨_, _, rfl⟩, ⟨wd_774, wd_775, wd_88, wd_776⟩, ⟨by decide, by decide, by decide +kernel⟩⟩
theorem cl_108 : p_cv MT RL 108 23 10 1 := ⟨m_X10_best, t_X10_best, vl_X10_best, wd_773, by decide⟩
theorem vl_X11_best : VOk m_X11_best.1 m_X11_best.2.1 m_X11_best.2.2.1 m_X11_best.2.2.2.1 1 11 := ⟨⟨_, _, rfl⟩, ⟨wd_1490, wd_1491, wd_99, wd_1492⟩, ⟨by decide, by decide, by decide +kernel⟩⟩
theorem cl_111 : p_cv MT RL 111 197 11 1 := ⟨m_X11_best, t_X11_best, vl_X11_best, wd_1489, by decide⟩
theorem ar_809 : ArmL 809 := arm1 (off := 514) (fun pl tl M t x _ h ht => op_best (d := 0) h ht) cl_108 cl_111 (by decide) (by decide +kernel) (by unfold dArg; decide +kernel) (by decide +kernel) (by decide +kernel) (by unfold dArg; decide +kernel) (by decide +kernel) (by decide +kernel)
theorem vl_X10_nested : VOk m_X10_nested.1 m_X10_nested.2.1 m_X10_nested.2.2.1 m_X10_nested.2.2.2.1 0 10 := ⟨⟨_, _, rfl⟩, ⟨wd_791, wd_792, wd_88, wd_793⟩, ⟨by decide, by decide, by decide +kernel⟩⟩
theorem cl_112 : p_cv MT RL 112 24 10 0 := ⟨m_X10_nested, t_X10_nested, vl_X10_nested, wd_790, by decide⟩
theorem vl_X11_nested : VOk m_X11_nested.1 m_X11_nested.2.1 m_X11_nested.2.2.1 m_X11_nested.2.2.2.1 0 11 := ⟨⟨_, _, rfl⟩, ⟨wd_1517, wd_1518, wd_99, wd_1519⟩, ⟨by decide, by decide, by decide +kernel⟩⟩
theorem cl_115 : p_cv MT RL 115 201 11 0 := ⟨m_X11_nested, t_X11_nested, vl_X11_nested, wd_1516, by decide⟩
theorem ar_834 : ArmL 834 := arm0 (off := 501) (fun pl tl M t _ h ht => op_nested (d := 0) h ht) cl_112 cl_115 (by decide) (by decide +kernel) (by decide +kernel) (by decide +kernel) (by decide +kernel) (by decide +kernel)
theorem vl_X10_greedy : VOk m_X10_greedy.1 m_X10_greedy.2.1 m_X10_greedy.2.2.1 m_X10_greedy.2.2.2.1 0 10 := ⟨⟨_, _, rfl⟩, ⟨wd_796, wd_797, wd_88, wd_798⟩, ⟨by decide, by decide, by decide +kernel⟩⟩
theorem cl_116 : p_cv MT RL 116 25 10 0 := ⟨m_X10_greedy, t_X10_greedy, vl_X10_greedy, wd_795, by decide⟩
theorem vl_X11_greedy : VOk m_X11_greedy.1 m_X11_greedy.2.1 m_X11_greedy.2.2.1 m_X11_greedy.2.2.2.1 0 11 := ⟨⟨_, _, rfl⟩, ⟨wd_1521, wd_1522, wd_99, wd_1523⟩, ⟨by decide, by decide, by decide +kernel⟩⟩
theorem cl_119 : p_cv MT RL 119 202 11 0 := ⟨m_X11_greedy, t_X11_greedy, vl_X11_greedy, wd_1520, by decide⟩
theorem ar_847 : ArmL 847 := arm0 (off := 488) (fun pl tl M t _ h ht => op_greedy (d := 0) h ht) cl_116 cl_119 (by decide) (by decide +kernel) (by decide +kernel) (by decide +kernel) (by decide +kernel) (by decide +kernel)
theorem vl_X10_dearest : VOk m_X10_dearest.1 m_X10_dearest.2.1 m_X10_dearest.2.2.1 m_X10_dearest.2.2.2.1 0 10 := ⟨⟨_, _, rfl⟩, ⟨wd_809, wd_810, wd_88, wd_811⟩, ⟨by decide, by decide, by decide +kernel⟩⟩
theorem cl_120 : p_cv MT RL 120 26 10 0 := ⟨m_X10_dearest, t_X10_dearest, vl_X10_dearest, wd_808, by decide⟩
theorem vl_X11_dearest : VOk m_X11_dearest.1 m_X11_dearest.2.1 m_X11_dearest.2.2.1 m_X11_dearest.2.2.2.1 0 11 := ⟨⟨_, _, rfl⟩, ⟨wd_1525, wd_1526, wd_99, wd_1527⟩, ⟨by decide, by decide, by decide +kernel⟩⟩
theorem cl_123 : p_cv MT RL 123 204 11 0 := ⟨m_X11_dearest, t_X11_dearest, vl_X11_dearest, wd_1524, by decide⟩
theorem ar_860 : ArmL 860 := arm0 (off := 475) (fun pl tl M t _ h ht => op_dearest (d := 0) h ht) cl_120 cl_123 (by decide) (by decide +kernel) (by decide +kernel) (by decide +kernel) (by decide +kernel) (by decide +kernel)
theorem vl_X10_dearestRoad : VOk m_X10_dearestRoad.1 m_X10_dearestRoad.2.1 m_X10_dearestRoad.2.2.1 m_X10_dearestRoad.2.2.2.1 0 10 := ⟨⟨_, _, rfl⟩, ⟨wd_817, wd_818, wd_88, wd_819⟩, ⟨by decide, by decide, by decide +kernel⟩⟩
theorem cl_124 : p_cv MT RL 124 27 10 0 := ⟨m_X10_dearestRoad, t_X10_dearestRoad, vl_X10_dearestRoad, wd_816, by decide⟩
theorem vl_X11_dearestRoad : VOk m_X11_dearestRoad.1 m_X11_dearestRoad.2.1 m_X11_dearestRoad.2.2.1 m_X11_dearestRoad.2.2.2.1 0 11 := ⟨⟨_, _, rfl⟩, ⟨wd_1533, wd_1534, wd_99, wd_1535⟩, ⟨by decide, by decide, by decide +kernel⟩⟩
theorem cl_127 : p_cv MT RL 127 205 11 0 := ⟨m_X11_dearestRoad, t_X11_dearestRoad, vl_X11_dearestRoad, wd_1532, by decide⟩
theorem ar_873 : ArmL 873 := arm0 (off := 462) (fun pl tl M t _ h ht => op_dearestRoad (d := 0) h ht) cl_124 cl_127 (by decide) (by decide +kernel) (by decide +kernel) (by decide +kernel) (by decide +kernel) (by decide +kernel)
theorem vl_X10_least : VOk m_X10_least.1 m_X10_least.2.1 m_X10_least.2.2.1 m_X10_least.2.2.2.1 1 10 := ⟨⟨_, _, rfl⟩, ⟨wd_822, wd_823, wd_88, wd_824⟩, ⟨by decide, by decide, by decide +kernel⟩⟩
theorem cl_128 : p_cv MT RL 128 28 10 1 := ⟨m_X10_least, t_X10_least, vl_X10_least, wd_821, by decide⟩
theorem vl_X11_least : VOk m_X11_least.1 m_X11_least.2.1 m_X11_least.2.2.1 m_X11_least.2.2.2.1 1 11 := ⟨⟨_, _, rfl⟩, ⟨wd_1509, wd_1510, wd_99, wd_1511⟩, ⟨by decide, by decide, by decide +kernel⟩⟩
theorem cl_131 : p_cv MT RL 131 199 11 1 := ⟨m_X11_least, t_X11_least, vl_X11_least, wd_1508, by decide⟩
theorem ar_886 : ArmL 886 := arm1 (off := 437) (fun pl tl M t x _ h ht => op_least (d := 0) h ht) cl_128 cl_131 (by decide) (by decide +kernel) (by unfold dArg; decide +kernel) (by decide +kernel) (by decide +kernel) (by unfold dArg; decide +kernel) (by decide +kernel) (by decide +kernel)
theorem vl_X10_twice : VOk m_X10_twice.1 m_X10_twice.2.1 m_X10_twice.2.2.1 m_X10_twice.2.2.2.1 1 10 := ⟨⟨_, _, rfl⟩, ⟨wd_826, wd_827, wd_88, wd_828⟩, ⟨by decide, by decide, by decide +kernel⟩⟩
theorem cl_132 : p_cv MT RL 132 29 10 1 := ⟨m_X10_twice, t_X10_twice, vl_X10_twice, wd_825, by decide⟩
theorem vl_X11_twice : VOk m_X11_twice.1 m_X11_twice.2.1 m_X11_twice.2.2.1 m_X11_twice.2.2.2.1 1 11 := ⟨⟨_, _, rfl⟩, ⟨wd_1505, wd_1506, wd_99, wd_1507⟩, ⟨by decide, by decide, by decide +kernel⟩⟩
theorem cl_135 : p_cv MT RL 135 198 11 1 := ⟨m_X11_twice, t_X11_twice, vl_X11_twice, wd_1504, by decide⟩
theorem ar_911 : ArmL 911 := arm1 (off := 412) (fun pl tl M t x _ h ht => op_twice (d := 0) h ht) cl_132 cl_135 (by decide) (by decide +kernel) (by unfold dArg; decide +kernel) (by decide +kernel) (by decide +kernel) (by unfold dArg; decide +kernel) (by decide +kernel) (by decide +kernel)
theorem vl_X10_spread : VOk m_X10_spread.1 m_X10_spread.2.1 m_X10_spread.2.2.1 m_X10_spread.2.2.2.1 0 10 := ⟨⟨_, _, rfl⟩, ⟨wd_830, wd_831, wd_88, wd_832⟩, ⟨by decide, by decide, by decide +kernel⟩⟩
theorem cl_136 : p_cv MT RL 136 30 10 0 := ⟨m_X10_spread, t_X10_spread, vl_X10_spread, wd_829, by decide⟩
theorem vl_X11_spread : VOk m_X11_spread.1 m_X11_spread.2.1 m_X11_spread.2.2.1 m_X11_spread.2.2.2.1 0 11 := ⟨⟨_, _, rfl⟩, ⟨wd_1513, wd_1514, wd_99, wd_1515⟩, ⟨by decide, by decide, by decide +kernel⟩⟩
theorem cl_139 : p_cv MT RL 139 200 11 0 := ⟨m_X11_spread, t_X11_spread, vl_X11_spread, wd_1512, by decide⟩
theorem ar_936 : ArmL 936 := arm0 (off := 399) (fun pl tl M t _ h ht => op_spread (d := 0) h ht) cl_136 cl_139 (by decide) (by decide +kernel) (by decide +kernel) (by decide +kernel) (by decide +kernel) (by decide +kernel)
theorem vl_X10_state : VOk m_X10_state.1 m_X10_state.2.1 m_X10_state.2.2.1 m_X10_state.2.2.2.1 1 10 := ⟨⟨_, _, rfl⟩, ⟨wd_839, wd_840, wd_88, wd_841⟩, ⟨by decide, by decide, by decide +kernel⟩⟩
theorem cl_140 : p_cv MT RL 140 31 10 1 := ⟨m_X10_state, t_X10_state, vl_X10_state, wd_838, by decide⟩
theorem vl_X11_state : VOk m_X11_state.1 m_X11_state.2.1 m_X11_state.2.2.1 m_X11_state.2.2.2.1 1 11 := ⟨⟨_, _, rfl⟩, ⟨wd_1537, wd_1538, wd_99, wd_1539⟩, ⟨by decide, by decide, by decide +kernel⟩⟩
theorem cl_143 : p_cv MT RL 143 208 11 1 := ⟨m_X11_state, t_X11_state, vl_X11_state, wd_1536, by decide⟩
theorem ar_949 : ArmL 949 := arm1 (off := 374) (fun pl tl M t x _ h ht => op_state (d := 0) h ht) cl_140 cl_143 (by decide) (by decide +kernel) (by unfold dArg; decide +kernel) (by decide +kernel) (by decide +kernel) (by unfold dArg; decide +kernel) (by decide +kernel) (by decide +kernel)
theorem vl_X10_worst : VOk m_X10_worst.1 m_X10_worst.2.1 m_X10_worst.2.2.1 m_X10_worst.2.2.2.1 1 10 := ⟨⟨_, _, rfl⟩, ⟨wd_847, wd_848, wd_88, wd_849⟩, ⟨by decide, by decide, by decide +kernel⟩⟩
theorem cl_144 : p_cv MT RL 144 32 10 1 := ⟨m_X10_worst, t_X10_worst, vl_X10_worst, wd_846, by decide⟩
theorem vl_X11_worst : VOk m_X11_worst.1 m_X11_worst.2.1 m_X11_worst.2.2.1 m_X11_worst.2.2.2.1 1 11 := ⟨⟨_, _, rfl⟩, ⟨wd_1549, wd_1550, wd_99, wd_1551⟩, ⟨by decide, by decide, by decide +kernel⟩⟩
theorem cl_147 : p_cv MT RL 147 209 11 1 := ⟨m_X11_worst, t_X11_worst, vl_X11_worst, wd_1548, by decide⟩
theorem ar_974 : ArmL 974 := arm1 (off := 349) (fun pl tl M t x _ h ht => op_worst (d := 0) h ht) cl_144 cl_147 (by decide) (by decide +kernel) (by unfold dArg; decide +kernel) (by decide +kernel) (by decide +kernel) (by unfold dArg; decide +kernel) (by decide +kernel) (by decide +kernel)
theorem vl_X10_states : VOk m_X10_states.1 m_X10_states.2.1 m_X10_states.2.2.1 m_X10_states.2.2.2.1 1 10 := ⟨⟨_, _, rfl⟩, ⟨wd_852, wd_853, wd_88, wd_854⟩, ⟨by decide, by decide, by decide +kernel⟩⟩
theorem cl_148 : p_cv MT RL 148 33 10 1 := ⟨m_X10_states, t_X10_states, vl_X10_states, wd_851, by decide⟩
theorem vl_X11_states : VOk m_X11_states.1 m_X11_states.2.1 m_X11_states.2.2.1 m_X11_states.2.2.2.1 1 11 := ⟨⟨_, _, rfl⟩, ⟨wd_1553, wd_1554, wd_99, wd_1555⟩, ⟨by decide, by decide, by decide +kernel⟩⟩
theorem cl_151 : p_cv MT RL 151 210 11 1 := ⟨m_X11_states, t_X11_states, vl_X11_states, wd_1552, by decide⟩
theorem ar_999 : ArmL 999 := arm1 (off := 324) (fun pl tl M t x _ h ht => op_states (d := 0) h ht) cl_148 cl_151 (by decide) (by decide +kernel) (by unfold dArg; decide +kernel) (by decide +kernel) (by decide +kernel) (by unfold dArg; decide +kernel) (by decide +kernel) (by decide +kernel)
theorem vl_X10_expects : VOk m_X10_expects.1 m_X10_expects.2.1 m_X10_expects.2.2.1 m_X10_expects.2.2.2.1 1 10 := ⟨⟨_, _, rfl⟩, ⟨wd_860, wd_861, wd_88, wd_862⟩, ⟨by decide, by decide, by decide +kernel⟩⟩
theorem cl_152 : p_cv MT RL 152 34 10 1 := ⟨m_X10_expects, t_X10_expects, vl_X10_expects, wd_859, by decide⟩
theorem vl_X11_expects : VOk m_X11_expects.1 m_X11_expects.2.1 m_X11_expects.2.2.1 m_X11_expects.2.2.2.1 1 11 := ⟨⟨_, _, rfl⟩, ⟨wd_1557, wd_1558, wd_99, wd_1559⟩, ⟨by decide, by decide, by decide +kernel⟩⟩
theorem cl_155 : p_cv MT RL 155 213 11 1 := ⟨m_X11_expects, t_X11_expects, vl_X11_expects, wd_1556, by decide⟩
theorem ar_1024 : ArmL 1024 := arm1 (off := 299) (fun pl tl M t x _ h ht => op_expects (d := 0) h ht) cl_152 cl_155 (by decide) (by decide +kernel) (by unfold dArg; decide +kernel) (by decide +kernel) (by decide +kernel) (by unfold dArg; decide +kernel) (by decide +kernel) (by decide +kernel)
theorem vl_X10_bestFor : VOk m_X10_bestFor.1 m_X10_bestFor.2.1 m_X10_bestFor.2.2.1 m_X10_bestFor.2.2.2.1 1 10 := ⟨⟨_, _, rfl⟩, ⟨wd_880, wd_881, wd_88, wd_882⟩, ⟨by decide, by decide, by decide +kernel⟩⟩
theorem cl_156 : p_cv MT RL 156 35 10 1 := ⟨m_X10_bestFor, t_X10_bestFor, vl_X10_bestFor, wd_879, by decide⟩
theorem vl_X11_bestFor : VOk m_X11_bestFor.1 m_X11_bestFor.2.1 m_X11_bestFor.2.2.1 m_X11_bestFor.2.2.2.1 1 11 := ⟨⟨_, _, rfl⟩, ⟨wd_1569, wd_1570, wd_99, wd_1571⟩, ⟨by decide, by decide, by decide +kernel⟩⟩
theorem cl_159 : p_cv MT RL 159 217 11 1 := ⟨m_X11_bestFor, t_X11_bestFor, vl_X11_bestFor, wd_1568, by decide⟩
theorem ar_1049 : ArmL 1049 := arm1 (off := 274) (fun pl tl M t x _ h ht => op_bestFor (d := 0) h ht) cl_156 cl_159 (by decide) (by decide +kernel) (by unfold dArg; decide +kernel) (by decide +kernel) (by decide +kernel) (by unfold dArg; decide +kernel) (by decide +kernel) (by decide +kernel)
theorem vl_X10_regret : VOk m_X10_regret.1 m_X10_regret.2.1 m_X10_regret.2.2.1 m_X10_regret.2.2.2.1 0 10 := ⟨⟨_, _, rfl⟩, ⟨wd_896, wd_897, wd_88, wd_898⟩, ⟨by decide, by decide, by decide +kernel⟩⟩
theorem cl_160 : p_cv MT RL 160 36 10 0 := ⟨m_X10_regret, t_X10_regret, vl_X10_regret, wd_895, by decide⟩
theorem vl_X11_regret : VOk m_X11_regret.1 m_X11_regret.2.1 m_X11_regret.2.2.1 m_X11_regret.2.2.2.1 0 11 := ⟨⟨_, _, rfl⟩, ⟨wd_1585, wd_1586, wd_99, wd_1587⟩, ⟨by decide, by decide, by decide +kernel⟩⟩
theorem cl_163 : p_cv MT RL 163 219 11 0 := ⟨m_X11_regret, t_X11_regret, vl_X11_regret, wd_1584, by decide⟩
theorem ar_1074 : ArmL 1074 := arm0 (off := 261) (fun pl tl M t _ h ht => op_regret (d := 0) h ht) cl_160 cl_163 (by decide) (by decide +kernel) (by decide +kernel) (by decide +kernel) (by decide +kernel) (by decide +kernel)
theorem vl_X10_moves : VOk m_X10_moves.1 m_X10_moves.2.1 m_X10_moves.2.2.1 m_X10_moves.2.2.2.1 1 10 := ⟨⟨_, _, rfl⟩, ⟨wd_905, wd_906, wd_88, wd_907⟩, ⟨by decide, by decide, by decide +kernel⟩⟩
theorem cl_164 : p_cv MT RL 164 37 10 1 := ⟨m_X10_moves, t_X10_moves, vl_X10_moves, wd_904, by decide⟩
theorem vl_X11_moves : VOk m_X11_moves.1 m_X11_moves.2.1 m_X11_moves.2.2.1 m_X11_moves.2.2.2.1 1 11 := ⟨⟨_, _, rfl⟩, ⟨wd_1593, wd_1594, wd_99, wd_1595⟩, ⟨by decide, by decide, by decide +kernel⟩⟩
theorem cl_167 : p_cv MT RL 167 223 11 1 := ⟨m_X11_moves, t_X11_moves, vl_X11_moves, wd_1592, by decide⟩
theorem vl_X10_up : VOk m_X10_up.1 m_X10_up.2.1 m_X10_up.2.2.1 m_X10_up.2.2.2.1 1 10 := ⟨⟨_, _, rfl⟩, ⟨wd_995, wd_996, wd_88, wd_997⟩, ⟨by decide, by decide, by decide +kernel⟩⟩
theorem cl_168 : p_cv MT RL 168 38 10 1 := ⟨m_X10_up, t_X10_up, vl_X10_up, wd_994, by decide⟩
theorem vl_X11_up : VOk m_X11_up.1 m_X11_up.2.1 m_X11_up.2.2.1 m_X11_up.2.2.2.1 1 11 := ⟨⟨_, _, rfl⟩, ⟨wd_1610, wd_1611, wd_99, wd_1612⟩, ⟨by decide, by decide, by decide +kernel⟩⟩
theorem cl_171 : p_cv MT RL 171 227 11 1 := ⟨m_X11_up, t_X11_up, vl_X11_up, wd_1609, by decide⟩
theorem vl_X10_post : VOk m_X10_post.1 m_X10_post.2.1 m_X10_post.2.2.1 m_X10_post.2.2.2.1 2 10 := ⟨⟨_, _, rfl⟩, ⟨wd_1018, wd_1019, wd_88, wd_1020⟩, ⟨by decide, by decide, by decide +kernel⟩⟩
theorem cl_172 : p_cv MT RL 172 39 10 2 := ⟨m_X10_post, t_X10_post, vl_X10_post, wd_1017, by decide⟩
theorem vl_X11_post : VOk m_X11_post.1 m_X11_post.2.1 m_X11_post.2.2.1 m_X11_post.2.2.2.1 2 11 := ⟨⟨_, _, rfl⟩, ⟨wd_1626, wd_1627, wd_99, wd_1628⟩, ⟨by decide, by decide, by decide +kernel⟩⟩
theorem cl_175 : p_cv MT RL 175 228 11 2 := ⟨m_X11_post, t_X11_post, vl_X11_post, wd_1625, by decide⟩
theorem ar_1137 : ArmL 1137 := arm2 (off := 174) (fun pl tl M t x y _ h ht => op_post (d := 0) h ht) cl_172 cl_175 (by decide) (by decide +kernel) (by unfold dArg; decide +kernel) (by unfold dArg; decide +kernel) (by decide +kernel) (by decide +kernel) (by unfold dArg; decide +kernel) (by unfold dArg; decide +kernel) (by decide +kernel) (by decide +kernel)
theorem vl_X10_swap : VOk m_X10_swap.1 m_X10_swap.2.1 m_X10_swap.2.2.1 m_X10_swap.2.2.2.1 2 10 := ⟨⟨_, _, rfl⟩, ⟨wd_1023, wd_1024, wd_88, wd_1025⟩, ⟨by decide, by decide, by decide +kernel⟩⟩
theorem cl_176 : p_cv MT RL 176 40 10 2 := ⟨m_X10_swap, t_X10_swap, vl_X10_swap, wd_1022, by decide⟩
theorem vl_X11_swap : VOk m_X11_swap.1 m_X11_swap.2.1 m_X11_swap.2.2.1 m_X11_swap.2.2.2.1 2 11 := ⟨⟨_, _, rfl⟩, ⟨wd_1630, wd_1631, wd_99, wd_1632⟩, ⟨by decide, by decide, by decide +kernel⟩⟩
theorem cl_179 : p_cv MT RL 179 229 11 2 := ⟨m_X11_swap, t_X11_swap, vl_X11_swap, wd_1629, by decide⟩
theorem ar_1174 : ArmL 1174 := arm2 (off := 137) (fun pl tl M t x y _ h ht => op_swap (d := 0) h ht) cl_176 cl_179 (by decide) (by decide +kernel) (by unfold dArg; decide +kernel) (by unfold dArg; decide +kernel) (by decide +kernel) (by decide +kernel) (by unfold dArg; decide +kernel) (by unfold dArg; decide +kernel) (by decide +kernel) (by decide +kernel)
theorem vl_X10_left : VOk m_X10_left.1 m_X10_left.2.1 m_X10_left.2.2.1 m_X10_left.2.2.2.1 0 10 := ⟨⟨_, _, rfl⟩, ⟨wd_1027, wd_1028, wd_88, wd_1029⟩, ⟨by decide, by decide, by decide +kernel⟩⟩
theorem cl_180 : p_cv MT RL 180 41 10 0 := ⟨m_X10_left, t_X10_left, vl_X10_left, wd_1026, by decide⟩
theorem vl_X11_left : VOk m_X11_left.1 m_X11_left.2.1 m_X11_left.2.2.1 m_X11_left.2.2.2.1 0 11 := ⟨⟨_, _, rfl⟩, ⟨wd_1634, wd_1635, wd_99, wd_1636⟩, ⟨by decide, by decide, by decide +kernel⟩⟩
theorem cl_183 : p_cv MT RL 183 230 11 0 := ⟨m_X11_left, t_X11_left, vl_X11_left, wd_1633, by decide⟩
theorem ar_1211 : ArmL 1211 := arm0 (off := 124) (fun pl tl M t _ h ht => op_left (d := 0) h ht) cl_180 cl_183 (by decide) (by decide +kernel) (by decide +kernel) (by decide +kernel) (by decide +kernel) (by decide +kernel)
theorem vl_X10_needs : VOk m_X10_needs.1 m_X10_needs.2.1 m_X10_needs.2.2.1 m_X10_needs.2.2.2.1 0 10 := ⟨⟨_, _, rfl⟩, ⟨wd_1035, wd_1036, wd_88, wd_1037⟩, ⟨by decide, by decide, by decide +kernel⟩⟩
theorem cl_184 : p_cv MT RL 184 42 10 0 := ⟨m_X10_needs, t_X10_needs, vl_X10_needs, wd_1034, by decide⟩
theorem vl_X11_needs : VOk m_X11_needs.1 m_X11_needs.2.1 m_X11_needs.2.2.1 m_X11_needs.2.2.2.1 0 11 := ⟨⟨_, _, rfl⟩, ⟨wd_1638, wd_1639, wd_99, wd_1640⟩, ⟨by decide, by decide, by decide +kernel⟩⟩
theorem cl_187 : p_cv MT RL 187 231 11 0 := ⟨m_X11_needs, t_X11_needs, vl_X11_needs, wd_1637, by decide⟩
theorem vl_X10_keeps : VOk m_X10_keeps.1 m_X10_keeps.2.1 m_X10_keeps.2.2.1 m_X10_keeps.2.2.2.1 0 10 := ⟨⟨_, _, rfl⟩, ⟨wd_1039, wd_1040, wd_88, wd_1041⟩, ⟨by decide, by decide, by decide +kernel⟩⟩
theorem cl_188 : p_cv MT RL 188 43 10 0 := ⟨m_X10_keeps, t_X10_keeps, vl_X10_keeps, wd_1038, by decide⟩
theorem vl_X11_keeps : VOk m_X11_keeps.1 m_X11_keeps.2.1 m_X11_keeps.2.2.1 m_X11_keeps.2.2.2.1 0 11 := ⟨⟨_, _, rfl⟩, ⟨wd_1642, wd_1643, wd_99, wd_1644⟩, ⟨by decide, by decide, by decide +kernel⟩⟩
theorem cl_191 : p_cv MT RL 191 232 11 0 := ⟨m_X11_keeps, t_X11_keeps, vl_X11_keeps, wd_1641, by decide⟩
theorem ar_1237 : ArmL 1237 := arm0 (off := 98) (fun pl tl M t _ h ht => op_keeps (d := 0) h ht) cl_188 cl_191 (by decide) (by decide +kernel) (by decide +kernel) (by decide +kernel) (by decide +kernel) (by decide +kernel)
theorem vl_X10_back : VOk m_X10_back.1 m_X10_back.2.1 m_X10_back.2.2.1 m_X10_back.2.2.2.1 0 10 := ⟨⟨_, _, rfl⟩, ⟨wd_1052, wd_1053, wd_88, wd_1054⟩, ⟨by decide, by decide, by decide +kernel⟩⟩
theorem cl_192 : p_cv MT RL 192 44 10 0 := ⟨m_X10_back, t_X10_back, vl_X10_back, wd_1051, by decide⟩
theorem vl_X11_back : VOk m_X11_back.1 m_X11_back.2.1 m_X11_back.2.2.1 m_X11_back.2.2.2.1 0 11 := ⟨⟨_, _, rfl⟩, ⟨wd_1646, wd_1647, wd_99, wd_1648⟩, ⟨by decide, by decide, by decide +kernel⟩⟩
theorem cl_195 : p_cv MT RL 195 233 11 0 := ⟨m_X11_back, t_X11_back, vl_X11_back, wd_1645, by decide⟩
theorem ar_1250 : ArmL 1250 := arm0 (off := 85) (fun pl tl M t _ h ht => op_back (d := 0) h ht) cl_192 cl_195 (by decide) (by decide +kernel) (by decide +kernel) (by decide +kernel) (by decide +kernel) (by decide +kernel)
theorem vl_X10_count : VOk m_X10_count.1 m_X10_count.2.1 m_X10_count.2.2.1 m_X10_count.2.2.2.1 1 10 := ⟨⟨_, _, rfl⟩, ⟨wd_1056, wd_1057, wd_88, wd_1058⟩, ⟨by decide, by decide, by decide +kernel⟩⟩
theorem cl_196 : p_cv MT RL 196 45 10 1 := ⟨m_X10_count, t_X10_count, vl_X10_count, wd_1055, by decide⟩
theorem vl_X11_count : VOk m_X11_count.1 m_X11_count.2.1 m_X11_count.2.2.1 m_X11_count.2.2.2.1 1 11 := ⟨⟨_, _, rfl⟩, ⟨wd_1650, wd_1651, wd_99, wd_1652⟩, ⟨by decide, by decide, by decide +kernel⟩⟩
theorem cl_199 : p_cv MT RL 199 235 11 1 := ⟨m_X11_count, t_X11_count, vl_X11_count, wd_1649, by decide⟩
theorem ar_1263 : ArmL 1263 := arm1 (off := 60) (fun pl tl M t x _ h ht => op_count (d := 0) h ht) cl_196 cl_199 (by decide) (by decide +kernel) (by unfold dArg; decide +kernel) (by decide +kernel) (by decide +kernel) (by unfold dArg; decide +kernel) (by decide +kernel) (by decide +kernel)
