/-! THE CONSTRUCTORS (by program: gen/ctor.py) -/
section S75
variable {p : Program} {l : Launch} {e : Env} {R : Room} {s : State} {m : MethodId} {args : Array Value} {below : List Frame} {meth : Method} {c : Code} {H : Heap} {locs : List Loc} {kc ks : Nat} {Q : State → Prop}
variable {own : String} {cc : ByteArray} {nL : Nat} {D : va_G} {cT : Nat → ClassId} {lay : List LC} {M : Mem} {pc : Nat} {ls : Array Slot}
variable {o : Nat} {k idx ci : Nat} {Cn : String} {T : u_T} {N : Nat} {ty0 : Nat → FieldType} {fks : List FK}
/-- a field is set to null, where it is null -/
theorem k_nul (C : Bx p s m args meth c own cc nL none D cT (oa o) [] (oA o)) (hl : lv_has ls nL [(0, .ref o)]) (S : ST D cT (oa o) lay (oA o) s M H locs) (F : KFd own ci k idx Cn T N ty0) (hfin : (T k).2.2.2 = false) (hi : lay[0]? = some (.inr (ci, fks))) (hk : fks[k]? = some (some none)) (hn : narrow (ty0 k) .null = .null) (hfit : fits (ty0 k) .null = true) (d1 : decode cc pc = .ok (.aload_n 0, 1)) (d2 : decode cc (pc + 1) = .ok (.aconst_null, 1)) (d4 : decode cc (pc + 2) = .ok (.putfield idx, 3))
    (kk : ∀ (H : Heap) (locs : List Loc), ST D cT (oa o) lay (oA o) s M H locs → W p l e R s m args below meth c H locs kc ks Q (F0 m (pc + 5) ls [])) : W p l e R s m args below meth c H locs kc ks Q (F0 m pc ls []) := by
  obtain ⟨hc, hin, hty0, hnm, hkN, hlink, hown0⟩ := F
  have hJ := oJ o lay
  obtain ⟨⟨⟨hx, hb, hml, hown, hts⟩, hK, -⟩, hr, hlk⟩ := C
  refine lv_aload_n hx hb d1 rfl (lv_at hl 0 rfl) (lv_null hx hb d2 ?_)
  have hll : k < (fks.mapIdx (fun k fk => fv (oa o) M 0 k fk)).length := by rw [List.length_mapIdx]; exact (List.getElem?_eq_some_iff.mp hk).1
  have eW : (cw cT (oa o) lay M).set 0 (oa o 0, .inr (ci, (fks.mapIdx (fun k fk => fv (oa o) M 0 k fk)).set k .null)) = cw cT (oa o) lay M := by
    refine cw_set hi (fun _ _ => rfl) (fun _ _ => rfl) ?_
    show (Sum.inr (ci, (fks.mapIdx (fun k fk => fv (oa o) M 0 k fk)).set k .null) : va_E) = Sum.inr (ci, fks.mapIdx (fun k fk => fv (oa o) M 0 k fk))
    congr 2
    apply List.ext_getElem?
    intro j
    by_cases hj : j = k
    · subst hj
      rw [List.getElem?_set_self hll, List.getElem?_mapIdx, hk]
      rfl
    · rw [List.getElem?_set_ne (Ne.symm hj)]
  exact va_put (ci := ci) (v := .null) hx hb hts hin ty0 hty0 hnm hown hK.1 S.1 (aj_D hJ) S.2 0 (cw_at hi) hc k hkN (hts _ hlink) (fun _ h => h) hfin (hty0 k hkN) hn hfit hll d4 (fun H1 locs1 hP hD hS => kk H1 locs1 ⟨by unfold HM; rw [← eW]; exact hP, hS⟩)
end S75
theorem kf_X6_0 : KFd RX6 6 0 11 RX6 TX6 2 tyX6 := ⟨rfl, uw_X6, tyX6_ok, nmX6, by decide, wd_124, rfl⟩
theorem kf_X6_1 : KFd RX6 6 1 15 RX6 TX6 2 tyX6 := ⟨rfl, uw_X6, tyX6_ok, nmX6, by decide, wd_126, rfl⟩
theorem kc_X6 : KC yX6_init cX6_init 1 2 128 1 13 6 [some none, none] [.inr (6, [some (some 1), none]), .inl (1, 13)] (Zm) := by
  refine kbody (by decide) (by decide) rfl ?_
  intro l D cT o p e s m args below meth c ls C hm hl hz S
  have hx := C.1.1.1
  have hb := C.1.1.2.1
  refine lv_aload_n (k := 0) (i := 0) hx hb (by decide +kernel) rfl (lv_at hl 0 rfl) ?_
  refine xq_obj C hl.1 wd_123 wd_116 wd_117 (by decide +kernel) (Nat.le_of_ble_eq_true rfl) (Nat.le_of_ble_eq_true rfl) ?_
  refine k_arr (pc := 4) (q := 2) (t := 1) (n := 13) (atype := .long) (lay' := [.inr (6, [some (some 1), none]), .inl (1, 13)]) C hm hl hz S rfl kf_X6_0 rfl (Nat.le_of_ble_eq_true rfl) (fun _ => rfl) (fun _ => rfl) (Nat.le_of_ble_eq_true rfl) rfl wd_133 (Nat.le_of_ble_eq_true rfl) (Nat.le_of_ble_eq_true rfl) (Nat.le_of_ble_eq_true rfl) (Nat.le_of_ble_eq_true rfl) (by decide +kernel) (fun h => lv_bipush (n := 13) hx hb (by decide +kernel) rfl h) (by decide +kernel) (by decide +kernel) rfl rfl rfl (fun H locs S => ?_)
  refine k_int (pc := 12) (q := 1) (v := (0)) (M' := Zm) C hl S kf_X6_1 rfl rfl rfl rfl rfl (by decide +kernel) (fun h => lv_iconst (n := 0) hx hb (by decide +kernel) rfl h) (by decide +kernel) (si_id rfl) (fun H locs S => ?_)
  exact k_ret C S (by decide +kernel)
theorem kf_X8_0 : KFd RX8 8 0 9 RX8 TX8 2 tyX8 := ⟨rfl, uw_X8, tyX8_ok, nmX8, by decide, wd_146, rfl⟩
theorem kf_X8_1 : KFd RX8 8 1 15 RX8 TX8 2 tyX8 := ⟨rfl, uw_X8, tyX8_ok, nmX8, by decide, wd_147, rfl⟩
theorem kc_X8 : KC yX8_init cX8_init 1 2 128 1 300 8 [some none, none] [.inr (8, [some (some 1), none]), .inl (0, 300)] (Zm) := by
  refine kbody (by decide) (by decide) rfl ?_
  intro l D cT o p e s m args below meth c ls C hm hl hz S
  have hx := C.1.1.1
  have hb := C.1.1.2.1
  refine lv_aload_n (k := 0) (i := 0) hx hb (by decide +kernel) rfl (lv_at hl 0 rfl) ?_
  refine xq_obj C hl.1 wd_145 wd_116 wd_117 (by decide +kernel) (Nat.le_of_ble_eq_true rfl) (Nat.le_of_ble_eq_true rfl) ?_
  refine k_arr (pc := 4) (q := 3) (t := 0) (n := 300) (atype := .int) (lay' := [.inr (8, [some (some 1), none]), .inl (0, 300)]) C hm hl hz S rfl kf_X8_0 rfl (Nat.le_of_ble_eq_true rfl) (fun _ => rfl) (fun _ => rfl) (Nat.le_of_ble_eq_true rfl) rfl wd_155 (Nat.le_of_ble_eq_true rfl) (Nat.le_of_ble_eq_true rfl) (Nat.le_of_ble_eq_true rfl) (Nat.le_of_ble_eq_true rfl) (by decide +kernel) (fun h => lv_sipush (n := 300) hx hb (by decide +kernel) rfl h) (by decide +kernel) (by decide +kernel) rfl rfl rfl (fun H locs S => ?_)
  refine k_int (pc := 13) (q := 1) (v := (0)) (M' := Zm) C hl S kf_X8_1 rfl rfl rfl rfl rfl (by decide +kernel) (fun h => lv_iconst (n := 0) hx hb (by decide +kernel) rfl h) (by decide +kernel) (si_id rfl) (fun H locs S => ?_)
  exact k_ret C S (by decide +kernel)
theorem kf_X2_0 : KFd RX2 2 0 9 RX2 TX2 12 tyX2 := ⟨rfl, uw_X2, tyX2_ok, nmX2, by decide, wd_250, rfl⟩
theorem kf_X2_1 : KFd RX2 2 1 15 RX2 TX2 12 tyX2 := ⟨rfl, uw_X2, tyX2_ok, nmX2, by decide, wd_256, rfl⟩
theorem kf_X2_2 : KFd RX2 2 2 18 RX2 TX2 12 tyX2 := ⟨rfl, uw_X2, tyX2_ok, nmX2, by decide, wd_261, rfl⟩
theorem kf_X2_3 : KFd RX2 2 3 21 RX2 TX2 12 tyX2 := ⟨rfl, uw_X2, tyX2_ok, nmX2, by decide, wd_262, rfl⟩
theorem kf_X2_4 : KFd RX2 2 4 24 RX2 TX2 12 tyX2 := ⟨rfl, uw_X2, tyX2_ok, nmX2, by decide, wd_263, rfl⟩
theorem kf_X2_5 : KFd RX2 2 5 28 RX2 TX2 12 tyX2 := ⟨rfl, uw_X2, tyX2_ok, nmX2, by decide, wd_270, rfl⟩
theorem kf_X2_6 : KFd RX2 2 6 31 RX2 TX2 12 tyX2 := ⟨rfl, uw_X2, tyX2_ok, nmX2, by decide, wd_271, rfl⟩
theorem kf_X2_7 : KFd RX2 2 7 34 RX2 TX2 12 tyX2 := ⟨rfl, uw_X2, tyX2_ok, nmX2, by decide, wd_273, rfl⟩
theorem kf_X2_8 : KFd RX2 2 8 37 RX2 TX2 12 tyX2 := ⟨rfl, uw_X2, tyX2_ok, nmX2, by decide, wd_276, rfl⟩
theorem kf_X2_9 : KFd RX2 2 9 40 RX2 TX2 12 tyX2 := ⟨rfl, uw_X2, tyX2_ok, nmX2, by decide, wd_279, rfl⟩
theorem kf_X2_10 : KFd RX2 2 10 43 RX2 TX2 12 tyX2 := ⟨rfl, uw_X2, tyX2_ok, nmX2, by decide, wd_282, rfl⟩
theorem kf_X2_11 : KFd RX2 2 11 46 RX2 TX2 12 tyX2 := ⟨rfl, uw_X2, tyX2_ok, nmX2, by decide, wd_284, rfl⟩
theorem kc_X2 : KC yX2_init cX2_init 1 2 128 4 38 2 [some none, some none, some none, some none, none, none, none, none, none, none, none, none] [.inr (2, [some (some 1), some (some 2), some (some 3), some (some 4), none, none, none, none, none, none, none, none]), .inl (0, 6), .inl (0, 6), .inl (0, 6), .inl (0, 20)] (Zm) := by
  refine kbody (by decide) (by decide) rfl ?_
  intro l D cT o p e s m args below meth c ls C hm hl hz S
  have hx := C.1.1.1
  have hb := C.1.1.2.1
  refine lv_aload_n (k := 0) (i := 0) hx hb (by decide +kernel) rfl (lv_at hl 0 rfl) ?_
  refine xq_obj C hl.1 wd_249 wd_116 wd_117 (by decide +kernel) (Nat.le_of_ble_eq_true rfl) (Nat.le_of_ble_eq_true rfl) ?_
  refine k_arr (pc := 4) (q := 2) (t := 0) (n := 6) (atype := .int) (lay' := [.inr (2, [some (some 1), some none, some none, some none, none, none, none, none, none, none, none, none]), .inl (0, 6)]) C hm hl hz S rfl kf_X2_0 rfl (Nat.le_of_ble_eq_true rfl) (fun _ => rfl) (fun _ => rfl) (Nat.le_of_ble_eq_true rfl) rfl wd_155 (Nat.le_of_ble_eq_true rfl) (Nat.le_of_ble_eq_true rfl) (Nat.le_of_ble_eq_true rfl) (Nat.le_of_ble_eq_true rfl) (by decide +kernel) (fun h => lv_bipush (n := 6) hx hb (by decide +kernel) rfl h) (by decide +kernel) (by decide +kernel) rfl rfl rfl (fun H locs S => ?_)
  refine k_arr (pc := 12) (q := 2) (t := 0) (n := 6) (atype := .int) (lay' := [.inr (2, [some (some 1), some (some 2), some none, some none, none, none, none, none, none, none, none, none]), .inl (0, 6), .inl (0, 6)]) C hm hl hz S rfl kf_X2_1 rfl (Nat.le_of_ble_eq_true rfl) (fun _ => rfl) (fun _ => rfl) (Nat.le_of_ble_eq_true rfl) rfl wd_155 (Nat.le_of_ble_eq_true rfl) (Nat.le_of_ble_eq_true rfl) (Nat.le_of_ble_eq_true rfl) (Nat.le_of_ble_eq_true rfl) (by decide +kernel) (fun h => lv_bipush (n := 6) hx hb (by decide +kernel) rfl h) (by decide +kernel) (by decide +kernel) rfl rfl rfl (fun H locs S => ?_)
  refine k_arr (pc := 20) (q := 2) (t := 0) (n := 6) (atype := .int) (lay' := [.inr (2, [some (some 1), some (some 2), some (some 3), some none, none, none, none, none, none, none, none, none]), .inl (0, 6), .inl (0, 6), .inl (0, 6)]) C hm hl hz S rfl kf_X2_2 rfl (Nat.le_of_ble_eq_true rfl) (fun _ => rfl) (fun _ => rfl) (Nat.le_of_ble_eq_true rfl) rfl wd_155 (Nat.le_of_ble_eq_true rfl) (Nat.le_of_ble_eq_true rfl) (Nat.le_of_ble_eq_true rfl) (Nat.le_of_ble_eq_true rfl) (by decide +kernel) (fun h => lv_bipush (n := 6) hx hb (by decide +kernel) rfl h) (by decide +kernel) (by decide +kernel) rfl rfl rfl (fun H locs S => ?_)
  refine k_arr (pc := 28) (q := 2) (t := 0) (n := 20) (atype := .int) (lay' := [.inr (2, [some (some 1), some (some 2), some (some 3), some (some 4), none, none, none, none, none, none, none, none]), .inl (0, 6), .inl (0, 6), .inl (0, 6), .inl (0, 20)]) C hm hl hz S rfl kf_X2_3 rfl (Nat.le_of_ble_eq_true rfl) (fun _ => rfl) (fun _ => rfl) (Nat.le_of_ble_eq_true rfl) rfl wd_155 (Nat.le_of_ble_eq_true rfl) (Nat.le_of_ble_eq_true rfl) (Nat.le_of_ble_eq_true rfl) (Nat.le_of_ble_eq_true rfl) (by decide +kernel) (fun h => lv_bipush (n := 20) hx hb (by decide +kernel) rfl h) (by decide +kernel) (by decide +kernel) rfl rfl rfl (fun H locs S => ?_)
  refine k_int (pc := 36) (q := 1) (v := (0)) (M' := Zm) C hl S kf_X2_4 rfl rfl rfl rfl rfl (by decide +kernel) (fun h => lv_iconst (n := 0) hx hb (by decide +kernel) rfl h) (by decide +kernel) (si_id rfl) (fun H locs S => ?_)
  refine k_int (pc := 41) (q := 1) (v := (0)) (M' := Zm) C hl S kf_X2_5 rfl rfl rfl rfl rfl (by decide +kernel) (fun h => lv_iconst (n := 0) hx hb (by decide +kernel) rfl h) (by decide +kernel) (si_id rfl) (fun H locs S => ?_)
  refine k_int (pc := 46) (q := 1) (v := (0)) (M' := Zm) C hl S kf_X2_6 rfl rfl rfl rfl rfl (by decide +kernel) (fun h => lv_iconst (n := 0) hx hb (by decide +kernel) rfl h) (by decide +kernel) (si_id rfl) (fun H locs S => ?_)
  refine k_int (pc := 51) (q := 1) (v := (0)) (M' := Zm) C hl S kf_X2_7 rfl rfl rfl rfl rfl (by decide +kernel) (fun h => lv_iconst (n := 0) hx hb (by decide +kernel) rfl h) (by decide +kernel) (si_id rfl) (fun H locs S => ?_)
  refine k_int (pc := 56) (q := 1) (v := (0)) (M' := Zm) C hl S kf_X2_8 rfl rfl rfl rfl rfl (by decide +kernel) (fun h => lv_iconst (n := 0) hx hb (by decide +kernel) rfl h) (by decide +kernel) (si_id rfl) (fun H locs S => ?_)
  refine k_int (pc := 61) (q := 1) (v := (0)) (M' := Zm) C hl S kf_X2_9 rfl rfl rfl rfl rfl (by decide +kernel) (fun h => lv_iconst (n := 0) hx hb (by decide +kernel) rfl h) (by decide +kernel) (si_id rfl) (fun H locs S => ?_)
  refine k_int (pc := 66) (q := 1) (v := (0)) (M' := Zm) C hl S kf_X2_10 rfl rfl rfl rfl rfl (by decide +kernel) (fun h => lv_iconst (n := 0) hx hb (by decide +kernel) rfl h) (by decide +kernel) (si_id rfl) (fun H locs S => ?_)
  refine k_int (pc := 71) (q := 1) (v := (0)) (M' := Zm) C hl S kf_X2_11 rfl rfl rfl rfl rfl (by decide +kernel) (fun h => lv_iconst (n := 0) hx hb (by decide +kernel) rfl h) (by decide +kernel) (si_id rfl) (fun H locs S => ?_)
  exact k_ret C S (by decide +kernel)
theorem kf_X7_0 : KFd RX7 7 0 9 RX7 TX7 4 tyX7 := ⟨rfl, uw_X7, tyX7_ok, nmX7, by decide, wd_347, rfl⟩
theorem kf_X7_1 : KFd RX7 7 1 15 RX7 TX7 4 tyX7 := ⟨rfl, uw_X7, tyX7_ok, nmX7, by decide, wd_350, rfl⟩
theorem kf_X7_2 : KFd RX7 7 2 18 RX7 TX7 4 tyX7 := ⟨rfl, uw_X7, tyX7_ok, nmX7, by decide, wd_352, rfl⟩
theorem kf_X7_3 : KFd RX7 7 3 22 RX7 TX7 4 tyX7 := ⟨rfl, uw_X7, tyX7_ok, nmX7, by decide, wd_354, rfl⟩
theorem kc_X7 : KC yX7_init cX7_init 1 2 128 2 152 7 [some none, some none, none, none] [.inr (7, [some (some 1), some (some 2), none, none]), .inl (0, 8), .inl (0, 144)] (Zm) := by
  refine kbody (by decide) (by decide) rfl ?_
  intro l D cT o p e s m args below meth c ls C hm hl hz S
  have hx := C.1.1.1
  have hb := C.1.1.2.1
  refine lv_aload_n (k := 0) (i := 0) hx hb (by decide +kernel) rfl (lv_at hl 0 rfl) ?_
  refine xq_obj C hl.1 wd_346 wd_116 wd_117 (by decide +kernel) (Nat.le_of_ble_eq_true rfl) (Nat.le_of_ble_eq_true rfl) ?_
  refine k_arr (pc := 4) (q := 2) (t := 0) (n := 8) (atype := .int) (lay' := [.inr (7, [some (some 1), some none, none, none]), .inl (0, 8)]) C hm hl hz S rfl kf_X7_0 rfl (Nat.le_of_ble_eq_true rfl) (fun _ => rfl) (fun _ => rfl) (Nat.le_of_ble_eq_true rfl) rfl wd_155 (Nat.le_of_ble_eq_true rfl) (Nat.le_of_ble_eq_true rfl) (Nat.le_of_ble_eq_true rfl) (Nat.le_of_ble_eq_true rfl) (by decide +kernel) (fun h => lv_bipush (n := 8) hx hb (by decide +kernel) rfl h) (by decide +kernel) (by decide +kernel) rfl rfl rfl (fun H locs S => ?_)
  refine k_arr (pc := 12) (q := 3) (t := 0) (n := 144) (atype := .int) (lay' := [.inr (7, [some (some 1), some (some 2), none, none]), .inl (0, 8), .inl (0, 144)]) C hm hl hz S rfl kf_X7_1 rfl (Nat.le_of_ble_eq_true rfl) (fun _ => rfl) (fun _ => rfl) (Nat.le_of_ble_eq_true rfl) rfl wd_155 (Nat.le_of_ble_eq_true rfl) (Nat.le_of_ble_eq_true rfl) (Nat.le_of_ble_eq_true rfl) (Nat.le_of_ble_eq_true rfl) (by decide +kernel) (fun h => lv_sipush (n := 144) hx hb (by decide +kernel) rfl h) (by decide +kernel) (by decide +kernel) rfl rfl rfl (fun H locs S => ?_)
  refine k_int (pc := 21) (q := 1) (v := (0)) (M' := Zm) C hl S kf_X7_2 rfl rfl rfl rfl rfl (by decide +kernel) (fun h => lv_iconst (n := 0) hx hb (by decide +kernel) rfl h) (by decide +kernel) (si_id rfl) (fun H locs S => ?_)
  refine k_int (pc := 26) (q := 1) (v := (0)) (M' := Zm) C hl S kf_X7_3 rfl rfl rfl rfl rfl (by decide +kernel) (fun h => lv_iconst (n := 0) hx hb (by decide +kernel) rfl h) (by decide +kernel) (si_id rfl) (fun H locs S => ?_)
  exact k_ret C S (by decide +kernel)
theorem kf_X1_0 : KFd RX1 1 0 9 RX1 TX1 4 tyX1 := ⟨rfl, uw_X1, tyX1_ok, nmX1, by decide, wd_370, rfl⟩
theorem kf_X1_1 : KFd RX1 1 1 15 RX1 TX1 4 tyX1 := ⟨rfl, uw_X1, tyX1_ok, nmX1, by decide, wd_372, rfl⟩
theorem kf_X1_2 : KFd RX1 1 2 18 RX1 TX1 4 tyX1 := ⟨rfl, uw_X1, tyX1_ok, nmX1, by decide, wd_374, rfl⟩
theorem kf_X1_3 : KFd RX1 1 3 21 RX1 TX1 4 tyX1 := ⟨rfl, uw_X1, tyX1_ok, nmX1, by decide, wd_376, rfl⟩
def MK_X1 : Mem := si (si (Zm) 0 0 (-1)) 0 1 (-1)
theorem kc_X1 : KC yX1_init cX1_init 1 2 128 0 0 1 [none, none, none, none] [.inr (1, [none, none, none, none])] (MK_X1) := by
  refine kbody (by decide) (by decide) rfl ?_
  intro l D cT o p e s m args below meth c ls C hm hl hz S
  have hx := C.1.1.1
  have hb := C.1.1.2.1
  refine lv_aload_n (k := 0) (i := 0) hx hb (by decide +kernel) rfl (lv_at hl 0 rfl) ?_
  refine xq_obj C hl.1 wd_369 wd_116 wd_117 (by decide +kernel) (Nat.le_of_ble_eq_true rfl) (Nat.le_of_ble_eq_true rfl) ?_
  refine k_int (pc := 4) (q := 1) (v := (-1)) (M' := si (Zm) 0 0 (-1)) C hl S kf_X1_0 rfl rfl rfl rfl rfl (by decide +kernel) (fun h => lv_iconst (n := -1) (v := (-1)) hx hb (by decide +kernel) (by decide) h) (by decide +kernel) rfl (fun H locs S => ?_)
  refine k_int (pc := 9) (q := 1) (v := (-1)) (M' := si (si (Zm) 0 0 (-1)) 0 1 (-1)) C hl S kf_X1_1 rfl rfl rfl rfl rfl (by decide +kernel) (fun h => lv_iconst (n := -1) (v := (-1)) hx hb (by decide +kernel) (by decide) h) (by decide +kernel) rfl (fun H locs S => ?_)
  refine k_int (pc := 14) (q := 1) (v := (0)) (M' := si (si (Zm) 0 0 (-1)) 0 1 (-1)) C hl S kf_X1_2 rfl rfl rfl rfl rfl (by decide +kernel) (fun h => lv_iconst (n := 0) hx hb (by decide +kernel) rfl h) (by decide +kernel) (si_id rfl) (fun H locs S => ?_)
  refine k_int (pc := 19) (q := 1) (v := (0)) (M' := si (si (Zm) 0 0 (-1)) 0 1 (-1)) C hl S kf_X1_3 rfl rfl rfl rfl rfl (by decide +kernel) (fun h => lv_iconst (n := 0) hx hb (by decide +kernel) rfl h) (by decide +kernel) (si_id rfl) (fun H locs S => ?_)
  exact k_ret C S (by decide +kernel)
theorem kf_X0_0 : KFd RX0 0 0 9 RX0 TX0 4 tyX0 := ⟨rfl, uw_X0, tyX0_ok, nmX0, by decide, wd_393, rfl⟩
theorem kf_X0_1 : KFd RX0 0 1 15 RX0 TX0 4 tyX0 := ⟨rfl, uw_X0, tyX0_ok, nmX0, by decide, wd_395, rfl⟩
theorem kf_X0_2 : KFd RX0 0 2 18 RX0 TX0 4 tyX0 := ⟨rfl, uw_X0, tyX0_ok, nmX0, by decide, wd_396, rfl⟩
theorem kf_X0_3 : KFd RX0 0 3 21 RX0 TX0 4 tyX0 := ⟨rfl, uw_X0, tyX0_ok, nmX0, by decide, wd_397, rfl⟩
theorem kc_X0 : KC yX0_init cX0_init 1 2 128 4 27 0 [some none, some none, some none, some none] [.inr (0, [some (some 1), some (some 2), some (some 3), some (some 4)]), .inl (0, 6), .inl (0, 6), .inl (0, 7), .inl (1, 8)] (Zm) := by
  refine kbody (by decide) (by decide) rfl ?_
  intro l D cT o p e s m args below meth c ls C hm hl hz S
  have hx := C.1.1.1
  have hb := C.1.1.2.1
  refine lv_aload_n (k := 0) (i := 0) hx hb (by decide +kernel) rfl (lv_at hl 0 rfl) ?_
  refine xq_obj C hl.1 wd_392 wd_116 wd_117 (by decide +kernel) (Nat.le_of_ble_eq_true rfl) (Nat.le_of_ble_eq_true rfl) ?_
  refine k_arr (pc := 4) (q := 2) (t := 0) (n := 6) (atype := .int) (lay' := [.inr (0, [some (some 1), some none, some none, some none]), .inl (0, 6)]) C hm hl hz S rfl kf_X0_0 rfl (Nat.le_of_ble_eq_true rfl) (fun _ => rfl) (fun _ => rfl) (Nat.le_of_ble_eq_true rfl) rfl wd_155 (Nat.le_of_ble_eq_true rfl) (Nat.le_of_ble_eq_true rfl) (Nat.le_of_ble_eq_true rfl) (Nat.le_of_ble_eq_true rfl) (by decide +kernel) (fun h => lv_bipush (n := 6) hx hb (by decide +kernel) rfl h) (by decide +kernel) (by decide +kernel) rfl rfl rfl (fun H locs S => ?_)
  refine k_arr (pc := 12) (q := 2) (t := 0) (n := 6) (atype := .int) (lay' := [.inr (0, [some (some 1), some (some 2), some none, some none]), .inl (0, 6), .inl (0, 6)]) C hm hl hz S rfl kf_X0_1 rfl (Nat.le_of_ble_eq_true rfl) (fun _ => rfl) (fun _ => rfl) (Nat.le_of_ble_eq_true rfl) rfl wd_155 (Nat.le_of_ble_eq_true rfl) (Nat.le_of_ble_eq_true rfl) (Nat.le_of_ble_eq_true rfl) (Nat.le_of_ble_eq_true rfl) (by decide +kernel) (fun h => lv_bipush (n := 6) hx hb (by decide +kernel) rfl h) (by decide +kernel) (by decide +kernel) rfl rfl rfl (fun H locs S => ?_)
  refine k_arr (pc := 20) (q := 2) (t := 0) (n := 7) (atype := .int) (lay' := [.inr (0, [some (some 1), some (some 2), some (some 3), some none]), .inl (0, 6), .inl (0, 6), .inl (0, 7)]) C hm hl hz S rfl kf_X0_2 rfl (Nat.le_of_ble_eq_true rfl) (fun _ => rfl) (fun _ => rfl) (Nat.le_of_ble_eq_true rfl) rfl wd_155 (Nat.le_of_ble_eq_true rfl) (Nat.le_of_ble_eq_true rfl) (Nat.le_of_ble_eq_true rfl) (Nat.le_of_ble_eq_true rfl) (by decide +kernel) (fun h => lv_bipush (n := 7) hx hb (by decide +kernel) rfl h) (by decide +kernel) (by decide +kernel) rfl rfl rfl (fun H locs S => ?_)
  refine k_arr (pc := 28) (q := 2) (t := 1) (n := 8) (atype := .long) (lay' := [.inr (0, [some (some 1), some (some 2), some (some 3), some (some 4)]), .inl (0, 6), .inl (0, 6), .inl (0, 7), .inl (1, 8)]) C hm hl hz S rfl kf_X0_3 rfl (Nat.le_of_ble_eq_true rfl) (fun _ => rfl) (fun _ => rfl) (Nat.le_of_ble_eq_true rfl) rfl wd_133 (Nat.le_of_ble_eq_true rfl) (Nat.le_of_ble_eq_true rfl) (Nat.le_of_ble_eq_true rfl) (Nat.le_of_ble_eq_true rfl) (by decide +kernel) (fun h => lv_bipush (n := 8) hx hb (by decide +kernel) rfl h) (by decide +kernel) (by decide +kernel) rfl rfl rfl (fun H locs S => ?_)
  exact k_ret C S (by decide +kernel)
theorem kf_X4_0 : KFd RX4 4 0 9 RX4 TX4 9 tyX4 := ⟨rfl, uw_X4, tyX4_ok, nmX4, by decide, wd_918, rfl⟩
theorem kf_X4_1 : KFd RX4 4 1 15 RX4 TX4 9 tyX4 := ⟨rfl, uw_X4, tyX4_ok, nmX4, by decide, wd_920, rfl⟩
theorem kf_X4_2 : KFd RX4 4 2 18 RX4 TX4 9 tyX4 := ⟨rfl, uw_X4, tyX4_ok, nmX4, by decide, wd_922, rfl⟩
theorem kf_X4_3 : KFd RX4 4 3 21 RX4 TX4 9 tyX4 := ⟨rfl, uw_X4, tyX4_ok, nmX4, by decide, wd_924, rfl⟩
theorem kf_X4_4 : KFd RX4 4 4 25 RX4 TX4 9 tyX4 := ⟨rfl, uw_X4, tyX4_ok, nmX4, by decide, wd_926, rfl⟩
theorem kf_X4_5 : KFd RX4 4 5 28 RX4 TX4 9 tyX4 := ⟨rfl, uw_X4, tyX4_ok, nmX4, by decide, wd_928, rfl⟩
theorem kf_X4_6 : KFd RX4 4 6 31 RX4 TX4 9 tyX4 := ⟨rfl, uw_X4, tyX4_ok, nmX4, by decide, wd_930, rfl⟩
theorem kf_X4_7 : KFd RX4 4 7 34 RX4 TX4 9 tyX4 := ⟨rfl, uw_X4, tyX4_ok, nmX4, by decide, wd_931, rfl⟩
theorem kf_X4_8 : KFd RX4 4 8 37 RX4 TX4 9 tyX4 := ⟨rfl, uw_X4, tyX4_ok, nmX4, by decide, wd_932, rfl⟩
theorem kc_X4 : KC yX4_init cX4_init 1 2 128 5 7234 4 [some none, some none, some none, none, none, none, some none, some none, none] [.inr (4, [some (some 1), some (some 2), some (some 3), none, none, none, some (some 4), some (some 5), none]), .inl (0, 6), .inl (0, 6), .inl (0, 6), .inl (0, 48), .inl (0, 7168)] (Zm) := by
  refine kbody (by decide) (by decide) rfl ?_
  intro l D cT o p e s m args below meth c ls C hm hl hz S
  have hx := C.1.1.1
  have hb := C.1.1.2.1
  refine lv_aload_n (k := 0) (i := 0) hx hb (by decide +kernel) rfl (lv_at hl 0 rfl) ?_
  refine xq_obj C hl.1 wd_917 wd_116 wd_117 (by decide +kernel) (Nat.le_of_ble_eq_true rfl) (Nat.le_of_ble_eq_true rfl) ?_
  refine k_arr (pc := 4) (q := 2) (t := 0) (n := 6) (atype := .int) (lay' := [.inr (4, [some (some 1), some none, some none, none, none, none, some none, some none, none]), .inl (0, 6)]) C hm hl hz S rfl kf_X4_0 rfl (Nat.le_of_ble_eq_true rfl) (fun _ => rfl) (fun _ => rfl) (Nat.le_of_ble_eq_true rfl) rfl wd_155 (Nat.le_of_ble_eq_true rfl) (Nat.le_of_ble_eq_true rfl) (Nat.le_of_ble_eq_true rfl) (Nat.le_of_ble_eq_true rfl) (by decide +kernel) (fun h => lv_bipush (n := 6) hx hb (by decide +kernel) rfl h) (by decide +kernel) (by decide +kernel) rfl rfl rfl (fun H locs S => ?_)
  refine k_arr (pc := 12) (q := 2) (t := 0) (n := 6) (atype := .int) (lay' := [.inr (4, [some (some 1), some (some 2), some none, none, none, none, some none, some none, none]), .inl (0, 6), .inl (0, 6)]) C hm hl hz S rfl kf_X4_1 rfl (Nat.le_of_ble_eq_true rfl) (fun _ => rfl) (fun _ => rfl) (Nat.le_of_ble_eq_true rfl) rfl wd_155 (Nat.le_of_ble_eq_true rfl) (Nat.le_of_ble_eq_true rfl) (Nat.le_of_ble_eq_true rfl) (Nat.le_of_ble_eq_true rfl) (by decide +kernel) (fun h => lv_bipush (n := 6) hx hb (by decide +kernel) rfl h) (by decide +kernel) (by decide +kernel) rfl rfl rfl (fun H locs S => ?_)
  refine k_arr (pc := 20) (q := 2) (t := 0) (n := 6) (atype := .int) (lay' := [.inr (4, [some (some 1), some (some 2), some (some 3), none, none, none, some none, some none, none]), .inl (0, 6), .inl (0, 6), .inl (0, 6)]) C hm hl hz S rfl kf_X4_2 rfl (Nat.le_of_ble_eq_true rfl) (fun _ => rfl) (fun _ => rfl) (Nat.le_of_ble_eq_true rfl) rfl wd_155 (Nat.le_of_ble_eq_true rfl) (Nat.le_of_ble_eq_true rfl) (Nat.le_of_ble_eq_true rfl) (Nat.le_of_ble_eq_true rfl) (by decide +kernel) (fun h => lv_bipush (n := 6) hx hb (by decide +kernel) rfl h) (by decide +kernel) (by decide +kernel) rfl rfl rfl (fun H locs S => ?_)
  refine k_int (pc := 28) (q := 1) (v := (0)) (M' := Zm) C hl S kf_X4_3 rfl rfl rfl rfl rfl (by decide +kernel) (fun h => lv_iconst (n := 0) hx hb (by decide +kernel) rfl h) (by decide +kernel) (si_id rfl) (fun H locs S => ?_)
  refine k_int (pc := 33) (q := 1) (v := (0)) (M' := Zm) C hl S kf_X4_4 rfl rfl rfl rfl rfl (by decide +kernel) (fun h => lv_iconst (n := 0) hx hb (by decide +kernel) rfl h) (by decide +kernel) (si_id rfl) (fun H locs S => ?_)
  refine k_int (pc := 38) (q := 1) (v := (0)) (M' := Zm) C hl S kf_X4_5 rfl rfl rfl rfl rfl (by decide +kernel) (fun h => lv_iconst (n := 0) hx hb (by decide +kernel) rfl h) (by decide +kernel) (si_id rfl) (fun H locs S => ?_)
  refine k_arr (pc := 43) (q := 2) (t := 0) (n := 48) (atype := .int) (lay' := [.inr (4, [some (some 1), some (some 2), some (some 3), none, none, none, some (some 4), some none, none]), .inl (0, 6), .inl (0, 6), .inl (0, 6), .inl (0, 48)]) C hm hl hz S rfl kf_X4_6 rfl (Nat.le_of_ble_eq_true rfl) (fun _ => rfl) (fun _ => rfl) (Nat.le_of_ble_eq_true rfl) rfl wd_155 (Nat.le_of_ble_eq_true rfl) (Nat.le_of_ble_eq_true rfl) (Nat.le_of_ble_eq_true rfl) (Nat.le_of_ble_eq_true rfl) (by decide +kernel) (fun h => lv_bipush (n := 48) hx hb (by decide +kernel) rfl h) (by decide +kernel) (by decide +kernel) rfl rfl rfl (fun H locs S => ?_)
  refine k_arr (pc := 51) (q := 3) (t := 0) (n := 7168) (atype := .int) (lay' := [.inr (4, [some (some 1), some (some 2), some (some 3), none, none, none, some (some 4), some (some 5), none]), .inl (0, 6), .inl (0, 6), .inl (0, 6), .inl (0, 48), .inl (0, 7168)]) C hm hl hz S rfl kf_X4_7 rfl (Nat.le_of_ble_eq_true rfl) (fun _ => rfl) (fun _ => rfl) (Nat.le_of_ble_eq_true rfl) rfl wd_155 (Nat.le_of_ble_eq_true rfl) (Nat.le_of_ble_eq_true rfl) (Nat.le_of_ble_eq_true rfl) (Nat.le_of_ble_eq_true rfl) (by decide +kernel) (fun h => lv_sipush (n := 7168) hx hb (by decide +kernel) rfl h) (by decide +kernel) (by decide +kernel) rfl rfl rfl (fun H locs S => ?_)
  refine k_int (pc := 60) (q := 1) (v := (0)) (M' := Zm) C hl S kf_X4_8 rfl rfl rfl rfl rfl (by decide +kernel) (fun h => lv_iconst (n := 0) hx hb (by decide +kernel) rfl h) (by decide +kernel) (si_id rfl) (fun H locs S => ?_)
  exact k_ret C S (by decide +kernel)
