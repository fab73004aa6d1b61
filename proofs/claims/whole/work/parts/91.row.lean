/-! ROW: the class's, which may throw; the law's own, which catches it -/
abbrev xN : String := "java/util/NoSuchElementException"
abbrev xNs : List String := ["java/lang/RuntimeException", "java/lang/Exception"]
abbrev xB : List Cond := [.declares ⟨"java/lang/RuntimeException", "<init>", "()V"⟩, .declares ⟨"java/lang/Exception", "<init>", "()V"⟩, .declares ⟨"java/lang/Throwable", "<init>", "()V"⟩, .castable xN xN]
theorem xg_in : GoodIn lw_tbl ((vx_at0 RX10 386 xN xNs).filter goodWord) := goodIn_r _ [106, 1089, 1098, 1100, 1103, 1105, 1090, 1091, 116, 117, 1092, 1097, 1101, 1117, 1079, 1118, 1081, 1119, 1083, 1093, 1095, 1085, 1107, 1108, 1109, 1110, 1110, 1111, 1112, 1113, 1113, 1114, 1115, 1090, 1106, 1068, 1076, 1077, 1078, 1080, 1082, 1084, 1088, 1087, 1086] (by decide +kernel) (by decide +kernel)
theorem xg_ws : ∀ w ∈ (vx_at0 RX10 386 xN xNs).filter goodWord, w ∈ wsG := fun w hw => List.mem_filter.mpr ⟨(xg_in w hw).1, (List.mem_filter.mp hw).2⟩
theorem xb_in : ∀ w ∈ (vx_at0 RX10 386 xN xNs).filter (fun w => !goodWord w), w ∈ xB := by decide +kernel
theorem x_ot : ∀ w ∈ Cond.classLink RX10 384 xN :: Cond.initialized xN :: vx_at0 RX10 386 xN xNs, vx_ot w = true := by decide +kernel
theorem wd_1061 : (Cond.codeWith yL_row cL_row 4 (some .int) [(0, 8, 11, 13)] : Cond) ∈ wsG := wG 1061 (by decide +kernel) (by decide +kernel)
theorem fl_tr {l : Launch} (h : l.flags = flags0) : l.stackTraces = false := by
  unfold Launch.stackTraces
  rw [h]
  decide +kernel
/-- what a throw asks of a state -/
def XPH (U : State) (H : Heap) : Prop := (∀ w ∈ xB, va_Nw w U) ∧ vx_Zq Bundle.tN "UNASSIGNED_STACK" Bundle.steD (fun _ => False) U H ∧ vx_Zq Bundle.tN "SUPPRESSED_SENTINEL" Bundle.listD (fun _ => False) U H
theorem XPH.warm {s U : State} {H : Heap} (hW : s.WarmedH U.vm) (h : XPH s H) : XPH U H := by
  refine ⟨fun w hw => ?_, vx_Zq.moved hW.alike h.2.1, vx_Zq.moved hW.alike h.2.2⟩
  have h0 := h.1 w hw
  simp only [xB, List.mem_cons, List.not_mem_nil, or_false] at hw
  rcases hw with rfl | rfl | rfl | rfl
  · exact va_Nw.warmD hW h0
  · exact va_Nw.warmD hW h0
  · exact va_Nw.warmD hW h0
  · exact va_Nw.warmC hW h0
theorem XPH.same {u U : State} {H : Heap} (e : u.vm = U.vm) (h : XPH u H) : XPH U H := by
  refine ⟨fun w hw => ?_, vx_Zq.moved (by rw [e]; exact Vm.Alike.refl _) h.2.1, vx_Zq.moved (by rw [e]; exact Vm.Alike.refl _) h.2.2⟩
  have h0 := h.1 w hw
  simp only [xB, List.mem_cons, List.not_mem_nil, or_false] at hw
  rcases hw with rfl | rfl | rfl | rfl <;> exact va_Nw.same rfl e h0
theorem XPH.kept {U : State} {H H1 : Heap} (h : XPH U H) (hk : ∀ a : Nat, a < H.size → H1[a]? = H[a]?) : XPH U H1 := ⟨h.1, vx_Zq.kept h.2.1 (fun a ha _ => hk a ha), vx_Zq.kept h.2.2 (fun a ha _ => hk a ha)⟩
/-- the place is one of the row's -/
def inR (M : Mem) (x : Int32) : Prop := ¬ x < 0 ∧ x < M.1 1 1
def PR (D : va_G) (cT : Nat → ClassId) (ad : Nat → Nat) (lay : List LC) (M : Mem) (x : Int32) : Array Value → State → Prop := va_Pc [.ref (ad 0), .int x] (fun U => HM D cT ad lay M U.heap ∧ KX D cT U ∧ AJ (AA ad lay) ad lay ∧ XPH U U.heap)
def QR (M : Mem) (x : Int32) : Array Value → State → Outcome → State → Prop := fun _ st oc t => (oc = .returned (some (.long (M.2 2 x.toNatClampNeg))) ∧ inR M x) ∧ t.heap = st.heap
def XR (M : Mem) (x : Int32) : String → State → State → Prop := fun E st t => E = xN ∧ ¬ inR M x ∧ st.heap.size ≤ t.heap.size ∧ ∀ q : Nat, q < st.heap.size → t.heap[q]? = st.heap[q]?
theorem PR_blind (D : va_G) (cT : Nat → ClassId) (ad : Nat → Nat) (lay : List LC) (M : Mem) (x : Int32) : FrameBlind (PR D cT ad lay M x) := by
  intro a U g mk q
  obtain ⟨q0, q1, q2, q3, q4⟩ := q
  exact ⟨q0, q1, KX.same (u := U) (U := U.calling g mk a) rfl q2, q3, XPH.same (u := U) (U := U.calling g mk a) rfl q4⟩
theorem met_row (l : Launch) (hfl : l.stackTraces = false) (D : va_G) (cT : Nat → ClassId) (ad : Nat → Nat) (pl : Option Nat) (tl : List LC) (M : Mem) (x : Int32) {n : Nat} (hn : M.1 1 1 = nI n) (hn13 : n ≤ 13) : vx_Met l yX10_row (.code yX10_row cX10_row 2 (some .long) :: wsG) (Rk 8 1 6 512) (PR D cT ad (LY pl tl) M x) (QR M x) (XR M x) 1 6 (fun _ => False) := by
  refine vx_ofW (cc := cX10_row) (maxL := 2) (ret := some .long) (by decide +kernel) rfl ?_
  intro p e s m args below meth c s₁ B hml htab hv
  obtain ⟨rfl, hP, hK, hJ, hXP⟩ := hv
  have hts0 := atoms_spec (ws := .code yX10_row cX10_row 2 (some .long) :: wsG) B.pre
  have hts : ∀ w ∈ wsG, w.before [Value.ref (ad 0), .int x].toArray s = true := fun w h => hts0 w (List.mem_cons_of_mem _ h)
  have hown : s.vm.findClass RX10 = some m.cls := findClass_of_methodNamed B.named
  have hlk := B.notSynchronized
  have hl := lv_entry [.ref (ad 0), .int x] (n := 2) (Nat.le_of_ble_eq_true rfl)
  rw [lg_entry_eq]
  generalize (lg_sl [Value.ref (ad 0), .int x] ++ List.replicate (2 - (lg_sl [Value.ref (ad 0), .int x]).length) Slot.unset).toArray = ls at hl ⊢
  have hl : lv_has ls 2 [(0, .ref (ad 0)), (1, .int x)] := hl
  have C : Bx p s m [Value.ref (ad 0), .int x].toArray meth c RX10 cX10_row 2 (some .long) D cT ad (LY pl tl) (AA ad (LY pl tl)) := ⟨⟨⟨B.exec, B.bytes, hml, hown, hts⟩, hK, hJ⟩, B.returns, B.notSynchronized⟩
  have S : ST D cT ad (LY pl tl) (AA ad (LY pl tl)) s M s.heap [] := ⟨hP, va_S.rf⟩
  have hx := B.exec
  have hb := B.bytes
  have hat : ∀ w ∈ vx_at0 RX10 386 xN xNs, w.before [Value.ref (ad 0), .int x].toArray s = true := vx_hat (fun w hw => hts w (xg_ws w hw)) xb_in (fun w hw => by
    have h0 := hXP.1 w hw
    simp only [xB, List.mem_cons, List.not_mem_nil, or_false] at hw
    rcases hw with rfl | rfl | rfl | rfl <;> exact va_Nw.use rfl h0)
  have th : ¬ inR M x → W p l e (Rk 8 1 6 512) s m [Value.ref (ad 0), .int x].toArray below meth c s.heap [] 0 0 (vx_MQ below (QR M x) (XR M x) [Value.ref (ad 0), .int x].toArray s 1 6 (fun _ => False)) (F0 m 15 ls []) := fun hnr =>
    vx_throw0 (pc := 15) (own := RX10) (cls := xN) (names := xNs) (ik := 384) (ic := 386) (A := fun _ => False) hx hb hfl hown (by decide +kernel) (by decide +kernel) (hts _ wd_1067) (hts _ wd_109) hat x_ot hXP.2.1 hXP.2.2 va_S.rf (hl.1.trans hml.symm) (by decide +kernel) (by decide +kernel) (by decide +kernel) (by decide +kernel) (fun y hy => (htab y hy).elim) (by decide) (by decide) (by decide) (by decide) hlk (fun t ha hz hk => ⟨rfl, hnr, hz, hk⟩) (fun z hz => by cases hz) (by decide) (by decide)
  refine lv_iload_n (k := 1) (i := 1) hx hb (by decide +kernel) rfl (lv_at hl 1 rfl) ?_
  refine lv_if_lt (off := 14) (tgt := 15) hx hb (by decide +kernel) (by decide) (fun q => th (fun h => h.1 q)) (fun q0 => ?_)
  refine lv_iload_n (k := 1) (i := 1) hx hb (by decide +kernel) rfl (lv_at hl 1 rfl) ?_
  refine lv_aload_n (k := 0) (i := 0) hx hb (by decide +kernel) rfl (lv_at hl 0 rfl) ?_
  refine xq_get (i := 0) (ci := 10) (k := 0) (fk := some (some 1)) C S rfl rfl uw_X10 (by decide) rfl wd_407 (by decide +kernel) ?_
  refine xq_get (i := 1) (ci := 6) (k := 1) (fk := none) C S rfl rfl uw_X6 (by decide) rfl wd_127 (by decide +kernel) ?_
  refine lv_icmp_lt (off := 11) (tgt := 23) hx hb (by decide +kernel) (by decide) (fun q1 => ?_) (fun q1 => th (fun h => q1 h.2))
  have q1 : x < M.1 1 1 := q1
  refine lv_aload_n (k := 0) (i := 0) hx hb (by decide +kernel) rfl (lv_at hl 0 rfl) ?_
  refine xq_get (i := 0) (ci := 10) (k := 0) (fk := some (some 1)) C S rfl rfl uw_X10 (by decide) rfl wd_407 (by decide +kernel) ?_
  refine xq_get (i := 1) (ci := 6) (k := 0) (fk := some (some 2)) C S rfl rfl uw_X6 (by decide) rfl wd_125 (by decide +kernel) ?_
  refine lv_iload_n (k := 1) (i := 1) hx hb (by decide +kernel) rfl (lv_at hl 1 rfl) ?_
  have hin : vp_in x 13 := by
    rw [hn] at q1
    obtain ⟨j, hj, e⟩ : ∃ j, j < n ∧ x = nI j := by
      rcases z_ix x (n := n) (by omega) with (q | q) | ⟨j, hj, e⟩
      · exact absurd q q0
      · rw [Int32.lt_iff_toInt_lt] at q1
        rw [Int32.le_iff_toInt_le] at q
        omega
      · exact ⟨j, hj, e⟩
    rw [e]
    exact (z_in (by omega) (by omega)).mpr (by omega)
  refine xq_lald (i := 2) (n := 13) C S rfl hin (by decide +kernel) ?_
  refine vx_ret (W.widen (k := 1) (n := 6) (by decide) (by decide) ?_)
  exact W.lret hx hb B.returns (fun t ht hW => ⟨⟨rfl, q0, q1⟩, ht⟩) (fun q h => by cases h) (by decide +kernel)
