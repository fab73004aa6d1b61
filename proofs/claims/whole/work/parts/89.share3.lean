/-! SHARE: the reference's, on the machine; the law's arm -/
abbrev yF_isNaN : MethodName := ⟨"java/lang/Float", "isNaN", "(F)Z"⟩
abbrev yF_bits : MethodName := ⟨"java/lang/Float", "floatToIntBits", "(F)I"⟩
def QF (v : Value) : Array Value → State → Outcome → State → Prop := fun _ st oc t => oc = .returned (some v) ∧ t.heap = st.heap
def PF1 (x : UInt32) : Array Value → State → Prop := va_Pc [.float x] (fun _ => True)
theorem PF1_blind (x : UInt32) : FrameBlind (PF1 x) := fun a U g mk q => q
def nz (x : UInt32) : Int32 := if isNaN32 x = true then 1 else 0
/-- the body of a method of the library that no row of natives stands for -/
theorem met_lib {l : Launch} {y : MethodName} {ws ws' : List Cond} {rm : Room} {Pc : Array Value → State → Prop} {Qc : Array Value → State → Outcome → State → Prop} {mc ms : Nat} {free : Addr → Prop} {cc : ByteArray} {maxL : Nat} {ret : Option FieldType}
    (hy : plainFor y = true) (hw : ws = Cond.code y cc maxL ret :: ws')
    (body : ∀ p e s m args below meth c s₁, BodyLoose p l y (headSpec ws rm) cc maxL ret e s m args below meth c s₁ → c.maxLocals = maxL → Pc args s →
      W p l e (headSpec ws rm).room s m args below meth c s.heap [] 0 0 (MQ below Qc args s mc ms free) (entryFrame m args maxL)) : Met l y ws rm Pc Qc mc ms free := by
  refine MetFree.of_bodySF (code := cc) (maxLocals := maxL) (ret := ret) hy ?_ ?_
  · intro args s m h hn
    obtain ⟨meth, c, h1, h2, h3, h4, h5, h6, -, -⟩ := Cond.code_spec hn (atoms_spec (ws := ws) h _ (by rw [hw]; exact List.mem_cons_self))
    exact ⟨meth, c, h1, h2, h3, h4, h5, h6⟩
  · intro p e s m args below meth c s₁ B hml hP _
    have hh0 : s₁.heap = s.heap := by rw [B.state]; rfl
    obtain ⟨t, a1, o, b1, b2, b3⟩ := body p e s m args below meth c s₁ B hml hP s₁ hh0 (Stand.of_body B)
    exact ⟨t, o, a1, b1, b2, ⟨b3.1, b3.2⟩⟩
theorem met_isNaN (l : Launch) (x : UInt32) : Met l yF_isNaN (.code yF_isNaN prog_16_method_6_code 1 (some .boolean) :: wsG) (Rm 1 64) (PF1 x) (QF (.int (nz x))) 0 0 (fun _ => False) := by
  refine met_lib (cc := prog_16_method_6_code) (maxL := 1) (ret := some .boolean) (by decide +kernel) rfl ?_
  intro p e s m args below meth c s₁ B hml hv
  obtain ⟨rfl, -⟩ := hv
  have hx := B.exec
  have hb := B.bytes
  have hr := B.returns
  have hlk := B.notSynchronized
  have hl := lv_entry [.float x] (n := 1) (Nat.le_of_ble_eq_true rfl)
  rw [lg_entry_eq]
  generalize (lg_sl [Value.float x] ++ List.replicate (1 - (lg_sl [Value.float x]).length) Slot.unset).toArray = ls at hl ⊢
  have hl : lv_has ls 1 [(0, .float x)] := hl
  refine lv_fload_n (k := 0) (i := 0) hx hb (by decide +kernel) rfl (lv_at hl 0 rfl) ?_
  refine lv_fload_n (k := 0) (i := 0) hx hb (by decide +kernel) rfl (lv_at hl 0 rfl) ?_
  refine lv_fcmp (op := .l) hx hb (by decide +kernel) ?_
  refine lv_if_eq (off := 7) (tgt := 10) hx hb (by decide +kernel) (by decide) (fun h => ?_) (fun h => ?_)
  · have hn : nz x = 0 := by
      unfold nz
      refine if_neg (fun z => ?_)
      rw [fc_nan z] at h
      exact absurd h (by decide)
    rw [hn]
    refine lv_iconst (n := 0) (v := 0) hx hb (by decide +kernel) rfl ?_
    exact W.zret hx hb hr rfl (fun t ht hW => ⟨rfl, ht⟩) (fun q h => by cases h) (by decide +kernel)
  · have hn : nz x = 1 := by
      unfold nz
      refine if_pos (Classical.byContradiction fun z => h ?_)
      exact fc_num (by cases hz : isNaN32 x with | false => rfl | true => exact absurd hz z)
    rw [hn]
    refine lv_iconst (n := 1) (v := 1) hx hb (by decide +kernel) rfl (lv_goto (off := 4) (tgt := 11) hx hb (by decide +kernel) (by decide) ?_)
    exact W.zret hx hb hr rfl (fun t ht hW => ⟨rfl, ht⟩) (fun q h => by cases h) (by decide +kernel)
section S89
variable {p : Program} {l : Launch} {e : Env} {R : Room} {s : State} {m : MethodId} {args : Array Value} {below : List Frame} {meth : Method} {c : Code} {H : Heap} {locs : List Loc} {kc ks : Nat} {Q : State → Prop}
variable {own : String} {cc : ByteArray} {nL : Nat} {pc : Nat} {ls : Array Slot} {rest : List Value}
/-- a static method of one float, that touches nothing -/
theorem f_call {y : MethodName} {bytes : ByteArray} {maxL fr lo idx : Nat} {ret' : Option FieldType} {x : UInt32} {v : Value} (hC : CallFix p m c cc nL s args wsG own) (hM : Met l y (.code y bytes maxL ret' :: wsG) (Rm fr lo) (PF1 x) (QF v) 0 0 (fun _ => False)) (ok : SOk y bytes maxL ret' 1) (hlk : Cond.methodLink own idx y ∈ wsG) (hR : fr + 1 ≤ R.frames ∧ 8 + (maxL + 11) + lo ≤ R.locals) (hcs : kc ≤ R.cells ∧ ks ≤ R.slots) (hl : ls.size = nL) (hrm : (rest.map fun v => v.category).sum ≤ 8) (hdg : decode cc pc = .ok (.invokestatic idx, 3))
    (kk : W p l e R s m args below meth c H locs kc ks Q (F0 m (pc + 3) ls (v :: rest))) : W p l e R s m args below meth c H locs kc ks Q (F0 m pc ls (.float x :: rest)) := by
  have hts := hC.2.2.2.2
  have cwx : CallB R s args own idx y bytes maxL ret' (.code y bytes maxL ret' :: wsG) (Rm fr lo) 0 0 1 ∧ (Cond.static y).before args s = true := by
    refine va_cwS 1 hts (ws_goodIn _ ?_) rfl rfl rfl ok.2 hR
    intro w hw
    simp only [va_wsS, List.mem_append, List.mem_cons, List.not_mem_nil, or_false] at hw
    obtain ⟨o1, o2, o3⟩ := ok.1
    rcases hw with (rfl | rfl | rfl) | rfl | hw
    · exact hlk
    · exact o1
    · exact o2
    · exact o3
    · exact hw
  have hr := va_runS (l := l) (e := e) (below := below) (meth := meth) (As := [.float x]) (rest := rest) (g := F0 m pc ls (.float x :: rest)) (H := H) (locs := locs) (cells := kc) (slots := ks) hC hM cwx ⟨PF1_blind x, fun U hU hW => ⟨rfl, trivial⟩⟩ rfl rfl hl rfl (lv_room hrm) hdg hcs
  intro T hT X
  obtain ⟨v9, st₀, t9, T', Lw, h0, X', hL, g1, g2, ⟨hv, hh⟩, hst⟩ := hr T hT X
  cases hv
  have hLn : Lw = [] := by
    cases Lw with
    | nil => rfl
    | cons a b => exact (hL a List.mem_cons_self).elim
  subst hLn
  rw [List.append_nil] at X'
  obtain ⟨t2, a1, b1⟩ := kk T' (by rw [g1, hh, h0]) X'
  exact ⟨t2, hst t2 a1, b1⟩
end S89
theorem met_bits (l : Launch) (x : UInt32) : Met l yF_bits (.code yF_bits prog_16_method_24_code 1 (some .int) :: wsG) (Rm 2 128) (PF1 x) (QF (.int (fbI x))) 0 0 (fun _ => False) := by
  refine met_lib (cc := prog_16_method_24_code) (maxL := 1) (ret := some .int) (by decide +kernel) rfl ?_
  intro p e s m args below meth c s₁ B hml hv
  obtain ⟨rfl, -⟩ := hv
  have hx := B.exec
  have hb := B.bytes
  have hr := B.returns
  have hlk := B.notSynchronized
  have hts0 := atoms_spec (ws := .code yF_bits prog_16_method_24_code 1 (some .int) :: wsG) B.pre
  have hts : ∀ w ∈ wsG, w.before [Value.float x].toArray s = true := fun w h => hts0 w (List.mem_cons_of_mem _ h)
  have hown : s.vm.findClass "java/lang/Float" = some m.cls := findClass_of_methodNamed B.named
  have hl := lv_entry [.float x] (n := 1) (Nat.le_of_ble_eq_true rfl)
  rw [lg_entry_eq]
  generalize (lg_sl [Value.float x] ++ List.replicate (1 - (lg_sl [Value.float x]).length) Slot.unset).toArray = ls at hl ⊢
  have hl : lv_has ls 1 [(0, .float x)] := hl
  refine lv_fload_n (k := 0) (i := 0) hx hb (by decide +kernel) rfl (lv_at hl 0 rfl) ?_
  refine f_call (own := "java/lang/Float") (nL := 1) (y := yF_isNaN) (rest := []) ⟨hx, hb, hml, hown, hts⟩ (met_isNaN l x) ⟨⟨wd_1483, wd_103, wd_1484⟩, by decide, by decide, by decide +kernel⟩ wd_1482 ⟨by decide, by decide⟩ ⟨Nat.le_refl _, Nat.le_refl _⟩ hl.1 (Nat.le_of_ble_eq_true rfl) (by decide +kernel) ?_
  refine lv_if_ne (off := 8) (tgt := 12) hx hb (by decide +kernel) (by decide) (fun h => ?_) (fun h => ?_)
  · have hn : isNaN32 x = true := Classical.byContradiction fun z => h (if_neg z)
    have hv : fbI x = nI 2143289344 := if_pos hn
    rw [hv]
    refine lv_ldc (v := nI 2143289344) hx hb hown (hts _ wd_1488) (by decide +kernel) ?_
    exact W.iret hx hb hr (fun t ht hW => ⟨rfl, ht⟩) (fun q h => by cases h) (by decide +kernel)
  · have hn : ¬ isNaN32 x = true := fun z => by
      have : nz x = 1 := if_pos z
      rw [this] at h
      exact absurd h (by decide)
    have hv : fbI x = x.toInt32 := if_neg hn
    rw [hv]
    refine lv_fload_n (k := 0) (i := 0) hx hb (by decide +kernel) rfl (lv_at hl 0 rfl) ?_
    refine vn_f2i hx hb (by rw [hml]; exact hl.1.symm) hown (hts _ wd_1485) (hts _ wd_1487) (hts _ wd_1486) (hts _ wd_103) (Nat.le_of_ble_eq_true rfl) (Nat.le_of_ble_eq_true rfl) (by decide +kernel) ?_
    exact W.iret hx hb hr (fun t ht hW => ⟨rfl, ht⟩) (fun q h => by cases h) (by decide +kernel)
