/-! CALLS AND BODIES -/
theorem Mt_pre {D : va_G} {cT : Nat → ClassId} {ad : Nat → Nat} {lay : List LC} {M : Mem} {s : State} {H : Heap} {av : List Value} (hP : HM D cT ad lay M H) (hK : KX D cT s) (hJ : AJ (AA ad lay) ad lay) : ∀ U : State, U.heap = H → s.WarmedH U.vm → Pc0 D cT ad lay M av av.toArray U :=
  fun U hU hW => ⟨rfl, by rw [hU]; exact hP, hK.warm hW, hJ⟩
section XC
variable {p : Program} {l : Launch} {e : Env} {R : Room} {s : State} {m : MethodId} {args : Array Value} {below : List Frame} {meth : Method} {c : Code} {H : Heap} {locs : List Loc} {kc ks : Nat} {Q : State → Prop}
variable {own : String} {cc : ByteArray} {nL : Nat} {ret : Option FieldType} {D : va_G} {cT : Nat → ClassId} {ad : Nat → Nat} {lay : List LC} {A : Nat → Prop} {M : Mem} {pc : Nat} {ls : Array Slot} {rest st0 As : List Value}
variable {y : MethodName} {bytes : ByteArray} {maxL fr lo n index i ci : Nat} {ret' : Option FieldType} {fks : List FK}
theorem ok_V (C : Bx p s m args meth c own cc nL ret D cT ad lay A) (ok : VOk y bytes maxL ret' n ci) (hlk : Cond.methodLink own index y ∈ wsG) (hR : fr + 1 ≤ R.frames ∧ 8 + (maxL + 11) + lo ≤ R.locals) : CallW R s args own y.cls index y bytes maxL ret' (.code y bytes maxL ret' :: wsG) (Rm fr lo) 0 0 n := by
  obtain ⟨⟨⟨hx, hb, hml, hown, hts⟩, hK, hJ⟩, hr, hlocks⟩ := C
  refine cwV n hts (ws_goodIn _ ?_) rfl rfl rfl ⟨rfl, ok.2.2⟩ hR
  intro w hw
  simp only [wsV, List.mem_append, List.mem_cons, List.not_mem_nil, or_false] at hw
  obtain ⟨o1, o2, o3, o4⟩ := ok.2.1
  rcases hw with (rfl | rfl | rfl | rfl) | rfl | hw
  · exact hlk
  · exact o1
  · exact o2
  · exact o3
  · exact o4
  · exact hw
theorem ok_S (C : Bx p s m args meth c own cc nL ret D cT ad lay A) (ok : SOk y bytes maxL ret' n) (hlk : Cond.methodLink own index y ∈ wsG) (hR : fr + 1 ≤ R.frames ∧ 8 + (maxL + 11) + lo ≤ R.locals) : CallB R s args own index y bytes maxL ret' (.code y bytes maxL ret' :: wsG) (Rm fr lo) 0 0 n ∧ (Cond.static y).before args s = true := by
  obtain ⟨⟨⟨hx, hb, hml, hown, hts⟩, hK, hJ⟩, hr, hlocks⟩ := C
  refine va_cwS n hts (ws_goodIn _ ?_) rfl rfl rfl ok.2 hR
  intro w hw
  simp only [va_wsS, List.mem_append, List.mem_cons, List.not_mem_nil, or_false] at hw
  obtain ⟨o1, o2, o3⟩ := ok.1
  rcases hw with (rfl | rfl | rfl) | rfl | hw
  · exact hlk
  · exact o1
  · exact o2
  · exact o3
  · exact hw
theorem ok_N (C : Bx p s m args meth c own cc nL ret D cT ad lay A) (ok : SOk y bytes maxL ret' n) {host : String} (hlk : Cond.methodLinkNest own index y host ∈ nestW) (hR : fr + 1 ≤ R.frames ∧ 8 + (maxL + 11) + lo ≤ R.locals) : va_CN R s args own index y host bytes maxL ret' (.code y bytes maxL ret' :: wsG) (Rm fr lo) 0 0 n ∧ (Cond.static y).before args s = true ∧ True := by
  obtain ⟨⟨⟨hx, hb, hml, hown, hts⟩, hK, hJ⟩, hr, hlocks⟩ := C
  refine ⟨va_cnB n hts (ws_goodIn _ ?_) rfl rfl rfl (hK.2 _ hlk) (hts _ ok.1.2.1) ok.2 hR, hts _ ok.1.1, trivial⟩
  intro w hw
  rcases List.mem_cons.mp hw with rfl | hw
  · exact ok.1.2.2
  · exact hw
theorem run_V (C : Bx p s m args meth c own cc nL ret D cT ad lay A) (S : ST D cT ad lay A s M H locs) {Qc : Array Value → State → Outcome → State → Prop} (hM : Met l y (.code y bytes maxL ret' :: wsG) (Rm fr lo) (Pc0 D cT ad lay M (.ref (ad i) :: As)) Qc 0 0 (AA ad lay)) (hi : lay[i]? = some (.inr (ci, fks))) (ok : VOk y bytes maxL ret' n ci) (hlk : Cond.methodLink own index y ∈ wsG) (hR : fr + 1 ≤ R.frames ∧ 8 + (maxL + 11) + lo ≤ R.locals) (hcs : kc ≤ R.cells ∧ ks ≤ R.slots) (hl : ls.size = nL) (hn : As.length = n) (hst : st0 = As.reverse ++ .ref (ad i) :: rest) (hrm : (rest.map fun v => v.category).sum ≤ 8) (hdg : decode cc pc = .ok (.invokevirtual index, 3)) :
    va_Run p l e R s m args below meth c H locs kc ks 0 0 (F0 m pc ls st0) rest (Qc (Value.ref (ad i) :: As).toArray) (AA ad lay) := by
  obtain ⟨T, N, hc⟩ := ok.1
  exact va_runV C.1.1 hM (ok_V C ok hlk hR) ⟨Pc0_blind _ _ _ _ _ _, va_recv C.1.2.1.1 S.1 hc (cw_at hi), Mt_pre S.1 C.1.2.1 C.1.2.2.own⟩ rfl hn hl hst (lv_room hrm) hdg hcs
theorem run_S (C : Bx p s m args meth c own cc nL ret D cT ad lay A) (S : ST D cT ad lay A s M H locs) {Qc : Array Value → State → Outcome → State → Prop} (hM : Met l y (.code y bytes maxL ret' :: wsG) (Rm fr lo) (Pc0 D cT ad lay M As) Qc 0 0 (AA ad lay)) (ok : SOk y bytes maxL ret' n) (hlk : Cond.methodLink own index y ∈ wsG) (hR : fr + 1 ≤ R.frames ∧ 8 + (maxL + 11) + lo ≤ R.locals) (hcs : kc ≤ R.cells ∧ ks ≤ R.slots) (hl : ls.size = nL) (hn : As.length = n) (hst : st0 = As.reverse ++ rest) (hrm : (rest.map fun v => v.category).sum ≤ 8) (hdg : decode cc pc = .ok (.invokestatic index, 3)) :
    va_Run p l e R s m args below meth c H locs kc ks 0 0 (F0 m pc ls st0) rest (Qc As.toArray) (AA ad lay) :=
  va_runS C.1.1 hM (ok_S C ok hlk hR) ⟨Pc0_blind _ _ _ _ _ _, Mt_pre S.1 C.1.2.1 C.1.2.2.own⟩ rfl hn hl hst (lv_room hrm) hdg hcs
theorem run_N (C : Bx p s m args meth c own cc nL ret D cT ad lay A) (S : ST D cT ad lay A s M H locs) {Qc : Array Value → State → Outcome → State → Prop} (hM : Met l y (.code y bytes maxL ret' :: wsG) (Rm fr lo) (Pc0 D cT ad lay M As) Qc 0 0 (AA ad lay)) (ok : SOk y bytes maxL ret' n) {host : String} (hlk : Cond.methodLinkNest own index y host ∈ nestW) (hR : fr + 1 ≤ R.frames ∧ 8 + (maxL + 11) + lo ≤ R.locals) (hcs : kc ≤ R.cells ∧ ks ≤ R.slots) (hl : ls.size = nL) (hn : As.length = n) (hst : st0 = As.reverse ++ rest) (hrm : (rest.map fun v => v.category).sum ≤ 8) (hdg : decode cc pc = .ok (.invokestatic index, 3)) :
    va_Run p l e R s m args below meth c H locs kc ks 0 0 (F0 m pc ls st0) rest (Qc As.toArray) (AA ad lay) :=
  va_runSN C.1.1 hM (ok_N C ok hlk hR) ⟨Pc0_blind _ _ _ _ _ _, Mt_pre S.1 C.1.2.1 C.1.2.2.own⟩ rfl hn hl hst (lv_room hrm) hdg hcs
/-- behind a call -/
theorem go_X (C : Bx p s m args meth c own cc nL ret D cT ad lay A) (S : ST D cT ad lay A s M H locs) {Qm : Option Value → Mem → Prop} {a : Array Value} (hr : va_Run p l e R s m args below meth c H locs kc ks 0 0 (F0 m pc ls st0) rest (QcX D cT ad lay (AA ad lay) Qm a) (AA ad lay))
    (kk : ∀ (r : Option Value) (M : Mem) (H : Heap) (locs : List Loc), Qm r M → ST D cT ad lay A s M H locs → W p l e R s m args below meth c H locs kc ks Q (F0 m (pc + 3) ls ((r.map (cv ad)).toList ++ rest))) : W p l e R s m args below meth c H locs kc ks Q (F0 m pc ls st0) := by
  intro T hT X
  obtain ⟨v, st₀, t, T', L, h0, X', hL, e1, e2, ⟨⟨r, u, hv, hp, hb⟩, hz, hk⟩, st⟩ := hr T hT X
  cases hv
  rw [h0] at hz hk
  have hA := C.1.2.2.in
  have hS := S.2
  obtain ⟨t2, a1, b1⟩ := kk r u T'.heap (locs ++ L) hp ⟨by rw [e1]; exact hb, Nat.le_trans hS.1 (by rw [e1]; exact hz), fun q h1 h2 => by rw [e1, hk q (Nat.lt_of_lt_of_le h1 hS.1) (fun z => h2 (hA q z))]; exact hS.2.1 q h1 h2, fun q hq => by
      rcases List.mem_append.mp hq with h | h
      · exact hS.2.2 q h
      · exact hA _ (hL q h)⟩ T' rfl X'
  exact ⟨t2, st t2 a1, b1⟩
end XC
theorem body_of {l : Launch} {y : MethodName} {bytes : ByteArray} {maxL : Nat} {ret : Option FieldType} {fr lo : Nat} {av : List Value} {D : va_G} {cT : Nat → ClassId} {ad : Nat → Nat} {lay : List LC} {M : Mem} {Qc : Array Value → State → Outcome → State → Prop} (hy : plainName y.cls = true) (hsz : (lg_sl av).length ≤ maxL)
    (body : ∀ (p : Program) (e : Env) (s : State) (m : MethodId) (args : Array Value) (below : List Frame) (meth : Method) (c : Code) (ls : Array Slot), Bx p s m args meth c y.cls bytes maxL ret D cT ad lay (AA ad lay) → lv_has ls maxL (lv_args 0 av) → ST D cT ad lay (AA ad lay) s M s.heap [] → W p l e (Rm fr lo) s m args below meth c s.heap [] 0 0 (MQ below Qc args s 0 0 (AA ad lay)) (F0 m 0 ls [])) :
    Met l y (.code y bytes maxL ret :: wsG) (Rm fr lo) (Pc0 D cT ad lay M av) Qc 0 0 (AA ad lay) := by
  refine Met.ofW (cc := bytes) (maxL := maxL) (ret := ret) hy rfl ?_
  intro p e s m args below meth c s₁ B hml hv
  obtain ⟨rfl, hP, hK, hJ⟩ := hv
  have hts := atoms_spec (ws := .code y bytes maxL ret :: wsG) B.pre
  have hown : s.vm.findClass y.cls = some m.cls := findClass_of_methodNamed B.named
  have hl := lv_entry av (n := maxL) hsz
  rw [lg_entry_eq]
  generalize (lg_sl av ++ List.replicate (maxL - (lg_sl av).length) Slot.unset).toArray = ls at hl ⊢
  exact body p e s m av.toArray below meth c ls ⟨⟨⟨B.exec, B.bytes, hml, hown, fun w h => hts w (List.mem_cons_of_mem _ h)⟩, hK, hJ⟩, B.returns, B.notSynchronized⟩ hl ⟨hP, va_S.rf⟩
