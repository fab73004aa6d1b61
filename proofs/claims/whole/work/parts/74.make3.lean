/-! CONSTRUCTORS: contracts, groups of instructions -/
def KP (D : va_G) (cT : Nat → ClassId) (o ci : Nat) (fks : List FK) : Array Value → State → Prop := va_Pc [.ref o] (fun U => HM D cT (oa o) [.inr (ci, fks)] Zm U.heap ∧ KX D cT U ∧ U.heap.size = o + 1)
def KQ (D : va_G) (cT : Nat → ClassId) (o : Nat) (L : List LC) (MI : Mem) : Array Value → State → Outcome → State → Prop := fun _ st oc t => (oc = .returned none ∧ HM D cT (oa o) L MI t.heap) ∧ va_F (oA o) st t
abbrev Rk (fr mc ms lo : Nat) : Room := { frames := fr, cells := mc, slots := ms, locals := lo }
def KC (y : MethodName) (bytes : ByteArray) (maxL fr lo mc ms ci : Nat) (fks : List FK) (L : List LC) (MI : Mem) : Prop := ∀ (l : Launch) (D : va_G) (cT : Nat → ClassId) (o : Nat), Met l y (.code y bytes maxL none :: wsG) (Rk fr mc ms lo) (KP D cT o ci fks) (KQ D cT o L MI) mc ms (oA o)
theorem KP_blind (D : va_G) (cT : Nat → ClassId) (o ci : Nat) (fks : List FK) : FrameBlind (KP D cT o ci fks) := by
  intro a U g mk q
  obtain ⟨q0, q1, q2, q3⟩ := q
  exact ⟨q0, q1, KX.same (u := U) (U := U.calling g mk a) rfl q2, q3⟩
theorem kbody {y : MethodName} {bytes : ByteArray} {maxL fr lo mc ms ci : Nat} {fks : List FK} {L : List LC} {MI : Mem} (hy : plainName y.cls = true) (hsz : 1 ≤ maxL) (hin : y.name = "<init>")
    (body : ∀ (l : Launch) (D : va_G) (cT : Nat → ClassId) (o : Nat) (p : Program) (e : Env) (s : State) (m : MethodId) (args : Array Value) (below : List Frame) (meth : Method) (c : Code) (ls : Array Slot), Bx p s m args meth c y.cls bytes maxL none D cT (oa o) [] (oA o) → meth.name = "<init>" → lv_has ls maxL [(0, .ref o)] → s.heap.size = o + 1 → ST D cT (oa o) [.inr (ci, fks)] (oA o) s Zm s.heap [] → W p l e (Rk fr mc ms lo) s m args below meth c s.heap [] 0 0 (MQ below (KQ D cT o L MI) args s mc ms (oA o)) (F0 m 0 ls [])) : KC y bytes maxL fr lo mc ms ci fks L MI := by
  intro l D cT o
  refine Met.ofW (cc := bytes) (maxL := maxL) (ret := none) hy rfl ?_
  intro p e s m args below meth c s₁ B hml hv
  obtain ⟨rfl, hP, hK, hz⟩ := hv
  have hts := atoms_spec (ws := .code y bytes maxL none :: wsG) B.pre
  have hown : s.vm.findClass y.cls = some m.cls := findClass_of_methodNamed B.named
  have hnm : meth.name = "<init>" := ((name_of_methodNamed B.named B.method).1).trans hin
  have hl := lv_entry [.ref o] (n := maxL) hsz
  rw [lg_entry_eq]
  generalize (lg_sl [Value.ref o] ++ List.replicate (maxL - (lg_sl [Value.ref o]).length) Slot.unset).toArray = ls at hl ⊢
  exact body l D cT o p e s m [Value.ref o].toArray below meth c ls ⟨⟨⟨B.exec, B.bytes, hml, hown, fun w h => hts w (List.mem_cons_of_mem _ h)⟩, hK, oJ o []⟩, B.returns, B.notSynchronized⟩ hnm hl hz ⟨hP, va_S.rf⟩
/-- a field, as its class has it -/
def KFd (own : String) (ci k idx : Nat) (Cn : String) (T : u_T) (N : Nat) (ty0 : Nat → FieldType) : Prop := vwCl[ci]? = some (Cn, T, N) ∧ (∀ w ∈ u_ws Cn T N, w ∈ wsG) ∧ (∀ k, k < N → parseFieldDescriptor (T k).2.2.1 = some (ty0 k)) ∧ (∀ a, a < N → ∀ b, b < N → a ≠ b → (T a).2.1 ≠ (T b).2.1) ∧ k < N ∧ Cond.fieldLink own idx (T k).1 (T k).2.1 (T k).2.2.1 ∈ wsG ∧ (T k).1 = own
/-- a class that may be made -/
def KCd (own : String) (ci ic : Nat) (fks : List FK) (Cn : String) (T : u_T) (N : Nat) (ty0 : Nat → FieldType) : Prop := vwCl[ci]? = some (Cn, T, N) ∧ (∀ w ∈ u_ws Cn T N, w ∈ wsG) ∧ (∀ k, k < N → parseFieldDescriptor (T k).2.2.1 = some (ty0 k)) ∧ Cond.classLink own ic Cn ∈ wsG ∧ Cond.instantiable Cn N ∈ wsG ∧ Cond.initialized Cn ∈ wsG ∧ (∀ fk ∈ fks, fk = none ∨ fk = some none) ∧ ∀ k, k < N → defaultValue (ty0 k) = vp_V (fks.map (fun fk => fv (oa 0) Zm 0 0 fk)) k
theorem dfl_eq {ad : Nat → Nat} {M : Mem} {i : Nat} {fks : List FK} (hM : M.1 i = fun _ => 0) (h : ∀ fk ∈ fks, fk = none ∨ fk = some none) : fks.mapIdx (fun k fk => fv ad M i k fk) = fks.map (fun fk => fv (oa 0) Zm 0 0 fk) := by
  apply List.ext_getElem?
  intro k
  rw [List.getElem?_mapIdx, List.getElem?_map]
  cases hf : fks[k]? with
  | none => rfl
  | some fk =>
    rcases h fk (List.mem_of_getElem? hf) with rfl | rfl
    · show some (Value.int (M.1 i k)) = some (Value.int 0)
      rw [hM]
    · rfl
section S74
variable {p : Program} {l : Launch} {e : Env} {R : Room} {s : State} {m : MethodId} {args : Array Value} {below : List Frame} {meth : Method} {c : Code} {H : Heap} {locs : List Loc} {kc ks : Nat} {Q : State → Prop}
variable {own : String} {cc : ByteArray} {nL : Nat} {ret : Option FieldType} {D : va_G} {cT : Nat → ClassId} {lay lay' : List LC} {A : Nat → Prop} {M M' : Mem} {pc : Nat} {ls : Array Slot} {rest : List Value}
variable {o : Nat} {t n q k idx ci : Nat} {Cn : String} {T : u_T} {N : Nat} {ty0 : Nat → FieldType} {fks : List FK}
theorem k_arr {atype : ArrayType} (C : Bx p s m args meth c own cc nL none D cT (oa o) [] (oA o)) (hm : meth.name = "<init>") (hl : lv_has ls nL [(0, .ref o)]) (hz : s.heap.size = o + 1) (S : ST D cT (oa o) lay (oA o) s M H locs) (hkl : kc + 1 = lay.length) (F : KFd own ci k idx Cn T N ty0) (hi : lay[0]? = some (.inr (ci, fks))) (hk : k < fks.length) (hn : ∀ v : Nat, narrow (ty0 k) (.ref v) = .ref v) (hfit : ∀ v : Nat, fits (ty0 k) (.ref v) = true) (ht : t < 4) (hty : newarray.typeOf atype = kT t) (hw : Cond.arrayClass (kT t) ∈ wsG) (hnn : n < 2147483648) (hby : n * componentBytes (kT t) ≤ 536870912) (hcells : kc + 1 ≤ R.cells) (hslots : ks + n ≤ R.slots) (d1 : decode cc pc = .ok (.aload_n 0, 1)) (hp : W p l e R s m args below meth c H locs kc ks Q (F0 m (pc + 1 + q) ls [.int (nI n), .ref o]) → W p l e R s m args below meth c H locs kc ks Q (F0 m (pc + 1) ls [.ref o])) (d3 : decode cc (pc + 1 + q) = .ok (.newarray atype, 2)) (d4 : decode cc (pc + 1 + q + 2) = .ok (.putfield idx, 3)) (z1 : M.1 lay.length = fun _ => 0) (z2 : M.2 lay.length = fun _ => 0) (hlay : (lay ++ ([.inl (t, n)] : List LC)).set 0 (.inr (ci, fks.set k (some (some lay.length)))) = lay')
    (kk : ∀ (H : Heap) (locs : List Loc), ST D cT (oa o) lay' (oA o) s M H locs → W p l e R s m args below meth c H locs (kc + 1) (ks + n) Q (F0 m (pc + 1 + q + 2 + 3) ls [])) : W p l e R s m args below meth c H locs kc ks Q (F0 m pc ls []) := by
  obtain ⟨hc, hin, hty0, hnm, hkN, hlink, hown⟩ := F
  have hx := C.1.1.1
  have hb := C.1.1.2.1
  refine lv_aload_n hx hb d1 rfl (lv_at hl 0 rfl) (hp ?_)
  refine k_sz S (by omega) (by omega) (fun had => ?_)
  refine xq_newa (Bx_lay C (oJ o lay)) S ht hty hw had hnn hby hcells hslots d3 (fun H1 _ S1 => ?_)
  rw [zc_id z1 z2] at S1
  have hi' : (lay ++ ([.inl (t, n)] : List LC))[0]? = some (.inr (ci, fks)) := by rw [List.getElem?_append_left (by omega)]; exact hi
  have hgo := xq_putr (l := l) (e := e) (R := R) (below := below) (kc := kc + 1) (ks := ks + n) (Q := Q) (ls := ls) (rest := []) (Bx_lay C (oJ o (lay ++ ([.inl (t, n)] : List LC)))) (Or.inr trivial) S1 (i := 0) (j0 := lay.length) hi' hc hin ty0 hty0 hnm hkN hk hlink (Or.inr ⟨hm, hown⟩) hn hfit d4 (fun H locs S2 => by rw [hlay] at S2; exact kk H locs S2)
  exact hgo
theorem k_int {v : Int32} (C : Bx p s m args meth c own cc nL none D cT (oa o) [] (oA o)) (hl : lv_has ls nL [(0, .ref o)]) (S : ST D cT (oa o) lay (oA o) s M H locs) (F : KFd own ci k idx Cn T N ty0) (hfin : (T k).2.2.2 = false) (hi : lay[0]? = some (.inr (ci, fks))) (hk : fks[k]? = some none) (hn : narrow (ty0 k) (.int v) = .int v) (hfit : fits (ty0 k) (.int v) = true) (d1 : decode cc pc = .ok (.aload_n 0, 1)) (hp : W p l e R s m args below meth c H locs kc ks Q (F0 m (pc + 1 + q) ls [.int v, .ref o]) → W p l e R s m args below meth c H locs kc ks Q (F0 m (pc + 1) ls [.ref o])) (d4 : decode cc (pc + 1 + q) = .ok (.putfield idx, 3)) (hM : si M 0 k v = M')
    (kk : ∀ (H : Heap) (locs : List Loc), ST D cT (oa o) lay (oA o) s M' H locs → W p l e R s m args below meth c H locs kc ks Q (F0 m (pc + 1 + q + 3) ls [])) : W p l e R s m args below meth c H locs kc ks Q (F0 m pc ls []) := by
  obtain ⟨hc, hin, hty0, hnm, hkN, hlink, hown⟩ := F
  have hx := C.1.1.1
  have hb := C.1.1.2.1
  refine lv_aload_n hx hb d1 rfl (lv_at hl 0 rfl) (hp ?_)
  exact xq_put (Bx_lay C (oJ o lay)) S (i := 0) hi hc hin ty0 hty0 hnm hkN hk hlink hfin hn hfit d4 (fun H locs S2 => by rw [hM] at S2; exact kk H locs S2)
/-- what a constructor leaves, beside what was there -/
theorem k_go {mc ms : Nat} {st0 : List Value} {L2 : List LC} {M2 : Mem} {fks2 : List FK} {ci2 : Nat} {a : Array Value} (C : Bx p s m args meth c own cc nL ret D cT (oa o) [] (oA o)) (S : ST D cT (oa o) (lay ++ [.inr (ci2, fks2)]) (oA o) s M H locs) (hr : va_Run p l e R s m args below meth c H locs kc ks mc ms (F0 m pc ls st0) rest (KQ D cT (o + lay.length) L2 M2 a) (oA (o + lay.length)))
    (kk : ∀ (H : Heap) (locs : List Loc), ST D cT (oa o) (lay ++ L2.map (shL lay.length)) (oA o) s (jn lay.length M M2) H locs → W p l e R s m args below meth c H locs (kc + mc) (ks + ms) Q (F0 m (pc + 3) ls rest)) : W p l e R s m args below meth c H locs kc ks Q (F0 m pc ls st0) := by
  intro T hT X
  obtain ⟨v, st₀, t, T', L, h0, X', hL, e1, e2, ⟨⟨hv, hb⟩, hz, hk⟩, st⟩ := hr T hT X
  cases hv
  rw [h0] at hz hk
  have hS := S.2
  have hP := S.1
  unfold HM at hP
  have hHM : HM D cT (oa o) (lay ++ L2.map (shL lay.length)) (jn lay.length M M2) T'.heap := by
    unfold HM
    rw [cw_jn rfl, e1]
    refine va_P.app (fun k x hx => ?_) hb
    have hlt : k < lay.length := by rw [← cw_len (cT := cT) (ad := oa o) (M := M)]; exact (List.getElem?_eq_some_iff.mp hx).1
    have e9 : (cw cT (oa o) lay M)[k]? = some (o + k, ce cT (oa o) M k (lay[k])) := cw_at (List.getElem?_eq_getElem hlt)
    have hx2 : (cw cT (oa o) (lay ++ [.inr (ci2, fks2)]) M)[k]? = some x := by
      rw [cw_at (lc := lay[k]) (by rw [List.getElem?_append_left hlt]; exact List.getElem?_eq_getElem hlt)]
      rw [e9] at hx
      exact hx
    have h8 := hP k x hx2
    have hx1 : x.1 = o + k := by rw [e9] at hx; cases hx; rfl
    refine h8.kept (hk x.1 h8.lt (fun z => ?_))
    have z : o + lay.length ≤ x.1 := z
    omega
  obtain ⟨t2, a1, b1⟩ := kk T'.heap (locs ++ L) ⟨hHM, Nat.le_trans hS.1 (by rw [e1]; exact hz), fun q h1 h2 => by rw [e1, hk q (Nat.lt_of_lt_of_le h1 hS.1) (fun z => h2 (Nat.le_trans (Nat.le_add_right _ _) z))]; exact hS.2.1 q h1 h2, fun q hq => by
      rcases List.mem_append.mp hq with h | h
      · exact hS.2.2 q h
      · exact Nat.le_trans (Nat.le_add_right _ _) (hL q h)⟩ T' rfl X'
  exact ⟨t2, st t2 a1, b1⟩
/-- a constructor is called (its link plain, or of a nest mate) -/
theorem run_I {y : MethodName} {bytes : ByteArray} {maxL fr lo mc ms ci2 index : Nat} {fks2 : List FK} {L2 : List LC} {M2 : Mem} (C : Bx p s m args meth c own cc nL ret D cT (oa o) [] (oA o)) (hP : HM D cT (oa (o + lay.length)) [.inr (ci2, fks2)] Zm H) (hsz : H.size = o + lay.length + 1) (K : KC y bytes maxL fr lo mc ms ci2 fks2 L2 M2) (hini : Cond.initialized y.cls ∈ wsG) (hlk : Cond.methodLink own index y ∈ wsG) (hins : Cond.instanceMethod y ∈ wsG) (hcode : Cond.code y bytes maxL none ∈ wsG) (hy : y.name = "<init>") (hd : y.cls ≠ "java/lang/invoke/MethodHandle" ∧ y.cls ≠ "java/lang/invoke/VarHandle" ∧ (parseMethodDescriptor y.desc).map (fun d => d.parameters.length) = some 0) (hR : fr + 1 ≤ R.frames ∧ 8 + (maxL + 11) + lo ≤ R.locals) (hl : ls.size = nL) (hrm : (rest.map fun v => v.category).sum ≤ 8) (hdg : decode cc pc = .ok (.invokespecial index, 3)) (hcs : kc + mc ≤ R.cells ∧ ks + ms ≤ R.slots) :
    va_Run p l e R s m args below meth c H locs kc ks mc ms (F0 m pc ls (.ref (o + lay.length) :: rest)) rest (KQ D cT (o + lay.length) L2 M2 #[.ref (o + lay.length)]) (oA (o + lay.length)) := by
  have hts := C.1.1.2.2.2.2
  refine va_runI (As := []) C.1.1 (K l D cT (o + lay.length)) (cwI 0 hts (ws_goodIn _ ?_) rfl rfl rfl (hts _ hini) (hts _ hlk) (hts _ hins) hy hd hR) ⟨KP_blind _ _ _ _ _, fun U hU hW => ⟨rfl, by rw [hU]; exact hP, C.1.2.1.warm hW, by rw [hU]; exact hsz⟩⟩ rfl rfl hl rfl (lv_room hrm) hdg hcs
  intro w hw
  rcases List.mem_cons.mp hw with rfl | hw
  · exact hcode
  · exact hw
theorem run_IN {y : MethodName} {host : String} {bytes : ByteArray} {maxL fr lo mc ms ci2 index : Nat} {fks2 : List FK} {L2 : List LC} {M2 : Mem} (C : Bx p s m args meth c own cc nL ret D cT (oa o) [] (oA o)) (hP : HM D cT (oa (o + lay.length)) [.inr (ci2, fks2)] Zm H) (hsz : H.size = o + lay.length + 1) (K : KC y bytes maxL fr lo mc ms ci2 fks2 L2 M2) (hini : Cond.initialized y.cls ∈ wsG) (hlk : Cond.methodLinkNest own index y host ∈ nestW) (hins : Cond.instanceMethod y ∈ wsG) (hcode : Cond.code y bytes maxL none ∈ wsG) (hy : y.name = "<init>") (hd : y.cls ≠ "java/lang/invoke/MethodHandle" ∧ y.cls ≠ "java/lang/invoke/VarHandle" ∧ (parseMethodDescriptor y.desc).map (fun d => d.parameters.length) = some 0) (hR : fr + 1 ≤ R.frames ∧ 8 + (maxL + 11) + lo ≤ R.locals) (hl : ls.size = nL) (hrm : (rest.map fun v => v.category).sum ≤ 8) (hdg : decode cc pc = .ok (.invokespecial index, 3)) (hcs : kc + mc ≤ R.cells ∧ ks + ms ≤ R.slots) :
    va_Run p l e R s m args below meth c H locs kc ks mc ms (F0 m pc ls (.ref (o + lay.length) :: rest)) rest (KQ D cT (o + lay.length) L2 M2 #[.ref (o + lay.length)]) (oA (o + lay.length)) := by
  have hts := C.1.1.2.2.2.2
  refine va_runIN (As := []) C.1.1 (K l D cT (o + lay.length)) ⟨va_cnB 0 hts (ws_goodIn _ ?_) rfl rfl rfl (C.1.2.1.2 _ hlk) (hts _ hini) hd hR, hy, hts _ hins⟩ ⟨KP_blind _ _ _ _ _, fun U hU hW => ⟨rfl, by rw [hU]; exact hP, C.1.2.1.warm hW, by rw [hU]; exact hsz⟩⟩ rfl rfl hl rfl (lv_room hrm) hdg hcs
  intro w hw
  rcases List.mem_cons.mp hw with rfl | hw
  · exact hcode
  · exact hw
/-- new X; dup; X.<init> -/
theorem k_mk {mc ms N2 ci2 ic : Nat} {L2 : List LC} {M2 : Mem} {fks2 : List FK} {Cn2 : String} {T2 : u_T} {ty2 : Nat → FieldType} {a : Array Value} (C : Bx p s m args meth c own cc nL ret D cT (oa o) [] (oA o)) (S : ST D cT (oa o) lay (oA o) s M H locs) (had : oa o lay.length = H.size) (h1 : s.heap.size + kc ≤ o + lay.length) (G : KCd own ci2 ic fks2 Cn2 T2 N2 ty2) (hcells : kc + 1 ≤ R.cells) (hslots : ks + N2 ≤ R.slots) (z1 : M.1 lay.length = fun _ => 0) (z2 : M.2 lay.length = fun _ => 0) (d1 : decode cc pc = .ok (.new ic, 3)) (d2 : decode cc (pc + 3) = .ok (.dup, 1))
    (hrun : ∀ (H : Heap) (locs : List Loc), HM D cT (oa (o + lay.length)) [.inr (ci2, fks2)] Zm H → H.size = o + lay.length + 1 → va_Run p l e R s m args below meth c H locs (kc + 1) (ks + N2) mc ms (F0 m (pc + 4) ls (.ref (o + lay.length) :: .ref (o + lay.length) :: rest)) (.ref (o + lay.length) :: rest) (KQ D cT (o + lay.length) L2 M2 a) (oA (o + lay.length)))
    (kk : ∀ (H : Heap) (locs : List Loc), ST D cT (oa o) (lay ++ L2.map (shL lay.length)) (oA o) s (jn lay.length M M2) H locs → W p l e R s m args below meth c H locs (kc + 1 + mc) (ks + N2 + ms) Q (F0 m (pc + 7) ls (.ref (o + lay.length) :: rest))) : W p l e R s m args below meth c H locs kc ks Q (F0 m pc ls rest) := by
  obtain ⟨hc2, hin2, hty2, hcl, hins, hini, hfk, hdf⟩ := G
  have hx := C.1.1.1
  have hb := C.1.1.2.1
  refine xq_new (fks := fks2) (Bx_lay C (oJ o lay)) S hc2 hin2 ty2 hty2 hcl hins hini ?_ had hcells hslots d1 (fun H1 S1 => ?_)
  · rw [dfl_eq (zc_s M lay.length).1 hfk]
    exact hdf
  · rw [zc_id z1 z2] at S1
    refine lv_dup hx hb d2 rfl ?_
    refine w_sz (fun hz => ?_)
    have hP := S1.1
    unfold HM at hP
    have e7 : (cw cT (oa o) (lay ++ [.inr (ci2, fks2)]) M)[lay.length]? = some (o + lay.length, ce cT (oa o) M lay.length (.inr (ci2, fks2))) := cw_at (by rw [List.getElem?_append_right (Nat.le_refl _), Nat.sub_self]; rfl)
    have h8 := hP _ _ e7
    have h9 : o + lay.length < H1.size := h8.lt
    refine k_go C S1 (hrun H1 locs ?_ (by omega)) kk
    unfold HM
    intro k x hx
    have hk1 : k < 1 := by have := (List.getElem?_eq_some_iff.mp hx).1; rw [cw_len] at this; exact this
    rw [show k = 0 by omega, cw_at (lc := .inr (ci2, fks2)) rfl] at hx
    cases hx
    have e10 : ce cT (oa (o + lay.length)) Zm 0 (.inr (ci2, fks2)) = ce cT (oa o) M lay.length (.inr (ci2, fks2)) := by
      show (Sum.inr (ci2, fks2.mapIdx (fun k fk => fv (oa (o + lay.length)) Zm 0 k fk)) : va_E) = Sum.inr (ci2, fks2.mapIdx (fun k fk => fv (oa o) M lay.length k fk))
      rw [dfl_eq (M := Zm) (i := 0) rfl hfk, dfl_eq z1 hfk]
    rw [e10]
    exact h8
/-- this.f = new X() -/
theorem k_new {mc ms N2 ci2 ic kc2 ks2 : Nat} {L2 : List LC} {M2 : Mem} {fks2 : List FK} {Cn2 : String} {T2 : u_T} {ty2 : Nat → FieldType} {a : Array Value} (C : Bx p s m args meth c own cc nL none D cT (oa o) [] (oA o)) (hm : meth.name = "<init>") (hl : lv_has ls nL [(0, .ref o)]) (hz : s.heap.size = o + 1) (S : ST D cT (oa o) lay (oA o) s M H locs) (hkl : kc + 1 = lay.length) (F : KFd own ci k idx Cn T N ty0) (hi : lay[0]? = some (.inr (ci, fks))) (hk : k < fks.length) (hn : ∀ v : Nat, narrow (ty0 k) (.ref v) = .ref v) (hfit : ∀ v : Nat, fits (ty0 k) (.ref v) = true) (G : KCd own ci2 ic fks2 Cn2 T2 N2 ty2) (hcells : kc + 1 ≤ R.cells) (hslots : ks + N2 ≤ R.slots) (z1 : M.1 lay.length = fun _ => 0) (z2 : M.2 lay.length = fun _ => 0) (d1 : decode cc pc = .ok (.aload_n 0, 1)) (d2 : decode cc (pc + 1) = .ok (.new ic, 3)) (d3 : decode cc (pc + 1 + 3) = .ok (.dup, 1)) (d5 : decode cc (pc + 8) = .ok (.putfield idx, 3))
    (hrun : ∀ (H : Heap) (locs : List Loc), HM D cT (oa (o + lay.length)) [.inr (ci2, fks2)] Zm H → H.size = o + lay.length + 1 → va_Run p l e R s m args below meth c H locs (kc + 1) (ks + N2) mc ms (F0 m (pc + 1 + 4) ls (.ref (o + lay.length) :: .ref (o + lay.length) :: [.ref o])) (.ref (o + lay.length) :: [.ref o]) (KQ D cT (o + lay.length) L2 M2 a) (oA (o + lay.length)))
    (hlay : (lay ++ L2.map (shL lay.length)).set 0 (.inr (ci, fks.set k (some (some lay.length)))) = lay') (hM : jn lay.length M M2 = M') (hk2 : kc + 1 + mc = kc2) (hs2 : ks + N2 + ms = ks2)
    (kk : ∀ (H : Heap) (locs : List Loc), ST D cT (oa o) lay' (oA o) s M' H locs → W p l e R s m args below meth c H locs kc2 ks2 Q (F0 m (pc + 11) ls [])) : W p l e R s m args below meth c H locs kc ks Q (F0 m pc ls []) := by
  obtain ⟨hc, hin, hty0, hnm, hkN, hlink, hown⟩ := F
  have hx := C.1.1.1
  have hb := C.1.1.2.1
  refine lv_aload_n hx hb d1 rfl (lv_at hl 0 rfl) ?_
  refine k_sz S (by omega) (by omega) (fun had => ?_)
  refine k_mk C S had (by omega) G hcells hslots z1 z2 d2 d3 hrun (fun H1 locs1 S1 => ?_)
  rw [hk2, hs2]
  rw [hM] at S1
  have hi' : (lay ++ L2.map (shL lay.length))[0]? = some (.inr (ci, fks)) := by rw [List.getElem?_append_left (by omega)]; exact hi
  have hgo := xq_putr (l := l) (e := e) (R := R) (below := below) (kc := kc2) (ks := ks2) (Q := Q) (ls := ls) (rest := []) (Bx_lay C (oJ o _)) (Or.inr trivial) S1 (i := 0) (j0 := lay.length) hi' hc hin ty0 hty0 hnm hkN hk hlink (Or.inr ⟨hm, hown⟩) hn hfit d5 (fun H locs S2 => by rw [hlay] at S2; exact kk H locs S2)
  exact hgo
theorem k_ret {L : List LC} (C : Bx p s m args meth c own cc nL none D cT (oa o) [] (oA o)) (S : ST D cT (oa o) L (oA o) s M H locs) (hdg : decode cc pc = .ok (.return_, 1)) : W p l e R s m args below meth c H locs kc ks (MQ below (KQ D cT o L M) args s kc ks (oA o)) (F0 m pc ls []) :=
  xq_vret (Bx_lay C (oJ o L)) S (fun t ht hF => ⟨⟨rfl, by rw [ht]; exact S.1⟩, hF⟩) hdg
end S74
