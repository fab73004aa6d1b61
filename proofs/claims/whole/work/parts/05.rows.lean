/-! ROWS OVER THE MEMORY: one row an instruction that touches the heap, one row a call, one row an end -/
/-- a value of the memory's world (a ref is the number of a cell) as the machine has it -/
def cv (ad : Nat → Nat) (v : Value) : Value := match v with
  | .ref i => .ref (ad i)
  | v => v
theorem cv_cat (ad : Nat → Nat) (v : Value) : (cv ad v).category = v.category := by cases v <;> rfl
def QcX (D : va_G) (cT : Nat → ClassId) (ad : Nat → Nat) (lay : List LC) (A : Nat → Prop) (Q : Option Value → Mem → Prop) : Array Value → State → Outcome → State → Prop := fun _ st oc t => (∃ (r : Option Value) (M : Mem), oc = .returned (r.map (cv ad)) ∧ Q r M ∧ HM D cT ad lay M t.heap) ∧ va_F A st t
def Pc0 (D : va_G) (cT : Nat → ClassId) (ad : Nat → Nat) (lay : List LC) (M : Mem) (av : List Value) : Array Value → State → Prop := va_Pc av (fun U => HM D cT ad lay M U.heap ∧ KX D cT U ∧ AJ (AA ad lay) ad lay)
theorem Pc0_blind (D : va_G) (cT : Nat → ClassId) (ad : Nat → Nat) (lay : List LC) (M : Mem) (av : List Value) : FrameBlind (Pc0 D cT ad lay M av) := by
  intro a U g mk q
  obtain ⟨q0, q1, q2, q3⟩ := q
  exact ⟨q0, q1, KX.same (u := U) (U := U.calling g mk a) rfl q2, q3⟩
/-- what holds in a method's body -/
def Bx (p : Program) (s : State) (m : MethodId) (args : Array Value) (meth : Method) (c : Code) (own : String) (cc : ByteArray) (nL : Nat) (ret : Option FieldType) (D : va_G) (cT : Nat → ClassId) (ad : Nat → Nat) (lay : List LC) (A : Nat → Prop) : Prop :=
  Cx p s m args c own cc nL D cT ad lay A ∧ meth.sig.returnType = ret ∧ meth.locks = false
/-- a method that a call through an object finds: its words -/
def VOk (y : MethodName) (bytes : ByteArray) (maxL : Nat) (ret : Option FieldType) (n ci : Nat) : Prop :=
  (∃ T N, vwCl[ci]? = some (y.cls, T, N)) ∧ (Cond.instanceMethod y ∈ wsG ∧ Cond.selects y.cls y y ∈ wsG ∧ Cond.initialized y.cls ∈ wsG ∧ Cond.code y bytes maxL ret ∈ wsG) ∧ (y.cls ≠ "java/lang/invoke/MethodHandle" ∧ y.cls ≠ "java/lang/invoke/VarHandle" ∧ (parseMethodDescriptor y.desc).map (fun d => d.parameters.length) = some n)
def SOk (y : MethodName) (bytes : ByteArray) (maxL : Nat) (ret : Option FieldType) (n : Nat) : Prop :=
  (Cond.static y ∈ wsG ∧ Cond.initialized y.cls ∈ wsG ∧ Cond.code y bytes maxL ret ∈ wsG) ∧ (y.cls ≠ "java/lang/invoke/MethodHandle" ∧ y.cls ≠ "java/lang/invoke/VarHandle" ∧ (parseMethodDescriptor y.desc).map (fun d => d.parameters.length) = some n)
section XR
variable {p : Program} {l : Launch} {e : Env} {R : Room} {s : State} {m : MethodId} {args : Array Value} {below : List Frame} {meth : Method} {c : Code} {H : Heap} {locs : List Loc} {kc ks : Nat} {Q : State → Prop}
variable {own : String} {cc : ByteArray} {nL : Nat} {ret : Option FieldType} {D : va_G} {cT : Nat → ClassId} {ad : Nat → Nat} {lay : List LC} {A : Nat → Prop} {M : Mem} {pc : Nat} {ls : Array Slot} {rest : List Value}
theorem tyL_at (t : Nat) (h : t < 4) : (tyL cT)[t]? = some (cT t, kT t) := by
  match t, h with
  | 0, _ => rfl
  | 1, _ => rfl
  | 2, _ => rfl
  | 3, _ => rfl
theorem xq_get (C : Bx p s m args meth c own cc nL ret D cT ad lay A) (S : ST D cT ad lay A s M H locs) {i ci k index : Nat} {fk : FK} {fks : List FK} {Cn : String} {T : u_T} {N : Nat} (hi : lay[i]? = some (.inr (ci, fks))) (hc : vwCl[ci]? = some (Cn, T, N)) (hin : ∀ w ∈ u_ws Cn T N, w ∈ wsG) (hk : k < N) (hf : fks[k]? = some fk) (hlink : Cond.fieldLink own index (T k).1 (T k).2.1 (T k).2.2.1 ∈ wsG) (hdg : decode cc pc = .ok (.getfield index, 3))
    (kk : W p l e R s m args below meth c H locs kc ks Q (F0 m (pc + 3) ls (fv ad M i k fk :: rest))) : W p l e R s m args below meth c H locs kc ks Q (F0 m pc ls (.ref (ad i) :: rest)) := by
  obtain ⟨⟨⟨hx, hb, hml, hown, hts⟩, hK, hJ⟩, hr, hlk⟩ := C
  exact va_get (ci := ci) hx hb hts hin hown hK.1 S.1 i (cw_at hi) hc k hk (hts _ hlink) (fun _ h => h) (by rw [List.getElem?_mapIdx, hf]; rfl) hdg kk
theorem xq_put (C : Bx p s m args meth c own cc nL ret D cT ad lay A) (S : ST D cT ad lay A s M H locs) {i ci k index : Nat} {fks : List FK} {Cn : String} {T : u_T} {N : Nat} (hi : lay[i]? = some (.inr (ci, fks))) (hc : vwCl[ci]? = some (Cn, T, N)) (hin : ∀ w ∈ u_ws Cn T N, w ∈ wsG) (ty0 : Nat → FieldType) (hty : ∀ k, k < N → parseFieldDescriptor (T k).2.2.1 = some (ty0 k)) (hnm : ∀ a, a < N → ∀ b, b < N → a ≠ b → (T a).2.1 ≠ (T b).2.1) (hk : k < N) (hf : fks[k]? = some none) (hlink : Cond.fieldLink own index (T k).1 (T k).2.1 (T k).2.2.1 ∈ wsG) (hfin : (T k).2.2.2 = false) {v : Int32} (hn : narrow (ty0 k) (.int v) = .int v) (hfit : fits (ty0 k) (.int v) = true) (hdg : decode cc pc = .ok (.putfield index, 3))
    (kk : ∀ (H : Heap) (locs : List Loc), ST D cT ad lay A s (si M i k v) H locs → W p l e R s m args below meth c H locs kc ks Q (F0 m (pc + 3) ls rest)) : W p l e R s m args below meth c H locs kc ks Q (F0 m pc ls (.int v :: .ref (ad i) :: rest)) := by
  obtain ⟨⟨⟨hx, hb, hml, hown, hts⟩, hK, hJ⟩, hr, hlk⟩ := C
  refine va_put (ci := ci) hx hb hts hin ty0 hty hnm hown hK.1 S.1 (aj_D hJ) S.2 i (cw_at hi) hc k hk (hts _ hlink) (fun _ h => h) hfin (hty k hk) hn hfit (by rw [List.length_mapIdx]; exact (List.getElem?_eq_some_iff.mp hf).1) hdg (fun H1 locs1 hP hD hS => ?_)
  have e := cw_si (cT := cT) (ad := ad) (M := M) (v := v) hi hf
  exact kk H1 locs1 ⟨by unfold HM; rw [← e]; exact hP, hS⟩
theorem xq_iald (C : Bx p s m args meth c own cc nL ret D cT ad lay A) (S : ST D cT ad lay A s M H locs) {i n : Nat} {x : Int32} (hi : lay[i]? = some (.inl (0, n))) (hin : vp_in x n) (hdg : decode cc pc = .ok (.iaload, 1))
    (kk : W p l e R s m args below meth c H locs kc ks Q (F0 m (pc + 1) ls (.int (M.1 i x.toNatClampNeg) :: rest))) : W p l e R s m args below meth c H locs kc ks Q (F0 m pc ls (.int x :: .ref (ad i) :: rest)) := by
  obtain ⟨⟨⟨hx, hb, hml, hown, hts⟩, hK, hJ⟩, hr, hlk⟩ := C
  exact va_iald hx hb hK.1 S.1 i 0 (cw_at hi) rfl hin hdg kk
theorem xq_zald (C : Bx p s m args meth c own cc nL ret D cT ad lay A) (S : ST D cT ad lay A s M H locs) {i n : Nat} {x : Int32} (hi : lay[i]? = some (.inl (2, n))) (hin : vp_in x n) (hdg : decode cc pc = .ok (.baload, 1))
    (kk : W p l e R s m args below meth c H locs kc ks Q (F0 m (pc + 1) ls (.int (M.1 i x.toNatClampNeg) :: rest))) : W p l e R s m args below meth c H locs kc ks Q (F0 m pc ls (.int x :: .ref (ad i) :: rest)) := by
  obtain ⟨⟨⟨hx, hb, hml, hown, hts⟩, hK, hJ⟩, hr, hlk⟩ := C
  exact va_zald hx hb hK.1 S.1 i 2 (cw_at hi) rfl hin hdg kk
theorem xq_bald (C : Bx p s m args meth c own cc nL ret D cT ad lay A) (S : ST D cT ad lay A s M H locs) {i n : Nat} {x : Int32} (hi : lay[i]? = some (.inl (3, n))) (hin : vp_in x n) (hdg : decode cc pc = .ok (.baload, 1))
    (kk : W p l e R s m args below meth c H locs kc ks Q (F0 m (pc + 1) ls (.int (M.1 i x.toNatClampNeg) :: rest))) : W p l e R s m args below meth c H locs kc ks Q (F0 m pc ls (.int x :: .ref (ad i) :: rest)) := by
  obtain ⟨⟨⟨hx, hb, hml, hown, hts⟩, hK, hJ⟩, hr, hlk⟩ := C
  exact va_bald hx hb hK.1 S.1 i 3 (cw_at hi) rfl hin hdg kk
theorem xq_lald (C : Bx p s m args meth c own cc nL ret D cT ad lay A) (S : ST D cT ad lay A s M H locs) {i n : Nat} {x : Int32} (hi : lay[i]? = some (.inl (1, n))) (hin : vp_in x n) (hdg : decode cc pc = .ok (.laload, 1))
    (kk : W p l e R s m args below meth c H locs kc ks Q (F0 m (pc + 1) ls (.long (M.2 i x.toNatClampNeg) :: rest))) : W p l e R s m args below meth c H locs kc ks Q (F0 m pc ls (.int x :: .ref (ad i) :: rest)) := by
  obtain ⟨⟨⟨hx, hb, hml, hown, hts⟩, hK, hJ⟩, hr, hlk⟩ := C
  exact va_lald hx hb hK.1 S.1 i 1 (cw_at hi) rfl hin hdg kk
theorem xq_iast (C : Bx p s m args meth c own cc nL ret D cT ad lay A) (S : ST D cT ad lay A s M H locs) {i n : Nat} {x v : Int32} (hi : lay[i]? = some (.inl (0, n))) (hin : vp_in x n) (hdg : decode cc pc = .ok (.iastore, 1))
    (kk : ∀ (H : Heap) (locs : List Loc), ST D cT ad lay A s (si M i x.toNatClampNeg v) H locs → W p l e R s m args below meth c H locs kc ks Q (F0 m (pc + 1) ls rest)) : W p l e R s m args below meth c H locs kc ks Q (F0 m pc ls (.int v :: .int x :: .ref (ad i) :: rest)) := by
  obtain ⟨⟨⟨hx, hb, hml, hown, hts⟩, hK, hJ⟩, hr, hlk⟩ := C
  refine va_iast hx hb hK.1 S.1 (aj_D hJ) S.2 i 0 (cw_at hi) rfl hin hdg (fun H1 locs1 hP hD hS => ?_)
  have e := cw_set (cT := cT) (ad := ad) (M := M) (M' := si M i x.toNatClampNeg v) hi (fun j hj => sa_n hj) (fun j hj => rfl) (e := .inl (cT 0, n, .inl (upd (M.1 i) x.toNatClampNeg v))) (by simp [ce, si, sa_s])
  exact kk H1 locs1 ⟨by unfold HM; rw [← e]; exact hP, hS⟩
theorem xq_zast (C : Bx p s m args meth c own cc nL ret D cT ad lay A) (S : ST D cT ad lay A s M H locs) {i n : Nat} {x v : Int32} (hi : lay[i]? = some (.inl (2, n))) (hin : vp_in x n) (hdg : decode cc pc = .ok (.bastore, 1))
    (kk : ∀ (H : Heap) (locs : List Loc), ST D cT ad lay A s (si M i x.toNatClampNeg (vp_nar .boolean v)) H locs → W p l e R s m args below meth c H locs kc ks Q (F0 m (pc + 1) ls rest)) : W p l e R s m args below meth c H locs kc ks Q (F0 m pc ls (.int v :: .int x :: .ref (ad i) :: rest)) := by
  obtain ⟨⟨⟨hx, hb, hml, hown, hts⟩, hK, hJ⟩, hr, hlk⟩ := C
  refine va_zast hx hb hK.1 S.1 (aj_D hJ) S.2 i 2 (cw_at hi) rfl hin hdg (fun H1 locs1 hP hD hS => ?_)
  have e := cw_set (cT := cT) (ad := ad) (M := M) (M' := si M i x.toNatClampNeg (vp_nar .boolean v)) hi (fun j hj => sa_n hj) (fun j hj => rfl) (e := .inl (cT 2, n, .inl (upd (M.1 i) x.toNatClampNeg (vp_nar .boolean v)))) (by simp [ce, si, sa_s])
  exact kk H1 locs1 ⟨by unfold HM; rw [← e]; exact hP, hS⟩
theorem xq_bast (C : Bx p s m args meth c own cc nL ret D cT ad lay A) (S : ST D cT ad lay A s M H locs) {i n : Nat} {x v : Int32} (hi : lay[i]? = some (.inl (3, n))) (hin : vp_in x n) (hdg : decode cc pc = .ok (.bastore, 1))
    (kk : ∀ (H : Heap) (locs : List Loc), ST D cT ad lay A s (si M i x.toNatClampNeg (vp_nar .byte v)) H locs → W p l e R s m args below meth c H locs kc ks Q (F0 m (pc + 1) ls rest)) : W p l e R s m args below meth c H locs kc ks Q (F0 m pc ls (.int v :: .int x :: .ref (ad i) :: rest)) := by
  obtain ⟨⟨⟨hx, hb, hml, hown, hts⟩, hK, hJ⟩, hr, hlk⟩ := C
  refine va_bast hx hb hK.1 S.1 (aj_D hJ) S.2 i 3 (cw_at hi) rfl hin hdg (fun H1 locs1 hP hD hS => ?_)
  have e := cw_set (cT := cT) (ad := ad) (M := M) (M' := si M i x.toNatClampNeg (vp_nar .byte v)) hi (fun j hj => sa_n hj) (fun j hj => rfl) (e := .inl (cT 3, n, .inl (upd (M.1 i) x.toNatClampNeg (vp_nar .byte v)))) (by simp [ce, si, sa_s])
  exact kk H1 locs1 ⟨by unfold HM; rw [← e]; exact hP, hS⟩
theorem xq_last (C : Bx p s m args meth c own cc nL ret D cT ad lay A) (S : ST D cT ad lay A s M H locs) {i n : Nat} {x : Int32} {v : Int64} (hi : lay[i]? = some (.inl (1, n))) (hin : vp_in x n) (hdg : decode cc pc = .ok (.lastore, 1))
    (kk : ∀ (H : Heap) (locs : List Loc), ST D cT ad lay A s (sj M i x.toNatClampNeg v) H locs → W p l e R s m args below meth c H locs kc ks Q (F0 m (pc + 1) ls rest)) : W p l e R s m args below meth c H locs kc ks Q (F0 m pc ls (.long v :: .int x :: .ref (ad i) :: rest)) := by
  obtain ⟨⟨⟨hx, hb, hml, hown, hts⟩, hK, hJ⟩, hr, hlk⟩ := C
  refine va_last hx hb hK.1 S.1 (aj_D hJ) S.2 i 1 (cw_at hi) rfl hin hdg (fun H1 locs1 hP hD hS => ?_)
  have e := cw_set (cT := cT) (ad := ad) (M := M) (M' := sj M i x.toNatClampNeg v) hi (fun j hj => rfl) (fun j hj => sb_n hj) (e := .inl (cT 1, n, .inr (.inl (vp_updL (M.2 i) x.toNatClampNeg v)))) (by simp [ce, sj, sb_s])
  exact kk H1 locs1 ⟨by unfold HM; rw [← e]; exact hP, hS⟩
theorem xq_alen (C : Bx p s m args meth c own cc nL ret D cT ad lay A) (S : ST D cT ad lay A s M H locs) {i t n : Nat} (hi : lay[i]? = some (.inl (t, n))) (ht : t < 4) {v : Int32} (hv : Int32.ofNat n = v) (hdg : decode cc pc = .ok (.arraylength, 1))
    (kk : W p l e R s m args below meth c H locs kc ks Q (F0 m (pc + 1) ls (.int v :: rest))) : W p l e R s m args below meth c H locs kc ks Q (F0 m pc ls (.ref (ad i) :: rest)) := by
  obtain ⟨⟨⟨hx, hb, hml, hown, hts⟩, hK, hJ⟩, hr, hlk⟩ := C
  exact va_alen hx hb hK.1 S.1 i t (cw_at hi) (tyL_at t ht) hv hdg kk
theorem xq_copy (C : Bx p s m args meth c own cc nL ret D cT ad lay A) (S : ST D cT ad lay A s M H locs) (hml : ls.size = nL) {i j n0 n1 index : Nat} (hi : lay[i]? = some (.inl (0, n0))) (hj : lay[j]? = some (.inl (0, n1))) (hlink : Cond.methodLink own index arraycopyName ∈ wsG) (hnat : Cond.native arraycopyName ∈ wsG) (hstat : Cond.static arraycopyName ∈ wsG) (hini : Cond.initialized "java/lang/System" ∈ wsG)
    {sp dp n : Int32} (h1 : ¬ sp < 0) (h2 : ¬ dp < 0) (h3 : ¬ n < 0) (h4 : sp.toNatClampNeg + n.toNatClampNeg ≤ n0) (h5 : dp.toNatClampNeg + n.toNatClampNeg ≤ n1) (hframes : 1 ≤ R.frames) (hlocals : (rest.map fun v => v.category).sum + (nativeFrameWords "java/lang/System" "arraycopy" 5 + 11) ≤ R.locals) (hdg : decode cc pc = .ok (.invokestatic index, 3))
    (kk : ∀ (H : Heap) (locs : List Loc), ST D cT ad lay A s (sa M j (va_cpy (M.1 i) (M.1 j) sp.toNatClampNeg dp.toNatClampNeg n.toNatClampNeg)) H locs → W p l e R s m args below meth c H locs kc ks Q (F0 m (pc + 3) ls rest)) : W p l e R s m args below meth c H locs kc ks Q (F0 m pc ls (.int n :: .int dp :: .ref (ad j) :: .int sp :: .ref (ad i) :: rest)) := by
  obtain ⟨⟨⟨hx, hb, hml0, hown, hts⟩, hK, hJ⟩, hr, hlk⟩ := C
  refine va_copyi (ty := .int) hx hb (by rw [hml0, hml]) hown (hts _ hlink) (hts _ hnat) (hts _ hstat) (hts _ hini) hK.1 S.1 (aj_D hJ) S.2 i j 0 0 (cw_at hi) (cw_at hj) rfl rfl rfl h1 h2 h3 h4 h5 (fun i _ => rfl) hframes hlocals hdg (fun H1 locs1 hP hD hS => ?_)
  have e := cw_set (cT := cT) (ad := ad) (M := M) (M' := sa M j (va_cpy (M.1 i) (M.1 j) sp.toNatClampNeg dp.toNatClampNeg n.toNatClampNeg)) hj (fun j hj => sa_n hj) (fun j hj => rfl) (e := .inl (cT 0, n1, .inl (va_cpy (M.1 i) (M.1 j) sp.toNatClampNeg dp.toNatClampNeg n.toNatClampNeg))) (by simp [ce, sa_s])
  exact kk H1 locs1 ⟨by unfold HM; rw [← e]; exact hP, hS⟩
variable {Qc : Array Value → State → Outcome → State → Prop}
theorem xq_iret (C : Bx p s m args meth c own cc nL (some .int) D cT ad lay A) (S : ST D cT ad lay A s M H locs) {v : Int32} (h : ∀ t : State, t.heap = H → va_F A s t → Qc args s (.returned (some (.int v))) t) (hdg : decode cc pc = .ok (.ireturn, 1)) :
    W p l e R s m args below meth c H locs kc ks (MQ below Qc args s kc ks A) (F0 m pc ls [.int v]) := by
  obtain ⟨⟨⟨hx, hb, hml, hown, hts⟩, hK, hJ⟩, hr, hlocks⟩ := C
  exact W.iret hx hb hr (fun t ht hW => h t ht (S.2.F ht)) S.2.2.2 hdg
theorem xq_zret (C : Bx p s m args meth c own cc nL (some .boolean) D cT ad lay A) (S : ST D cT ad lay A s M H locs) {v : Int32} (hn : narrow .boolean (.int v) = .int v) (h : ∀ t : State, t.heap = H → va_F A s t → Qc args s (.returned (some (.int v))) t) (hdg : decode cc pc = .ok (.ireturn, 1)) :
    W p l e R s m args below meth c H locs kc ks (MQ below Qc args s kc ks A) (F0 m pc ls [.int v]) := by
  obtain ⟨⟨⟨hx, hb, hml, hown, hts⟩, hK, hJ⟩, hr, hlocks⟩ := C
  exact W.zret hx hb hr hn (fun t ht hW => h t ht (S.2.F ht)) S.2.2.2 hdg
theorem xq_lret (C : Bx p s m args meth c own cc nL (some .long) D cT ad lay A) (S : ST D cT ad lay A s M H locs) {v : Int64} (h : ∀ t : State, t.heap = H → va_F A s t → Qc args s (.returned (some (.long v))) t) (hdg : decode cc pc = .ok (.lreturn, 1)) :
    W p l e R s m args below meth c H locs kc ks (MQ below Qc args s kc ks A) (F0 m pc ls [.long v]) := by
  obtain ⟨⟨⟨hx, hb, hml, hown, hts⟩, hK, hJ⟩, hr, hlocks⟩ := C
  exact W.lret hx hb hr (fun t ht hW => h t ht (S.2.F ht)) S.2.2.2 hdg
theorem xq_aret (C : Bx p s m args meth c own cc nL ret D cT ad lay A) (S : ST D cT ad lay A s M H locs) {n : String} (hn : ret = some (.object n)) {v : Nat} (h : ∀ t : State, t.heap = H → va_F A s t → Qc args s (.returned (some (.ref v))) t) (hdg : decode cc pc = .ok (.areturn, 1)) :
    W p l e R s m args below meth c H locs kc ks (MQ below Qc args s kc ks A) (F0 m pc ls [.ref v]) := by
  obtain ⟨⟨⟨hx, hb, hml, hown, hts⟩, hK, hJ⟩, hr, hlocks⟩ := C
  exact W.aret hx hb (hr.trans hn) (Or.inl ⟨n, rfl⟩) (Or.inr ⟨v, rfl⟩) (fun t ht hW => h t ht (S.2.F ht)) S.2.2.2 hdg
theorem xq_vret (C : Bx p s m args meth c own cc nL none D cT ad lay A) (S : ST D cT ad lay A s M H locs) (h : ∀ t : State, t.heap = H → va_F A s t → Qc args s (.returned none) t) (hdg : decode cc pc = .ok (.return_, 1)) :
    W p l e R s m args below meth c H locs kc ks (MQ below Qc args s kc ks A) (F0 m pc ls []) := by
  obtain ⟨⟨⟨hx, hb, hml, hown, hts⟩, hK, hJ⟩, hr, hlocks⟩ := C
  exact W.vret hx hb hr (fun t ht hW => h t ht (S.2.F ht)) S.2.2.2 hdg
end XR
