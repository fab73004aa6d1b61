/-! A ROW AN INSTRUCTION, over the memory alone (gen/fx.py) -/
theorem p_go_mk {call : pCall} {Q : pQ} {X : pFr → Prop} {f : pFr} (h : X f) : p_sem call Q X (p_go f) := ⟨trivial, fun q hq _ => by cases List.mem_singleton.mp hq; exact h⟩
theorem p_on_mk {call : pCall} {Q : pQ} {X : pFr → Prop} {f : pFr} {c : Prop} (hc : c) (h : X f) : p_sem call Q X (p_on c f) := ⟨hc, fun q hq _ => by cases List.mem_singleton.mp hq; exact h⟩
theorem p_if_mk {call : pCall} {Q : pQ} {X : pFr → Prop} {f g : pFr} {c : Prop} (h : c → X f) (h2 : ¬ c → X g) : p_sem call Q X (p_if c f g) := ⟨trivial, fun q hq hc => by
  rcases List.mem_cons.mp hq with rfl | hq
  · exact h hc
  · cases List.mem_singleton.mp hq; exact h2 hc⟩
/-- fewer locals known -/
def p_le : List (Option Value) → List (Option Value) → Prop
  | [], _ => True
  | none :: a, [] => p_le a []
  | some _ :: _, [] => False
  | none :: a, _ :: b => p_le a b
  | some x :: a, y :: b => y = some x ∧ p_le a b
theorem p_le_get : ∀ {a b : List (Option Value)}, p_le a b → ∀ i v, p_lg a i = some v → p_lg b i = some v
  | [], _, _, i, v, h => by cases h
  | none :: a, [], h, 0, v, g => by cases g
  | none :: a, [], h, i + 1, v, g => by have := p_le_get (a := a) (b := []) h i v g; cases this
  | some _ :: _, [], h, _, _, _ => h.elim
  | none :: a, _ :: b, h, 0, v, g => by cases g
  | none :: a, _ :: b, h, i + 1, v, g => p_le_get (a := a) (b := b) h i v g
  | some x :: a, y :: b, h, 0, v, g => by cases g; exact h.1
  | some x :: a, y :: b, h, i + 1, v, g => p_le_get (a := a) (b := b) h.2 i v g
def qI (Q : Int32 → Mem → Prop) : pQ := fun r M => ∃ v, r = some (.int v) ∧ Q v M
def qL (Q : Int64 → Mem → Prop) : pQ := fun r M => ∃ v, r = some (.long v) ∧ Q v M
def qV (Q : Mem → Prop) : pQ := fun r M => r = none ∧ Q M
def qR (n : Nat) (Q : Mem → Prop) : pQ := fun r M => r = some (.ref n) ∧ Q M
def exI (lay : List LC) (d y : Nat) (av : List Value) (M : Mem) (Q : Int32 → Mem → Prop) : Prop := ex MT lay d y av M (qI Q)
def exL (lay : List LC) (d y : Nat) (av : List Value) (M : Mem) (Q : Int64 → Mem → Prop) : Prop := ex MT lay d y av M (qL Q)
def exV (lay : List LC) (d y : Nat) (av : List Value) (M : Mem) (Q : Mem → Prop) : Prop := ex MT lay d y av M (qV Q)
def exR (lay : List LC) (d y : Nat) (av : List Value) (M : Mem) (n : Nat) (Q : Mem → Prop) : Prop := ex MT lay d y av M (qR n Q)
theorem exI_mono {lay : List LC} {d y : Nat} {av : List Value} {M : Mem} {Q Q' : Int32 → Mem → Prop} (h : exI lay d y av M Q) (hQ : ∀ v M, Q v M → Q' v M) : exI lay d y av M Q' := ex_mono MT lay d _ _ _ _ _ (fun _ _ ⟨v, e, q⟩ => ⟨v, e, hQ _ _ q⟩) h
theorem exV_mono {lay : List LC} {d y : Nat} {av : List Value} {M : Mem} {Q Q' : Mem → Prop} (h : exV lay d y av M Q) (hQ : ∀ M, Q M → Q' M) : exV lay d y av M Q' := ex_mono MT lay d _ _ _ _ _ (fun _ _ ⟨e, q⟩ => ⟨e, hQ _ q⟩) h
theorem exI_le {lay : List LC} {d d' y : Nat} {av : List Value} {M : Mem} {Q : Int32 → Mem → Prop} (hd : d ≤ d') (h : exI lay d y av M Q) : exI lay d' y av M Q := ex_le hd h
theorem exV_le {lay : List LC} {d d' y : Nat} {av : List Value} {M : Mem} {Q : Mem → Prop} (hd : d ≤ d') (h : exV lay d y av M Q) : exV lay d' y av M Q := ex_le hd h
/-- a frame of a method -/
abbrev fx (lay : List LC) (d : Nat) (cd : pCd) (Q : pQ) (f : pFr) : Prop := fw (ex MT lay d) cd lay Q f
section FX
variable {lay : List LC} {d : Nat} {cd : pCd} {Q : pQ} {pc nx a b k : Nat} {ls : List (Option Value)} {st : List Value} {M : Mem}
theorem fx_at {i : Instr} (hf : p_fe cd.2.2.2.2 pc = some (nx, i, a, b, k)) (h : p_sem (ex MT lay d) Q (fx lay d cd Q) (p_step cd lay nx i a b k pc ls st M)) : fx lay d cd Q (pc, ls, st, M) := by
  refine fw_stp ?_
  unfold p_stp
  simp only [hf]
  exact h
theorem fx_cut {ls' : List (Option Value)} (hs : p_le ls' ls) (h : fx lay d cd Q (pc, ls', st, M)) : fx lay d cd Q (pc, ls, st, M) := fw_sub (p_le_get hs) h
theorem fx_aload_n {n : Fin 4} {q : Nat} (hf : p_fe cd.2.2.2.2 pc = some (nx, .aload_n n, a, b, k)) (hl : p_lg ls n = some (.ref q)) (h : fx lay d cd Q (nx, ls, .ref q :: st, M)) : fx lay d cd Q (pc, ls, st, M) := fx_at hf (by unfold p_step; simp only [hl]; exact p_go_mk h)
theorem fx_aload {n : Nat} {q : Nat} (hf : p_fe cd.2.2.2.2 pc = some (nx, .aload n, a, b, k)) (hl : p_lg ls n = some (.ref q)) (h : fx lay d cd Q (nx, ls, .ref q :: st, M)) : fx lay d cd Q (pc, ls, st, M) := fx_at hf (by unfold p_step; simp only [hl]; exact p_go_mk h)
theorem fx_iload_n {n : Fin 4} {q : Int32} (hf : p_fe cd.2.2.2.2 pc = some (nx, .iload_n n, a, b, k)) (hl : p_lg ls n = some (.int q)) (h : fx lay d cd Q (nx, ls, .int q :: st, M)) : fx lay d cd Q (pc, ls, st, M) := fx_at hf (by unfold p_step; simp only [hl]; exact p_go_mk h)
theorem fx_iload {n : Nat} {q : Int32} (hf : p_fe cd.2.2.2.2 pc = some (nx, .iload n, a, b, k)) (hl : p_lg ls n = some (.int q)) (h : fx lay d cd Q (nx, ls, .int q :: st, M)) : fx lay d cd Q (pc, ls, st, M) := fx_at hf (by unfold p_step; simp only [hl]; exact p_go_mk h)
theorem fx_lload_n {n : Fin 4} {q : Int64} (hf : p_fe cd.2.2.2.2 pc = some (nx, .lload_n n, a, b, k)) (hl : p_lg ls n = some (.long q)) (h : fx lay d cd Q (nx, ls, .long q :: st, M)) : fx lay d cd Q (pc, ls, st, M) := fx_at hf (by unfold p_step; simp only [hl]; exact p_go_mk h)
theorem fx_lload {n : Nat} {q : Int64} (hf : p_fe cd.2.2.2.2 pc = some (nx, .lload n, a, b, k)) (hl : p_lg ls n = some (.long q)) (h : fx lay d cd Q (nx, ls, .long q :: st, M)) : fx lay d cd Q (pc, ls, st, M) := fx_at hf (by unfold p_step; simp only [hl]; exact p_go_mk h)
theorem fx_iconst {n : Int} {v : Int32} (hf : p_fe cd.2.2.2.2 pc = some (nx, .iconst n, a, b, k)) (hv : Int32.ofInt n = v) (h : fx lay d cd Q (nx, ls, .int v :: st, M)) : fx lay d cd Q (pc, ls, st, M) := fx_at hf (by subst hv; exact p_go_mk h)
theorem fx_bipush {n : Int} {v : Int32} (hf : p_fe cd.2.2.2.2 pc = some (nx, .bipush n, a, b, k)) (hv : (Int8.ofInt n).toInt32 = v) (h : fx lay d cd Q (nx, ls, .int v :: st, M)) : fx lay d cd Q (pc, ls, st, M) := fx_at hf (by subst hv; exact p_go_mk h)
theorem fx_sipush {n : Int} {v : Int32} (hf : p_fe cd.2.2.2.2 pc = some (nx, .sipush n, a, b, k)) (hv : (Int16.ofInt n).toInt32 = v) (h : fx lay d cd Q (nx, ls, .int v :: st, M)) : fx lay d cd Q (pc, ls, st, M) := fx_at hf (by subst hv; exact p_go_mk h)
theorem fx_lconst {n : Fin 2} {v : Int64} (hf : p_fe cd.2.2.2.2 pc = some (nx, .lconst n, a, b, k)) (hv : Int64.ofNat (n : Nat) = v) (h : fx lay d cd Q (nx, ls, .long v :: st, M)) : fx lay d cd Q (pc, ls, st, M) := fx_at hf (by subst hv; exact p_go_mk h)
theorem fx_ldc {n : Nat} (hf : p_fe cd.2.2.2.2 pc = some (nx, .ldc n, a, b, k)) (h : fx lay d cd Q (nx, ls, .int (nI a) :: st, M)) : fx lay d cd Q (pc, ls, st, M) := fx_at hf (p_go_mk h)
theorem fx_ldc_w {n : Nat} (hf : p_fe cd.2.2.2.2 pc = some (nx, .ldc_w n, a, b, k)) (h : fx lay d cd Q (nx, ls, .int (nI a) :: st, M)) : fx lay d cd Q (pc, ls, st, M) := fx_at hf (p_go_mk h)
theorem fx_ldc2_w {n : Nat} (hf : p_fe cd.2.2.2.2 pc = some (nx, .ldc2_w n, a, b, k)) (h : fx lay d cd Q (nx, ls, .long (lN a) :: st, M)) : fx lay d cd Q (pc, ls, st, M) := fx_at hf (p_go_mk h)
theorem fx_istore_n {n : Fin 4} {q : Int32} {ls' : List (Option Value)} (hf : p_fe cd.2.2.2.2 pc = some (nx, .istore_n n, a, b, k)) (hl : p_s1 ls n (.int q) = ls') (h : fx lay d cd Q (nx, ls', st, M)) : fx lay d cd Q (pc, ls, .int q :: st, M) := fx_at hf (by subst hl; exact p_go_mk h)
theorem fx_istore {n : Nat} {q : Int32} {ls' : List (Option Value)} (hf : p_fe cd.2.2.2.2 pc = some (nx, .istore n, a, b, k)) (hl : p_s1 ls n (.int q) = ls') (h : fx lay d cd Q (nx, ls', st, M)) : fx lay d cd Q (pc, ls, .int q :: st, M) := fx_at hf (by subst hl; exact p_go_mk h)
theorem fx_astore_n {n : Fin 4} {q : Nat} {ls' : List (Option Value)} (hf : p_fe cd.2.2.2.2 pc = some (nx, .astore_n n, a, b, k)) (hl : p_s1 ls n (.ref q) = ls') (h : fx lay d cd Q (nx, ls', st, M)) : fx lay d cd Q (pc, ls, .ref q :: st, M) := fx_at hf (by subst hl; exact p_go_mk h)
theorem fx_astore {n : Nat} {q : Nat} {ls' : List (Option Value)} (hf : p_fe cd.2.2.2.2 pc = some (nx, .astore n, a, b, k)) (hl : p_s1 ls n (.ref q) = ls') (h : fx lay d cd Q (nx, ls', st, M)) : fx lay d cd Q (pc, ls, .ref q :: st, M) := fx_at hf (by subst hl; exact p_go_mk h)
theorem fx_lstore_n {n : Fin 4} {q : Int64} {ls' : List (Option Value)} (hf : p_fe cd.2.2.2.2 pc = some (nx, .lstore_n n, a, b, k)) (hl : p_s2 ls n (.long q) = ls') (h : fx lay d cd Q (nx, ls', st, M)) : fx lay d cd Q (pc, ls, .long q :: st, M) := fx_at hf (by subst hl; exact p_go_mk h)
theorem fx_lstore {n : Nat} {q : Int64} {ls' : List (Option Value)} (hf : p_fe cd.2.2.2.2 pc = some (nx, .lstore n, a, b, k)) (hl : p_s2 ls n (.long q) = ls') (h : fx lay d cd Q (nx, ls', st, M)) : fx lay d cd Q (pc, ls, .long q :: st, M) := fx_at hf (by subst hl; exact p_go_mk h)
theorem fx_iinc {n : Nat} {i : Int} {q v : Int32} {ls' : List (Option Value)} (hf : p_fe cd.2.2.2.2 pc = some (nx, .iinc n i, a, b, k)) (hl : p_lg ls n = some (.int q)) (hv : q + Int32.ofInt i = v) (hs : p_s1 ls n (.int v) = ls') (h : fx lay d cd Q (nx, ls', st, M)) : fx lay d cd Q (pc, ls, st, M) := fx_at hf (by subst hs; subst hv; unfold p_step; simp only [hl]; exact p_go_mk h)
theorem fx_iadd {x y : Int32} (hf : p_fe cd.2.2.2.2 pc = some (nx, .iadd, a, b, k)) (h : fx lay d cd Q (nx, ls, .int (x + y) :: st, M)) : fx lay d cd Q (pc, ls, .int y :: .int x :: st, M) := fx_at hf (p_go_mk h)
theorem fx_isub {x y : Int32} (hf : p_fe cd.2.2.2.2 pc = some (nx, .isub, a, b, k)) (h : fx lay d cd Q (nx, ls, .int (x - y) :: st, M)) : fx lay d cd Q (pc, ls, .int y :: .int x :: st, M) := fx_at hf (p_go_mk h)
theorem fx_imul {x y : Int32} (hf : p_fe cd.2.2.2.2 pc = some (nx, .imul, a, b, k)) (h : fx lay d cd Q (nx, ls, .int (x * y) :: st, M)) : fx lay d cd Q (pc, ls, .int y :: .int x :: st, M) := fx_at hf (p_go_mk h)
theorem fx_iand {x y : Int32} (hf : p_fe cd.2.2.2.2 pc = some (nx, .iand, a, b, k)) (h : fx lay d cd Q (nx, ls, .int (x &&& y) :: st, M)) : fx lay d cd Q (pc, ls, .int y :: .int x :: st, M) := fx_at hf (p_go_mk h)
theorem fx_ior {x y : Int32} (hf : p_fe cd.2.2.2.2 pc = some (nx, .ior, a, b, k)) (h : fx lay d cd Q (nx, ls, .int (x ||| y) :: st, M)) : fx lay d cd Q (pc, ls, .int y :: .int x :: st, M) := fx_at hf (p_go_mk h)
theorem fx_ixor {x y : Int32} (hf : p_fe cd.2.2.2.2 pc = some (nx, .ixor, a, b, k)) (h : fx lay d cd Q (nx, ls, .int (x ^^^ y) :: st, M)) : fx lay d cd Q (pc, ls, .int y :: .int x :: st, M) := fx_at hf (p_go_mk h)
theorem fx_ishl {x y : Int32} (hf : p_fe cd.2.2.2.2 pc = some (nx, .ishl, a, b, k)) (h : fx lay d cd Q (nx, ls, .int (x <<< (y &&& 31)) :: st, M)) : fx lay d cd Q (pc, ls, .int y :: .int x :: st, M) := fx_at hf (p_go_mk h)
theorem fx_ishr {x y : Int32} (hf : p_fe cd.2.2.2.2 pc = some (nx, .ishr, a, b, k)) (h : fx lay d cd Q (nx, ls, .int (x >>> (y &&& 31)) :: st, M)) : fx lay d cd Q (pc, ls, .int y :: .int x :: st, M) := fx_at hf (p_go_mk h)
theorem fx_iushr {x y : Int32} (hf : p_fe cd.2.2.2.2 pc = some (nx, .iushr, a, b, k)) (h : fx lay d cd Q (nx, ls, .int ((x.toUInt32 >>> (y.toUInt32 &&& Int32.toUInt32 31)).toInt32) :: st, M)) : fx lay d cd Q (pc, ls, .int y :: .int x :: st, M) := fx_at hf (p_go_mk h)
theorem fx_idiv {x y : Int32} (hf : p_fe cd.2.2.2.2 pc = some (nx, .idiv, a, b, k)) (hy : ¬ y = 0) (h : fx lay d cd Q (nx, ls, .int (x / y) :: st, M)) : fx lay d cd Q (pc, ls, .int y :: .int x :: st, M) := fx_at hf (p_on_mk hy h)
theorem fx_irem {x y : Int32} (hf : p_fe cd.2.2.2.2 pc = some (nx, .irem, a, b, k)) (hy : ¬ y = 0) (h : fx lay d cd Q (nx, ls, .int (x - x / y * y) :: st, M)) : fx lay d cd Q (pc, ls, .int y :: .int x :: st, M) := fx_at hf (p_on_mk hy h)
theorem fx_ladd {x y : Int64} (hf : p_fe cd.2.2.2.2 pc = some (nx, .ladd, a, b, k)) (h : fx lay d cd Q (nx, ls, .long (x + y) :: st, M)) : fx lay d cd Q (pc, ls, .long y :: .long x :: st, M) := fx_at hf (p_go_mk h)
theorem fx_lsub {x y : Int64} (hf : p_fe cd.2.2.2.2 pc = some (nx, .lsub, a, b, k)) (h : fx lay d cd Q (nx, ls, .long (x - y) :: st, M)) : fx lay d cd Q (pc, ls, .long y :: .long x :: st, M) := fx_at hf (p_go_mk h)
theorem fx_lmul {x y : Int64} (hf : p_fe cd.2.2.2.2 pc = some (nx, .lmul, a, b, k)) (h : fx lay d cd Q (nx, ls, .long (x * y) :: st, M)) : fx lay d cd Q (pc, ls, .long y :: .long x :: st, M) := fx_at hf (p_go_mk h)
theorem fx_land {x y : Int64} (hf : p_fe cd.2.2.2.2 pc = some (nx, .land, a, b, k)) (h : fx lay d cd Q (nx, ls, .long (x &&& y) :: st, M)) : fx lay d cd Q (pc, ls, .long y :: .long x :: st, M) := fx_at hf (p_go_mk h)
theorem fx_lor {x y : Int64} (hf : p_fe cd.2.2.2.2 pc = some (nx, .lor, a, b, k)) (h : fx lay d cd Q (nx, ls, .long (x ||| y) :: st, M)) : fx lay d cd Q (pc, ls, .long y :: .long x :: st, M) := fx_at hf (p_go_mk h)
theorem fx_ldiv {x y : Int64} (hf : p_fe cd.2.2.2.2 pc = some (nx, .ldiv, a, b, k)) (hy : ¬ y = 0) (h : fx lay d cd Q (nx, ls, .long (x / y) :: st, M)) : fx lay d cd Q (pc, ls, .long y :: .long x :: st, M) := fx_at hf (p_on_mk hy h)
theorem fx_lrem {x y : Int64} (hf : p_fe cd.2.2.2.2 pc = some (nx, .lrem, a, b, k)) (hy : ¬ y = 0) (h : fx lay d cd Q (nx, ls, .long (x - x / y * y) :: st, M)) : fx lay d cd Q (pc, ls, .long y :: .long x :: st, M) := fx_at hf (p_on_mk hy h)
theorem fx_lshl {x : Int64} {y : Int32} (hf : p_fe cd.2.2.2.2 pc = some (nx, .lshl, a, b, k)) (h : fx lay d cd Q (nx, ls, .long (x <<< (y.toInt64 &&& 63)) :: st, M)) : fx lay d cd Q (pc, ls, .int y :: .long x :: st, M) := fx_at hf (p_go_mk h)
theorem fx_lshr {x : Int64} {y : Int32} (hf : p_fe cd.2.2.2.2 pc = some (nx, .lshr, a, b, k)) (h : fx lay d cd Q (nx, ls, .long (x >>> (y.toInt64 &&& 63)) :: st, M)) : fx lay d cd Q (pc, ls, .int y :: .long x :: st, M) := fx_at hf (p_go_mk h)
theorem fx_i2l {x : Int32} (hf : p_fe cd.2.2.2.2 pc = some (nx, .i2l, a, b, k)) (h : fx lay d cd Q (nx, ls, .long x.toInt64 :: st, M)) : fx lay d cd Q (pc, ls, .int x :: st, M) := fx_at hf (p_go_mk h)
theorem fx_l2i {x : Int64} (hf : p_fe cd.2.2.2.2 pc = some (nx, .l2i, a, b, k)) (h : fx lay d cd Q (nx, ls, .int x.toInt32 :: st, M)) : fx lay d cd Q (pc, ls, .long x :: st, M) := fx_at hf (p_go_mk h)
theorem fx_i2b {x : Int32} (hf : p_fe cd.2.2.2.2 pc = some (nx, .i2b, a, b, k)) (h : fx lay d cd Q (nx, ls, .int x.toInt8.toInt32 :: st, M)) : fx lay d cd Q (pc, ls, .int x :: st, M) := fx_at hf (p_go_mk h)
theorem fx_lcmp {x y : Int64} (hf : p_fe cd.2.2.2.2 pc = some (nx, .lcmp, a, b, k)) (h : fx lay d cd Q (nx, ls, .int (lg_cmp x y) :: st, M)) : fx lay d cd Q (pc, ls, .long y :: .long x :: st, M) := fx_at hf (p_go_mk h)
theorem fx_dup {v : Value} (hf : p_fe cd.2.2.2.2 pc = some (nx, .dup, a, b, k)) (hv : v.category = 1) (h : fx lay d cd Q (nx, ls, v :: v :: st, M)) : fx lay d cd Q (pc, ls, v :: st, M) := fx_at hf (p_on_mk hv h)
theorem fx_pop {v : Value} (hf : p_fe cd.2.2.2.2 pc = some (nx, .pop, a, b, k)) (hv : v.category = 1) (h : fx lay d cd Q (nx, ls, st, M)) : fx lay d cd Q (pc, ls, v :: st, M) := fx_at hf (p_on_mk hv h)
theorem fx_dup_x1 {v w : Value} (hf : p_fe cd.2.2.2.2 pc = some (nx, .dup_x1, a, b, k)) (hv : v.category = 1 ∧ w.category = 1) (h : fx lay d cd Q (nx, ls, v :: w :: v :: st, M)) : fx lay d cd Q (pc, ls, v :: w :: st, M) := fx_at hf (p_on_mk hv h)
theorem fx_dup2 {v w : Value} (hf : p_fe cd.2.2.2.2 pc = some (nx, .dup2, a, b, k)) (hv : v.category = 1 ∧ w.category = 1) (h : fx lay d cd Q (nx, ls, v :: w :: v :: w :: st, M)) : fx lay d cd Q (pc, ls, v :: w :: st, M) := fx_at hf (p_on_mk hv h)
theorem fx_icmp_eq {x y : Int32} {off : Int} (hf : p_fe cd.2.2.2.2 pc = some (nx, .if_icmp .eq off, a, b, k)) (h : (x = y → fx lay d cd Q (a, ls, st, M)) ∧ (¬ x = y → fx lay d cd Q (nx, ls, st, M))) : fx lay d cd Q (pc, ls, .int y :: .int x :: st, M) := fx_at hf (p_if_mk (c := p_cc .eq x y) h.1 (h.2))
theorem fx_if_eq {x : Int32} {off : Int} (hf : p_fe cd.2.2.2.2 pc = some (nx, .ifCond .eq off, a, b, k)) (h : (x = 0 → fx lay d cd Q (a, ls, st, M)) ∧ (¬ x = 0 → fx lay d cd Q (nx, ls, st, M))) : fx lay d cd Q (pc, ls, .int x :: st, M) := fx_at hf (p_if_mk (c := p_cc .eq x 0) h.1 (h.2))
theorem fx_icmp_ne {x y : Int32} {off : Int} (hf : p_fe cd.2.2.2.2 pc = some (nx, .if_icmp .ne off, a, b, k)) (h : (¬ x = y → fx lay d cd Q (a, ls, st, M)) ∧ (x = y → fx lay d cd Q (nx, ls, st, M))) : fx lay d cd Q (pc, ls, .int y :: .int x :: st, M) := fx_at hf (p_if_mk (c := p_cc .ne x y) h.1 (fun hc => h.2 (Classical.byContradiction hc)))
theorem fx_if_ne {x : Int32} {off : Int} (hf : p_fe cd.2.2.2.2 pc = some (nx, .ifCond .ne off, a, b, k)) (h : (¬ x = 0 → fx lay d cd Q (a, ls, st, M)) ∧ (x = 0 → fx lay d cd Q (nx, ls, st, M))) : fx lay d cd Q (pc, ls, .int x :: st, M) := fx_at hf (p_if_mk (c := p_cc .ne x 0) h.1 (fun hc => h.2 (Classical.byContradiction hc)))
theorem fx_icmp_lt {x y : Int32} {off : Int} (hf : p_fe cd.2.2.2.2 pc = some (nx, .if_icmp .lt off, a, b, k)) (h : (x < y → fx lay d cd Q (a, ls, st, M)) ∧ (¬ x < y → fx lay d cd Q (nx, ls, st, M))) : fx lay d cd Q (pc, ls, .int y :: .int x :: st, M) := fx_at hf (p_if_mk (c := p_cc .lt x y) h.1 (h.2))
theorem fx_if_lt {x : Int32} {off : Int} (hf : p_fe cd.2.2.2.2 pc = some (nx, .ifCond .lt off, a, b, k)) (h : (x < 0 → fx lay d cd Q (a, ls, st, M)) ∧ (¬ x < 0 → fx lay d cd Q (nx, ls, st, M))) : fx lay d cd Q (pc, ls, .int x :: st, M) := fx_at hf (p_if_mk (c := p_cc .lt x 0) h.1 (h.2))
theorem fx_icmp_ge {x y : Int32} {off : Int} (hf : p_fe cd.2.2.2.2 pc = some (nx, .if_icmp .ge off, a, b, k)) (h : (y ≤ x → fx lay d cd Q (a, ls, st, M)) ∧ (¬ y ≤ x → fx lay d cd Q (nx, ls, st, M))) : fx lay d cd Q (pc, ls, .int y :: .int x :: st, M) := fx_at hf (p_if_mk (c := p_cc .ge x y) h.1 (h.2))
theorem fx_if_ge {x : Int32} {off : Int} (hf : p_fe cd.2.2.2.2 pc = some (nx, .ifCond .ge off, a, b, k)) (h : (0 ≤ x → fx lay d cd Q (a, ls, st, M)) ∧ (¬ 0 ≤ x → fx lay d cd Q (nx, ls, st, M))) : fx lay d cd Q (pc, ls, .int x :: st, M) := fx_at hf (p_if_mk (c := p_cc .ge x 0) h.1 (h.2))
theorem fx_icmp_gt {x y : Int32} {off : Int} (hf : p_fe cd.2.2.2.2 pc = some (nx, .if_icmp .gt off, a, b, k)) (h : (y < x → fx lay d cd Q (a, ls, st, M)) ∧ (¬ y < x → fx lay d cd Q (nx, ls, st, M))) : fx lay d cd Q (pc, ls, .int y :: .int x :: st, M) := fx_at hf (p_if_mk (c := p_cc .gt x y) h.1 (h.2))
theorem fx_if_gt {x : Int32} {off : Int} (hf : p_fe cd.2.2.2.2 pc = some (nx, .ifCond .gt off, a, b, k)) (h : (0 < x → fx lay d cd Q (a, ls, st, M)) ∧ (¬ 0 < x → fx lay d cd Q (nx, ls, st, M))) : fx lay d cd Q (pc, ls, .int x :: st, M) := fx_at hf (p_if_mk (c := p_cc .gt x 0) h.1 (h.2))
theorem fx_icmp_le {x y : Int32} {off : Int} (hf : p_fe cd.2.2.2.2 pc = some (nx, .if_icmp .le off, a, b, k)) (h : (x ≤ y → fx lay d cd Q (a, ls, st, M)) ∧ (¬ x ≤ y → fx lay d cd Q (nx, ls, st, M))) : fx lay d cd Q (pc, ls, .int y :: .int x :: st, M) := fx_at hf (p_if_mk (c := p_cc .le x y) h.1 (h.2))
theorem fx_if_le {x : Int32} {off : Int} (hf : p_fe cd.2.2.2.2 pc = some (nx, .ifCond .le off, a, b, k)) (h : (x ≤ 0 → fx lay d cd Q (a, ls, st, M)) ∧ (¬ x ≤ 0 → fx lay d cd Q (nx, ls, st, M))) : fx lay d cd Q (pc, ls, .int x :: st, M) := fx_at hf (p_if_mk (c := p_cc .le x 0) h.1 (h.2))
theorem fx_goto {off : Int} (hf : p_fe cd.2.2.2.2 pc = some (nx, .goto off, a, b, k)) (h : fx lay d cd Q (a, ls, st, M)) : fx lay d cd Q (pc, ls, st, M) := fx_at hf (p_go_mk h)
theorem fx_ifnonnull {off : Int} {n : Nat} (hf : p_fe cd.2.2.2.2 pc = some (nx, .ifnonnull off, a, b, k)) (h : fx lay d cd Q (a, ls, st, M)) : fx lay d cd Q (pc, ls, .ref n :: st, M) := fx_at hf (p_go_mk h)
def p_sw (x : Int32) (pc : Int) (X : Nat → Prop) : Int → List Int → Prop
  | _, [] => True
  | j, o :: os => (x = Int32.ofInt j → X (pc + o).toNat) ∧ p_sw x pc X (j + 1) os
theorem p_sw_at {x : Int32} {pc : Int} {X : Nat → Prop} : ∀ {os : List Int} {j : Int}, p_sw x pc X j os → ∀ (n : Nat) (h : n < os.length), x.toInt = j + n → X (pc + os[n]).toNat
  | o :: os, j, h, 0, _, e => h.1 (by rw [show j = x.toInt by omega, Int32.ofInt_toInt])
  | o :: os, j, h, n + 1, hl, e => p_sw_at (os := os) h.2 n (by simpa using hl) (by omega)
def p_ln (x : Int32) : List (Int × Int) → Prop
  | [] => True
  | q :: qs => ¬ x = Int32.ofInt q.1 ∧ p_ln x qs
def p_lw (x : Int32) (pc : Int) (X : Nat → Prop) : List (Int × Int) → Prop
  | [] => True
  | q :: qs => (x = Int32.ofInt q.1 → X (pc + q.2).toNat) ∧ p_lw x pc X qs
theorem p_lw_at {x : Int32} {pc : Int} {X : Nat → Prop} : ∀ {qs : List (Int × Int)}, p_lw x pc X qs → ∀ q ∈ qs, x.toInt = q.1 → X (pc + q.2).toNat
  | q :: qs, h, w, hw, e => by
    rcases List.mem_cons.mp hw with rfl | hw
    · exact h.1 (by rw [← e, Int32.ofInt_toInt])
    · exact p_lw_at h.2 w hw e
def p_iok (n : Int) : Bool := decide (-2147483648 ≤ n) && decide (n < 2147483648)
theorem p_ln_of {x : Int32} : ∀ {qs : List (Int × Int)}, qs.all (fun q => p_iok q.1) = true → (∀ q ∈ qs, ¬ x.toInt = q.1) → p_ln x qs
  | [], _, _ => trivial
  | q :: qs, hk, h => by
    simp only [List.all_cons, Bool.and_eq_true, p_iok, decide_eq_true_eq] at hk
    refine ⟨fun e => h q List.mem_cons_self ?_, p_ln_of hk.2 (fun w hw => h w (List.mem_cons_of_mem _ hw))⟩
    rw [e]
    exact Int32.toInt_ofInt_of_le (by simpa using hk.1.1) (by simpa using hk.1.2)
theorem fx_table {df lo hi : Int} {offs : Array Int} {x : Int32} (hf : p_fe cd.2.2.2.2 pc = some (nx, .tableswitch df lo hi offs, a, b, k)) (h : ((x.toInt < lo ∨ hi < x.toInt) → fx lay d cd Q (((pc : Int) + df).toNat, ls, st, M)) ∧ p_sw x pc (fun t => fx lay d cd Q (t, ls, st, M)) lo offs.toList) : fx lay d cd Q (pc, ls, .int x :: st, M) := by
  refine fx_at hf ⟨trivial, fun q hq hc => ?_⟩
  rcases List.mem_cons.mp hq with rfl | hq
  · exact h.1 hc
  · rw [List.mem_mapIdx] at hq
    obtain ⟨j, hj, rfl⟩ := hq
    exact p_sw_at h.2 j hj hc
theorem fx_lookup {df : Int} {ps : Array (Int × Int)} {x : Int32} (hf : p_fe cd.2.2.2.2 pc = some (nx, .lookupswitch df ps, a, b, k)) (hp : ps.toList.all (fun q => p_iok q.1) = true) (h : (p_ln x ps.toList → fx lay d cd Q (((pc : Int) + df).toNat, ls, st, M)) ∧ p_lw x pc (fun t => fx lay d cd Q (t, ls, st, M)) ps.toList) : fx lay d cd Q (pc, ls, .int x :: st, M) := by
  refine fx_at hf ⟨trivial, fun q hq hc => ?_⟩
  rcases List.mem_cons.mp hq with rfl | hq
  · exact h.1 (p_ln_of hp hc)
  · obtain ⟨w, hw, rfl⟩ := List.mem_map.mp hq
    exact p_lw_at h.2 w hw hc
theorem fx_getI {n q : Nat} {v : Int32} {fks : List FK} (hf : p_fe cd.2.2.2.2 pc = some (nx, .getfield n, a, b, k)) (hi : lay[q]? = some (.inr (a, fks))) (hk : fks[b]? = some none) (hv : M.1 q b = v) (h : fx lay d cd Q (nx, ls, .int v :: st, M)) : fx lay d cd Q (pc, ls, .ref q :: st, M) := fx_at hf (by subst hv; unfold p_step; simp only [hi, hk]; exact p_on_mk trivial h)
theorem fx_getR {n q j : Nat} {fks : List FK} (hf : p_fe cd.2.2.2.2 pc = some (nx, .getfield n, a, b, k)) (hi : lay[q]? = some (.inr (a, fks))) (hk : fks[b]? = some (some (some j))) (h : fx lay d cd Q (nx, ls, .ref j :: st, M)) : fx lay d cd Q (pc, ls, .ref q :: st, M) := fx_at hf (by unfold p_step; simp only [hi, hk]; exact p_on_mk trivial h)
theorem fx_putI {n q : Nat} {v : Int32} {fks : List FK} (hf : p_fe cd.2.2.2.2 pc = some (nx, .putfield n, a, b, k)) (hi : lay[q]? = some (.inr (a, fks))) (hk : fks[b]? = some none) (hc : k = 0 ∨ p_bits v) (h : fx lay d cd Q (nx, ls, st, si M q b v)) : fx lay d cd Q (pc, ls, .int v :: .ref q :: st, M) := fx_at hf (by unfold p_step; simp only [hi, hk]; exact p_on_mk ⟨trivial, hc⟩ h)
theorem fx_iaload {q n j : Nat} {x v : Int32} (hf : p_fe cd.2.2.2.2 pc = some (nx, .iaload, a, b, k)) (hi : lay[q]? = some (.inl (0, n))) (hj : x.toNatClampNeg = j) (hv : M.1 q j = v) (hx : vp_in x n) (h : fx lay d cd Q (nx, ls, .int v :: st, M)) : fx lay d cd Q (pc, ls, .int x :: .ref q :: st, M) := fx_at hf (by subst hv; subst hj; unfold p_step; simp only [hi]; exact p_on_mk hx h)
theorem fx_zaload {q n j : Nat} {x v : Int32} (hf : p_fe cd.2.2.2.2 pc = some (nx, .baload, a, b, k)) (hi : lay[q]? = some (.inl (2, n))) (hj : x.toNatClampNeg = j) (hv : M.1 q j = v) (hx : vp_in x n) (h : fx lay d cd Q (nx, ls, .int v :: st, M)) : fx lay d cd Q (pc, ls, .int x :: .ref q :: st, M) := fx_at hf (by subst hv; subst hj; unfold p_step; simp only [hi]; exact p_on_mk hx h)
theorem fx_baload {q n j : Nat} {x v : Int32} (hf : p_fe cd.2.2.2.2 pc = some (nx, .baload, a, b, k)) (hi : lay[q]? = some (.inl (3, n))) (hj : x.toNatClampNeg = j) (hv : M.1 q j = v) (hx : vp_in x n) (h : fx lay d cd Q (nx, ls, .int v :: st, M)) : fx lay d cd Q (pc, ls, .int x :: .ref q :: st, M) := fx_at hf (by subst hv; subst hj; unfold p_step; simp only [hi]; exact p_on_mk hx h)
theorem fx_laload {q n j : Nat} {x : Int32} {v : Int64} (hf : p_fe cd.2.2.2.2 pc = some (nx, .laload, a, b, k)) (hi : lay[q]? = some (.inl (1, n))) (hj : x.toNatClampNeg = j) (hv : M.2 q j = v) (hx : vp_in x n) (h : fx lay d cd Q (nx, ls, .long v :: st, M)) : fx lay d cd Q (pc, ls, .int x :: .ref q :: st, M) := fx_at hf (by subst hv; subst hj; unfold p_step; simp only [hi]; exact p_on_mk hx h)
theorem fx_iastore {q n j : Nat} {x v : Int32} (hf : p_fe cd.2.2.2.2 pc = some (nx, .iastore, a, b, k)) (hi : lay[q]? = some (.inl (0, n))) (hj : x.toNatClampNeg = j) (hx : vp_in x n) (h : fx lay d cd Q (nx, ls, st, si M q j v)) : fx lay d cd Q (pc, ls, .int v :: .int x :: .ref q :: st, M) := fx_at hf (by subst hj; unfold p_step; simp only [hi]; exact p_on_mk hx h)
theorem fx_zastore {q n j : Nat} {x v : Int32} (hf : p_fe cd.2.2.2.2 pc = some (nx, .bastore, a, b, k)) (hi : lay[q]? = some (.inl (2, n))) (hj : x.toNatClampNeg = j) (hx : vp_in x n) (h : fx lay d cd Q (nx, ls, st, si M q j (vp_nar .boolean v))) : fx lay d cd Q (pc, ls, .int v :: .int x :: .ref q :: st, M) := fx_at hf (by subst hj; unfold p_step; simp only [hi]; exact p_on_mk hx h)
theorem fx_bastore {q n j : Nat} {x v : Int32} (hf : p_fe cd.2.2.2.2 pc = some (nx, .bastore, a, b, k)) (hi : lay[q]? = some (.inl (3, n))) (hj : x.toNatClampNeg = j) (hx : vp_in x n) (h : fx lay d cd Q (nx, ls, st, si M q j (vp_nar .byte v))) : fx lay d cd Q (pc, ls, .int v :: .int x :: .ref q :: st, M) := fx_at hf (by subst hj; unfold p_step; simp only [hi]; exact p_on_mk hx h)
theorem fx_lastore {q n j : Nat} {x : Int32} {v : Int64} (hf : p_fe cd.2.2.2.2 pc = some (nx, .lastore, a, b, k)) (hi : lay[q]? = some (.inl (1, n))) (hj : x.toNatClampNeg = j) (hx : vp_in x n) (h : fx lay d cd Q (nx, ls, st, sj M q j v)) : fx lay d cd Q (pc, ls, .long v :: .int x :: .ref q :: st, M) := fx_at hf (by subst hj; unfold p_step; simp only [hi]; exact p_on_mk hx h)
theorem fx_alen {q t n : Nat} {v : Int32} (hf : p_fe cd.2.2.2.2 pc = some (nx, .arraylength, a, b, k)) (hi : lay[q]? = some (.inl (t, n))) (ht : t < 4) (hv : Int32.ofNat n = v) (h : fx lay d cd Q (nx, ls, .int v :: st, M)) : fx lay d cd Q (pc, ls, .ref q :: st, M) := fx_at hf (by subst hv; unfold p_step; simp only [hi]; exact p_on_mk ht h)
theorem fx_max {n : Nat} {x y : Int32} (hf : p_fe cd.2.2.2.2 pc = some (nx, .invokestatic n, a, b, k)) (hb : b = 4) (hs : p_sum st ≤ 8) (h : fx lay d cd Q (nx, ls, .int (if x < y then y else x) :: st, M)) : fx lay d cd Q (pc, ls, .int y :: .int x :: st, M) := fx_at hf (by subst hb; exact p_on_mk hs h)
theorem fx_min {n : Nat} {x y : Int32} (hf : p_fe cd.2.2.2.2 pc = some (nx, .invokestatic n, a, b, k)) (hb : b = 5) (hs : p_sum st ≤ 8) (h : fx lay d cd Q (nx, ls, .int (if y < x then y else x) :: st, M)) : fx lay d cd Q (pc, ls, .int y :: .int x :: st, M) := fx_at hf (by subst hb; exact p_on_mk hs h)
theorem fx_copy {i q r n0 n1 : Nat} {n dp sp : Int32} {f1 f2 : Nat → Int32} {m1 m2 m3 : Nat} (hf : p_fe cd.2.2.2.2 pc = some (nx, .invokestatic i, a, b, k)) (hb : b = 3) (g1 : M.1 r = f1) (g2 : M.1 q = f2) (e1 : sp.toNatClampNeg = m1) (e2 : dp.toNatClampNeg = m2) (e3 : n.toNatClampNeg = m3) (hr : lay[r]? = some (.inl (0, n0))) (hq : lay[q]? = some (.inl (0, n1))) (hs : p_sum st ≤ 8) (hc : (¬ sp < 0 ∧ ¬ dp < 0 ∧ ¬ n < 0) ∧ (sp.toNatClampNeg + n.toNatClampNeg ≤ n0 ∧ dp.toNatClampNeg + n.toNatClampNeg ≤ n1)) (h : fx lay d cd Q (nx, ls, st, sa M q (va_cpy f1 f2 m1 m2 m3))) : fx lay d cd Q (pc, ls, .int n :: .int dp :: .ref q :: .int sp :: .ref r :: st, M) := fx_at hf (by subst hb; subst g1; subst g2; subst e1; subst e2; subst e3; unfold p_step; simp only [hr, hq]; exact p_on_mk ⟨hc.1, hc.2, hs⟩ h)
theorem fx_cvI {n q : Nat} {av rest : List Value} {fks : List FK} (hf : p_fe cd.2.2.2.2 pc = some (nx, .invokevirtual n, a, b, k)) (hd : st.drop k = .ref q :: rest) (hi : lay[q]? = some (.inr (b, fks))) (hs : p_sum rest ≤ 8) (ha : .ref q :: (st.take k).reverse = av) (h : exI lay d a av M (fun v M => fx lay d cd Q (nx, ls, .int v :: rest, M))) : fx lay d cd Q (pc, ls, st, M) := by
  subst ha
  refine fx_at hf ?_
  unfold p_step
  simp only [hd, hi]
  exact ⟨⟨trivial, hs⟩, ex_mono MT lay d _ _ _ _ _ (fun r M ⟨v, e, q⟩ => by subst e; exact q) h⟩
theorem fx_csI {n : Nat} {av rest : List Value} (hf : p_fe cd.2.2.2.2 pc = some (nx, .invokestatic n, a, b, k)) (hb : b = 1 ∨ b = 2) (hd : st.drop k = rest) (hl : k ≤ st.length) (hs : p_sum rest ≤ 8) (ha : (st.take k).reverse = av) (h : exI lay d a av M (fun v M => fx lay d cd Q (nx, ls, .int v :: rest, M))) : fx lay d cd Q (pc, ls, st, M) := by
  subst ha
  subst hd
  refine fx_at hf ?_
  rcases hb with rfl | rfl
  · exact ⟨⟨hl, hs⟩, ex_mono MT lay d _ _ _ _ _ (fun r M ⟨v, e, q⟩ => by subst e; exact q) h⟩
  · exact ⟨⟨hl, hs⟩, ex_mono MT lay d _ _ _ _ _ (fun r M ⟨v, e, q⟩ => by subst e; exact q) h⟩
theorem fx_cvL {n q : Nat} {av rest : List Value} {fks : List FK} (hf : p_fe cd.2.2.2.2 pc = some (nx, .invokevirtual n, a, b, k)) (hd : st.drop k = .ref q :: rest) (hi : lay[q]? = some (.inr (b, fks))) (hs : p_sum rest ≤ 8) (ha : .ref q :: (st.take k).reverse = av) (h : exL lay d a av M (fun v M => fx lay d cd Q (nx, ls, .long v :: rest, M))) : fx lay d cd Q (pc, ls, st, M) := by
  subst ha
  refine fx_at hf ?_
  unfold p_step
  simp only [hd, hi]
  exact ⟨⟨trivial, hs⟩, ex_mono MT lay d _ _ _ _ _ (fun r M ⟨v, e, q⟩ => by subst e; exact q) h⟩
theorem fx_csL {n : Nat} {av rest : List Value} (hf : p_fe cd.2.2.2.2 pc = some (nx, .invokestatic n, a, b, k)) (hb : b = 1 ∨ b = 2) (hd : st.drop k = rest) (hl : k ≤ st.length) (hs : p_sum rest ≤ 8) (ha : (st.take k).reverse = av) (h : exL lay d a av M (fun v M => fx lay d cd Q (nx, ls, .long v :: rest, M))) : fx lay d cd Q (pc, ls, st, M) := by
  subst ha
  subst hd
  refine fx_at hf ?_
  rcases hb with rfl | rfl
  · exact ⟨⟨hl, hs⟩, ex_mono MT lay d _ _ _ _ _ (fun r M ⟨v, e, q⟩ => by subst e; exact q) h⟩
  · exact ⟨⟨hl, hs⟩, ex_mono MT lay d _ _ _ _ _ (fun r M ⟨v, e, q⟩ => by subst e; exact q) h⟩
theorem fx_cvV {n q : Nat} {av rest : List Value} {fks : List FK} (hf : p_fe cd.2.2.2.2 pc = some (nx, .invokevirtual n, a, b, k)) (hd : st.drop k = .ref q :: rest) (hi : lay[q]? = some (.inr (b, fks))) (hs : p_sum rest ≤ 8) (ha : .ref q :: (st.take k).reverse = av) (h : exV lay d a av M (fun M => fx lay d cd Q (nx, ls, rest, M))) : fx lay d cd Q (pc, ls, st, M) := by
  subst ha
  refine fx_at hf ?_
  unfold p_step
  simp only [hd, hi]
  exact ⟨⟨trivial, hs⟩, ex_mono MT lay d _ _ _ _ _ (fun r M ⟨e, q⟩ => by subst e; exact q) h⟩
theorem fx_csV {n : Nat} {av rest : List Value} (hf : p_fe cd.2.2.2.2 pc = some (nx, .invokestatic n, a, b, k)) (hb : b = 1 ∨ b = 2) (hd : st.drop k = rest) (hl : k ≤ st.length) (hs : p_sum rest ≤ 8) (ha : (st.take k).reverse = av) (h : exV lay d a av M (fun M => fx lay d cd Q (nx, ls, rest, M))) : fx lay d cd Q (pc, ls, st, M) := by
  subst ha
  subst hd
  refine fx_at hf ?_
  rcases hb with rfl | rfl
  · exact ⟨⟨hl, hs⟩, ex_mono MT lay d _ _ _ _ _ (fun r M ⟨e, q⟩ => by subst e; exact q) h⟩
  · exact ⟨⟨hl, hs⟩, ex_mono MT lay d _ _ _ _ _ (fun r M ⟨e, q⟩ => by subst e; exact q) h⟩
theorem fx_cvR {n0 : Nat} {n q : Nat} {av rest : List Value} {fks : List FK} (hf : p_fe cd.2.2.2.2 pc = some (nx, .invokevirtual n, a, b, k)) (hd : st.drop k = .ref q :: rest) (hi : lay[q]? = some (.inr (b, fks))) (hs : p_sum rest ≤ 8) (ha : .ref q :: (st.take k).reverse = av) (h : exR lay d a av M n0 (fun M => fx lay d cd Q (nx, ls, .ref n0 :: rest, M))) : fx lay d cd Q (pc, ls, st, M) := by
  subst ha
  refine fx_at hf ?_
  unfold p_step
  simp only [hd, hi]
  exact ⟨⟨trivial, hs⟩, ex_mono MT lay d _ _ _ _ _ (fun r M ⟨e, q⟩ => by subst e; exact q) h⟩
theorem fx_csR {n0 : Nat} {n : Nat} {av rest : List Value} (hf : p_fe cd.2.2.2.2 pc = some (nx, .invokestatic n, a, b, k)) (hb : b = 1 ∨ b = 2) (hd : st.drop k = rest) (hl : k ≤ st.length) (hs : p_sum rest ≤ 8) (ha : (st.take k).reverse = av) (h : exR lay d a av M n0 (fun M => fx lay d cd Q (nx, ls, .ref n0 :: rest, M))) : fx lay d cd Q (pc, ls, st, M) := by
  subst ha
  subst hd
  refine fx_at hf ?_
  rcases hb with rfl | rfl
  · exact ⟨⟨hl, hs⟩, ex_mono MT lay d _ _ _ _ _ (fun r M ⟨e, q⟩ => by subst e; exact q) h⟩
  · exact ⟨⟨hl, hs⟩, ex_mono MT lay d _ _ _ _ _ (fun r M ⟨e, q⟩ => by subst e; exact q) h⟩
end FX
section FR
variable {lay : List LC} {d : Nat} {cd : pCd} {pc nx a b k : Nat} {ls : List (Option Value)} {M : Mem}
theorem fx_iret {Q : Int32 → Mem → Prop} {v : Int32} (hf : p_fe cd.2.2.2.2 pc = some (nx, .ireturn, a, b, k)) (hr : cd.2.2.2.1 = some .int) (h : Q v M) : fx lay d cd (qI Q) (pc, ls, [.int v], M) := fx_at hf (by unfold p_step; simp only [hr]; exact ⟨trivial, v, rfl, h⟩)
theorem fx_zret {Q : Int32 → Mem → Prop} {v : Int32} (hf : p_fe cd.2.2.2.2 pc = some (nx, .ireturn, a, b, k)) (hr : cd.2.2.2.1 = some .boolean) (hv : p_bits v) (h : Q v M) : fx lay d cd (qI Q) (pc, ls, [.int v], M) := fx_at hf (by unfold p_step; simp only [hr]; exact ⟨hv, v, rfl, h⟩)
theorem fx_lret {Q : Int64 → Mem → Prop} {v : Int64} (hf : p_fe cd.2.2.2.2 pc = some (nx, .lreturn, a, b, k)) (hr : cd.2.2.2.1 = some .long) (h : Q v M) : fx lay d cd (qL Q) (pc, ls, [.long v], M) := fx_at hf (by unfold p_step; simp only [hr]; exact ⟨trivial, v, rfl, h⟩)
theorem fx_vret {Q : Mem → Prop} (hf : p_fe cd.2.2.2.2 pc = some (nx, .return_, a, b, k)) (hr : cd.2.2.2.1 = none) (h : Q M) : fx lay d cd (qV Q) (pc, ls, [], M) := fx_at hf (by unfold p_step; simp only [hr]; exact ⟨trivial, rfl, h⟩)
theorem fx_aret {Q : Mem → Prop} {n : Nat} {C : String} (hf : p_fe cd.2.2.2.2 pc = some (nx, .areturn, a, b, k)) (hr : cd.2.2.2.1 = some (.object C)) (h : Q M) : fx lay d cd (qR n Q) (pc, ls, [.ref n], M) := fx_at hf (by unfold p_step; simp only [hr]; exact ⟨trivial, rfl, h⟩)
theorem fx_ex {Q : pQ} {y n : Nat} {av : List Value} {ls : List (Option Value)} (ht : MT[y]? = some cd) (hn : cd.2.2.1 = n) (hl : (p_ea av).length ≤ n) (he : p_en n av = ls) (h : fx lay d cd Q (0, ls, [], M)) : ex MT lay (d + 1) y av M Q := by
  subst hn; subst he
  exact ⟨cd, ht, hl, h⟩
end FR
