/-! A MACHINE OVER THE MEMORY: what an instruction does to (place, locals, stack, memory), as data; what a run comes to (fw), what a call comes to (ex); refs are numbers of cells -/
/-- an instruction of a method: its place, the next place, it, three numbers (its target; class and field; method, kind, arguments) -/
abbrev pEn : Type := Nat × Nat × Instr × Nat × Nat × Nat
/-- a method: name, bytes, locals, answer, instructions -/
abbrev pCd : Type := MethodName × ByteArray × Nat × Option FieldType × List pEn
abbrev pFr : Type := Nat × List (Option Value) × List Value × Mem
def p_fe : List pEn → Nat → Option (Nat × Instr × Nat × Nat × Nat)
  | [], _ => none
  | e :: c, pc => match Nat.beq e.1 pc with
    | true => some e.2
    | false => p_fe c pc
def p_lg : List (Option Value) → Nat → Option Value
  | [], _ => none
  | v :: _, 0 => v
  | _ :: l, n + 1 => p_lg l n
/-- a word's place that a long before it takes no more -/
def p_kl (v : Option Value) : Option Value := match v with
  | some (.long _) => none
  | some (.double _) => none
  | v => v
def p_s1 : List (Option Value) → Nat → Value → List (Option Value)
  | [], _, _ => []
  | _ :: l, 0, v => some v :: l
  | x :: l, 1, v => p_kl x :: p_s1 l 0 v
  | x :: l, n + 2, v => x :: p_s1 l (n + 1) v
def p_no : List (Option Value) → List (Option Value)
  | [] => []
  | _ :: l => none :: l
def p_s2 : List (Option Value) → Nat → Value → List (Option Value)
  | [], _, _ => []
  | _ :: l, 0, v => some v :: p_no l
  | x :: l, 1, v => p_kl x :: p_s2 l 0 v
  | x :: l, n + 2, v => x :: p_s2 l (n + 1) v
/-- what a step comes to: on a condition, on each of some conditions a frame; a call, with what its answer makes; an end -/
abbrev pSd : Type := (Prop × List (Prop × pFr)) ⊕ (Prop × Nat × List Value × Mem × (Option Value → Mem → pFr)) ⊕ (Prop × Option Value × Mem)
def p_go (f : pFr) : Option pSd := some (.inl (True, [(True, f)]))
def p_if (c : Prop) (f g : pFr) : Option pSd := some (.inl (True, [(c, f), (¬ c, g)]))
def p_on (c : Prop) (f : pFr) : Option pSd := some (.inl (c, [(True, f)]))
def p_cc (q : Jvm.ClassFile.Cond) (x y : Int32) : Prop := match q with
  | .eq => x = y
  | .ne => ¬ x = y
  | .lt => x < y
  | .ge => y ≤ x
  | .gt => y < x
  | .le => x ≤ y
def p_bits (v : Int32) : Prop := v = 0 ∨ v = 1
def p_sum (l : List Value) : Nat := (l.map fun v => v.category).sum
def p_step (cd : pCd) (lay : List LC) (nx : Nat) (i : Instr) (a b c : Nat) (pc : Nat) (ls : List (Option Value)) (st : List Value) (M : Mem) : Option pSd := match i with
  | .aload_n n => match p_lg ls n with
    | some (.ref q) => p_go (nx, ls, .ref q :: st, M)
    | _ => none
  | .aload n => match p_lg ls n with
    | some (.ref q) => p_go (nx, ls, .ref q :: st, M)
    | _ => none
  | .iload_n n => match p_lg ls n with
    | some (.int q) => p_go (nx, ls, .int q :: st, M)
    | _ => none
  | .iload n => match p_lg ls n with
    | some (.int q) => p_go (nx, ls, .int q :: st, M)
    | _ => none
  | .lload_n n => match p_lg ls n with
    | some (.long q) => p_go (nx, ls, .long q :: st, M)
    | _ => none
  | .lload n => match p_lg ls n with
    | some (.long q) => p_go (nx, ls, .long q :: st, M)
    | _ => none
  | .iconst n => p_go (nx, ls, .int (Int32.ofInt n) :: st, M)
  | .bipush n => p_go (nx, ls, .int (Int8.ofInt n).toInt32 :: st, M)
  | .sipush n => p_go (nx, ls, .int (Int16.ofInt n).toInt32 :: st, M)
  | .lconst n => p_go (nx, ls, .long (Int64.ofNat (n : Nat)) :: st, M)
  | .ldc _ => p_go (nx, ls, .int (nI a) :: st, M)
  | .ldc_w _ => p_go (nx, ls, .int (nI a) :: st, M)
  | .ldc2_w _ => p_go (nx, ls, .long (lN a) :: st, M)
  | .istore_n n => match st with
    | .int x :: st => p_go (nx, p_s1 ls n (.int x), st, M)
    | _ => none
  | .istore n => match st with
    | .int x :: st => p_go (nx, p_s1 ls n (.int x), st, M)
    | _ => none
  | .astore_n n => match st with
    | .ref x :: st => p_go (nx, p_s1 ls n (.ref x), st, M)
    | _ => none
  | .astore n => match st with
    | .ref x :: st => p_go (nx, p_s1 ls n (.ref x), st, M)
    | _ => none
  | .lstore_n n => match st with
    | .long x :: st => p_go (nx, p_s2 ls n (.long x), st, M)
    | _ => none
  | .lstore n => match st with
    | .long x :: st => p_go (nx, p_s2 ls n (.long x), st, M)
    | _ => none
  | .iinc n k => match p_lg ls n with
    | some (.int q) => p_go (nx, p_s1 ls n (.int (q + Int32.ofInt k)), st, M)
    | _ => none
  | .iadd => match st with
    | .int y :: .int x :: st => p_go (nx, ls, .int (x + y) :: st, M)
    | _ => none
  | .isub => match st with
    | .int y :: .int x :: st => p_go (nx, ls, .int (x - y) :: st, M)
    | _ => none
  | .imul => match st with
    | .int y :: .int x :: st => p_go (nx, ls, .int (x * y) :: st, M)
    | _ => none
  | .idiv => match st with
    | .int y :: .int x :: st => p_on (¬ y = 0) (nx, ls, .int (x / y) :: st, M)
    | _ => none
  | .irem => match st with
    | .int y :: .int x :: st => p_on (¬ y = 0) (nx, ls, .int (x - x / y * y) :: st, M)
    | _ => none
  | .iand => match st with
    | .int y :: .int x :: st => p_go (nx, ls, .int (x &&& y) :: st, M)
    | _ => none
  | .ior => match st with
    | .int y :: .int x :: st => p_go (nx, ls, .int (x ||| y) :: st, M)
    | _ => none
  | .ixor => match st with
    | .int y :: .int x :: st => p_go (nx, ls, .int (x ^^^ y) :: st, M)
    | _ => none
  | .ishl => match st with
    | .int y :: .int x :: st => p_go (nx, ls, .int (x <<< (y &&& 31)) :: st, M)
    | _ => none
  | .ishr => match st with
    | .int y :: .int x :: st => p_go (nx, ls, .int (x >>> (y &&& 31)) :: st, M)
    | _ => none
  | .iushr => match st with
    | .int y :: .int x :: st => p_go (nx, ls, .int (x.toUInt32 >>> (y.toUInt32 &&& Int32.toUInt32 31)).toInt32 :: st, M)
    | _ => none
  | .ladd => match st with
    | .long y :: .long x :: st => p_go (nx, ls, .long (x + y) :: st, M)
    | _ => none
  | .lsub => match st with
    | .long y :: .long x :: st => p_go (nx, ls, .long (x - y) :: st, M)
    | _ => none
  | .lmul => match st with
    | .long y :: .long x :: st => p_go (nx, ls, .long (x * y) :: st, M)
    | _ => none
  | .ldiv => match st with
    | .long y :: .long x :: st => p_on (¬ y = 0) (nx, ls, .long (x / y) :: st, M)
    | _ => none
  | .lrem => match st with
    | .long y :: .long x :: st => p_on (¬ y = 0) (nx, ls, .long (x - x / y * y) :: st, M)
    | _ => none
  | .land => match st with
    | .long y :: .long x :: st => p_go (nx, ls, .long (x &&& y) :: st, M)
    | _ => none
  | .lor => match st with
    | .long y :: .long x :: st => p_go (nx, ls, .long (x ||| y) :: st, M)
    | _ => none
  | .lshl => match st with
    | .int y :: .long x :: st => p_go (nx, ls, .long (x <<< (y.toInt64 &&& 63)) :: st, M)
    | _ => none
  | .lshr => match st with
    | .int y :: .long x :: st => p_go (nx, ls, .long (x >>> (y.toInt64 &&& 63)) :: st, M)
    | _ => none
  | .i2l => match st with
    | .int x :: st => p_go (nx, ls, .long x.toInt64 :: st, M)
    | _ => none
  | .l2i => match st with
    | .long x :: st => p_go (nx, ls, .int x.toInt32 :: st, M)
    | _ => none
  | .i2b => match st with
    | .int x :: st => p_go (nx, ls, .int x.toInt8.toInt32 :: st, M)
    | _ => none
  | .lcmp => match st with
    | .long y :: .long x :: st => p_go (nx, ls, .int (lg_cmp x y) :: st, M)
    | _ => none
  | .dup => match st with
    | v :: st => p_on (v.category = 1) (nx, ls, v :: v :: st, M)
    | _ => none
  | .dup_x1 => match st with
    | v :: w :: st => p_on (v.category = 1 ∧ w.category = 1) (nx, ls, v :: w :: v :: st, M)
    | _ => none
  | .dup2 => match st with
    | v :: w :: st => p_on (v.category = 1 ∧ w.category = 1) (nx, ls, v :: w :: v :: w :: st, M)
    | _ => none
  | .pop => match st with
    | v :: st => p_on (v.category = 1) (nx, ls, st, M)
    | _ => none
  | .ifCond q _ => match st with
    | .int x :: st => p_if (p_cc q x 0) (a, ls, st, M) (nx, ls, st, M)
    | _ => none
  | .if_icmp q _ => match st with
    | .int y :: .int x :: st => p_if (p_cc q x y) (a, ls, st, M) (nx, ls, st, M)
    | _ => none
  | .goto _ => p_go (a, ls, st, M)
  | .ifnonnull _ => match st with
    | .ref _ :: st => p_go (a, ls, st, M)
    | .null :: st => p_go (nx, ls, st, M)
    | _ => none
  | .tableswitch df lo hi offs => match st with
    | .int x :: st => some (.inl (True, ((x.toInt < lo ∨ hi < x.toInt), ((pc : Int) + df).toNat, ls, st, M) :: offs.toList.mapIdx (fun k off => (x.toInt = lo + k, ((pc : Int) + off).toNat, ls, st, M))))
    | _ => none
  | .lookupswitch df ps => match st with
    | .int x :: st => some (.inl (True, ((∀ q ∈ ps.toList, ¬ x.toInt = q.1), ((pc : Int) + df).toNat, ls, st, M) :: ps.toList.map (fun q => (x.toInt = q.1, ((pc : Int) + q.2).toNat, ls, st, M))))
    | _ => none
  | .getfield _ => match st with
    | .ref q :: st => match lay[q]? with
      | some (.inr (ci, fks)) => match fks[b]? with
        | some fk => p_on (ci = a) (nx, ls, fv id M q b fk :: st, M)
        | none => none
      | _ => none
    | _ => none
  | .putfield _ => match st with
    | .int v :: .ref q :: st => match lay[q]? with
      | some (.inr (ci, fks)) => match fks[b]? with
        | some none => p_on (ci = a ∧ (c = 0 ∨ p_bits v)) (nx, ls, st, si M q b v)
        | _ => none
      | _ => none
    | _ => none
  | .iaload => match st with
    | .int x :: .ref q :: st => match lay[q]? with
      | some (.inl (0, n)) => p_on (vp_in x n) (nx, ls, .int (M.1 q x.toNatClampNeg) :: st, M)
      | _ => none
    | _ => none
  | .baload => match st with
    | .int x :: .ref q :: st => match lay[q]? with
      | some (.inl (2, n)) => p_on (vp_in x n) (nx, ls, .int (M.1 q x.toNatClampNeg) :: st, M)
      | some (.inl (3, n)) => p_on (vp_in x n) (nx, ls, .int (M.1 q x.toNatClampNeg) :: st, M)
      | _ => none
    | _ => none
  | .laload => match st with
    | .int x :: .ref q :: st => match lay[q]? with
      | some (.inl (1, n)) => p_on (vp_in x n) (nx, ls, .long (M.2 q x.toNatClampNeg) :: st, M)
      | _ => none
    | _ => none
  | .iastore => match st with
    | .int v :: .int x :: .ref q :: st => match lay[q]? with
      | some (.inl (0, n)) => p_on (vp_in x n) (nx, ls, st, si M q x.toNatClampNeg v)
      | _ => none
    | _ => none
  | .bastore => match st with
    | .int v :: .int x :: .ref q :: st => match lay[q]? with
      | some (.inl (2, n)) => p_on (vp_in x n) (nx, ls, st, si M q x.toNatClampNeg (vp_nar .boolean v))
      | some (.inl (3, n)) => p_on (vp_in x n) (nx, ls, st, si M q x.toNatClampNeg (vp_nar .byte v))
      | _ => none
    | _ => none
  | .lastore => match st with
    | .long v :: .int x :: .ref q :: st => match lay[q]? with
      | some (.inl (1, n)) => p_on (vp_in x n) (nx, ls, st, sj M q x.toNatClampNeg v)
      | _ => none
    | _ => none
  | .arraylength => match st with
    | .ref q :: st => match lay[q]? with
      | some (.inl (t, n)) => p_on (t < 4) (nx, ls, .int (Int32.ofNat n) :: st, M)
      | _ => none
    | _ => none
  | .invokevirtual _ => match st.drop c with
    | .ref q :: rest => match lay[q]? with
      | some (.inr (ci, _)) => some (.inr (.inl (ci = b ∧ p_sum rest ≤ 8, a, .ref q :: (st.take c).reverse, M, fun r M => (nx, ls, r.toList ++ rest, M))))
      | _ => none
    | _ => none
  | .invokestatic _ => match b with
    | 3 => match st with
      | .int n :: .int dp :: .ref q :: .int sp :: .ref r :: rest => match lay[r]?, lay[q]? with
        | some (.inl (0, n0)), some (.inl (0, n1)) => p_on ((¬ sp < 0 ∧ ¬ dp < 0 ∧ ¬ n < 0) ∧ (sp.toNatClampNeg + n.toNatClampNeg ≤ n0 ∧ dp.toNatClampNeg + n.toNatClampNeg ≤ n1) ∧ p_sum rest ≤ 8) (nx, ls, rest, sa M q (va_cpy (M.1 r) (M.1 q) sp.toNatClampNeg dp.toNatClampNeg n.toNatClampNeg))
        | _, _ => none
      | _ => none
    | 4 => match st with
      | .int y :: .int x :: rest => p_on (p_sum rest ≤ 8) (nx, ls, .int (if x < y then y else x) :: rest, M)
      | _ => none
    | 5 => match st with
      | .int y :: .int x :: rest => p_on (p_sum rest ≤ 8) (nx, ls, .int (if y < x then y else x) :: rest, M)
      | _ => none
    | _ => some (.inr (.inl (c ≤ st.length ∧ p_sum (st.drop c) ≤ 8, a, (st.take c).reverse, M, fun r M => (nx, ls, r.toList ++ st.drop c, M))))
  | .ireturn => match st with
    | [.int v] => match cd.2.2.2.1 with
      | some .int => some (.inr (.inr (True, some (.int v), M)))
      | some .boolean => some (.inr (.inr (p_bits v, some (.int v), M)))
      | _ => none
    | _ => none
  | .lreturn => match st with
    | [.long v] => match cd.2.2.2.1 with
      | some .long => some (.inr (.inr (True, some (.long v), M)))
      | _ => none
    | _ => none
  | .areturn => match st with
    | [.ref v] => match cd.2.2.2.1 with
      | some (.object _) => some (.inr (.inr (True, some (.ref v), M)))
      | _ => none
    | _ => none
  | .return_ => match st with
    | [] => match cd.2.2.2.1 with
      | none => some (.inr (.inr (True, none, M)))
      | _ => none
    | _ => none
  | _ => none
abbrev pQ : Type := Option Value → Mem → Prop
abbrev pCall : Type := Nat → List Value → Mem → pQ → Prop
def p_sem (call : pCall) (Q : pQ) (X : pFr → Prop) (d : Option pSd) : Prop := match d with
  | none => False
  | some (.inl (C, bs)) => C ∧ ∀ q ∈ bs, q.1 → X q.2
  | some (.inr (.inl (C, y, av, M, k))) => C ∧ call y av M (fun r M => X (k r M))
  | some (.inr (.inr (C, r, M))) => C ∧ Q r M
def p_stp (call : pCall) (cd : pCd) (lay : List LC) (Q : pQ) (X : pFr → Prop) (f : pFr) : Prop := match p_fe cd.2.2.2.2 f.1 with
  | none => False
  | some (nx, i, a, b, c) => p_sem call Q X (p_step cd lay nx i a b c f.1 f.2.1 f.2.2.1 f.2.2.2)
/-- a run from a frame comes to an end with Q -/
def fw (call : pCall) (cd : pCd) (lay : List LC) (Q : pQ) (f : pFr) : Prop :=
  ∀ X : pFr → Prop, (∀ g, p_stp call cd lay Q X g → X g) → (∀ pc ls ls' st M, (∀ i v, p_lg ls' i = some v → p_lg ls i = some v) → X (pc, ls', st, M) → X (pc, ls, st, M)) → X f
def p_ea : List Value → List (Option Value)
  | [] => []
  | v :: vs => if v.category = 2 then some v :: none :: p_ea vs else some v :: p_ea vs
def p_en (n : Nat) (av : List Value) : List (Option Value) := p_ea av ++ List.replicate (n - (p_ea av).length) none
def ex (mt : List pCd) (lay : List LC) : Nat → pCall
  | 0, _, _, _, _ => False
  | d + 1, y, av, M, Q => ∃ cd, mt[y]? = some cd ∧ (p_ea av).length ≤ cd.2.2.1 ∧ fw (ex mt lay d) cd lay Q (0, p_en cd.2.2.1 av, [], M)
def p_mono (call : pCall) : Prop := ∀ y av M (Q Q' : pQ), (∀ r M, Q r M → Q' r M) → call y av M Q → call y av M Q'
theorem p_sem_mono {call : pCall} (hc : p_mono call) {Q Q' : pQ} {X X' : pFr → Prop} (hQ : ∀ r M, Q r M → Q' r M) (hX : ∀ f, X f → X' f) {d : Option pSd} (h : p_sem call Q X d) : p_sem call Q' X' d := by
  match d, h with
  | some (.inl (C, bs)), h => exact ⟨h.1, fun q hq hc => hX _ (h.2 q hq hc)⟩
  | some (.inr (.inl (C, y, av, M, k))), h => exact ⟨h.1, hc _ _ _ _ _ (fun r M hh => hX _ hh) h.2⟩
  | some (.inr (.inr (C, r, M))), h => exact ⟨h.1, hQ _ _ h.2⟩
theorem p_stp_mono {call : pCall} (hc : p_mono call) {cd : pCd} {lay : List LC} {Q Q' : pQ} {X X' : pFr → Prop} (hQ : ∀ r M, Q r M → Q' r M) (hX : ∀ f, X f → X' f) {f : pFr} (h : p_stp call cd lay Q X f) : p_stp call cd lay Q' X' f := by
  unfold p_stp at h ⊢
  split at h
  · exact h.elim
  · exact p_sem_mono hc hQ hX h
theorem fw_mono {call : pCall} (hc : p_mono call) {cd : pCd} {lay : List LC} {Q Q' : pQ} (hQ : ∀ r M, Q r M → Q' r M) {f : pFr} (h : fw call cd lay Q f) : fw call cd lay Q' f :=
  fun X h1 h2 => h X (fun g hg => h1 g (p_stp_mono hc hQ (fun _ h => h) hg)) h2
theorem ex_mono (mt : List pCd) (lay : List LC) : ∀ d, p_mono (ex mt lay d)
  | 0 => fun _ _ _ _ _ _ h => h.elim
  | d + 1 => fun _ _ _ _ _ hQ ⟨cd, h1, h2, h3⟩ => ⟨cd, h1, h2, fw_mono (ex_mono mt lay d) hQ h3⟩
theorem fw_stp {mt : List pCd} {d : Nat} {cd : pCd} {lay : List LC} {Q : pQ} {f : pFr} (h : p_stp (ex mt lay d) cd lay Q (fw (ex mt lay d) cd lay Q) f) : fw (ex mt lay d) cd lay Q f :=
  fun X h1 h2 => h1 f (p_stp_mono (ex_mono mt lay d) (fun _ _ h => h) (fun g hg => hg X h1 h2) h)
theorem fw_sub {call : pCall} {cd : pCd} {lay : List LC} {Q : pQ} {pc : Nat} {ls ls' : List (Option Value)} {st : List Value} {M : Mem} (hs : ∀ i v, p_lg ls' i = some v → p_lg ls i = some v) (h : fw call cd lay Q (pc, ls', st, M)) : fw call cd lay Q (pc, ls, st, M) :=
  fun X h1 h2 => h2 _ _ _ _ _ hs (h X h1 h2)
/-- fewer calls within calls are fewer still with more room -/
theorem fw_call {call call' : pCall} (hc : p_mono call) (hcc : ∀ y av M Q, call y av M Q → call' y av M Q) {cd : pCd} {lay : List LC} {Q : pQ} {f : pFr} (h : fw call cd lay Q f) : fw call' cd lay Q f := by
  intro X h1 h2
  refine h X (fun g hg => h1 g ?_) h2
  unfold p_stp at hg ⊢
  split at hg
  · exact hg.elim
  · next nx i a b c he =>
    revert hg
    generalize p_step cd lay nx i a b c g.1 g.2.1 g.2.2.1 g.2.2.2 = d
    intro hg
    match d, hg with
    | some (.inl (C, bs)), h => exact h
    | some (.inr (.inl (C, y, av, M, k))), h => exact ⟨h.1, hcc _ _ _ _ h.2⟩
    | some (.inr (.inr (C, r, M))), h => exact h
theorem ex_succ (mt : List pCd) (lay : List LC) : ∀ d y av M Q, ex mt lay d y av M Q → ex mt lay (d + 1) y av M Q
  | 0, _, _, _, _, h => h.elim
  | d + 1, _, _, _, _, ⟨cd, h1, h2, h3⟩ => ⟨cd, h1, h2, fw_call (ex_mono mt lay d) (ex_succ mt lay d) h3⟩
theorem ex_le {mt : List pCd} {lay : List LC} {d d' : Nat} (h : d ≤ d') {y : Nat} {av : List Value} {M : Mem} {Q : pQ} (hx : ex mt lay d y av M Q) : ex mt lay d' y av M Q := by
  induction h with
  | refl => exact hx
  | step _ ih => exact ex_succ mt lay _ y av M Q ih
