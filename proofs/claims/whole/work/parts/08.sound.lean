/-! THE MACHINE DOES WHAT THE STEPS SAY -/
def p_ll (ad : Nat → Nat) (als : List (Option Value)) : List (Nat × Value) := (List.range als.length).filterMap (fun i => (p_lg als i).map (fun v => (i, cv ad v)))
theorem p_lg_lt : ∀ {als : List (Option Value)} {i : Nat} {v : Value}, p_lg als i = some v → i < als.length
  | [], _, _, h => by cases h
  | _ :: _, 0, _, _ => Nat.succ_pos _
  | _ :: l, n + 1, _, h => Nat.succ_lt_succ (p_lg_lt (als := l) h)
theorem p_ll_mem {ad : Nat → Nat} {als : List (Option Value)} {i : Nat} {w : Value} : (i, w) ∈ p_ll ad als ↔ ∃ v, p_lg als i = some v ∧ w = cv ad v := by
  unfold p_ll
  rw [List.mem_filterMap]
  constructor
  · rintro ⟨j, hj, h⟩
    cases hg : p_lg als j with
    | none => rw [hg] at h; cases h
    | some v =>
      rw [hg] at h
      cases h
      exact ⟨v, hg, rfl⟩
  · rintro ⟨v, hv, rfl⟩
    exact ⟨i, List.mem_range.mpr (p_lg_lt hv), by rw [hv]; rfl⟩
theorem p_s1_get : ∀ (als : List (Option Value)) (i : Nat) (v : Value) (j : Nat) (w : Value), p_lg (p_s1 als i v) j = some w → (j = i ∧ w = v) ∨ (j ≠ i ∧ p_lg als j = some w ∧ ¬ (j + 1 = i ∧ w.category = 2))
  | [], i, v, j, w, h => by
    have h0 : p_s1 [] i v = [] := by cases i <;> rfl
    rw [h0] at h; cases h
  | x :: l, 0, v, 0, w, h => by cases h; exact Or.inl ⟨rfl, rfl⟩
  | x :: l, 0, v, j + 1, w, h => Or.inr ⟨by omega, h, fun q => by omega⟩
  | x :: l, 1, v, 0, w, h => by
    refine Or.inr ⟨by omega, ?_⟩
    have h : p_kl x = some w := h
    cases x with
    | none => cases h
    | some x => cases x <;> first | (cases h; done) | (cases h; exact ⟨rfl, fun q => by have := q.2; simp [Value.category] at this⟩)
  | x :: l, 1, v, j + 1, w, h => by
    rcases p_s1_get l 0 v j w h with ⟨a, b⟩ | ⟨a, b, c⟩
    · exact Or.inl ⟨by omega, b⟩
    · exact Or.inr ⟨by omega, b, fun q => by omega⟩
  | x :: l, n + 2, v, 0, w, h => Or.inr ⟨by omega, h, fun q => by omega⟩
  | x :: l, n + 2, v, j + 1, w, h => by
    rcases p_s1_get l (n + 1) v j w h with ⟨a, b⟩ | ⟨a, b, c⟩
    · exact Or.inl ⟨by omega, b⟩
    · exact Or.inr ⟨by omega, b, fun q => c ⟨by omega, q.2⟩⟩
theorem p_s2_get : ∀ (als : List (Option Value)) (i : Nat) (v : Value) (j : Nat) (w : Value), p_lg (p_s2 als i v) j = some w → (j = i ∧ w = v) ∨ (j ≠ i ∧ j ≠ i + 1 ∧ p_lg als j = some w ∧ ¬ (j + 1 = i ∧ w.category = 2))
  | [], i, v, j, w, h => by
    have h0 : p_s2 [] i v = [] := by cases i <;> rfl
    rw [h0] at h; cases h
  | x :: l, 0, v, 0, w, h => by cases h; exact Or.inl ⟨rfl, rfl⟩
  | x :: l, 0, v, 1, w, h => by cases l <;> cases h
  | x :: l, 0, v, j + 2, w, h => by
    refine Or.inr ⟨by omega, by omega, ?_, fun q => by omega⟩
    cases l with
    | nil => cases h
    | cons y l => exact h
  | x :: l, 1, v, 0, w, h => by
    refine Or.inr ⟨by omega, by omega, ?_⟩
    have h : p_kl x = some w := h
    cases x with
    | none => cases h
    | some x => cases x <;> first | (cases h; done) | (cases h; exact ⟨rfl, fun q => by have := q.2; simp [Value.category] at this⟩)
  | x :: l, 1, v, j + 1, w, h => by
    rcases p_s2_get l 0 v j w h with ⟨a, b⟩ | ⟨a, a2, b, c⟩
    · exact Or.inl ⟨by omega, b⟩
    · exact Or.inr ⟨by omega, by omega, b, fun q => by omega⟩
  | x :: l, n + 2, v, 0, w, h => Or.inr ⟨by omega, by omega, h, fun q => by omega⟩
  | x :: l, n + 2, v, j + 1, w, h => by
    rcases p_s2_get l (n + 1) v j w h with ⟨a, b⟩ | ⟨a, a2, b, c⟩
    · exact Or.inl ⟨by omega, b⟩
    · exact Or.inr ⟨by omega, by omega, b, fun q => c ⟨by omega, q.2⟩⟩
def LvOk (ls : Array Slot) (nL : Nat) (ad : Nat → Nat) (als : List (Option Value)) : Prop := lv_has ls nL (p_ll ad als)
theorem LvOk.at {ls : Array Slot} {nL : Nat} {ad : Nat → Nat} {als : List (Option Value)} (h : LvOk ls nL ad als) {i : Nat} {v : Value} (hg : p_lg als i = some v) : ls[i]? = some (.val (cv ad v)) := h.2.2 (i, cv ad v) (p_ll_mem.mpr ⟨v, hg, rfl⟩)
theorem LvOk.sub {ls : Array Slot} {nL : Nat} {ad : Nat → Nat} {als als' : List (Option Value)} (h : LvOk ls nL ad als) (hs : ∀ i v, p_lg als' i = some v → p_lg als i = some v) : LvOk ls nL ad als' := by
  refine ⟨h.1, h.2.1, fun q hq => ?_⟩
  obtain ⟨v, hv, e⟩ := p_ll_mem.mp (show (q.1, q.2) ∈ _ from hq)
  rw [e]; exact h.at (hs _ _ hv)
theorem LvOk.s1 {ls : Array Slot} {nL : Nat} {ad : Nat → Nat} {als : List (Option Value)} {i : Nat} {v : Value} (h : lv_has ls nL ((i, cv ad v) :: (p_ll ad als).filter (fun q => !(q.1 == i) && !(q.1 + 1 == i && q.2.category == 2)))) : LvOk ls nL ad (p_s1 als i v) := by
  refine ⟨h.1, h.2.1, fun q hq => ?_⟩
  obtain ⟨w, hw, e⟩ := p_ll_mem.mp (show (q.1, q.2) ∈ _ from hq)
  refine h.2.2 q ?_
  rcases p_s1_get als i v q.1 w hw with ⟨a, b⟩ | ⟨a, b, c⟩
  · refine List.mem_cons.mpr (Or.inl ?_)
    rw [← a, ← b, ← e]
  · refine List.mem_cons.mpr (Or.inr (List.mem_filter.mpr ⟨hq' b e, ?_⟩))
    have hc : ¬ (q.1 + 1 = i ∧ q.2.category = 2) := by rw [e, cv_cat]; exact c
    by_cases h1 : q.1 + 1 = i
    · have h2 : ¬ q.2.category = 2 := fun z => hc ⟨h1, z⟩
      simp [a, h2]
    · simp [a, h1]
where
  hq' {q : Nat × Value} {w : Value} (b : p_lg als q.1 = some w) (e : q.2 = cv ad w) : q ∈ p_ll ad als := by
    have : (q.1, q.2) ∈ p_ll ad als := p_ll_mem.mpr ⟨w, b, e⟩
    exact this
theorem LvOk.s2 {ls : Array Slot} {nL : Nat} {ad : Nat → Nat} {als : List (Option Value)} {i : Nat} {v : Value} (h : lv_has ls nL ((i, cv ad v) :: (p_ll ad als).filter (fun q => !(q.1 == i) && (!(q.1 == i + 1) && !(q.1 + 1 == i && q.2.category == 2))))) : LvOk ls nL ad (p_s2 als i v) := by
  refine ⟨h.1, h.2.1, fun q hq => ?_⟩
  obtain ⟨w, hw, e⟩ := p_ll_mem.mp (show (q.1, q.2) ∈ _ from hq)
  refine h.2.2 q ?_
  rcases p_s2_get als i v q.1 w hw with ⟨a, b⟩ | ⟨a, a2, b, c⟩
  · refine List.mem_cons.mpr (Or.inl ?_)
    rw [← a, ← b, ← e]
  · have hm : (q.1, q.2) ∈ p_ll ad als := p_ll_mem.mpr ⟨w, b, e⟩
    refine List.mem_cons.mpr (Or.inr (List.mem_filter.mpr ⟨hm, ?_⟩))
    have hc : ¬ (q.1 + 1 = i ∧ q.2.category = 2) := by rw [e, cv_cat]; exact c
    by_cases h1 : q.1 + 1 = i
    · have h2 : ¬ q.2.category = 2 := fun z => hc ⟨h1, z⟩
      simp [a, a2, h2]
    · simp [a, a2, h1]
/-- how long an instruction is (0: a switch) -/
def p_il (i : Instr) : Nat := match i with
  | .aload _ => 2
  | .iload _ => 2
  | .lload _ => 2
  | .istore _ => 2
  | .lstore _ => 2
  | .astore _ => 2
  | .bipush _ => 2
  | .ldc _ => 2
  | .sipush _ => 3
  | .ldc_w _ => 3
  | .ldc2_w _ => 3
  | .iinc _ _ => 3
  | .ifCond _ _ => 3
  | .if_icmp _ _ => 3
  | .goto _ => 3
  | .ifnonnull _ => 3
  | .getfield _ => 3
  | .putfield _ => 3
  | .invokevirtual _ => 3
  | .invokestatic _ => 3
  | .tableswitch _ _ _ _ => 0
  | .lookupswitch _ _ => 0
  | _ => 1
/-- what the kernel counts of an instruction: it is read so, its length, its locals, its targets -/
def p_eb (cc : ByteArray) (nL : Nat) (e : pEn) : Bool := decide (decode cc e.1 = .ok (e.2.2.1, e.2.1 - e.1)) && decide (e.1 ≤ e.2.1) && (p_il e.2.2.1 == 0 || p_il e.2.2.1 == e.2.1 - e.1) && (match e.2.2.1 with
  | .istore n => decide (n < nL)
  | .istore_n n => decide ((n : Nat) < nL)
  | .astore n => decide (n < nL)
  | .astore_n n => decide ((n : Nat) < nL)
  | .lstore n => decide (n + 1 < nL)
  | .lstore_n n => decide ((n : Nat) + 1 < nL)
  | .iinc n _ => decide (n < nL)
  | .ifCond _ off => decide ((e.1 : Int) + off = (e.2.2.2.1 : Int))
  | .if_icmp _ off => decide ((e.1 : Int) + off = (e.2.2.2.1 : Int))
  | .goto off => decide ((e.1 : Int) + off = (e.2.2.2.1 : Int))
  | .ifnonnull off => decide ((e.1 : Int) + off = (e.2.2.2.1 : Int))
  | .tableswitch df lo hi offs => decide (0 ≤ (e.1 : Int) + df) && decide ((offs.size : Int) = hi - lo + 1) && offs.toList.all (fun o => decide (0 ≤ (e.1 : Int) + o))
  | .lookupswitch df ps => decide (0 ≤ (e.1 : Int) + df) && ps.toList.all (fun o => decide (0 ≤ (e.1 : Int) + o.2)) && (ps.toList.zip (ps.toList.drop 1)).all (fun (a, next) => a.1 < next.1)
  | _ => true)
/-- a field that may be read -/
def p_fr (own : String) (idx a b : Nat) : Prop := ∃ (Cn : String) (T : u_T) (N : Nat), vwCl[a]? = some (Cn, T, N) ∧ (∀ w ∈ u_ws Cn T N, w ∈ wsG) ∧ b < N ∧ Cond.fieldLink own idx (T b).1 (T b).2.1 (T b).2.2.1 ∈ wsG
/-- a field that may be written (c: 0 an int, 1 a boolean) -/
def p_fs (own : String) (idx a b c : Nat) : Prop := ∃ (Cn : String) (T : u_T) (N : Nat) (ty0 : Nat → FieldType), vwCl[a]? = some (Cn, T, N) ∧ (∀ w ∈ u_ws Cn T N, w ∈ wsG) ∧ b < N ∧ Cond.fieldLink own idx (T b).1 (T b).2.1 (T b).2.2.1 ∈ wsG ∧ (∀ k, k < N → parseFieldDescriptor (T k).2.2.1 = some (ty0 k)) ∧ (∀ a, a < N → ∀ b, b < N → a ≠ b → (T a).2.1 ≠ (T b).2.1) ∧ (T b).2.2.2 = false ∧ ty0 b = (if c = 0 then .int else .boolean)
def p_cv (mt : List pCd) (own : String) (idx a b c : Nat) : Prop := ∃ cd, mt[a]? = some cd ∧ VOk cd.1 cd.2.1 cd.2.2.1 cd.2.2.2.1 c b ∧ Cond.methodLink own idx cd.1 ∈ wsG ∧ cd.2.2.1 ≤ 45
def p_cs (mt : List pCd) (own : String) (idx a b c : Nat) : Prop := match b with
  | 3 => Cond.methodLink own idx arraycopyName ∈ wsG ∧ Cond.native arraycopyName ∈ wsG ∧ Cond.static arraycopyName ∈ wsG ∧ Cond.initialized "java/lang/System" ∈ wsG
  | 4 => Cond.methodLink own idx Lib.Math.max.name ∈ wsG ∧ Cond.static Lib.Math.max.name ∈ wsG ∧ Cond.initialized "java/lang/Math" ∈ wsG ∧ Cond.code Lib.Math.max.name Lib.Math.max.code 2 (some .int) ∈ wsG
  | 5 => Cond.methodLink own idx Lib.Math.min.name ∈ wsG ∧ Cond.static Lib.Math.min.name ∈ wsG ∧ Cond.initialized "java/lang/Math" ∈ wsG ∧ Cond.code Lib.Math.min.name Lib.Math.min.code 2 (some .int) ∈ wsG
  | b => ∃ cd, mt[a]? = some cd ∧ SOk cd.1 cd.2.1 cd.2.2.1 cd.2.2.2.1 c ∧ (if b = 2 then Cond.methodLinkNest own idx cd.1 RX10 ∈ nestW else Cond.methodLink own idx cd.1 ∈ wsG) ∧ cd.2.2.1 ≤ 45
def p_ew (mt : List pCd) (own : String) (e : pEn) : Prop := match e.2.2.1 with
  | .getfield idx => p_fr own idx e.2.2.2.1 e.2.2.2.2.1
  | .putfield idx => p_fs own idx e.2.2.2.1 e.2.2.2.2.1 e.2.2.2.2.2
  | .ldc idx => Cond.constant own idx (nI e.2.2.2.1) ∈ wsG
  | .ldc_w idx => Cond.constant own idx (nI e.2.2.2.1) ∈ wsG
  | .ldc2_w idx => Cond.constantLong own idx (lN e.2.2.2.1) ∈ wsG
  | .invokevirtual idx => p_cv mt own idx e.2.2.2.1 e.2.2.2.2.1 e.2.2.2.2.2
  | .invokestatic idx => p_cs mt own idx e.2.2.2.1 e.2.2.2.2.1 e.2.2.2.2.2
  | _ => True
def p_mok (mt : List pCd) (cd : pCd) : Prop := plainName cd.1.cls = true ∧ ∀ e ∈ cd.2.2.2.2, p_eb cd.2.1 cd.2.2.1 e = true ∧ p_ew mt cd.1.cls e
theorem p_fe_mem : ∀ {l : List pEn} {pc : Nat} {r : Nat × Instr × Nat × Nat × Nat}, p_fe l pc = some r → (pc, r) ∈ l
  | [], _, _, h => by cases h
  | e :: l, pc, r, h => by
    unfold p_fe at h
    split at h
    · next hb =>
      have he : e.1 = pc := Nat.eq_of_beq_eq_true hb
      cases h
      rw [← he]
      exact List.mem_cons_self
    · exact List.mem_cons_of_mem _ (p_fe_mem h)
theorem p_go_sem {call : pCall} {Q : pQ} {X : pFr → Prop} {f : pFr} (h : p_sem call Q X (p_go f)) : X f := h.2 _ (List.mem_singleton.mpr rfl) trivial
theorem p_on_sem {call : pCall} {Q : pQ} {X : pFr → Prop} {f : pFr} {c : Prop} (h : p_sem call Q X (p_on c f)) : c ∧ X f := ⟨h.1, h.2 _ (List.mem_singleton.mpr rfl) trivial⟩
theorem p_if_sem {call : pCall} {Q : pQ} {X : pFr → Prop} {f g : pFr} {c : Prop} (h : p_sem call Q X (p_if c f g)) : (c → X f) ∧ (¬ c → X g) := ⟨fun hc => h.2 (c, f) (List.mem_cons_self) hc, fun hc => h.2 (¬ c, g) (List.mem_cons_of_mem _ List.mem_cons_self) hc⟩
theorem p_bits_n {v : Int32} (h : p_bits v) : narrow .boolean (.int v) = .int v ∧ fits .boolean (.int v) = true := by
  rcases h with rfl | rfl <;> exact ⟨by decide, by decide⟩
section PS
variable {p : Program} {l : Launch} {e : Env} {R : Room} {s : State} {m : MethodId} {args : Array Value} {below : List Frame} {meth : Method} {c : Code} {kc ks : Nat} {QW : State → Prop}
variable {D : va_G} {cT : Nat → ClassId} {ad : Nat → Nat} {lay : List LC} {A : Nat → Prop}
/-- the machine, at a frame of the memory's world -/
def WX (p : Program) (l : Launch) (e : Env) (R : Room) (s : State) (m : MethodId) (args : Array Value) (below : List Frame) (meth : Method) (c : Code) (kc ks : Nat) (D : va_G) (cT : Nat → ClassId) (ad : Nat → Nat) (lay : List LC) (A : Nat → Prop) (nL : Nat) (QW : State → Prop) (f : pFr) : Prop :=
  ∀ (la : Array Slot) (H : Heap) (locs : List Loc), LvOk la nL ad f.2.1 → ST D cT ad lay A s f.2.2.2 H locs → W p l e R s m args below meth c H locs kc ks QW (F0 m f.1 la (f.2.2.1.map (cv ad)))
/-- what a method's callees come to -/
def p_ih (l : Launch) (mt : List pCd) (lay : List LC) (D : va_G) (cT : Nat → ClassId) (ad : Nat → Nat) (d : Nat) : Prop :=
  ∀ y av M Q cd, mt[y]? = some cd → ex mt lay d y av M Q → Met l cd.1 (.code cd.1 cd.2.1 cd.2.2.1 cd.2.2.2.1 :: wsG) (Rm d (64 * d)) (Pc0 D cT ad lay M (av.map (cv ad))) (QcX D cT ad lay (AA ad lay) Q) 0 0 (AA ad lay)

theorem p_cvR (rest : List Value) (c : Nat) (st : List Value) (v : Value) (h : st.drop c = v :: rest) : st = (st.take c) ++ v :: rest ∧ (st.take c).length = c := by
  refine ⟨by rw [← h, List.take_append_drop], ?_⟩
  have : c < st.length := by
    apply Classical.byContradiction
    intro hn
    rw [List.drop_eq_nil_of_le (by omega)] at h
    cases h
  rw [List.length_take]; omega
theorem p_sum_cv (l : List Value) : ((l.map (cv ad)).map fun v => v.category).sum = p_sum l := by
  unfold p_sum
  rw [List.map_map]
  refine congrArg List.sum (List.map_congr_left (fun v _ => cv_cat ad v))
theorem p_toList (r : Option Value) (rest : List Value) : (r.map (cv ad)).toList ++ rest.map (cv ad) = (r.toList ++ rest).map (cv ad) := by cases r <;> simp

section
variable {mt : List pCd} {cd : pCd} {d : Nat} {Q : pQ} {nx a b k pc : Nat} {ls : List (Option Value)} {st : List Value} {M : Mem} {Qc : Array Value → State → Outcome → State → Prop}
theorem sd_aload_n (C : Bx p s m args meth c cd.1.cls cd.2.1 cd.2.2.1 cd.2.2.2.1 D cT ad lay A) (hR : d + 1 ≤ R.frames ∧ 64 * (d + 1) ≤ R.locals) (hcs : kc ≤ R.cells ∧ ks ≤ R.slots) (ih : p_ih l mt lay D cT ad d) (hq : ∀ (r : Option Value) (M : Mem) (t : State), Q r M → HM D cT ad lay M t.heap → va_F A s t → Qc args s (.returned (r.map (cv ad))) t) {n : Fin 4} (ok : p_eb cd.2.1 cd.2.2.1 (pc, nx, .aload_n n, a, b, k) = true ∧ p_ew mt cd.1.cls (pc, nx, .aload_n n, a, b, k)) (h : p_sem (ex mt lay d) Q (WX p l e R s m args below meth c kc ks D cT ad lay A cd.2.2.1 (MQ below Qc args s kc ks A)) (p_step cd lay nx (.aload_n n) a b k pc ls st M)) : WX p l e R s m args below meth c kc ks D cT ad lay A cd.2.2.1 (MQ below Qc args s kc ks A) (pc, ls, st, M) := by
  obtain ⟨ok, ow⟩ := ok
  simp only [p_eb, p_il, Bool.and_eq_true, Bool.or_eq_true, decide_eq_true_eq, beq_iff_eq] at ok
  obtain ⟨⟨⟨hd, hle⟩, hln⟩, hz⟩ := ok
  intro la H locs hl S
  have C' := C
  obtain ⟨⟨⟨hx, hb, hml, hown, hts⟩, hK, hJ⟩, hr, hlk⟩ := C
  simp only [p_step] at h
  have hnx : nx = pc + 1 := by rcases hln with hln | hln <;> omega
  subst hnx
  have hd : decode cd.2.1 pc = .ok (.aload_n n, 1) := by rw [hd]; congr 2; omega
  split at h
  · next q hg => exact lv_aload_n hx hb hd rfl (hl.at hg) (p_go_sem h la H locs hl S)
  · exact h.elim
end
section
variable {mt : List pCd} {cd : pCd} {d : Nat} {Q : pQ} {nx a b k pc : Nat} {ls : List (Option Value)} {st : List Value} {M : Mem} {Qc : Array Value → State → Outcome → State → Prop}
theorem sd_aload (C : Bx p s m args meth c cd.1.cls cd.2.1 cd.2.2.1 cd.2.2.2.1 D cT ad lay A) (hR : d + 1 ≤ R.frames ∧ 64 * (d + 1) ≤ R.locals) (hcs : kc ≤ R.cells ∧ ks ≤ R.slots) (ih : p_ih l mt lay D cT ad d) (hq : ∀ (r : Option Value) (M : Mem) (t : State), Q r M → HM D cT ad lay M t.heap → va_F A s t → Qc args s (.returned (r.map (cv ad))) t) {n : Nat} (ok : p_eb cd.2.1 cd.2.2.1 (pc, nx, .aload n, a, b, k) = true ∧ p_ew mt cd.1.cls (pc, nx, .aload n, a, b, k)) (h : p_sem (ex mt lay d) Q (WX p l e R s m args below meth c kc ks D cT ad lay A cd.2.2.1 (MQ below Qc args s kc ks A)) (p_step cd lay nx (.aload n) a b k pc ls st M)) : WX p l e R s m args below meth c kc ks D cT ad lay A cd.2.2.1 (MQ below Qc args s kc ks A) (pc, ls, st, M) := by
  obtain ⟨ok, ow⟩ := ok
  simp only [p_eb, p_il, Bool.and_eq_true, Bool.or_eq_true, decide_eq_true_eq, beq_iff_eq] at ok
  obtain ⟨⟨⟨hd, hle⟩, hln⟩, hz⟩ := ok
  intro la H locs hl S
  have C' := C
  obtain ⟨⟨⟨hx, hb, hml, hown, hts⟩, hK, hJ⟩, hr, hlk⟩ := C
  simp only [p_step] at h
  have hnx : nx = pc + 2 := by rcases hln with hln | hln <;> omega
  subst hnx
  have hd : decode cd.2.1 pc = .ok (.aload n, 2) := by rw [hd]; congr 2; omega
  split at h
  · next q hg => exact lv_aload hx hb hd (hl.at hg) (p_go_sem h la H locs hl S)
  · exact h.elim
end
section
variable {mt : List pCd} {cd : pCd} {d : Nat} {Q : pQ} {nx a b k pc : Nat} {ls : List (Option Value)} {st : List Value} {M : Mem} {Qc : Array Value → State → Outcome → State → Prop}
theorem sd_iload_n (C : Bx p s m args meth c cd.1.cls cd.2.1 cd.2.2.1 cd.2.2.2.1 D cT ad lay A) (hR : d + 1 ≤ R.frames ∧ 64 * (d + 1) ≤ R.locals) (hcs : kc ≤ R.cells ∧ ks ≤ R.slots) (ih : p_ih l mt lay D cT ad d) (hq : ∀ (r : Option Value) (M : Mem) (t : State), Q r M → HM D cT ad lay M t.heap → va_F A s t → Qc args s (.returned (r.map (cv ad))) t) {n : Fin 4} (ok : p_eb cd.2.1 cd.2.2.1 (pc, nx, .iload_n n, a, b, k) = true ∧ p_ew mt cd.1.cls (pc, nx, .iload_n n, a, b, k)) (h : p_sem (ex mt lay d) Q (WX p l e R s m args below meth c kc ks D cT ad lay A cd.2.2.1 (MQ below Qc args s kc ks A)) (p_step cd lay nx (.iload_n n) a b k pc ls st M)) : WX p l e R s m args below meth c kc ks D cT ad lay A cd.2.2.1 (MQ below Qc args s kc ks A) (pc, ls, st, M) := by
  obtain ⟨ok, ow⟩ := ok
  simp only [p_eb, p_il, Bool.and_eq_true, Bool.or_eq_true, decide_eq_true_eq, beq_iff_eq] at ok
  obtain ⟨⟨⟨hd, hle⟩, hln⟩, hz⟩ := ok
  intro la H locs hl S
  have C' := C
  obtain ⟨⟨⟨hx, hb, hml, hown, hts⟩, hK, hJ⟩, hr, hlk⟩ := C
  simp only [p_step] at h
  have hnx : nx = pc + 1 := by rcases hln with hln | hln <;> omega
  subst hnx
  have hd : decode cd.2.1 pc = .ok (.iload_n n, 1) := by rw [hd]; congr 2; omega
  split at h
  · next q hg => exact lv_iload_n hx hb hd rfl (hl.at hg) (p_go_sem h la H locs hl S)
  · exact h.elim
end
section
variable {mt : List pCd} {cd : pCd} {d : Nat} {Q : pQ} {nx a b k pc : Nat} {ls : List (Option Value)} {st : List Value} {M : Mem} {Qc : Array Value → State → Outcome → State → Prop}
theorem sd_iload (C : Bx p s m args meth c cd.1.cls cd.2.1 cd.2.2.1 cd.2.2.2.1 D cT ad lay A) (hR : d + 1 ≤ R.frames ∧ 64 * (d + 1) ≤ R.locals) (hcs : kc ≤ R.cells ∧ ks ≤ R.slots) (ih : p_ih l mt lay D cT ad d) (hq : ∀ (r : Option Value) (M : Mem) (t : State), Q r M → HM D cT ad lay M t.heap → va_F A s t → Qc args s (.returned (r.map (cv ad))) t) {n : Nat} (ok : p_eb cd.2.1 cd.2.2.1 (pc, nx, .iload n, a, b, k) = true ∧ p_ew mt cd.1.cls (pc, nx, .iload n, a, b, k)) (h : p_sem (ex mt lay d) Q (WX p l e R s m args below meth c kc ks D cT ad lay A cd.2.2.1 (MQ below Qc args s kc ks A)) (p_step cd lay nx (.iload n) a b k pc ls st M)) : WX p l e R s m args below meth c kc ks D cT ad lay A cd.2.2.1 (MQ below Qc args s kc ks A) (pc, ls, st, M) := by
  obtain ⟨ok, ow⟩ := ok
  simp only [p_eb, p_il, Bool.and_eq_true, Bool.or_eq_true, decide_eq_true_eq, beq_iff_eq] at ok
  obtain ⟨⟨⟨hd, hle⟩, hln⟩, hz⟩ := ok
  intro la H locs hl S
  have C' := C
  obtain ⟨⟨⟨hx, hb, hml, hown, hts⟩, hK, hJ⟩, hr, hlk⟩ := C
  simp only [p_step] at h
  have hnx : nx = pc + 2 := by rcases hln with hln | hln <;> omega
  subst hnx
  have hd : decode cd.2.1 pc = .ok (.iload n, 2) := by rw [hd]; congr 2; omega
  split at h
  · next q hg => exact lv_iload hx hb hd (hl.at hg) (p_go_sem h la H locs hl S)
  · exact h.elim
end
section
variable {mt : List pCd} {cd : pCd} {d : Nat} {Q : pQ} {nx a b k pc : Nat} {ls : List (Option Value)} {st : List Value} {M : Mem} {Qc : Array Value → State → Outcome → State → Prop}
theorem sd_lload_n (C : Bx p s m args meth c cd.1.cls cd.2.1 cd.2.2.1 cd.2.2.2.1 D cT ad lay A) (hR : d + 1 ≤ R.frames ∧ 64 * (d + 1) ≤ R.locals) (hcs : kc ≤ R.cells ∧ ks ≤ R.slots) (ih : p_ih l mt lay D cT ad d) (hq : ∀ (r : Option Value) (M : Mem) (t : State), Q r M → HM D cT ad lay M t.heap → va_F A s t → Qc args s (.returned (r.map (cv ad))) t) {n : Fin 4} (ok : p_eb cd.2.1 cd.2.2.1 (pc, nx, .lload_n n, a, b, k) = true ∧ p_ew mt cd.1.cls (pc, nx, .lload_n n, a, b, k)) (h : p_sem (ex mt lay d) Q (WX p l e R s m args below meth c kc ks D cT ad lay A cd.2.2.1 (MQ below Qc args s kc ks A)) (p_step cd lay nx (.lload_n n) a b k pc ls st M)) : WX p l e R s m args below meth c kc ks D cT ad lay A cd.2.2.1 (MQ below Qc args s kc ks A) (pc, ls, st, M) := by
  obtain ⟨ok, ow⟩ := ok
  simp only [p_eb, p_il, Bool.and_eq_true, Bool.or_eq_true, decide_eq_true_eq, beq_iff_eq] at ok
  obtain ⟨⟨⟨hd, hle⟩, hln⟩, hz⟩ := ok
  intro la H locs hl S
  have C' := C
  obtain ⟨⟨⟨hx, hb, hml, hown, hts⟩, hK, hJ⟩, hr, hlk⟩ := C
  simp only [p_step] at h
  have hnx : nx = pc + 1 := by rcases hln with hln | hln <;> omega
  subst hnx
  have hd : decode cd.2.1 pc = .ok (.lload_n n, 1) := by rw [hd]; congr 2; omega
  split at h
  · next q hg => exact lv_lload_n hx hb hd rfl (hl.at hg) (p_go_sem h la H locs hl S)
  · exact h.elim
end
section
variable {mt : List pCd} {cd : pCd} {d : Nat} {Q : pQ} {nx a b k pc : Nat} {ls : List (Option Value)} {st : List Value} {M : Mem} {Qc : Array Value → State → Outcome → State → Prop}
theorem sd_lload (C : Bx p s m args meth c cd.1.cls cd.2.1 cd.2.2.1 cd.2.2.2.1 D cT ad lay A) (hR : d + 1 ≤ R.frames ∧ 64 * (d + 1) ≤ R.locals) (hcs : kc ≤ R.cells ∧ ks ≤ R.slots) (ih : p_ih l mt lay D cT ad d) (hq : ∀ (r : Option Value) (M : Mem) (t : State), Q r M → HM D cT ad lay M t.heap → va_F A s t → Qc args s (.returned (r.map (cv ad))) t) {n : Nat} (ok : p_eb cd.2.1 cd.2.2.1 (pc, nx, .lload n, a, b, k) = true ∧ p_ew mt cd.1.cls (pc, nx, .lload n, a, b, k)) (h : p_sem (ex mt lay d) Q (WX p l e R s m args below meth c kc ks D cT ad lay A cd.2.2.1 (MQ below Qc args s kc ks A)) (p_step cd lay nx (.lload n) a b k pc ls st M)) : WX p l e R s m args below meth c kc ks D cT ad lay A cd.2.2.1 (MQ below Qc args s kc ks A) (pc, ls, st, M) := by
  obtain ⟨ok, ow⟩ := ok
  simp only [p_eb, p_il, Bool.and_eq_true, Bool.or_eq_true, decide_eq_true_eq, beq_iff_eq] at ok
  obtain ⟨⟨⟨hd, hle⟩, hln⟩, hz⟩ := ok
  intro la H locs hl S
  have C' := C
  obtain ⟨⟨⟨hx, hb, hml, hown, hts⟩, hK, hJ⟩, hr, hlk⟩ := C
  simp only [p_step] at h
  have hnx : nx = pc + 2 := by rcases hln with hln | hln <;> omega
  subst hnx
  have hd : decode cd.2.1 pc = .ok (.lload n, 2) := by rw [hd]; congr 2; omega
  split at h
  · next q hg => exact lv_lload hx hb hd (hl.at hg) (p_go_sem h la H locs hl S)
  · exact h.elim
end
section
variable {mt : List pCd} {cd : pCd} {d : Nat} {Q : pQ} {nx a b k pc : Nat} {ls : List (Option Value)} {st : List Value} {M : Mem} {Qc : Array Value → State → Outcome → State → Prop}
theorem sd_iconst (C : Bx p s m args meth c cd.1.cls cd.2.1 cd.2.2.1 cd.2.2.2.1 D cT ad lay A) (hR : d + 1 ≤ R.frames ∧ 64 * (d + 1) ≤ R.locals) (hcs : kc ≤ R.cells ∧ ks ≤ R.slots) (ih : p_ih l mt lay D cT ad d) (hq : ∀ (r : Option Value) (M : Mem) (t : State), Q r M → HM D cT ad lay M t.heap → va_F A s t → Qc args s (.returned (r.map (cv ad))) t) {n : Int} (ok : p_eb cd.2.1 cd.2.2.1 (pc, nx, .iconst n, a, b, k) = true ∧ p_ew mt cd.1.cls (pc, nx, .iconst n, a, b, k)) (h : p_sem (ex mt lay d) Q (WX p l e R s m args below meth c kc ks D cT ad lay A cd.2.2.1 (MQ below Qc args s kc ks A)) (p_step cd lay nx (.iconst n) a b k pc ls st M)) : WX p l e R s m args below meth c kc ks D cT ad lay A cd.2.2.1 (MQ below Qc args s kc ks A) (pc, ls, st, M) := by
  obtain ⟨ok, ow⟩ := ok
  simp only [p_eb, p_il, Bool.and_eq_true, Bool.or_eq_true, decide_eq_true_eq, beq_iff_eq] at ok
  obtain ⟨⟨⟨hd, hle⟩, hln⟩, hz⟩ := ok
  intro la H locs hl S
  have C' := C
  obtain ⟨⟨⟨hx, hb, hml, hown, hts⟩, hK, hJ⟩, hr, hlk⟩ := C
  simp only [p_step] at h
  have hnx : nx = pc + 1 := by rcases hln with hln | hln <;> omega
  subst hnx
  have hd : decode cd.2.1 pc = .ok (.iconst n, 1) := by rw [hd]; congr 2; omega
  exact lv_iconst hx hb hd rfl (p_go_sem h la H locs hl S)
end
section
variable {mt : List pCd} {cd : pCd} {d : Nat} {Q : pQ} {nx a b k pc : Nat} {ls : List (Option Value)} {st : List Value} {M : Mem} {Qc : Array Value → State → Outcome → State → Prop}
theorem sd_bipush (C : Bx p s m args meth c cd.1.cls cd.2.1 cd.2.2.1 cd.2.2.2.1 D cT ad lay A) (hR : d + 1 ≤ R.frames ∧ 64 * (d + 1) ≤ R.locals) (hcs : kc ≤ R.cells ∧ ks ≤ R.slots) (ih : p_ih l mt lay D cT ad d) (hq : ∀ (r : Option Value) (M : Mem) (t : State), Q r M → HM D cT ad lay M t.heap → va_F A s t → Qc args s (.returned (r.map (cv ad))) t) {n : Int} (ok : p_eb cd.2.1 cd.2.2.1 (pc, nx, .bipush n, a, b, k) = true ∧ p_ew mt cd.1.cls (pc, nx, .bipush n, a, b, k)) (h : p_sem (ex mt lay d) Q (WX p l e R s m args below meth c kc ks D cT ad lay A cd.2.2.1 (MQ below Qc args s kc ks A)) (p_step cd lay nx (.bipush n) a b k pc ls st M)) : WX p l e R s m args below meth c kc ks D cT ad lay A cd.2.2.1 (MQ below Qc args s kc ks A) (pc, ls, st, M) := by
  obtain ⟨ok, ow⟩ := ok
  simp only [p_eb, p_il, Bool.and_eq_true, Bool.or_eq_true, decide_eq_true_eq, beq_iff_eq] at ok
  obtain ⟨⟨⟨hd, hle⟩, hln⟩, hz⟩ := ok
  intro la H locs hl S
  have C' := C
  obtain ⟨⟨⟨hx, hb, hml, hown, hts⟩, hK, hJ⟩, hr, hlk⟩ := C
  simp only [p_step] at h
  have hnx : nx = pc + 2 := by rcases hln with hln | hln <;> omega
  subst hnx
  have hd : decode cd.2.1 pc = .ok (.bipush n, 2) := by rw [hd]; congr 2; omega
  exact lv_bipush hx hb hd rfl (p_go_sem h la H locs hl S)
end
section
variable {mt : List pCd} {cd : pCd} {d : Nat} {Q : pQ} {nx a b k pc : Nat} {ls : List (Option Value)} {st : List Value} {M : Mem} {Qc : Array Value → State → Outcome → State → Prop}
theorem sd_sipush (C : Bx p s m args meth c cd.1.cls cd.2.1 cd.2.2.1 cd.2.2.2.1 D cT ad lay A) (hR : d + 1 ≤ R.frames ∧ 64 * (d + 1) ≤ R.locals) (hcs : kc ≤ R.cells ∧ ks ≤ R.slots) (ih : p_ih l mt lay D cT ad d) (hq : ∀ (r : Option Value) (M : Mem) (t : State), Q r M → HM D cT ad lay M t.heap → va_F A s t → Qc args s (.returned (r.map (cv ad))) t) {n : Int} (ok : p_eb cd.2.1 cd.2.2.1 (pc, nx, .sipush n, a, b, k) = true ∧ p_ew mt cd.1.cls (pc, nx, .sipush n, a, b, k)) (h : p_sem (ex mt lay d) Q (WX p l e R s m args below meth c kc ks D cT ad lay A cd.2.2.1 (MQ below Qc args s kc ks A)) (p_step cd lay nx (.sipush n) a b k pc ls st M)) : WX p l e R s m args below meth c kc ks D cT ad lay A cd.2.2.1 (MQ below Qc args s kc ks A) (pc, ls, st, M) := by
  obtain ⟨ok, ow⟩ := ok
  simp only [p_eb, p_il, Bool.and_eq_true, Bool.or_eq_true, decide_eq_true_eq, beq_iff_eq] at ok
  obtain ⟨⟨⟨hd, hle⟩, hln⟩, hz⟩ := ok
  intro la H locs hl S
  have C' := C
  obtain ⟨⟨⟨hx, hb, hml, hown, hts⟩, hK, hJ⟩, hr, hlk⟩ := C
  simp only [p_step] at h
  have hnx : nx = pc + 3 := by rcases hln with hln | hln <;> omega
  subst hnx
  have hd : decode cd.2.1 pc = .ok (.sipush n, 3) := by rw [hd]; congr 2; omega
  exact lv_sipush hx hb hd rfl (p_go_sem h la H locs hl S)
end
section
variable {mt : List pCd} {cd : pCd} {d : Nat} {Q : pQ} {nx a b k pc : Nat} {ls : List (Option Value)} {st : List Value} {M : Mem} {Qc : Array Value → State → Outcome → State → Prop}
theorem sd_lconst (C : Bx p s m args meth c cd.1.cls cd.2.1 cd.2.2.1 cd.2.2.2.1 D cT ad lay A) (hR : d + 1 ≤ R.frames ∧ 64 * (d + 1) ≤ R.locals) (hcs : kc ≤ R.cells ∧ ks ≤ R.slots) (ih : p_ih l mt lay D cT ad d) (hq : ∀ (r : Option Value) (M : Mem) (t : State), Q r M → HM D cT ad lay M t.heap → va_F A s t → Qc args s (.returned (r.map (cv ad))) t) {n : Fin 2} (ok : p_eb cd.2.1 cd.2.2.1 (pc, nx, .lconst n, a, b, k) = true ∧ p_ew mt cd.1.cls (pc, nx, .lconst n, a, b, k)) (h : p_sem (ex mt lay d) Q (WX p l e R s m args below meth c kc ks D cT ad lay A cd.2.2.1 (MQ below Qc args s kc ks A)) (p_step cd lay nx (.lconst n) a b k pc ls st M)) : WX p l e R s m args below meth c kc ks D cT ad lay A cd.2.2.1 (MQ below Qc args s kc ks A) (pc, ls, st, M) := by
  obtain ⟨ok, ow⟩ := ok
  simp only [p_eb, p_il, Bool.and_eq_true, Bool.or_eq_true, decide_eq_true_eq, beq_iff_eq] at ok
  obtain ⟨⟨⟨hd, hle⟩, hln⟩, hz⟩ := ok
  intro la H locs hl S
  have C' := C
  obtain ⟨⟨⟨hx, hb, hml, hown, hts⟩, hK, hJ⟩, hr, hlk⟩ := C
  simp only [p_step] at h
  have hnx : nx = pc + 1 := by rcases hln with hln | hln <;> omega
  subst hnx
  have hd : decode cd.2.1 pc = .ok (.lconst n, 1) := by rw [hd]; congr 2; omega
  exact lv_lconst hx hb hd rfl (p_go_sem h la H locs hl S)
end
section
variable {mt : List pCd} {cd : pCd} {d : Nat} {Q : pQ} {nx a b k pc : Nat} {ls : List (Option Value)} {st : List Value} {M : Mem} {Qc : Array Value → State → Outcome → State → Prop}
theorem sd_ldc (C : Bx p s m args meth c cd.1.cls cd.2.1 cd.2.2.1 cd.2.2.2.1 D cT ad lay A) (hR : d + 1 ≤ R.frames ∧ 64 * (d + 1) ≤ R.locals) (hcs : kc ≤ R.cells ∧ ks ≤ R.slots) (ih : p_ih l mt lay D cT ad d) (hq : ∀ (r : Option Value) (M : Mem) (t : State), Q r M → HM D cT ad lay M t.heap → va_F A s t → Qc args s (.returned (r.map (cv ad))) t) {n : Nat} (ok : p_eb cd.2.1 cd.2.2.1 (pc, nx, .ldc n, a, b, k) = true ∧ p_ew mt cd.1.cls (pc, nx, .ldc n, a, b, k)) (h : p_sem (ex mt lay d) Q (WX p l e R s m args below meth c kc ks D cT ad lay A cd.2.2.1 (MQ below Qc args s kc ks A)) (p_step cd lay nx (.ldc n) a b k pc ls st M)) : WX p l e R s m args below meth c kc ks D cT ad lay A cd.2.2.1 (MQ below Qc args s kc ks A) (pc, ls, st, M) := by
  obtain ⟨ok, ow⟩ := ok
  simp only [p_eb, p_il, Bool.and_eq_true, Bool.or_eq_true, decide_eq_true_eq, beq_iff_eq] at ok
  obtain ⟨⟨⟨hd, hle⟩, hln⟩, hz⟩ := ok
  intro la H locs hl S
  have C' := C
  obtain ⟨⟨⟨hx, hb, hml, hown, hts⟩, hK, hJ⟩, hr, hlk⟩ := C
  simp only [p_step] at h
  have hnx : nx = pc + 2 := by rcases hln with hln | hln <;> omega
  subst hnx
  have hd : decode cd.2.1 pc = .ok (.ldc n, 2) := by rw [hd]; congr 2; omega
  exact lv_ldc hx hb hown (hts _ ow) hd (p_go_sem h la H locs hl S)
end
section
variable {mt : List pCd} {cd : pCd} {d : Nat} {Q : pQ} {nx a b k pc : Nat} {ls : List (Option Value)} {st : List Value} {M : Mem} {Qc : Array Value → State → Outcome → State → Prop}
theorem sd_ldc_w (C : Bx p s m args meth c cd.1.cls cd.2.1 cd.2.2.1 cd.2.2.2.1 D cT ad lay A) (hR : d + 1 ≤ R.frames ∧ 64 * (d + 1) ≤ R.locals) (hcs : kc ≤ R.cells ∧ ks ≤ R.slots) (ih : p_ih l mt lay D cT ad d) (hq : ∀ (r : Option Value) (M : Mem) (t : State), Q r M → HM D cT ad lay M t.heap → va_F A s t → Qc args s (.returned (r.map (cv ad))) t) {n : Nat} (ok : p_eb cd.2.1 cd.2.2.1 (pc, nx, .ldc_w n, a, b, k) = true ∧ p_ew mt cd.1.cls (pc, nx, .ldc_w n, a, b, k)) (h : p_sem (ex mt lay d) Q (WX p l e R s m args below meth c kc ks D cT ad lay A cd.2.2.1 (MQ below Qc args s kc ks A)) (p_step cd lay nx (.ldc_w n) a b k pc ls st M)) : WX p l e R s m args below meth c kc ks D cT ad lay A cd.2.2.1 (MQ below Qc args s kc ks A) (pc, ls, st, M) := by
  obtain ⟨ok, ow⟩ := ok
  simp only [p_eb, p_il, Bool.and_eq_true, Bool.or_eq_true, decide_eq_true_eq, beq_iff_eq] at ok
  obtain ⟨⟨⟨hd, hle⟩, hln⟩, hz⟩ := ok
  intro la H locs hl S
  have C' := C
  obtain ⟨⟨⟨hx, hb, hml, hown, hts⟩, hK, hJ⟩, hr, hlk⟩ := C
  simp only [p_step] at h
  have hnx : nx = pc + 3 := by rcases hln with hln | hln <;> omega
  subst hnx
  have hd : decode cd.2.1 pc = .ok (.ldc_w n, 3) := by rw [hd]; congr 2; omega
  exact lv_ldcw hx hb hown (hts _ ow) hd (p_go_sem h la H locs hl S)
end
section
variable {mt : List pCd} {cd : pCd} {d : Nat} {Q : pQ} {nx a b k pc : Nat} {ls : List (Option Value)} {st : List Value} {M : Mem} {Qc : Array Value → State → Outcome → State → Prop}
theorem sd_ldc2_w (C : Bx p s m args meth c cd.1.cls cd.2.1 cd.2.2.1 cd.2.2.2.1 D cT ad lay A) (hR : d + 1 ≤ R.frames ∧ 64 * (d + 1) ≤ R.locals) (hcs : kc ≤ R.cells ∧ ks ≤ R.slots) (ih : p_ih l mt lay D cT ad d) (hq : ∀ (r : Option Value) (M : Mem) (t : State), Q r M → HM D cT ad lay M t.heap → va_F A s t → Qc args s (.returned (r.map (cv ad))) t) {n : Nat} (ok : p_eb cd.2.1 cd.2.2.1 (pc, nx, .ldc2_w n, a, b, k) = true ∧ p_ew mt cd.1.cls (pc, nx, .ldc2_w n, a, b, k)) (h : p_sem (ex mt lay d) Q (WX p l e R s m args below meth c kc ks D cT ad lay A cd.2.2.1 (MQ below Qc args s kc ks A)) (p_step cd lay nx (.ldc2_w n) a b k pc ls st M)) : WX p l e R s m args below meth c kc ks D cT ad lay A cd.2.2.1 (MQ below Qc args s kc ks A) (pc, ls, st, M) := by
  obtain ⟨ok, ow⟩ := ok
  simp only [p_eb, p_il, Bool.and_eq_true, Bool.or_eq_true, decide_eq_true_eq, beq_iff_eq] at ok
  obtain ⟨⟨⟨hd, hle⟩, hln⟩, hz⟩ := ok
  intro la H locs hl S
  have C' := C
  obtain ⟨⟨⟨hx, hb, hml, hown, hts⟩, hK, hJ⟩, hr, hlk⟩ := C
  simp only [p_step] at h
  have hnx : nx = pc + 3 := by rcases hln with hln | hln <;> omega
  subst hnx
  have hd : decode cd.2.1 pc = .ok (.ldc2_w n, 3) := by rw [hd]; congr 2; omega
  exact lv_ldc2 hx hb hown (hts _ ow) hd (p_go_sem h la H locs hl S)
end
section
variable {mt : List pCd} {cd : pCd} {d : Nat} {Q : pQ} {nx a b k pc : Nat} {ls : List (Option Value)} {st : List Value} {M : Mem} {Qc : Array Value → State → Outcome → State → Prop}
theorem sd_istore_n (C : Bx p s m args meth c cd.1.cls cd.2.1 cd.2.2.1 cd.2.2.2.1 D cT ad lay A) (hR : d + 1 ≤ R.frames ∧ 64 * (d + 1) ≤ R.locals) (hcs : kc ≤ R.cells ∧ ks ≤ R.slots) (ih : p_ih l mt lay D cT ad d) (hq : ∀ (r : Option Value) (M : Mem) (t : State), Q r M → HM D cT ad lay M t.heap → va_F A s t → Qc args s (.returned (r.map (cv ad))) t) {n : Fin 4} (ok : p_eb cd.2.1 cd.2.2.1 (pc, nx, .istore_n n, a, b, k) = true ∧ p_ew mt cd.1.cls (pc, nx, .istore_n n, a, b, k)) (h : p_sem (ex mt lay d) Q (WX p l e R s m args below meth c kc ks D cT ad lay A cd.2.2.1 (MQ below Qc args s kc ks A)) (p_step cd lay nx (.istore_n n) a b k pc ls st M)) : WX p l e R s m args below meth c kc ks D cT ad lay A cd.2.2.1 (MQ below Qc args s kc ks A) (pc, ls, st, M) := by
  obtain ⟨ok, ow⟩ := ok
  simp only [p_eb, p_il, Bool.and_eq_true, Bool.or_eq_true, decide_eq_true_eq, beq_iff_eq] at ok
  obtain ⟨⟨⟨hd, hle⟩, hln⟩, hz⟩ := ok
  intro la H locs hl S
  have C' := C
  obtain ⟨⟨⟨hx, hb, hml, hown, hts⟩, hK, hJ⟩, hr, hlk⟩ := C
  simp only [p_step] at h
  have hnx : nx = pc + 1 := by rcases hln with hln | hln <;> omega
  subst hnx
  have hd : decode cd.2.1 pc = .ok (.istore_n n, 1) := by rw [hd]; congr 2; omega
  split at h
  · next x st => exact lv_istore_n hx hb hd rfl hl (by simpa using hz) rfl (fun la' hl' => p_go_sem h la' H locs (LvOk.s1 (v := .int x) hl') S)
  · exact h.elim
end
section
variable {mt : List pCd} {cd : pCd} {d : Nat} {Q : pQ} {nx a b k pc : Nat} {ls : List (Option Value)} {st : List Value} {M : Mem} {Qc : Array Value → State → Outcome → State → Prop}
theorem sd_istore (C : Bx p s m args meth c cd.1.cls cd.2.1 cd.2.2.1 cd.2.2.2.1 D cT ad lay A) (hR : d + 1 ≤ R.frames ∧ 64 * (d + 1) ≤ R.locals) (hcs : kc ≤ R.cells ∧ ks ≤ R.slots) (ih : p_ih l mt lay D cT ad d) (hq : ∀ (r : Option Value) (M : Mem) (t : State), Q r M → HM D cT ad lay M t.heap → va_F A s t → Qc args s (.returned (r.map (cv ad))) t) {n : Nat} (ok : p_eb cd.2.1 cd.2.2.1 (pc, nx, .istore n, a, b, k) = true ∧ p_ew mt cd.1.cls (pc, nx, .istore n, a, b, k)) (h : p_sem (ex mt lay d) Q (WX p l e R s m args below meth c kc ks D cT ad lay A cd.2.2.1 (MQ below Qc args s kc ks A)) (p_step cd lay nx (.istore n) a b k pc ls st M)) : WX p l e R s m args below meth c kc ks D cT ad lay A cd.2.2.1 (MQ below Qc args s kc ks A) (pc, ls, st, M) := by
  obtain ⟨ok, ow⟩ := ok
  simp only [p_eb, p_il, Bool.and_eq_true, Bool.or_eq_true, decide_eq_true_eq, beq_iff_eq] at ok
  obtain ⟨⟨⟨hd, hle⟩, hln⟩, hz⟩ := ok
  intro la H locs hl S
  have C' := C
  obtain ⟨⟨⟨hx, hb, hml, hown, hts⟩, hK, hJ⟩, hr, hlk⟩ := C
  simp only [p_step] at h
  have hnx : nx = pc + 2 := by rcases hln with hln | hln <;> omega
  subst hnx
  have hd : decode cd.2.1 pc = .ok (.istore n, 2) := by rw [hd]; congr 2; omega
  split at h
  · next x st => exact lv_istore hx hb hd hl (by simpa using hz) rfl (fun la' hl' => p_go_sem h la' H locs (LvOk.s1 (v := .int x) hl') S)
  · exact h.elim
end
section
variable {mt : List pCd} {cd : pCd} {d : Nat} {Q : pQ} {nx a b k pc : Nat} {ls : List (Option Value)} {st : List Value} {M : Mem} {Qc : Array Value → State → Outcome → State → Prop}
theorem sd_astore_n (C : Bx p s m args meth c cd.1.cls cd.2.1 cd.2.2.1 cd.2.2.2.1 D cT ad lay A) (hR : d + 1 ≤ R.frames ∧ 64 * (d + 1) ≤ R.locals) (hcs : kc ≤ R.cells ∧ ks ≤ R.slots) (ih : p_ih l mt lay D cT ad d) (hq : ∀ (r : Option Value) (M : Mem) (t : State), Q r M → HM D cT ad lay M t.heap → va_F A s t → Qc args s (.returned (r.map (cv ad))) t) {n : Fin 4} (ok : p_eb cd.2.1 cd.2.2.1 (pc, nx, .astore_n n, a, b, k) = true ∧ p_ew mt cd.1.cls (pc, nx, .astore_n n, a, b, k)) (h : p_sem (ex mt lay d) Q (WX p l e R s m args below meth c kc ks D cT ad lay A cd.2.2.1 (MQ below Qc args s kc ks A)) (p_step cd lay nx (.astore_n n) a b k pc ls st M)) : WX p l e R s m args below meth c kc ks D cT ad lay A cd.2.2.1 (MQ below Qc args s kc ks A) (pc, ls, st, M) := by
  obtain ⟨ok, ow⟩ := ok
  simp only [p_eb, p_il, Bool.and_eq_true, Bool.or_eq_true, decide_eq_true_eq, beq_iff_eq] at ok
  obtain ⟨⟨⟨hd, hle⟩, hln⟩, hz⟩ := ok
  intro la H locs hl S
  have C' := C
  obtain ⟨⟨⟨hx, hb, hml, hown, hts⟩, hK, hJ⟩, hr, hlk⟩ := C
  simp only [p_step] at h
  have hnx : nx = pc + 1 := by rcases hln with hln | hln <;> omega
  subst hnx
  have hd : decode cd.2.1 pc = .ok (.astore_n n, 1) := by rw [hd]; congr 2; omega
  split at h
  · next x st => exact lv_astore_n hx hb hd rfl hl (by simpa using hz) rfl (fun la' hl' => p_go_sem h la' H locs (LvOk.s1 (v := .ref x) hl') S)
  · exact h.elim
end
section
variable {mt : List pCd} {cd : pCd} {d : Nat} {Q : pQ} {nx a b k pc : Nat} {ls : List (Option Value)} {st : List Value} {M : Mem} {Qc : Array Value → State → Outcome → State → Prop}
theorem sd_astore (C : Bx p s m args meth c cd.1.cls cd.2.1 cd.2.2.1 cd.2.2.2.1 D cT ad lay A) (hR : d + 1 ≤ R.frames ∧ 64 * (d + 1) ≤ R.locals) (hcs : kc ≤ R.cells ∧ ks ≤ R.slots) (ih : p_ih l mt lay D cT ad d) (hq : ∀ (r : Option Value) (M : Mem) (t : State), Q r M → HM D cT ad lay M t.heap → va_F A s t → Qc args s (.returned (r.map (cv ad))) t) {n : Nat} (ok : p_eb cd.2.1 cd.2.2.1 (pc, nx, .astore n, a, b, k) = true ∧ p_ew mt cd.1.cls (pc, nx, .astore n, a, b, k)) (h : p_sem (ex mt lay d) Q (WX p l e R s m args below meth c kc ks D cT ad lay A cd.2.2.1 (MQ below Qc args s kc ks A)) (p_step cd lay nx (.astore n) a b k pc ls st M)) : WX p l e R s m args below meth c kc ks D cT ad lay A cd.2.2.1 (MQ below Qc args s kc ks A) (pc, ls, st, M) := by
  obtain ⟨ok, ow⟩ := ok
  simp only [p_eb, p_il, Bool.and_eq_true, Bool.or_eq_true, decide_eq_true_eq, beq_iff_eq] at ok
  obtain ⟨⟨⟨hd, hle⟩, hln⟩, hz⟩ := ok
  intro la H locs hl S
  have C' := C
  obtain ⟨⟨⟨hx, hb, hml, hown, hts⟩, hK, hJ⟩, hr, hlk⟩ := C
  simp only [p_step] at h
  have hnx : nx = pc + 2 := by rcases hln with hln | hln <;> omega
  subst hnx
  have hd : decode cd.2.1 pc = .ok (.astore n, 2) := by rw [hd]; congr 2; omega
  split at h
  · next x st => exact lv_astore hx hb hd hl (by simpa using hz) rfl (fun la' hl' => p_go_sem h la' H locs (LvOk.s1 (v := .ref x) hl') S)
  · exact h.elim
end
section
variable {mt : List pCd} {cd : pCd} {d : Nat} {Q : pQ} {nx a b k pc : Nat} {ls : List (Option Value)} {st : List Value} {M : Mem} {Qc : Array Value → State → Outcome → State → Prop}
theorem sd_lstore_n (C : Bx p s m args meth c cd.1.cls cd.2.1 cd.2.2.1 cd.2.2.2.1 D cT ad lay A) (hR : d + 1 ≤ R.frames ∧ 64 * (d + 1) ≤ R.locals) (hcs : kc ≤ R.cells ∧ ks ≤ R.slots) (ih : p_ih l mt lay D cT ad d) (hq : ∀ (r : Option Value) (M : Mem) (t : State), Q r M → HM D cT ad lay M t.heap → va_F A s t → Qc args s (.returned (r.map (cv ad))) t) {n : Fin 4} (ok : p_eb cd.2.1 cd.2.2.1 (pc, nx, .lstore_n n, a, b, k) = true ∧ p_ew mt cd.1.cls (pc, nx, .lstore_n n, a, b, k)) (h : p_sem (ex mt lay d) Q (WX p l e R s m args below meth c kc ks D cT ad lay A cd.2.2.1 (MQ below Qc args s kc ks A)) (p_step cd lay nx (.lstore_n n) a b k pc ls st M)) : WX p l e R s m args below meth c kc ks D cT ad lay A cd.2.2.1 (MQ below Qc args s kc ks A) (pc, ls, st, M) := by
  obtain ⟨ok, ow⟩ := ok
  simp only [p_eb, p_il, Bool.and_eq_true, Bool.or_eq_true, decide_eq_true_eq, beq_iff_eq] at ok
  obtain ⟨⟨⟨hd, hle⟩, hln⟩, hz⟩ := ok
  intro la H locs hl S
  have C' := C
  obtain ⟨⟨⟨hx, hb, hml, hown, hts⟩, hK, hJ⟩, hr, hlk⟩ := C
  simp only [p_step] at h
  have hnx : nx = pc + 1 := by rcases hln with hln | hln <;> omega
  subst hnx
  have hd : decode cd.2.1 pc = .ok (.lstore_n n, 1) := by rw [hd]; congr 2; omega
  split at h
  · next x st => exact lv_lstore_n hx hb hd rfl hl (by simpa using hz) rfl (fun la' hl' => p_go_sem h la' H locs (LvOk.s2 (v := .long x) hl') S)
  · exact h.elim
end
section
variable {mt : List pCd} {cd : pCd} {d : Nat} {Q : pQ} {nx a b k pc : Nat} {ls : List (Option Value)} {st : List Value} {M : Mem} {Qc : Array Value → State → Outcome → State → Prop}
theorem sd_lstore (C : Bx p s m args meth c cd.1.cls cd.2.1 cd.2.2.1 cd.2.2.2.1 D cT ad lay A) (hR : d + 1 ≤ R.frames ∧ 64 * (d + 1) ≤ R.locals) (hcs : kc ≤ R.cells ∧ ks ≤ R.slots) (ih : p_ih l mt lay D cT ad d) (hq : ∀ (r : Option Value) (M : Mem) (t : State), Q r M → HM D cT ad lay M t.heap → va_F A s t → Qc args s (.returned (r.map (cv ad))) t) {n : Nat} (ok : p_eb cd.2.1 cd.2.2.1 (pc, nx, .lstore n, a, b, k) = true ∧ p_ew mt cd.1.cls (pc, nx, .lstore n, a, b, k)) (h : p_sem (ex mt lay d) Q (WX p l e R s m args below meth c kc ks D cT ad lay A cd.2.2.1 (MQ below Qc args s kc ks A)) (p_step cd lay nx (.lstore n) a b k pc ls st M)) : WX p l e R s m args below meth c kc ks D cT ad lay A cd.2.2.1 (MQ below Qc args s kc ks A) (pc, ls, st, M) := by
  obtain ⟨ok, ow⟩ := ok
  simp only [p_eb, p_il, Bool.and_eq_true, Bool.or_eq_true, decide_eq_true_eq, beq_iff_eq] at ok
  obtain ⟨⟨⟨hd, hle⟩, hln⟩, hz⟩ := ok
  intro la H locs hl S
  have C' := C
  obtain ⟨⟨⟨hx, hb, hml, hown, hts⟩, hK, hJ⟩, hr, hlk⟩ := C
  simp only [p_step] at h
  have hnx : nx = pc + 2 := by rcases hln with hln | hln <;> omega
  subst hnx
  have hd : decode cd.2.1 pc = .ok (.lstore n, 2) := by rw [hd]; congr 2; omega
  split at h
  · next x st => exact lv_lstore hx hb hd hl (by simpa using hz) rfl (fun la' hl' => p_go_sem h la' H locs (LvOk.s2 (v := .long x) hl') S)
  · exact h.elim
end
section
variable {mt : List pCd} {cd : pCd} {d : Nat} {Q : pQ} {nx a b k pc : Nat} {ls : List (Option Value)} {st : List Value} {M : Mem} {Qc : Array Value → State → Outcome → State → Prop}
theorem sd_iinc (C : Bx p s m args meth c cd.1.cls cd.2.1 cd.2.2.1 cd.2.2.2.1 D cT ad lay A) (hR : d + 1 ≤ R.frames ∧ 64 * (d + 1) ≤ R.locals) (hcs : kc ≤ R.cells ∧ ks ≤ R.slots) (ih : p_ih l mt lay D cT ad d) (hq : ∀ (r : Option Value) (M : Mem) (t : State), Q r M → HM D cT ad lay M t.heap → va_F A s t → Qc args s (.returned (r.map (cv ad))) t) {n : Nat} {i : Int} (ok : p_eb cd.2.1 cd.2.2.1 (pc, nx, .iinc n i, a, b, k) = true ∧ p_ew mt cd.1.cls (pc, nx, .iinc n i, a, b, k)) (h : p_sem (ex mt lay d) Q (WX p l e R s m args below meth c kc ks D cT ad lay A cd.2.2.1 (MQ below Qc args s kc ks A)) (p_step cd lay nx (.iinc n i) a b k pc ls st M)) : WX p l e R s m args below meth c kc ks D cT ad lay A cd.2.2.1 (MQ below Qc args s kc ks A) (pc, ls, st, M) := by
  obtain ⟨ok, ow⟩ := ok
  simp only [p_eb, p_il, Bool.and_eq_true, Bool.or_eq_true, decide_eq_true_eq, beq_iff_eq] at ok
  obtain ⟨⟨⟨hd, hle⟩, hln⟩, hz⟩ := ok
  intro la H locs hl S
  have C' := C
  obtain ⟨⟨⟨hx, hb, hml, hown, hts⟩, hK, hJ⟩, hr, hlk⟩ := C
  simp only [p_step] at h
  have hnx : nx = pc + 3 := by rcases hln with hln | hln <;> omega
  subst hnx
  have hd : decode cd.2.1 pc = .ok (.iinc n i, 3) := by rw [hd]; congr 2; omega
  split at h
  · next q hg =>
    obtain ⟨k0, hk0⟩ := List.mem_iff_getElem?.mp (p_ll_mem.mpr ⟨_, hg, rfl⟩ : (n, cv ad (.int q)) ∈ p_ll ad ls)
    exact lv_iinc hx hb hd hl hk0 rfl (by simpa using hz) rfl (fun la' hl' => p_go_sem h la' H locs (LvOk.s1 (v := .int (q + Int32.ofInt i)) hl') S)
  · exact h.elim
end
section
variable {mt : List pCd} {cd : pCd} {d : Nat} {Q : pQ} {nx a b k pc : Nat} {ls : List (Option Value)} {st : List Value} {M : Mem} {Qc : Array Value → State → Outcome → State → Prop}
theorem sd_iadd (C : Bx p s m args meth c cd.1.cls cd.2.1 cd.2.2.1 cd.2.2.2.1 D cT ad lay A) (hR : d + 1 ≤ R.frames ∧ 64 * (d + 1) ≤ R.locals) (hcs : kc ≤ R.cells ∧ ks ≤ R.slots) (ih : p_ih l mt lay D cT ad d) (hq : ∀ (r : Option Value) (M : Mem) (t : State), Q r M → HM D cT ad lay M t.heap → va_F A s t → Qc args s (.returned (r.map (cv ad))) t) (ok : p_eb cd.2.1 cd.2.2.1 (pc, nx, .iadd, a, b, k) = true ∧ p_ew mt cd.1.cls (pc, nx, .iadd, a, b, k)) (h : p_sem (ex mt lay d) Q (WX p l e R s m args below meth c kc ks D cT ad lay A cd.2.2.1 (MQ below Qc args s kc ks A)) (p_step cd lay nx (.iadd) a b k pc ls st M)) : WX p l e R s m args below meth c kc ks D cT ad lay A cd.2.2.1 (MQ below Qc args s kc ks A) (pc, ls, st, M) := by
  obtain ⟨ok, ow⟩ := ok
  simp only [p_eb, p_il, Bool.and_eq_true, Bool.or_eq_true, decide_eq_true_eq, beq_iff_eq] at ok
  obtain ⟨⟨⟨hd, hle⟩, hln⟩, hz⟩ := ok
  intro la H locs hl S
  have C' := C
  obtain ⟨⟨⟨hx, hb, hml, hown, hts⟩, hK, hJ⟩, hr, hlk⟩ := C
  simp only [p_step] at h
  have hnx : nx = pc + 1 := by rcases hln with hln | hln <;> omega
  subst hnx
  have hd : decode cd.2.1 pc = .ok (.iadd, 1) := by rw [hd]; congr 2; omega
  split at h
  · exact lv_iadd hx hb hd (p_go_sem h la H locs hl S)
  · exact h.elim
end
section
variable {mt : List pCd} {cd : pCd} {d : Nat} {Q : pQ} {nx a b k pc : Nat} {ls : List (Option Value)} {st : List Value} {M : Mem} {Qc : Array Value → State → Outcome → State → Prop}
theorem sd_isub (C : Bx p s m args meth c cd.1.cls cd.2.1 cd.2.2.1 cd.2.2.2.1 D cT ad lay A) (hR : d + 1 ≤ R.frames ∧ 64 * (d + 1) ≤ R.locals) (hcs : kc ≤ R.cells ∧ ks ≤ R.slots) (ih : p_ih l mt lay D cT ad d) (hq : ∀ (r : Option Value) (M : Mem) (t : State), Q r M → HM D cT ad lay M t.heap → va_F A s t → Qc args s (.returned (r.map (cv ad))) t) (ok : p_eb cd.2.1 cd.2.2.1 (pc, nx, .isub, a, b, k) = true ∧ p_ew mt cd.1.cls (pc, nx, .isub, a, b, k)) (h : p_sem (ex mt lay d) Q (WX p l e R s m args below meth c kc ks D cT ad lay A cd.2.2.1 (MQ below Qc args s kc ks A)) (p_step cd lay nx (.isub) a b k pc ls st M)) : WX p l e R s m args below meth c kc ks D cT ad lay A cd.2.2.1 (MQ below Qc args s kc ks A) (pc, ls, st, M) := by
  obtain ⟨ok, ow⟩ := ok
  simp only [p_eb, p_il, Bool.and_eq_true, Bool.or_eq_true, decide_eq_true_eq, beq_iff_eq] at ok
  obtain ⟨⟨⟨hd, hle⟩, hln⟩, hz⟩ := ok
  intro la H locs hl S
  have C' := C
  obtain ⟨⟨⟨hx, hb, hml, hown, hts⟩, hK, hJ⟩, hr, hlk⟩ := C
  simp only [p_step] at h
  have hnx : nx = pc + 1 := by rcases hln with hln | hln <;> omega
  subst hnx
  have hd : decode cd.2.1 pc = .ok (.isub, 1) := by rw [hd]; congr 2; omega
  split at h
  · exact lv_isub hx hb hd (p_go_sem h la H locs hl S)
  · exact h.elim
end
section
variable {mt : List pCd} {cd : pCd} {d : Nat} {Q : pQ} {nx a b k pc : Nat} {ls : List (Option Value)} {st : List Value} {M : Mem} {Qc : Array Value → State → Outcome → State → Prop}
theorem sd_imul (C : Bx p s m args meth c cd.1.cls cd.2.1 cd.2.2.1 cd.2.2.2.1 D cT ad lay A) (hR : d + 1 ≤ R.frames ∧ 64 * (d + 1) ≤ R.locals) (hcs : kc ≤ R.cells ∧ ks ≤ R.slots) (ih : p_ih l mt lay D cT ad d) (hq : ∀ (r : Option Value) (M : Mem) (t : State), Q r M → HM D cT ad lay M t.heap → va_F A s t → Qc args s (.returned (r.map (cv ad))) t) (ok : p_eb cd.2.1 cd.2.2.1 (pc, nx, .imul, a, b, k) = true ∧ p_ew mt cd.1.cls (pc, nx, .imul, a, b, k)) (h : p_sem (ex mt lay d) Q (WX p l e R s m args below meth c kc ks D cT ad lay A cd.2.2.1 (MQ below Qc args s kc ks A)) (p_step cd lay nx (.imul) a b k pc ls st M)) : WX p l e R s m args below meth c kc ks D cT ad lay A cd.2.2.1 (MQ below Qc args s kc ks A) (pc, ls, st, M) := by
  obtain ⟨ok, ow⟩ := ok
  simp only [p_eb, p_il, Bool.and_eq_true, Bool.or_eq_true, decide_eq_true_eq, beq_iff_eq] at ok
  obtain ⟨⟨⟨hd, hle⟩, hln⟩, hz⟩ := ok
  intro la H locs hl S
  have C' := C
  obtain ⟨⟨⟨hx, hb, hml, hown, hts⟩, hK, hJ⟩, hr, hlk⟩ := C
  simp only [p_step] at h
  have hnx : nx = pc + 1 := by rcases hln with hln | hln <;> omega
  subst hnx
  have hd : decode cd.2.1 pc = .ok (.imul, 1) := by rw [hd]; congr 2; omega
  split at h
  · exact lv_imul hx hb hd (p_go_sem h la H locs hl S)
  · exact h.elim
end
section
variable {mt : List pCd} {cd : pCd} {d : Nat} {Q : pQ} {nx a b k pc : Nat} {ls : List (Option Value)} {st : List Value} {M : Mem} {Qc : Array Value → State → Outcome → State → Prop}
theorem sd_iand (C : Bx p s m args meth c cd.1.cls cd.2.1 cd.2.2.1 cd.2.2.2.1 D cT ad lay A) (hR : d + 1 ≤ R.frames ∧ 64 * (d + 1) ≤ R.locals) (hcs : kc ≤ R.cells ∧ ks ≤ R.slots) (ih : p_ih l mt lay D cT ad d) (hq : ∀ (r : Option Value) (M : Mem) (t : State), Q r M → HM D cT ad lay M t.heap → va_F A s t → Qc args s (.returned (r.map (cv ad))) t) (ok : p_eb cd.2.1 cd.2.2.1 (pc, nx, .iand, a, b, k) = true ∧ p_ew mt cd.1.cls (pc, nx, .iand, a, b, k)) (h : p_sem (ex mt lay d) Q (WX p l e R s m args below meth c kc ks D cT ad lay A cd.2.2.1 (MQ below Qc args s kc ks A)) (p_step cd lay nx (.iand) a b k pc ls st M)) : WX p l e R s m args below meth c kc ks D cT ad lay A cd.2.2.1 (MQ below Qc args s kc ks A) (pc, ls, st, M) := by
  obtain ⟨ok, ow⟩ := ok
  simp only [p_eb, p_il, Bool.and_eq_true, Bool.or_eq_true, decide_eq_true_eq, beq_iff_eq] at ok
  obtain ⟨⟨⟨hd, hle⟩, hln⟩, hz⟩ := ok
  intro la H locs hl S
  have C' := C
  obtain ⟨⟨⟨hx, hb, hml, hown, hts⟩, hK, hJ⟩, hr, hlk⟩ := C
  simp only [p_step] at h
  have hnx : nx = pc + 1 := by rcases hln with hln | hln <;> omega
  subst hnx
  have hd : decode cd.2.1 pc = .ok (.iand, 1) := by rw [hd]; congr 2; omega
  split at h
  · exact lv_iand hx hb hd (p_go_sem h la H locs hl S)
  · exact h.elim
end
section
variable {mt : List pCd} {cd : pCd} {d : Nat} {Q : pQ} {nx a b k pc : Nat} {ls : List (Option Value)} {st : List Value} {M : Mem} {Qc : Array Value → State → Outcome → State → Prop}
theorem sd_ior (C : Bx p s m args meth c cd.1.cls cd.2.1 cd.2.2.1 cd.2.2.2.1 D cT ad lay A) (hR : d + 1 ≤ R.frames ∧ 64 * (d + 1) ≤ R.locals) (hcs : kc ≤ R.cells ∧ ks ≤ R.slots) (ih : p_ih l mt lay D cT ad d) (hq : ∀ (r : Option Value) (M : Mem) (t : State), Q r M → HM D cT ad lay M t.heap → va_F A s t → Qc args s (.returned (r.map (cv ad))) t) (ok : p_eb cd.2.1 cd.2.2.1 (pc, nx, .ior, a, b, k) = true ∧ p_ew mt cd.1.cls (pc, nx, .ior, a, b, k)) (h : p_sem (ex mt lay d) Q (WX p l e R s m args below meth c kc ks D cT ad lay A cd.2.2.1 (MQ below Qc args s kc ks A)) (p_step cd lay nx (.ior) a b k pc ls st M)) : WX p l e R s m args below meth c kc ks D cT ad lay A cd.2.2.1 (MQ below Qc args s kc ks A) (pc, ls, st, M) := by
  obtain ⟨ok, ow⟩ := ok
  simp only [p_eb, p_il, Bool.and_eq_true, Bool.or_eq_true, decide_eq_true_eq, beq_iff_eq] at ok
  obtain ⟨⟨⟨hd, hle⟩, hln⟩, hz⟩ := ok
  intro la H locs hl S
  have C' := C
  obtain ⟨⟨⟨hx, hb, hml, hown, hts⟩, hK, hJ⟩, hr, hlk⟩ := C
  simp only [p_step] at h
  have hnx : nx = pc + 1 := by rcases hln with hln | hln <;> omega
  subst hnx
  have hd : decode cd.2.1 pc = .ok (.ior, 1) := by rw [hd]; congr 2; omega
  split at h
  · exact lv_ior hx hb hd (p_go_sem h la H locs hl S)
  · exact h.elim
end
section
variable {mt : List pCd} {cd : pCd} {d : Nat} {Q : pQ} {nx a b k pc : Nat} {ls : List (Option Value)} {st : List Value} {M : Mem} {Qc : Array Value → State → Outcome → State → Prop}
theorem sd_ixor (C : Bx p s m args meth c cd.1.cls cd.2.1 cd.2.2.1 cd.2.2.2.1 D cT ad lay A) (hR : d + 1 ≤ R.frames ∧ 64 * (d + 1) ≤ R.locals) (hcs : kc ≤ R.cells ∧ ks ≤ R.slots) (ih : p_ih l mt lay D cT ad d) (hq : ∀ (r : Option Value) (M : Mem) (t : State), Q r M → HM D cT ad lay M t.heap → va_F A s t → Qc args s (.returned (r.map (cv ad))) t) (ok : p_eb cd.2.1 cd.2.2.1 (pc, nx, .ixor, a, b, k) = true ∧ p_ew mt cd.1.cls (pc, nx, .ixor, a, b, k)) (h : p_sem (ex mt lay d) Q (WX p l e R s m args below meth c kc ks D cT ad lay A cd.2.2.1 (MQ below Qc args s kc ks A)) (p_step cd lay nx (.ixor) a b k pc ls st M)) : WX p l e R s m args below meth c kc ks D cT ad lay A cd.2.2.1 (MQ below Qc args s kc ks A) (pc, ls, st, M) := by
  obtain ⟨ok, ow⟩ := ok
  simp only [p_eb, p_il, Bool.and_eq_true, Bool.or_eq_true, decide_eq_true_eq, beq_iff_eq] at ok
  obtain ⟨⟨⟨hd, hle⟩, hln⟩, hz⟩ := ok
  intro la H locs hl S
  have C' := C
  obtain ⟨⟨⟨hx, hb, hml, hown, hts⟩, hK, hJ⟩, hr, hlk⟩ := C
  simp only [p_step] at h
  have hnx : nx = pc + 1 := by rcases hln with hln | hln <;> omega
  subst hnx
  have hd : decode cd.2.1 pc = .ok (.ixor, 1) := by rw [hd]; congr 2; omega
  split at h
  · exact lv_ixor hx hb hd (p_go_sem h la H locs hl S)
  · exact h.elim
end
section
variable {mt : List pCd} {cd : pCd} {d : Nat} {Q : pQ} {nx a b k pc : Nat} {ls : List (Option Value)} {st : List Value} {M : Mem} {Qc : Array Value → State → Outcome → State → Prop}
theorem sd_ishl (C : Bx p s m args meth c cd.1.cls cd.2.1 cd.2.2.1 cd.2.2.2.1 D cT ad lay A) (hR : d + 1 ≤ R.frames ∧ 64 * (d + 1) ≤ R.locals) (hcs : kc ≤ R.cells ∧ ks ≤ R.slots) (ih : p_ih l mt lay D cT ad d) (hq : ∀ (r : Option Value) (M : Mem) (t : State), Q r M → HM D cT ad lay M t.heap → va_F A s t → Qc args s (.returned (r.map (cv ad))) t) (ok : p_eb cd.2.1 cd.2.2.1 (pc, nx, .ishl, a, b, k) = true ∧ p_ew mt cd.1.cls (pc, nx, .ishl, a, b, k)) (h : p_sem (ex mt lay d) Q (WX p l e R s m args below meth c kc ks D cT ad lay A cd.2.2.1 (MQ below Qc args s kc ks A)) (p_step cd lay nx (.ishl) a b k pc ls st M)) : WX p l e R s m args below meth c kc ks D cT ad lay A cd.2.2.1 (MQ below Qc args s kc ks A) (pc, ls, st, M) := by
  obtain ⟨ok, ow⟩ := ok
  simp only [p_eb, p_il, Bool.and_eq_true, Bool.or_eq_true, decide_eq_true_eq, beq_iff_eq] at ok
  obtain ⟨⟨⟨hd, hle⟩, hln⟩, hz⟩ := ok
  intro la H locs hl S
  have C' := C
  obtain ⟨⟨⟨hx, hb, hml, hown, hts⟩, hK, hJ⟩, hr, hlk⟩ := C
  simp only [p_step] at h
  have hnx : nx = pc + 1 := by rcases hln with hln | hln <;> omega
  subst hnx
  have hd : decode cd.2.1 pc = .ok (.ishl, 1) := by rw [hd]; congr 2; omega
  split at h
  · exact lv_ishl hx hb hd (p_go_sem h la H locs hl S)
  · exact h.elim
end
section
variable {mt : List pCd} {cd : pCd} {d : Nat} {Q : pQ} {nx a b k pc : Nat} {ls : List (Option Value)} {st : List Value} {M : Mem} {Qc : Array Value → State → Outcome → State → Prop}
theorem sd_ishr (C : Bx p s m args meth c cd.1.cls cd.2.1 cd.2.2.1 cd.2.2.2.1 D cT ad lay A) (hR : d + 1 ≤ R.frames ∧ 64 * (d + 1) ≤ R.locals) (hcs : kc ≤ R.cells ∧ ks ≤ R.slots) (ih : p_ih l mt lay D cT ad d) (hq : ∀ (r : Option Value) (M : Mem) (t : State), Q r M → HM D cT ad lay M t.heap → va_F A s t → Qc args s (.returned (r.map (cv ad))) t) (ok : p_eb cd.2.1 cd.2.2.1 (pc, nx, .ishr, a, b, k) = true ∧ p_ew mt cd.1.cls (pc, nx, .ishr, a, b, k)) (h : p_sem (ex mt lay d) Q (WX p l e R s m args below meth c kc ks D cT ad lay A cd.2.2.1 (MQ below Qc args s kc ks A)) (p_step cd lay nx (.ishr) a b k pc ls st M)) : WX p l e R s m args below meth c kc ks D cT ad lay A cd.2.2.1 (MQ below Qc args s kc ks A) (pc, ls, st, M) := by
  obtain ⟨ok, ow⟩ := ok
  simp only [p_eb, p_il, Bool.and_eq_true, Bool.or_eq_true, decide_eq_true_eq, beq_iff_eq] at ok
  obtain ⟨⟨⟨hd, hle⟩, hln⟩, hz⟩ := ok
  intro la H locs hl S
  have C' := C
  obtain ⟨⟨⟨hx, hb, hml, hown, hts⟩, hK, hJ⟩, hr, hlk⟩ := C
  simp only [p_step] at h
  have hnx : nx = pc + 1 := by rcases hln with hln | hln <;> omega
  subst hnx
  have hd : decode cd.2.1 pc = .ok (.ishr, 1) := by rw [hd]; congr 2; omega
  split at h
  · exact lv_ishr hx hb hd (p_go_sem h la H locs hl S)
  · exact h.elim
end
section
variable {mt : List pCd} {cd : pCd} {d : Nat} {Q : pQ} {nx a b k pc : Nat} {ls : List (Option Value)} {st : List Value} {M : Mem} {Qc : Array Value → State → Outcome → State → Prop}
theorem sd_ladd (C : Bx p s m args meth c cd.1.cls cd.2.1 cd.2.2.1 cd.2.2.2.1 D cT ad lay A) (hR : d + 1 ≤ R.frames ∧ 64 * (d + 1) ≤ R.locals) (hcs : kc ≤ R.cells ∧ ks ≤ R.slots) (ih : p_ih l mt lay D cT ad d) (hq : ∀ (r : Option Value) (M : Mem) (t : State), Q r M → HM D cT ad lay M t.heap → va_F A s t → Qc args s (.returned (r.map (cv ad))) t) (ok : p_eb cd.2.1 cd.2.2.1 (pc, nx, .ladd, a, b, k) = true ∧ p_ew mt cd.1.cls (pc, nx, .ladd, a, b, k)) (h : p_sem (ex mt lay d) Q (WX p l e R s m args below meth c kc ks D cT ad lay A cd.2.2.1 (MQ below Qc args s kc ks A)) (p_step cd lay nx (.ladd) a b k pc ls st M)) : WX p l e R s m args below meth c kc ks D cT ad lay A cd.2.2.1 (MQ below Qc args s kc ks A) (pc, ls, st, M) := by
  obtain ⟨ok, ow⟩ := ok
  simp only [p_eb, p_il, Bool.and_eq_true, Bool.or_eq_true, decide_eq_true_eq, beq_iff_eq] at ok
  obtain ⟨⟨⟨hd, hle⟩, hln⟩, hz⟩ := ok
  intro la H locs hl S
  have C' := C
  obtain ⟨⟨⟨hx, hb, hml, hown, hts⟩, hK, hJ⟩, hr, hlk⟩ := C
  simp only [p_step] at h
  have hnx : nx = pc + 1 := by rcases hln with hln | hln <;> omega
  subst hnx
  have hd : decode cd.2.1 pc = .ok (.ladd, 1) := by rw [hd]; congr 2; omega
  split at h
  · exact lv_ladd hx hb hd (p_go_sem h la H locs hl S)
  · exact h.elim
end
section
variable {mt : List pCd} {cd : pCd} {d : Nat} {Q : pQ} {nx a b k pc : Nat} {ls : List (Option Value)} {st : List Value} {M : Mem} {Qc : Array Value → State → Outcome → State → Prop}
theorem sd_lsub (C : Bx p s m args meth c cd.1.cls cd.2.1 cd.2.2.1 cd.2.2.2.1 D cT ad lay A) (hR : d + 1 ≤ R.frames ∧ 64 * (d + 1) ≤ R.locals) (hcs : kc ≤ R.cells ∧ ks ≤ R.slots) (ih : p_ih l mt lay D cT ad d) (hq : ∀ (r : Option Value) (M : Mem) (t : State), Q r M → HM D cT ad lay M t.heap → va_F A s t → Qc args s (.returned (r.map (cv ad))) t) (ok : p_eb cd.2.1 cd.2.2.1 (pc, nx, .lsub, a, b, k) = true ∧ p_ew mt cd.1.cls (pc, nx, .lsub, a, b, k)) (h : p_sem (ex mt lay d) Q (WX p l e R s m args below meth c kc ks D cT ad lay A cd.2.2.1 (MQ below Qc args s kc ks A)) (p_step cd lay nx (.lsub) a b k pc ls st M)) : WX p l e R s m args below meth c kc ks D cT ad lay A cd.2.2.1 (MQ below Qc args s kc ks A) (pc, ls, st, M) := by
  obtain ⟨ok, ow⟩ := ok
  simp only [p_eb, p_il, Bool.and_eq_true, Bool.or_eq_true, decide_eq_true_eq, beq_iff_eq] at ok
  obtain ⟨⟨⟨hd, hle⟩, hln⟩, hz⟩ := ok
  intro la H locs hl S
  have C' := C
  obtain ⟨⟨⟨hx, hb, hml, hown, hts⟩, hK, hJ⟩, hr, hlk⟩ := C
  simp only [p_step] at h
  have hnx : nx = pc + 1 := by rcases hln with hln | hln <;> omega
  subst hnx
  have hd : decode cd.2.1 pc = .ok (.lsub, 1) := by rw [hd]; congr 2; omega
  split at h
  · exact lv_lsub hx hb hd (p_go_sem h la H locs hl S)
  · exact h.elim
end
section
variable {mt : List pCd} {cd : pCd} {d : Nat} {Q : pQ} {nx a b k pc : Nat} {ls : List (Option Value)} {st : List Value} {M : Mem} {Qc : Array Value → State → Outcome → State → Prop}
theorem sd_lmul (C : Bx p s m args meth c cd.1.cls cd.2.1 cd.2.2.1 cd.2.2.2.1 D cT ad lay A) (hR : d + 1 ≤ R.frames ∧ 64 * (d + 1) ≤ R.locals) (hcs : kc ≤ R.cells ∧ ks ≤ R.slots) (ih : p_ih l mt lay D cT ad d) (hq : ∀ (r : Option Value) (M : Mem) (t : State), Q r M → HM D cT ad lay M t.heap → va_F A s t → Qc args s (.returned (r.map (cv ad))) t) (ok : p_eb cd.2.1 cd.2.2.1 (pc, nx, .lmul, a, b, k) = true ∧ p_ew mt cd.1.cls (pc, nx, .lmul, a, b, k)) (h : p_sem (ex mt lay d) Q (WX p l e R s m args below meth c kc ks D cT ad lay A cd.2.2.1 (MQ below Qc args s kc ks A)) (p_step cd lay nx (.lmul) a b k pc ls st M)) : WX p l e R s m args below meth c kc ks D cT ad lay A cd.2.2.1 (MQ below Qc args s kc ks A) (pc, ls, st, M) := by
  obtain ⟨ok, ow⟩ := ok
  simp only [p_eb, p_il, Bool.and_eq_true, Bool.or_eq_true, decide_eq_true_eq, beq_iff_eq] at ok
  obtain ⟨⟨⟨hd, hle⟩, hln⟩, hz⟩ := ok
  intro la H locs hl S
  have C' := C
  obtain ⟨⟨⟨hx, hb, hml, hown, hts⟩, hK, hJ⟩, hr, hlk⟩ := C
  simp only [p_step] at h
  have hnx : nx = pc + 1 := by rcases hln with hln | hln <;> omega
  subst hnx
  have hd : decode cd.2.1 pc = .ok (.lmul, 1) := by rw [hd]; congr 2; omega
  split at h
  · exact lv_lmul hx hb hd (p_go_sem h la H locs hl S)
  · exact h.elim
end
section
variable {mt : List pCd} {cd : pCd} {d : Nat} {Q : pQ} {nx a b k pc : Nat} {ls : List (Option Value)} {st : List Value} {M : Mem} {Qc : Array Value → State → Outcome → State → Prop}
theorem sd_land (C : Bx p s m args meth c cd.1.cls cd.2.1 cd.2.2.1 cd.2.2.2.1 D cT ad lay A) (hR : d + 1 ≤ R.frames ∧ 64 * (d + 1) ≤ R.locals) (hcs : kc ≤ R.cells ∧ ks ≤ R.slots) (ih : p_ih l mt lay D cT ad d) (hq : ∀ (r : Option Value) (M : Mem) (t : State), Q r M → HM D cT ad lay M t.heap → va_F A s t → Qc args s (.returned (r.map (cv ad))) t) (ok : p_eb cd.2.1 cd.2.2.1 (pc, nx, .land, a, b, k) = true ∧ p_ew mt cd.1.cls (pc, nx, .land, a, b, k)) (h : p_sem (ex mt lay d) Q (WX p l e R s m args below meth c kc ks D cT ad lay A cd.2.2.1 (MQ below Qc args s kc ks A)) (p_step cd lay nx (.land) a b k pc ls st M)) : WX p l e R s m args below meth c kc ks D cT ad lay A cd.2.2.1 (MQ below Qc args s kc ks A) (pc, ls, st, M) := by
  obtain ⟨ok, ow⟩ := ok
  simp only [p_eb, p_il, Bool.and_eq_true, Bool.or_eq_true, decide_eq_true_eq, beq_iff_eq] at ok
  obtain ⟨⟨⟨hd, hle⟩, hln⟩, hz⟩ := ok
  intro la H locs hl S
  have C' := C
  obtain ⟨⟨⟨hx, hb, hml, hown, hts⟩, hK, hJ⟩, hr, hlk⟩ := C
  simp only [p_step] at h
  have hnx : nx = pc + 1 := by rcases hln with hln | hln <;> omega
  subst hnx
  have hd : decode cd.2.1 pc = .ok (.land, 1) := by rw [hd]; congr 2; omega
  split at h
  · exact lv_land hx hb hd (p_go_sem h la H locs hl S)
  · exact h.elim
end
section
variable {mt : List pCd} {cd : pCd} {d : Nat} {Q : pQ} {nx a b k pc : Nat} {ls : List (Option Value)} {st : List Value} {M : Mem} {Qc : Array Value → State → Outcome → State → Prop}
theorem sd_lor (C : Bx p s m args meth c cd.1.cls cd.2.1 cd.2.2.1 cd.2.2.2.1 D cT ad lay A) (hR : d + 1 ≤ R.frames ∧ 64 * (d + 1) ≤ R.locals) (hcs : kc ≤ R.cells ∧ ks ≤ R.slots) (ih : p_ih l mt lay D cT ad d) (hq : ∀ (r : Option Value) (M : Mem) (t : State), Q r M → HM D cT ad lay M t.heap → va_F A s t → Qc args s (.returned (r.map (cv ad))) t) (ok : p_eb cd.2.1 cd.2.2.1 (pc, nx, .lor, a, b, k) = true ∧ p_ew mt cd.1.cls (pc, nx, .lor, a, b, k)) (h : p_sem (ex mt lay d) Q (WX p l e R s m args below meth c kc ks D cT ad lay A cd.2.2.1 (MQ below Qc args s kc ks A)) (p_step cd lay nx (.lor) a b k pc ls st M)) : WX p l e R s m args below meth c kc ks D cT ad lay A cd.2.2.1 (MQ below Qc args s kc ks A) (pc, ls, st, M) := by
  obtain ⟨ok, ow⟩ := ok
  simp only [p_eb, p_il, Bool.and_eq_true, Bool.or_eq_true, decide_eq_true_eq, beq_iff_eq] at ok
  obtain ⟨⟨⟨hd, hle⟩, hln⟩, hz⟩ := ok
  intro la H locs hl S
  have C' := C
  obtain ⟨⟨⟨hx, hb, hml, hown, hts⟩, hK, hJ⟩, hr, hlk⟩ := C
  simp only [p_step] at h
  have hnx : nx = pc + 1 := by rcases hln with hln | hln <;> omega
  subst hnx
  have hd : decode cd.2.1 pc = .ok (.lor, 1) := by rw [hd]; congr 2; omega
  split at h
  · exact lv_lor hx hb hd (p_go_sem h la H locs hl S)
  · exact h.elim
end
section
variable {mt : List pCd} {cd : pCd} {d : Nat} {Q : pQ} {nx a b k pc : Nat} {ls : List (Option Value)} {st : List Value} {M : Mem} {Qc : Array Value → State → Outcome → State → Prop}
theorem sd_idiv (C : Bx p s m args meth c cd.1.cls cd.2.1 cd.2.2.1 cd.2.2.2.1 D cT ad lay A) (hR : d + 1 ≤ R.frames ∧ 64 * (d + 1) ≤ R.locals) (hcs : kc ≤ R.cells ∧ ks ≤ R.slots) (ih : p_ih l mt lay D cT ad d) (hq : ∀ (r : Option Value) (M : Mem) (t : State), Q r M → HM D cT ad lay M t.heap → va_F A s t → Qc args s (.returned (r.map (cv ad))) t) (ok : p_eb cd.2.1 cd.2.2.1 (pc, nx, .idiv, a, b, k) = true ∧ p_ew mt cd.1.cls (pc, nx, .idiv, a, b, k)) (h : p_sem (ex mt lay d) Q (WX p l e R s m args below meth c kc ks D cT ad lay A cd.2.2.1 (MQ below Qc args s kc ks A)) (p_step cd lay nx (.idiv) a b k pc ls st M)) : WX p l e R s m args below meth c kc ks D cT ad lay A cd.2.2.1 (MQ below Qc args s kc ks A) (pc, ls, st, M) := by
  obtain ⟨ok, ow⟩ := ok
  simp only [p_eb, p_il, Bool.and_eq_true, Bool.or_eq_true, decide_eq_true_eq, beq_iff_eq] at ok
  obtain ⟨⟨⟨hd, hle⟩, hln⟩, hz⟩ := ok
  intro la H locs hl S
  have C' := C
  obtain ⟨⟨⟨hx, hb, hml, hown, hts⟩, hK, hJ⟩, hr, hlk⟩ := C
  simp only [p_step] at h
  have hnx : nx = pc + 1 := by rcases hln with hln | hln <;> omega
  subst hnx
  have hd : decode cd.2.1 pc = .ok (.idiv, 1) := by rw [hd]; congr 2; omega
  split at h
  · exact lv_idiv hx hb hd (p_on_sem h).1 ((p_on_sem h).2 la H locs hl S)
  · exact h.elim
end
section
variable {mt : List pCd} {cd : pCd} {d : Nat} {Q : pQ} {nx a b k pc : Nat} {ls : List (Option Value)} {st : List Value} {M : Mem} {Qc : Array Value → State → Outcome → State → Prop}
theorem sd_irem (C : Bx p s m args meth c cd.1.cls cd.2.1 cd.2.2.1 cd.2.2.2.1 D cT ad lay A) (hR : d + 1 ≤ R.frames ∧ 64 * (d + 1) ≤ R.locals) (hcs : kc ≤ R.cells ∧ ks ≤ R.slots) (ih : p_ih l mt lay D cT ad d) (hq : ∀ (r : Option Value) (M : Mem) (t : State), Q r M → HM D cT ad lay M t.heap → va_F A s t → Qc args s (.returned (r.map (cv ad))) t) (ok : p_eb cd.2.1 cd.2.2.1 (pc, nx, .irem, a, b, k) = true ∧ p_ew mt cd.1.cls (pc, nx, .irem, a, b, k)) (h : p_sem (ex mt lay d) Q (WX p l e R s m args below meth c kc ks D cT ad lay A cd.2.2.1 (MQ below Qc args s kc ks A)) (p_step cd lay nx (.irem) a b k pc ls st M)) : WX p l e R s m args below meth c kc ks D cT ad lay A cd.2.2.1 (MQ below Qc args s kc ks A) (pc, ls, st, M) := by
  obtain ⟨ok, ow⟩ := ok
  simp only [p_eb, p_il, Bool.and_eq_true, Bool.or_eq_true, decide_eq_true_eq, beq_iff_eq] at ok
  obtain ⟨⟨⟨hd, hle⟩, hln⟩, hz⟩ := ok
  intro la H locs hl S
  have C' := C
  obtain ⟨⟨⟨hx, hb, hml, hown, hts⟩, hK, hJ⟩, hr, hlk⟩ := C
  simp only [p_step] at h
  have hnx : nx = pc + 1 := by rcases hln with hln | hln <;> omega
  subst hnx
  have hd : decode cd.2.1 pc = .ok (.irem, 1) := by rw [hd]; congr 2; omega
  split at h
  · exact lv_irem hx hb hd (p_on_sem h).1 ((p_on_sem h).2 la H locs hl S)
  · exact h.elim
end
section
variable {mt : List pCd} {cd : pCd} {d : Nat} {Q : pQ} {nx a b k pc : Nat} {ls : List (Option Value)} {st : List Value} {M : Mem} {Qc : Array Value → State → Outcome → State → Prop}
theorem sd_ldiv (C : Bx p s m args meth c cd.1.cls cd.2.1 cd.2.2.1 cd.2.2.2.1 D cT ad lay A) (hR : d + 1 ≤ R.frames ∧ 64 * (d + 1) ≤ R.locals) (hcs : kc ≤ R.cells ∧ ks ≤ R.slots) (ih : p_ih l mt lay D cT ad d) (hq : ∀ (r : Option Value) (M : Mem) (t : State), Q r M → HM D cT ad lay M t.heap → va_F A s t → Qc args s (.returned (r.map (cv ad))) t) (ok : p_eb cd.2.1 cd.2.2.1 (pc, nx, .ldiv, a, b, k) = true ∧ p_ew mt cd.1.cls (pc, nx, .ldiv, a, b, k)) (h : p_sem (ex mt lay d) Q (WX p l e R s m args below meth c kc ks D cT ad lay A cd.2.2.1 (MQ below Qc args s kc ks A)) (p_step cd lay nx (.ldiv) a b k pc ls st M)) : WX p l e R s m args below meth c kc ks D cT ad lay A cd.2.2.1 (MQ below Qc args s kc ks A) (pc, ls, st, M) := by
  obtain ⟨ok, ow⟩ := ok
  simp only [p_eb, p_il, Bool.and_eq_true, Bool.or_eq_true, decide_eq_true_eq, beq_iff_eq] at ok
  obtain ⟨⟨⟨hd, hle⟩, hln⟩, hz⟩ := ok
  intro la H locs hl S
  have C' := C
  obtain ⟨⟨⟨hx, hb, hml, hown, hts⟩, hK, hJ⟩, hr, hlk⟩ := C
  simp only [p_step] at h
  have hnx : nx = pc + 1 := by rcases hln with hln | hln <;> omega
  subst hnx
  have hd : decode cd.2.1 pc = .ok (.ldiv, 1) := by rw [hd]; congr 2; omega
  split at h
  · exact lv_ldiv hx hb hd (p_on_sem h).1 ((p_on_sem h).2 la H locs hl S)
  · exact h.elim
end
section
variable {mt : List pCd} {cd : pCd} {d : Nat} {Q : pQ} {nx a b k pc : Nat} {ls : List (Option Value)} {st : List Value} {M : Mem} {Qc : Array Value → State → Outcome → State → Prop}
theorem sd_lrem (C : Bx p s m args meth c cd.1.cls cd.2.1 cd.2.2.1 cd.2.2.2.1 D cT ad lay A) (hR : d + 1 ≤ R.frames ∧ 64 * (d + 1) ≤ R.locals) (hcs : kc ≤ R.cells ∧ ks ≤ R.slots) (ih : p_ih l mt lay D cT ad d) (hq : ∀ (r : Option Value) (M : Mem) (t : State), Q r M → HM D cT ad lay M t.heap → va_F A s t → Qc args s (.returned (r.map (cv ad))) t) (ok : p_eb cd.2.1 cd.2.2.1 (pc, nx, .lrem, a, b, k) = true ∧ p_ew mt cd.1.cls (pc, nx, .lrem, a, b, k)) (h : p_sem (ex mt lay d) Q (WX p l e R s m args below meth c kc ks D cT ad lay A cd.2.2.1 (MQ below Qc args s kc ks A)) (p_step cd lay nx (.lrem) a b k pc ls st M)) : WX p l e R s m args below meth c kc ks D cT ad lay A cd.2.2.1 (MQ below Qc args s kc ks A) (pc, ls, st, M) := by
  obtain ⟨ok, ow⟩ := ok
  simp only [p_eb, p_il, Bool.and_eq_true, Bool.or_eq_true, decide_eq_true_eq, beq_iff_eq] at ok
  obtain ⟨⟨⟨hd, hle⟩, hln⟩, hz⟩ := ok
  intro la H locs hl S
  have C' := C
  obtain ⟨⟨⟨hx, hb, hml, hown, hts⟩, hK, hJ⟩, hr, hlk⟩ := C
  simp only [p_step] at h
  have hnx : nx = pc + 1 := by rcases hln with hln | hln <;> omega
  subst hnx
  have hd : decode cd.2.1 pc = .ok (.lrem, 1) := by rw [hd]; congr 2; omega
  split at h
  · exact lv_lrem hx hb hd (p_on_sem h).1 ((p_on_sem h).2 la H locs hl S)
  · exact h.elim
end
section
variable {mt : List pCd} {cd : pCd} {d : Nat} {Q : pQ} {nx a b k pc : Nat} {ls : List (Option Value)} {st : List Value} {M : Mem} {Qc : Array Value → State → Outcome → State → Prop}
theorem sd_iushr (C : Bx p s m args meth c cd.1.cls cd.2.1 cd.2.2.1 cd.2.2.2.1 D cT ad lay A) (hR : d + 1 ≤ R.frames ∧ 64 * (d + 1) ≤ R.locals) (hcs : kc ≤ R.cells ∧ ks ≤ R.slots) (ih : p_ih l mt lay D cT ad d) (hq : ∀ (r : Option Value) (M : Mem) (t : State), Q r M → HM D cT ad lay M t.heap → va_F A s t → Qc args s (.returned (r.map (cv ad))) t) (ok : p_eb cd.2.1 cd.2.2.1 (pc, nx, .iushr, a, b, k) = true ∧ p_ew mt cd.1.cls (pc, nx, .iushr, a, b, k)) (h : p_sem (ex mt lay d) Q (WX p l e R s m args below meth c kc ks D cT ad lay A cd.2.2.1 (MQ below Qc args s kc ks A)) (p_step cd lay nx (.iushr) a b k pc ls st M)) : WX p l e R s m args below meth c kc ks D cT ad lay A cd.2.2.1 (MQ below Qc args s kc ks A) (pc, ls, st, M) := by
  obtain ⟨ok, ow⟩ := ok
  simp only [p_eb, p_il, Bool.and_eq_true, Bool.or_eq_true, decide_eq_true_eq, beq_iff_eq] at ok
  obtain ⟨⟨⟨hd, hle⟩, hln⟩, hz⟩ := ok
  intro la H locs hl S
  have C' := C
  obtain ⟨⟨⟨hx, hb, hml, hown, hts⟩, hK, hJ⟩, hr, hlk⟩ := C
  simp only [p_step] at h
  have hnx : nx = pc + 1 := by rcases hln with hln | hln <;> omega
  subst hnx
  have hd : decode cd.2.1 pc = .ok (.iushr, 1) := by rw [hd]; congr 2; omega
  split at h
  · exact lv_iushr hx hb hd rfl (p_go_sem h la H locs hl S)
  · exact h.elim
end
section
variable {mt : List pCd} {cd : pCd} {d : Nat} {Q : pQ} {nx a b k pc : Nat} {ls : List (Option Value)} {st : List Value} {M : Mem} {Qc : Array Value → State → Outcome → State → Prop}
theorem sd_lshl (C : Bx p s m args meth c cd.1.cls cd.2.1 cd.2.2.1 cd.2.2.2.1 D cT ad lay A) (hR : d + 1 ≤ R.frames ∧ 64 * (d + 1) ≤ R.locals) (hcs : kc ≤ R.cells ∧ ks ≤ R.slots) (ih : p_ih l mt lay D cT ad d) (hq : ∀ (r : Option Value) (M : Mem) (t : State), Q r M → HM D cT ad lay M t.heap → va_F A s t → Qc args s (.returned (r.map (cv ad))) t) (ok : p_eb cd.2.1 cd.2.2.1 (pc, nx, .lshl, a, b, k) = true ∧ p_ew mt cd.1.cls (pc, nx, .lshl, a, b, k)) (h : p_sem (ex mt lay d) Q (WX p l e R s m args below meth c kc ks D cT ad lay A cd.2.2.1 (MQ below Qc args s kc ks A)) (p_step cd lay nx (.lshl) a b k pc ls st M)) : WX p l e R s m args below meth c kc ks D cT ad lay A cd.2.2.1 (MQ below Qc args s kc ks A) (pc, ls, st, M) := by
  obtain ⟨ok, ow⟩ := ok
  simp only [p_eb, p_il, Bool.and_eq_true, Bool.or_eq_true, decide_eq_true_eq, beq_iff_eq] at ok
  obtain ⟨⟨⟨hd, hle⟩, hln⟩, hz⟩ := ok
  intro la H locs hl S
  have C' := C
  obtain ⟨⟨⟨hx, hb, hml, hown, hts⟩, hK, hJ⟩, hr, hlk⟩ := C
  simp only [p_step] at h
  have hnx : nx = pc + 1 := by rcases hln with hln | hln <;> omega
  subst hnx
  have hd : decode cd.2.1 pc = .ok (.lshl, 1) := by rw [hd]; congr 2; omega
  split at h
  · exact lv_lshl hx hb hd rfl (p_go_sem h la H locs hl S)
  · exact h.elim
end
section
variable {mt : List pCd} {cd : pCd} {d : Nat} {Q : pQ} {nx a b k pc : Nat} {ls : List (Option Value)} {st : List Value} {M : Mem} {Qc : Array Value → State → Outcome → State → Prop}
theorem sd_lshr (C : Bx p s m args meth c cd.1.cls cd.2.1 cd.2.2.1 cd.2.2.2.1 D cT ad lay A) (hR : d + 1 ≤ R.frames ∧ 64 * (d + 1) ≤ R.locals) (hcs : kc ≤ R.cells ∧ ks ≤ R.slots) (ih : p_ih l mt lay D cT ad d) (hq : ∀ (r : Option Value) (M : Mem) (t : State), Q r M → HM D cT ad lay M t.heap → va_F A s t → Qc args s (.returned (r.map (cv ad))) t) (ok : p_eb cd.2.1 cd.2.2.1 (pc, nx, .lshr, a, b, k) = true ∧ p_ew mt cd.1.cls (pc, nx, .lshr, a, b, k)) (h : p_sem (ex mt lay d) Q (WX p l e R s m args below meth c kc ks D cT ad lay A cd.2.2.1 (MQ below Qc args s kc ks A)) (p_step cd lay nx (.lshr) a b k pc ls st M)) : WX p l e R s m args below meth c kc ks D cT ad lay A cd.2.2.1 (MQ below Qc args s kc ks A) (pc, ls, st, M) := by
  obtain ⟨ok, ow⟩ := ok
  simp only [p_eb, p_il, Bool.and_eq_true, Bool.or_eq_true, decide_eq_true_eq, beq_iff_eq] at ok
  obtain ⟨⟨⟨hd, hle⟩, hln⟩, hz⟩ := ok
  intro la H locs hl S
  have C' := C
  obtain ⟨⟨⟨hx, hb, hml, hown, hts⟩, hK, hJ⟩, hr, hlk⟩ := C
  simp only [p_step] at h
  have hnx : nx = pc + 1 := by rcases hln with hln | hln <;> omega
  subst hnx
  have hd : decode cd.2.1 pc = .ok (.lshr, 1) := by rw [hd]; congr 2; omega
  split at h
  · exact lv_lshr hx hb hd rfl (p_go_sem h la H locs hl S)
  · exact h.elim
end
section
variable {mt : List pCd} {cd : pCd} {d : Nat} {Q : pQ} {nx a b k pc : Nat} {ls : List (Option Value)} {st : List Value} {M : Mem} {Qc : Array Value → State → Outcome → State → Prop}
theorem sd_i2l (C : Bx p s m args meth c cd.1.cls cd.2.1 cd.2.2.1 cd.2.2.2.1 D cT ad lay A) (hR : d + 1 ≤ R.frames ∧ 64 * (d + 1) ≤ R.locals) (hcs : kc ≤ R.cells ∧ ks ≤ R.slots) (ih : p_ih l mt lay D cT ad d) (hq : ∀ (r : Option Value) (M : Mem) (t : State), Q r M → HM D cT ad lay M t.heap → va_F A s t → Qc args s (.returned (r.map (cv ad))) t) (ok : p_eb cd.2.1 cd.2.2.1 (pc, nx, .i2l, a, b, k) = true ∧ p_ew mt cd.1.cls (pc, nx, .i2l, a, b, k)) (h : p_sem (ex mt lay d) Q (WX p l e R s m args below meth c kc ks D cT ad lay A cd.2.2.1 (MQ below Qc args s kc ks A)) (p_step cd lay nx (.i2l) a b k pc ls st M)) : WX p l e R s m args below meth c kc ks D cT ad lay A cd.2.2.1 (MQ below Qc args s kc ks A) (pc, ls, st, M) := by
  obtain ⟨ok, ow⟩ := ok
  simp only [p_eb, p_il, Bool.and_eq_true, Bool.or_eq_true, decide_eq_true_eq, beq_iff_eq] at ok
  obtain ⟨⟨⟨hd, hle⟩, hln⟩, hz⟩ := ok
  intro la H locs hl S
  have C' := C
  obtain ⟨⟨⟨hx, hb, hml, hown, hts⟩, hK, hJ⟩, hr, hlk⟩ := C
  simp only [p_step] at h
  have hnx : nx = pc + 1 := by rcases hln with hln | hln <;> omega
  subst hnx
  have hd : decode cd.2.1 pc = .ok (.i2l, 1) := by rw [hd]; congr 2; omega
  split at h
  · exact lv_i2l hx hb hd rfl (p_go_sem h la H locs hl S)
  · exact h.elim
end
section
variable {mt : List pCd} {cd : pCd} {d : Nat} {Q : pQ} {nx a b k pc : Nat} {ls : List (Option Value)} {st : List Value} {M : Mem} {Qc : Array Value → State → Outcome → State → Prop}
theorem sd_l2i (C : Bx p s m args meth c cd.1.cls cd.2.1 cd.2.2.1 cd.2.2.2.1 D cT ad lay A) (hR : d + 1 ≤ R.frames ∧ 64 * (d + 1) ≤ R.locals) (hcs : kc ≤ R.cells ∧ ks ≤ R.slots) (ih : p_ih l mt lay D cT ad d) (hq : ∀ (r : Option Value) (M : Mem) (t : State), Q r M → HM D cT ad lay M t.heap → va_F A s t → Qc args s (.returned (r.map (cv ad))) t) (ok : p_eb cd.2.1 cd.2.2.1 (pc, nx, .l2i, a, b, k) = true ∧ p_ew mt cd.1.cls (pc, nx, .l2i, a, b, k)) (h : p_sem (ex mt lay d) Q (WX p l e R s m args below meth c kc ks D cT ad lay A cd.2.2.1 (MQ below Qc args s kc ks A)) (p_step cd lay nx (.l2i) a b k pc ls st M)) : WX p l e R s m args below meth c kc ks D cT ad lay A cd.2.2.1 (MQ below Qc args s kc ks A) (pc, ls, st, M) := by
  obtain ⟨ok, ow⟩ := ok
  simp only [p_eb, p_il, Bool.and_eq_true, Bool.or_eq_true, decide_eq_true_eq, beq_iff_eq] at ok
  obtain ⟨⟨⟨hd, hle⟩, hln⟩, hz⟩ := ok
  intro la H locs hl S
  have C' := C
  obtain ⟨⟨⟨hx, hb, hml, hown, hts⟩, hK, hJ⟩, hr, hlk⟩ := C
  simp only [p_step] at h
  have hnx : nx = pc + 1 := by rcases hln with hln | hln <;> omega
  subst hnx
  have hd : decode cd.2.1 pc = .ok (.l2i, 1) := by rw [hd]; congr 2; omega
  split at h
  · exact lv_l2i hx hb hd rfl (p_go_sem h la H locs hl S)
  · exact h.elim
end
section
variable {mt : List pCd} {cd : pCd} {d : Nat} {Q : pQ} {nx a b k pc : Nat} {ls : List (Option Value)} {st : List Value} {M : Mem} {Qc : Array Value → State → Outcome → State → Prop}
theorem sd_i2b (C : Bx p s m args meth c cd.1.cls cd.2.1 cd.2.2.1 cd.2.2.2.1 D cT ad lay A) (hR : d + 1 ≤ R.frames ∧ 64 * (d + 1) ≤ R.locals) (hcs : kc ≤ R.cells ∧ ks ≤ R.slots) (ih : p_ih l mt lay D cT ad d) (hq : ∀ (r : Option Value) (M : Mem) (t : State), Q r M → HM D cT ad lay M t.heap → va_F A s t → Qc args s (.returned (r.map (cv ad))) t) (ok : p_eb cd.2.1 cd.2.2.1 (pc, nx, .i2b, a, b, k) = true ∧ p_ew mt cd.1.cls (pc, nx, .i2b, a, b, k)) (h : p_sem (ex mt lay d) Q (WX p l e R s m args below meth c kc ks D cT ad lay A cd.2.2.1 (MQ below Qc args s kc ks A)) (p_step cd lay nx (.i2b) a b k pc ls st M)) : WX p l e R s m args below meth c kc ks D cT ad lay A cd.2.2.1 (MQ below Qc args s kc ks A) (pc, ls, st, M) := by
  obtain ⟨ok, ow⟩ := ok
  simp only [p_eb, p_il, Bool.and_eq_true, Bool.or_eq_true, decide_eq_true_eq, beq_iff_eq] at ok
  obtain ⟨⟨⟨hd, hle⟩, hln⟩, hz⟩ := ok
  intro la H locs hl S
  have C' := C
  obtain ⟨⟨⟨hx, hb, hml, hown, hts⟩, hK, hJ⟩, hr, hlk⟩ := C
  simp only [p_step] at h
  have hnx : nx = pc + 1 := by rcases hln with hln | hln <;> omega
  subst hnx
  have hd : decode cd.2.1 pc = .ok (.i2b, 1) := by rw [hd]; congr 2; omega
  split at h
  · exact lv_i2b hx hb hd rfl (p_go_sem h la H locs hl S)
  · exact h.elim
end
section
variable {mt : List pCd} {cd : pCd} {d : Nat} {Q : pQ} {nx a b k pc : Nat} {ls : List (Option Value)} {st : List Value} {M : Mem} {Qc : Array Value → State → Outcome → State → Prop}
theorem sd_lcmp (C : Bx p s m args meth c cd.1.cls cd.2.1 cd.2.2.1 cd.2.2.2.1 D cT ad lay A) (hR : d + 1 ≤ R.frames ∧ 64 * (d + 1) ≤ R.locals) (hcs : kc ≤ R.cells ∧ ks ≤ R.slots) (ih : p_ih l mt lay D cT ad d) (hq : ∀ (r : Option Value) (M : Mem) (t : State), Q r M → HM D cT ad lay M t.heap → va_F A s t → Qc args s (.returned (r.map (cv ad))) t) (ok : p_eb cd.2.1 cd.2.2.1 (pc, nx, .lcmp, a, b, k) = true ∧ p_ew mt cd.1.cls (pc, nx, .lcmp, a, b, k)) (h : p_sem (ex mt lay d) Q (WX p l e R s m args below meth c kc ks D cT ad lay A cd.2.2.1 (MQ below Qc args s kc ks A)) (p_step cd lay nx (.lcmp) a b k pc ls st M)) : WX p l e R s m args below meth c kc ks D cT ad lay A cd.2.2.1 (MQ below Qc args s kc ks A) (pc, ls, st, M) := by
  obtain ⟨ok, ow⟩ := ok
  simp only [p_eb, p_il, Bool.and_eq_true, Bool.or_eq_true, decide_eq_true_eq, beq_iff_eq] at ok
  obtain ⟨⟨⟨hd, hle⟩, hln⟩, hz⟩ := ok
  intro la H locs hl S
  have C' := C
  obtain ⟨⟨⟨hx, hb, hml, hown, hts⟩, hK, hJ⟩, hr, hlk⟩ := C
  simp only [p_step] at h
  have hnx : nx = pc + 1 := by rcases hln with hln | hln <;> omega
  subst hnx
  have hd : decode cd.2.1 pc = .ok (.lcmp, 1) := by rw [hd]; congr 2; omega
  split at h
  · exact W.lcmp hx hb hd (p_go_sem h la H locs hl S)
  · exact h.elim
end
section
variable {mt : List pCd} {cd : pCd} {d : Nat} {Q : pQ} {nx a b k pc : Nat} {ls : List (Option Value)} {st : List Value} {M : Mem} {Qc : Array Value → State → Outcome → State → Prop}
theorem sd_dup (C : Bx p s m args meth c cd.1.cls cd.2.1 cd.2.2.1 cd.2.2.2.1 D cT ad lay A) (hR : d + 1 ≤ R.frames ∧ 64 * (d + 1) ≤ R.locals) (hcs : kc ≤ R.cells ∧ ks ≤ R.slots) (ih : p_ih l mt lay D cT ad d) (hq : ∀ (r : Option Value) (M : Mem) (t : State), Q r M → HM D cT ad lay M t.heap → va_F A s t → Qc args s (.returned (r.map (cv ad))) t) (ok : p_eb cd.2.1 cd.2.2.1 (pc, nx, .dup, a, b, k) = true ∧ p_ew mt cd.1.cls (pc, nx, .dup, a, b, k)) (h : p_sem (ex mt lay d) Q (WX p l e R s m args below meth c kc ks D cT ad lay A cd.2.2.1 (MQ below Qc args s kc ks A)) (p_step cd lay nx (.dup) a b k pc ls st M)) : WX p l e R s m args below meth c kc ks D cT ad lay A cd.2.2.1 (MQ below Qc args s kc ks A) (pc, ls, st, M) := by
  obtain ⟨ok, ow⟩ := ok
  simp only [p_eb, p_il, Bool.and_eq_true, Bool.or_eq_true, decide_eq_true_eq, beq_iff_eq] at ok
  obtain ⟨⟨⟨hd, hle⟩, hln⟩, hz⟩ := ok
  intro la H locs hl S
  have C' := C
  obtain ⟨⟨⟨hx, hb, hml, hown, hts⟩, hK, hJ⟩, hr, hlk⟩ := C
  simp only [p_step] at h
  have hnx : nx = pc + 1 := by rcases hln with hln | hln <;> omega
  subst hnx
  have hd : decode cd.2.1 pc = .ok (.dup, 1) := by rw [hd]; congr 2; omega
  split at h
  · exact lv_dup hx hb hd (by rw [cv_cat]; exact (p_on_sem h).1) ((p_on_sem h).2 la H locs hl S)
  · exact h.elim
end
section
variable {mt : List pCd} {cd : pCd} {d : Nat} {Q : pQ} {nx a b k pc : Nat} {ls : List (Option Value)} {st : List Value} {M : Mem} {Qc : Array Value → State → Outcome → State → Prop}
theorem sd_pop (C : Bx p s m args meth c cd.1.cls cd.2.1 cd.2.2.1 cd.2.2.2.1 D cT ad lay A) (hR : d + 1 ≤ R.frames ∧ 64 * (d + 1) ≤ R.locals) (hcs : kc ≤ R.cells ∧ ks ≤ R.slots) (ih : p_ih l mt lay D cT ad d) (hq : ∀ (r : Option Value) (M : Mem) (t : State), Q r M → HM D cT ad lay M t.heap → va_F A s t → Qc args s (.returned (r.map (cv ad))) t) (ok : p_eb cd.2.1 cd.2.2.1 (pc, nx, .pop, a, b, k) = true ∧ p_ew mt cd.1.cls (pc, nx, .pop, a, b, k)) (h : p_sem (ex mt lay d) Q (WX p l e R s m args below meth c kc ks D cT ad lay A cd.2.2.1 (MQ below Qc args s kc ks A)) (p_step cd lay nx (.pop) a b k pc ls st M)) : WX p l e R s m args below meth c kc ks D cT ad lay A cd.2.2.1 (MQ below Qc args s kc ks A) (pc, ls, st, M) := by
  obtain ⟨ok, ow⟩ := ok
  simp only [p_eb, p_il, Bool.and_eq_true, Bool.or_eq_true, decide_eq_true_eq, beq_iff_eq] at ok
  obtain ⟨⟨⟨hd, hle⟩, hln⟩, hz⟩ := ok
  intro la H locs hl S
  have C' := C
  obtain ⟨⟨⟨hx, hb, hml, hown, hts⟩, hK, hJ⟩, hr, hlk⟩ := C
  simp only [p_step] at h
  have hnx : nx = pc + 1 := by rcases hln with hln | hln <;> omega
  subst hnx
  have hd : decode cd.2.1 pc = .ok (.pop, 1) := by rw [hd]; congr 2; omega
  split at h
  · exact lv_pop hx hb hd (by rw [cv_cat]; exact (p_on_sem h).1) ((p_on_sem h).2 la H locs hl S)
  · exact h.elim
end
section
variable {mt : List pCd} {cd : pCd} {d : Nat} {Q : pQ} {nx a b k pc : Nat} {ls : List (Option Value)} {st : List Value} {M : Mem} {Qc : Array Value → State → Outcome → State → Prop}
theorem sd_dup_x1 (C : Bx p s m args meth c cd.1.cls cd.2.1 cd.2.2.1 cd.2.2.2.1 D cT ad lay A) (hR : d + 1 ≤ R.frames ∧ 64 * (d + 1) ≤ R.locals) (hcs : kc ≤ R.cells ∧ ks ≤ R.slots) (ih : p_ih l mt lay D cT ad d) (hq : ∀ (r : Option Value) (M : Mem) (t : State), Q r M → HM D cT ad lay M t.heap → va_F A s t → Qc args s (.returned (r.map (cv ad))) t) (ok : p_eb cd.2.1 cd.2.2.1 (pc, nx, .dup_x1, a, b, k) = true ∧ p_ew mt cd.1.cls (pc, nx, .dup_x1, a, b, k)) (h : p_sem (ex mt lay d) Q (WX p l e R s m args below meth c kc ks D cT ad lay A cd.2.2.1 (MQ below Qc args s kc ks A)) (p_step cd lay nx (.dup_x1) a b k pc ls st M)) : WX p l e R s m args below meth c kc ks D cT ad lay A cd.2.2.1 (MQ below Qc args s kc ks A) (pc, ls, st, M) := by
  obtain ⟨ok, ow⟩ := ok
  simp only [p_eb, p_il, Bool.and_eq_true, Bool.or_eq_true, decide_eq_true_eq, beq_iff_eq] at ok
  obtain ⟨⟨⟨hd, hle⟩, hln⟩, hz⟩ := ok
  intro la H locs hl S
  have C' := C
  obtain ⟨⟨⟨hx, hb, hml, hown, hts⟩, hK, hJ⟩, hr, hlk⟩ := C
  simp only [p_step] at h
  have hnx : nx = pc + 1 := by rcases hln with hln | hln <;> omega
  subst hnx
  have hd : decode cd.2.1 pc = .ok (.dup_x1, 1) := by rw [hd]; congr 2; omega
  split at h
  · exact lv_dup_x1 hx hb hd (by rw [cv_cat]; exact (p_on_sem h).1.1) (by rw [cv_cat]; exact (p_on_sem h).1.2) ((p_on_sem h).2 la H locs hl S)
  · exact h.elim
end
section
variable {mt : List pCd} {cd : pCd} {d : Nat} {Q : pQ} {nx a b k pc : Nat} {ls : List (Option Value)} {st : List Value} {M : Mem} {Qc : Array Value → State → Outcome → State → Prop}
theorem sd_dup2 (C : Bx p s m args meth c cd.1.cls cd.2.1 cd.2.2.1 cd.2.2.2.1 D cT ad lay A) (hR : d + 1 ≤ R.frames ∧ 64 * (d + 1) ≤ R.locals) (hcs : kc ≤ R.cells ∧ ks ≤ R.slots) (ih : p_ih l mt lay D cT ad d) (hq : ∀ (r : Option Value) (M : Mem) (t : State), Q r M → HM D cT ad lay M t.heap → va_F A s t → Qc args s (.returned (r.map (cv ad))) t) (ok : p_eb cd.2.1 cd.2.2.1 (pc, nx, .dup2, a, b, k) = true ∧ p_ew mt cd.1.cls (pc, nx, .dup2, a, b, k)) (h : p_sem (ex mt lay d) Q (WX p l e R s m args below meth c kc ks D cT ad lay A cd.2.2.1 (MQ below Qc args s kc ks A)) (p_step cd lay nx (.dup2) a b k pc ls st M)) : WX p l e R s m args below meth c kc ks D cT ad lay A cd.2.2.1 (MQ below Qc args s kc ks A) (pc, ls, st, M) := by
  obtain ⟨ok, ow⟩ := ok
  simp only [p_eb, p_il, Bool.and_eq_true, Bool.or_eq_true, decide_eq_true_eq, beq_iff_eq] at ok
  obtain ⟨⟨⟨hd, hle⟩, hln⟩, hz⟩ := ok
  intro la H locs hl S
  have C' := C
  obtain ⟨⟨⟨hx, hb, hml, hown, hts⟩, hK, hJ⟩, hr, hlk⟩ := C
  simp only [p_step] at h
  have hnx : nx = pc + 1 := by rcases hln with hln | hln <;> omega
  subst hnx
  have hd : decode cd.2.1 pc = .ok (.dup2, 1) := by rw [hd]; congr 2; omega
  split at h
  · exact lv_dup2_11 hx hb hd (by rw [cv_cat]; exact (p_on_sem h).1.1) (by rw [cv_cat]; exact (p_on_sem h).1.2) ((p_on_sem h).2 la H locs hl S)
  · exact h.elim
end
section
variable {mt : List pCd} {cd : pCd} {d : Nat} {Q : pQ} {nx a b k pc : Nat} {ls : List (Option Value)} {st : List Value} {M : Mem} {Qc : Array Value → State → Outcome → State → Prop}
theorem sd_ifCond (C : Bx p s m args meth c cd.1.cls cd.2.1 cd.2.2.1 cd.2.2.2.1 D cT ad lay A) (hR : d + 1 ≤ R.frames ∧ 64 * (d + 1) ≤ R.locals) (hcs : kc ≤ R.cells ∧ ks ≤ R.slots) (ih : p_ih l mt lay D cT ad d) (hq : ∀ (r : Option Value) (M : Mem) (t : State), Q r M → HM D cT ad lay M t.heap → va_F A s t → Qc args s (.returned (r.map (cv ad))) t) {q : Jvm.ClassFile.Cond} {off : Int} (ok : p_eb cd.2.1 cd.2.2.1 (pc, nx, .ifCond q off, a, b, k) = true ∧ p_ew mt cd.1.cls (pc, nx, .ifCond q off, a, b, k)) (h : p_sem (ex mt lay d) Q (WX p l e R s m args below meth c kc ks D cT ad lay A cd.2.2.1 (MQ below Qc args s kc ks A)) (p_step cd lay nx (.ifCond q off) a b k pc ls st M)) : WX p l e R s m args below meth c kc ks D cT ad lay A cd.2.2.1 (MQ below Qc args s kc ks A) (pc, ls, st, M) := by
  obtain ⟨ok, ow⟩ := ok
  simp only [p_eb, p_il, Bool.and_eq_true, Bool.or_eq_true, decide_eq_true_eq, beq_iff_eq] at ok
  obtain ⟨⟨⟨hd, hle⟩, hln⟩, hz⟩ := ok
  intro la H locs hl S
  have C' := C
  obtain ⟨⟨⟨hx, hb, hml, hown, hts⟩, hK, hJ⟩, hr, hlk⟩ := C
  simp only [p_step] at h
  have hnx : nx = pc + 3 := by rcases hln with hln | hln <;> omega
  subst hnx
  have hd : decode cd.2.1 pc = .ok (.ifCond q off, 3) := by rw [hd]; congr 2; omega
  split at h
  · have h := p_if_sem h
    cases q with
    | eq => exact lv_if_eq hx hb hd hz (fun hc => h.1 hc la H locs hl S) (fun hc => h.2 hc la H locs hl S)
    | ne => exact lv_if_ne hx hb hd hz (fun hc => h.1 hc la H locs hl S) (fun hc => h.2 (fun z => z hc) la H locs hl S)
    | lt => exact lv_if_lt hx hb hd hz (fun hc => h.1 hc la H locs hl S) (fun hc => h.2 hc la H locs hl S)
    | ge => exact lv_if_ge hx hb hd hz (fun hc => h.1 hc la H locs hl S) (fun hc => h.2 hc la H locs hl S)
    | gt => exact lv_if_gt hx hb hd hz (fun hc => h.1 hc la H locs hl S) (fun hc => h.2 hc la H locs hl S)
    | le => exact lv_if_le hx hb hd hz (fun hc => h.1 hc la H locs hl S) (fun hc => h.2 hc la H locs hl S)
  · exact h.elim
end
section
variable {mt : List pCd} {cd : pCd} {d : Nat} {Q : pQ} {nx a b k pc : Nat} {ls : List (Option Value)} {st : List Value} {M : Mem} {Qc : Array Value → State → Outcome → State → Prop}
theorem sd_if_icmp (C : Bx p s m args meth c cd.1.cls cd.2.1 cd.2.2.1 cd.2.2.2.1 D cT ad lay A) (hR : d + 1 ≤ R.frames ∧ 64 * (d + 1) ≤ R.locals) (hcs : kc ≤ R.cells ∧ ks ≤ R.slots) (ih : p_ih l mt lay D cT ad d) (hq : ∀ (r : Option Value) (M : Mem) (t : State), Q r M → HM D cT ad lay M t.heap → va_F A s t → Qc args s (.returned (r.map (cv ad))) t) {q : Jvm.ClassFile.Cond} {off : Int} (ok : p_eb cd.2.1 cd.2.2.1 (pc, nx, .if_icmp q off, a, b, k) = true ∧ p_ew mt cd.1.cls (pc, nx, .if_icmp q off, a, b, k)) (h : p_sem (ex mt lay d) Q (WX p l e R s m args below meth c kc ks D cT ad lay A cd.2.2.1 (MQ below Qc args s kc ks A)) (p_step cd lay nx (.if_icmp q off) a b k pc ls st M)) : WX p l e R s m args below meth c kc ks D cT ad lay A cd.2.2.1 (MQ below Qc args s kc ks A) (pc, ls, st, M) := by
  obtain ⟨ok, ow⟩ := ok
  simp only [p_eb, p_il, Bool.and_eq_true, Bool.or_eq_true, decide_eq_true_eq, beq_iff_eq] at ok
  obtain ⟨⟨⟨hd, hle⟩, hln⟩, hz⟩ := ok
  intro la H locs hl S
  have C' := C
  obtain ⟨⟨⟨hx, hb, hml, hown, hts⟩, hK, hJ⟩, hr, hlk⟩ := C
  simp only [p_step] at h
  have hnx : nx = pc + 3 := by rcases hln with hln | hln <;> omega
  subst hnx
  have hd : decode cd.2.1 pc = .ok (.if_icmp q off, 3) := by rw [hd]; congr 2; omega
  split at h
  · have h := p_if_sem h
    cases q with
    | eq => exact lv_icmp_eq hx hb hd hz (fun hc => h.1 hc la H locs hl S) (fun hc => h.2 hc la H locs hl S)
    | ne => exact lv_icmp_ne hx hb hd hz (fun hc => h.1 hc la H locs hl S) (fun hc => h.2 (fun z => z hc) la H locs hl S)
    | lt => exact lv_icmp_lt hx hb hd hz (fun hc => h.1 hc la H locs hl S) (fun hc => h.2 hc la H locs hl S)
    | ge => exact lv_icmp_ge hx hb hd hz (fun hc => h.1 hc la H locs hl S) (fun hc => h.2 hc la H locs hl S)
    | gt => exact lv_icmp_gt hx hb hd hz (fun hc => h.1 hc la H locs hl S) (fun hc => h.2 hc la H locs hl S)
    | le => exact lv_icmp_le hx hb hd hz (fun hc => h.1 hc la H locs hl S) (fun hc => h.2 hc la H locs hl S)
  · exact h.elim
end
section
variable {mt : List pCd} {cd : pCd} {d : Nat} {Q : pQ} {nx a b k pc : Nat} {ls : List (Option Value)} {st : List Value} {M : Mem} {Qc : Array Value → State → Outcome → State → Prop}
theorem sd_goto (C : Bx p s m args meth c cd.1.cls cd.2.1 cd.2.2.1 cd.2.2.2.1 D cT ad lay A) (hR : d + 1 ≤ R.frames ∧ 64 * (d + 1) ≤ R.locals) (hcs : kc ≤ R.cells ∧ ks ≤ R.slots) (ih : p_ih l mt lay D cT ad d) (hq : ∀ (r : Option Value) (M : Mem) (t : State), Q r M → HM D cT ad lay M t.heap → va_F A s t → Qc args s (.returned (r.map (cv ad))) t) {off : Int} (ok : p_eb cd.2.1 cd.2.2.1 (pc, nx, .goto off, a, b, k) = true ∧ p_ew mt cd.1.cls (pc, nx, .goto off, a, b, k)) (h : p_sem (ex mt lay d) Q (WX p l e R s m args below meth c kc ks D cT ad lay A cd.2.2.1 (MQ below Qc args s kc ks A)) (p_step cd lay nx (.goto off) a b k pc ls st M)) : WX p l e R s m args below meth c kc ks D cT ad lay A cd.2.2.1 (MQ below Qc args s kc ks A) (pc, ls, st, M) := by
  obtain ⟨ok, ow⟩ := ok
  simp only [p_eb, p_il, Bool.and_eq_true, Bool.or_eq_true, decide_eq_true_eq, beq_iff_eq] at ok
  obtain ⟨⟨⟨hd, hle⟩, hln⟩, hz⟩ := ok
  intro la H locs hl S
  have C' := C
  obtain ⟨⟨⟨hx, hb, hml, hown, hts⟩, hK, hJ⟩, hr, hlk⟩ := C
  simp only [p_step] at h
  have hnx : nx = pc + 3 := by rcases hln with hln | hln <;> omega
  subst hnx
  have hd : decode cd.2.1 pc = .ok (.goto off, 3) := by rw [hd]; congr 2; omega
  exact lv_goto hx hb hd hz (p_go_sem h la H locs hl S)
end
section
variable {mt : List pCd} {cd : pCd} {d : Nat} {Q : pQ} {nx a b k pc : Nat} {ls : List (Option Value)} {st : List Value} {M : Mem} {Qc : Array Value → State → Outcome → State → Prop}
theorem sd_ifnonnull (C : Bx p s m args meth c cd.1.cls cd.2.1 cd.2.2.1 cd.2.2.2.1 D cT ad lay A) (hR : d + 1 ≤ R.frames ∧ 64 * (d + 1) ≤ R.locals) (hcs : kc ≤ R.cells ∧ ks ≤ R.slots) (ih : p_ih l mt lay D cT ad d) (hq : ∀ (r : Option Value) (M : Mem) (t : State), Q r M → HM D cT ad lay M t.heap → va_F A s t → Qc args s (.returned (r.map (cv ad))) t) {off : Int} (ok : p_eb cd.2.1 cd.2.2.1 (pc, nx, .ifnonnull off, a, b, k) = true ∧ p_ew mt cd.1.cls (pc, nx, .ifnonnull off, a, b, k)) (h : p_sem (ex mt lay d) Q (WX p l e R s m args below meth c kc ks D cT ad lay A cd.2.2.1 (MQ below Qc args s kc ks A)) (p_step cd lay nx (.ifnonnull off) a b k pc ls st M)) : WX p l e R s m args below meth c kc ks D cT ad lay A cd.2.2.1 (MQ below Qc args s kc ks A) (pc, ls, st, M) := by
  obtain ⟨ok, ow⟩ := ok
  simp only [p_eb, p_il, Bool.and_eq_true, Bool.or_eq_true, decide_eq_true_eq, beq_iff_eq] at ok
  obtain ⟨⟨⟨hd, hle⟩, hln⟩, hz⟩ := ok
  intro la H locs hl S
  have C' := C
  obtain ⟨⟨⟨hx, hb, hml, hown, hts⟩, hK, hJ⟩, hr, hlk⟩ := C
  simp only [p_step] at h
  have hnx : nx = pc + 3 := by rcases hln with hln | hln <;> omega
  subst hnx
  have hd : decode cd.2.1 pc = .ok (.ifnonnull off, 3) := by rw [hd]; congr 2; omega
  split at h
  · exact lv_ifnonnull hx hb hd hz (p_go_sem h la H locs hl S)
  · exact lv_ifnonnullN hx hb hd (p_go_sem h la H locs hl S)
  · exact h.elim
end
section
variable {mt : List pCd} {cd : pCd} {d : Nat} {Q : pQ} {nx a b k pc : Nat} {ls : List (Option Value)} {st : List Value} {M : Mem} {Qc : Array Value → State → Outcome → State → Prop}
theorem sd_tableswitch (C : Bx p s m args meth c cd.1.cls cd.2.1 cd.2.2.1 cd.2.2.2.1 D cT ad lay A) (hR : d + 1 ≤ R.frames ∧ 64 * (d + 1) ≤ R.locals) (hcs : kc ≤ R.cells ∧ ks ≤ R.slots) (ih : p_ih l mt lay D cT ad d) (hq : ∀ (r : Option Value) (M : Mem) (t : State), Q r M → HM D cT ad lay M t.heap → va_F A s t → Qc args s (.returned (r.map (cv ad))) t) {df lo hi : Int} {offs : Array Int} (ok : p_eb cd.2.1 cd.2.2.1 (pc, nx, .tableswitch df lo hi offs, a, b, k) = true ∧ p_ew mt cd.1.cls (pc, nx, .tableswitch df lo hi offs, a, b, k)) (h : p_sem (ex mt lay d) Q (WX p l e R s m args below meth c kc ks D cT ad lay A cd.2.2.1 (MQ below Qc args s kc ks A)) (p_step cd lay nx (.tableswitch df lo hi offs) a b k pc ls st M)) : WX p l e R s m args below meth c kc ks D cT ad lay A cd.2.2.1 (MQ below Qc args s kc ks A) (pc, ls, st, M) := by
  obtain ⟨ok, ow⟩ := ok
  simp only [p_eb, p_il, Bool.and_eq_true, Bool.or_eq_true, decide_eq_true_eq, beq_iff_eq] at ok
  obtain ⟨⟨⟨hd, hle⟩, hln⟩, hz⟩ := ok
  intro la H locs hl S
  have C' := C
  obtain ⟨⟨⟨hx, hb, hml, hown, hts⟩, hK, hJ⟩, hr, hlk⟩ := C
  simp only [p_step] at h
  split at h
  · next x st =>
    simp only [Bool.and_eq_true, decide_eq_true_eq, List.all_eq_true] at hz
    obtain ⟨⟨z1, z2⟩, z3⟩ := hz
    by_cases h1 : x.toInt < lo ∨ hi < x.toInt
    · exact lv_tableOut hx hb hd h1 (by rw [Int.toNat_of_nonneg z1]) (h.2 _ List.mem_cons_self h1 la H locs hl S)
    · have h2 : ¬ x.toInt < lo := fun z => h1 (Or.inl z)
      have h3 : ¬ hi < x.toInt := fun z => h1 (Or.inr z)
      have hk : (x.toInt - lo).toNat < offs.size := by omega
      have ho : offs[(x.toInt - lo).toNat]? = some offs[(x.toInt - lo).toNat] := Array.getElem?_eq_getElem hk
      refine lv_tableIn hx hb hd h2 h3 ho (by rw [Int.toNat_of_nonneg (z3 _ (Array.getElem_mem_toList hk))]) ?_
      refine h.2 (x.toInt = lo + ((x.toInt - lo).toNat : Nat), ((pc : Int) + offs[(x.toInt - lo).toNat]).toNat, ls, st, M) (List.mem_cons_of_mem _ ?_) (by show x.toInt = _; omega) la H locs hl S
      rw [List.mem_mapIdx]
      exact ⟨(x.toInt - lo).toNat, by simpa using hk, by simp⟩
  · exact h.elim
end
section
variable {mt : List pCd} {cd : pCd} {d : Nat} {Q : pQ} {nx a b k pc : Nat} {ls : List (Option Value)} {st : List Value} {M : Mem} {Qc : Array Value → State → Outcome → State → Prop}
theorem sd_lookupswitch (C : Bx p s m args meth c cd.1.cls cd.2.1 cd.2.2.1 cd.2.2.2.1 D cT ad lay A) (hR : d + 1 ≤ R.frames ∧ 64 * (d + 1) ≤ R.locals) (hcs : kc ≤ R.cells ∧ ks ≤ R.slots) (ih : p_ih l mt lay D cT ad d) (hq : ∀ (r : Option Value) (M : Mem) (t : State), Q r M → HM D cT ad lay M t.heap → va_F A s t → Qc args s (.returned (r.map (cv ad))) t) {df : Int} {ps : Array (Int × Int)} (ok : p_eb cd.2.1 cd.2.2.1 (pc, nx, .lookupswitch df ps, a, b, k) = true ∧ p_ew mt cd.1.cls (pc, nx, .lookupswitch df ps, a, b, k)) (h : p_sem (ex mt lay d) Q (WX p l e R s m args below meth c kc ks D cT ad lay A cd.2.2.1 (MQ below Qc args s kc ks A)) (p_step cd lay nx (.lookupswitch df ps) a b k pc ls st M)) : WX p l e R s m args below meth c kc ks D cT ad lay A cd.2.2.1 (MQ below Qc args s kc ks A) (pc, ls, st, M) := by
  obtain ⟨ok, ow⟩ := ok
  simp only [p_eb, p_il, Bool.and_eq_true, Bool.or_eq_true, decide_eq_true_eq, beq_iff_eq] at ok
  obtain ⟨⟨⟨hd, hle⟩, hln⟩, hz⟩ := ok
  intro la H locs hl S
  have C' := C
  obtain ⟨⟨⟨hx, hb, hml, hown, hts⟩, hK, hJ⟩, hr, hlk⟩ := C
  simp only [p_step] at h
  split at h
  · next x st =>
    simp only [Bool.and_eq_true, decide_eq_true_eq, List.all_eq_true] at hz
    obtain ⟨⟨z1, z2⟩, z3⟩ := hz
    have z4 : (ps.toList.zip (ps.toList.drop 1)).all (fun (a, next) => a.1 < next.1) = true := by simpa using z3
    have key : ∀ qs : List (Int × Int), (∃ q ∈ qs, x.toInt = q.1 ∧ Op.lookupswitch.offset qs df x.toInt = q.2) ∨ ((∀ q ∈ qs, ¬ x.toInt = q.1) ∧ Op.lookupswitch.offset qs df x.toInt = df) := by
      intro qs
      induction qs with
      | nil => exact Or.inr ⟨fun q hq => (by cases hq), rfl⟩
      | cons q qs ih =>
        obtain ⟨a0, o0⟩ := q
        rw [Op.lookupswitch.offset_cons]
        by_cases hq : a0 = x.toInt
        · rw [if_pos hq]
          exact Or.inl ⟨(a0, o0), List.mem_cons_self, hq.symm, rfl⟩
        · rw [if_neg hq]
          rcases ih with ⟨q, h1, h2, h3⟩ | ⟨h1, h2⟩
          · exact Or.inl ⟨q, List.mem_cons_of_mem _ h1, h2, h3⟩
          · refine Or.inr ⟨fun q hq2 => ?_, h2⟩
            rcases List.mem_cons.mp hq2 with rfl | h
            · exact fun z => hq z.symm
            · exact h1 q h
    rcases key ps.toList with ⟨q, hq, he, ho⟩ | ⟨hn, ho⟩
    · exact lv_lookup hx hb hd z4 ho (by rw [Int.toNat_of_nonneg (z2 _ hq)]) (h.2 (x.toInt = q.1, _, ls, st, M) (List.mem_cons_of_mem _ (List.mem_map.mpr ⟨q, hq, rfl⟩)) he la H locs hl S)
    · exact lv_lookup hx hb hd z4 ho (by rw [Int.toNat_of_nonneg z1]) (h.2 _ List.mem_cons_self hn la H locs hl S)
  · exact h.elim
end
section
variable {mt : List pCd} {cd : pCd} {d : Nat} {Q : pQ} {nx a b k pc : Nat} {ls : List (Option Value)} {st : List Value} {M : Mem} {Qc : Array Value → State → Outcome → State → Prop}
theorem sd_getfield (C : Bx p s m args meth c cd.1.cls cd.2.1 cd.2.2.1 cd.2.2.2.1 D cT ad lay A) (hR : d + 1 ≤ R.frames ∧ 64 * (d + 1) ≤ R.locals) (hcs : kc ≤ R.cells ∧ ks ≤ R.slots) (ih : p_ih l mt lay D cT ad d) (hq : ∀ (r : Option Value) (M : Mem) (t : State), Q r M → HM D cT ad lay M t.heap → va_F A s t → Qc args s (.returned (r.map (cv ad))) t) {n : Nat} (ok : p_eb cd.2.1 cd.2.2.1 (pc, nx, .getfield n, a, b, k) = true ∧ p_ew mt cd.1.cls (pc, nx, .getfield n, a, b, k)) (h : p_sem (ex mt lay d) Q (WX p l e R s m args below meth c kc ks D cT ad lay A cd.2.2.1 (MQ below Qc args s kc ks A)) (p_step cd lay nx (.getfield n) a b k pc ls st M)) : WX p l e R s m args below meth c kc ks D cT ad lay A cd.2.2.1 (MQ below Qc args s kc ks A) (pc, ls, st, M) := by
  obtain ⟨ok, ow⟩ := ok
  simp only [p_eb, p_il, Bool.and_eq_true, Bool.or_eq_true, decide_eq_true_eq, beq_iff_eq] at ok
  obtain ⟨⟨⟨hd, hle⟩, hln⟩, hz⟩ := ok
  intro la H locs hl S
  have C' := C
  obtain ⟨⟨⟨hx, hb, hml, hown, hts⟩, hK, hJ⟩, hr, hlk⟩ := C
  simp only [p_step] at h
  have hnx : nx = pc + 3 := by rcases hln with hln | hln <;> omega
  subst hnx
  have hd : decode cd.2.1 pc = .ok (.getfield n, 3) := by rw [hd]; congr 2; omega
  split at h
  · next q st =>
    split at h
    · next ci fks hi =>
      split at h
      · next fk hf =>
        obtain ⟨hc, h'⟩ := p_on_sem h
        clear h
        have h := h'
        clear h'
        subst hc
        obtain ⟨Cn, T, N, w1, w2, w3, w4⟩ := ow
        have e0 : cv ad (fv id M q b fk) = fv ad M q b fk := by
          match fk with
          | none => rfl
          | some none => rfl
          | some (some j) => rfl
        refine xq_get C' S hi w1 w2 w3 hf w4 hd ?_
        have h := h la H locs hl S
        simp only [List.map_cons, e0] at h
        exact h
      · exact h.elim
    · exact h.elim
  · exact h.elim
end
section
variable {mt : List pCd} {cd : pCd} {d : Nat} {Q : pQ} {nx a b k pc : Nat} {ls : List (Option Value)} {st : List Value} {M : Mem} {Qc : Array Value → State → Outcome → State → Prop}
theorem sd_putfield (C : Bx p s m args meth c cd.1.cls cd.2.1 cd.2.2.1 cd.2.2.2.1 D cT ad lay A) (hR : d + 1 ≤ R.frames ∧ 64 * (d + 1) ≤ R.locals) (hcs : kc ≤ R.cells ∧ ks ≤ R.slots) (ih : p_ih l mt lay D cT ad d) (hq : ∀ (r : Option Value) (M : Mem) (t : State), Q r M → HM D cT ad lay M t.heap → va_F A s t → Qc args s (.returned (r.map (cv ad))) t) {n : Nat} (ok : p_eb cd.2.1 cd.2.2.1 (pc, nx, .putfield n, a, b, k) = true ∧ p_ew mt cd.1.cls (pc, nx, .putfield n, a, b, k)) (h : p_sem (ex mt lay d) Q (WX p l e R s m args below meth c kc ks D cT ad lay A cd.2.2.1 (MQ below Qc args s kc ks A)) (p_step cd lay nx (.putfield n) a b k pc ls st M)) : WX p l e R s m args below meth c kc ks D cT ad lay A cd.2.2.1 (MQ below Qc args s kc ks A) (pc, ls, st, M) := by
  obtain ⟨ok, ow⟩ := ok
  simp only [p_eb, p_il, Bool.and_eq_true, Bool.or_eq_true, decide_eq_true_eq, beq_iff_eq] at ok
  obtain ⟨⟨⟨hd, hle⟩, hln⟩, hz⟩ := ok
  intro la H locs hl S
  have C' := C
  obtain ⟨⟨⟨hx, hb, hml, hown, hts⟩, hK, hJ⟩, hr, hlk⟩ := C
  simp only [p_step] at h
  have hnx : nx = pc + 3 := by rcases hln with hln | hln <;> omega
  subst hnx
  have hd : decode cd.2.1 pc = .ok (.putfield n, 3) := by rw [hd]; congr 2; omega
  split at h
  · next v q st =>
    split at h
    · next ci fks hi =>
      split at h
      · next hf =>
        obtain ⟨⟨hc, hv⟩, h'⟩ := p_on_sem h
        clear h
        have h := h'
        clear h'
        subst hc
        obtain ⟨Cn, T, N, ty0, w1, w2, w3, w4, w5, w6, w7, w8⟩ := ow
        have hw8 : narrow (ty0 b) (.int v) = .int v ∧ fits (ty0 b) (.int v) = true := by
          rw [show ty0 b = _ from w8]
          rcases hv with hv | hv
          · simp only [hv, if_true]
            exact ⟨rfl, rfl⟩
          · split
            · exact ⟨rfl, rfl⟩
            · exact p_bits_n hv
        exact xq_put C' S hi w1 w2 ty0 w5 w6 w3 hf w4 w7 hw8.1 hw8.2 hd (fun H locs S => h la H locs hl S)
      · exact h.elim
    · exact h.elim
  · exact h.elim
end
section
variable {mt : List pCd} {cd : pCd} {d : Nat} {Q : pQ} {nx a b k pc : Nat} {ls : List (Option Value)} {st : List Value} {M : Mem} {Qc : Array Value → State → Outcome → State → Prop}
theorem sd_iaload (C : Bx p s m args meth c cd.1.cls cd.2.1 cd.2.2.1 cd.2.2.2.1 D cT ad lay A) (hR : d + 1 ≤ R.frames ∧ 64 * (d + 1) ≤ R.locals) (hcs : kc ≤ R.cells ∧ ks ≤ R.slots) (ih : p_ih l mt lay D cT ad d) (hq : ∀ (r : Option Value) (M : Mem) (t : State), Q r M → HM D cT ad lay M t.heap → va_F A s t → Qc args s (.returned (r.map (cv ad))) t) (ok : p_eb cd.2.1 cd.2.2.1 (pc, nx, .iaload, a, b, k) = true ∧ p_ew mt cd.1.cls (pc, nx, .iaload, a, b, k)) (h : p_sem (ex mt lay d) Q (WX p l e R s m args below meth c kc ks D cT ad lay A cd.2.2.1 (MQ below Qc args s kc ks A)) (p_step cd lay nx (.iaload) a b k pc ls st M)) : WX p l e R s m args below meth c kc ks D cT ad lay A cd.2.2.1 (MQ below Qc args s kc ks A) (pc, ls, st, M) := by
  obtain ⟨ok, ow⟩ := ok
  simp only [p_eb, p_il, Bool.and_eq_true, Bool.or_eq_true, decide_eq_true_eq, beq_iff_eq] at ok
  obtain ⟨⟨⟨hd, hle⟩, hln⟩, hz⟩ := ok
  intro la H locs hl S
  have C' := C
  obtain ⟨⟨⟨hx, hb, hml, hown, hts⟩, hK, hJ⟩, hr, hlk⟩ := C
  simp only [p_step] at h
  have hnx : nx = pc + 1 := by rcases hln with hln | hln <;> omega
  subst hnx
  have hd : decode cd.2.1 pc = .ok (.iaload, 1) := by rw [hd]; congr 2; omega
  split at h
  · split at h
    · next hi => exact xq_iald C' S hi (p_on_sem h).1 hd ((p_on_sem h).2 la H locs hl S)
    · exact h.elim
  · exact h.elim
end
section
variable {mt : List pCd} {cd : pCd} {d : Nat} {Q : pQ} {nx a b k pc : Nat} {ls : List (Option Value)} {st : List Value} {M : Mem} {Qc : Array Value → State → Outcome → State → Prop}
theorem sd_baload (C : Bx p s m args meth c cd.1.cls cd.2.1 cd.2.2.1 cd.2.2.2.1 D cT ad lay A) (hR : d + 1 ≤ R.frames ∧ 64 * (d + 1) ≤ R.locals) (hcs : kc ≤ R.cells ∧ ks ≤ R.slots) (ih : p_ih l mt lay D cT ad d) (hq : ∀ (r : Option Value) (M : Mem) (t : State), Q r M → HM D cT ad lay M t.heap → va_F A s t → Qc args s (.returned (r.map (cv ad))) t) (ok : p_eb cd.2.1 cd.2.2.1 (pc, nx, .baload, a, b, k) = true ∧ p_ew mt cd.1.cls (pc, nx, .baload, a, b, k)) (h : p_sem (ex mt lay d) Q (WX p l e R s m args below meth c kc ks D cT ad lay A cd.2.2.1 (MQ below Qc args s kc ks A)) (p_step cd lay nx (.baload) a b k pc ls st M)) : WX p l e R s m args below meth c kc ks D cT ad lay A cd.2.2.1 (MQ below Qc args s kc ks A) (pc, ls, st, M) := by
  obtain ⟨ok, ow⟩ := ok
  simp only [p_eb, p_il, Bool.and_eq_true, Bool.or_eq_true, decide_eq_true_eq, beq_iff_eq] at ok
  obtain ⟨⟨⟨hd, hle⟩, hln⟩, hz⟩ := ok
  intro la H locs hl S
  have C' := C
  obtain ⟨⟨⟨hx, hb, hml, hown, hts⟩, hK, hJ⟩, hr, hlk⟩ := C
  simp only [p_step] at h
  have hnx : nx = pc + 1 := by rcases hln with hln | hln <;> omega
  subst hnx
  have hd : decode cd.2.1 pc = .ok (.baload, 1) := by rw [hd]; congr 2; omega
  split at h
  · split at h
    · next hi => exact xq_zald C' S hi (p_on_sem h).1 hd ((p_on_sem h).2 la H locs hl S)
    · next hi => exact xq_bald C' S hi (p_on_sem h).1 hd ((p_on_sem h).2 la H locs hl S)
    · exact h.elim
  · exact h.elim
end
section
variable {mt : List pCd} {cd : pCd} {d : Nat} {Q : pQ} {nx a b k pc : Nat} {ls : List (Option Value)} {st : List Value} {M : Mem} {Qc : Array Value → State → Outcome → State → Prop}
theorem sd_laload (C : Bx p s m args meth c cd.1.cls cd.2.1 cd.2.2.1 cd.2.2.2.1 D cT ad lay A) (hR : d + 1 ≤ R.frames ∧ 64 * (d + 1) ≤ R.locals) (hcs : kc ≤ R.cells ∧ ks ≤ R.slots) (ih : p_ih l mt lay D cT ad d) (hq : ∀ (r : Option Value) (M : Mem) (t : State), Q r M → HM D cT ad lay M t.heap → va_F A s t → Qc args s (.returned (r.map (cv ad))) t) (ok : p_eb cd.2.1 cd.2.2.1 (pc, nx, .laload, a, b, k) = true ∧ p_ew mt cd.1.cls (pc, nx, .laload, a, b, k)) (h : p_sem (ex mt lay d) Q (WX p l e R s m args below meth c kc ks D cT ad lay A cd.2.2.1 (MQ below Qc args s kc ks A)) (p_step cd lay nx (.laload) a b k pc ls st M)) : WX p l e R s m args below meth c kc ks D cT ad lay A cd.2.2.1 (MQ below Qc args s kc ks A) (pc, ls, st, M) := by
  obtain ⟨ok, ow⟩ := ok
  simp only [p_eb, p_il, Bool.and_eq_true, Bool.or_eq_true, decide_eq_true_eq, beq_iff_eq] at ok
  obtain ⟨⟨⟨hd, hle⟩, hln⟩, hz⟩ := ok
  intro la H locs hl S
  have C' := C
  obtain ⟨⟨⟨hx, hb, hml, hown, hts⟩, hK, hJ⟩, hr, hlk⟩ := C
  simp only [p_step] at h
  have hnx : nx = pc + 1 := by rcases hln with hln | hln <;> omega
  subst hnx
  have hd : decode cd.2.1 pc = .ok (.laload, 1) := by rw [hd]; congr 2; omega
  split at h
  · split at h
    · next hi => exact xq_lald C' S hi (p_on_sem h).1 hd ((p_on_sem h).2 la H locs hl S)
    · exact h.elim
  · exact h.elim
end
section
variable {mt : List pCd} {cd : pCd} {d : Nat} {Q : pQ} {nx a b k pc : Nat} {ls : List (Option Value)} {st : List Value} {M : Mem} {Qc : Array Value → State → Outcome → State → Prop}
theorem sd_iastore (C : Bx p s m args meth c cd.1.cls cd.2.1 cd.2.2.1 cd.2.2.2.1 D cT ad lay A) (hR : d + 1 ≤ R.frames ∧ 64 * (d + 1) ≤ R.locals) (hcs : kc ≤ R.cells ∧ ks ≤ R.slots) (ih : p_ih l mt lay D cT ad d) (hq : ∀ (r : Option Value) (M : Mem) (t : State), Q r M → HM D cT ad lay M t.heap → va_F A s t → Qc args s (.returned (r.map (cv ad))) t) (ok : p_eb cd.2.1 cd.2.2.1 (pc, nx, .iastore, a, b, k) = true ∧ p_ew mt cd.1.cls (pc, nx, .iastore, a, b, k)) (h : p_sem (ex mt lay d) Q (WX p l e R s m args below meth c kc ks D cT ad lay A cd.2.2.1 (MQ below Qc args s kc ks A)) (p_step cd lay nx (.iastore) a b k pc ls st M)) : WX p l e R s m args below meth c kc ks D cT ad lay A cd.2.2.1 (MQ below Qc args s kc ks A) (pc, ls, st, M) := by
  obtain ⟨ok, ow⟩ := ok
  simp only [p_eb, p_il, Bool.and_eq_true, Bool.or_eq_true, decide_eq_true_eq, beq_iff_eq] at ok
  obtain ⟨⟨⟨hd, hle⟩, hln⟩, hz⟩ := ok
  intro la H locs hl S
  have C' := C
  obtain ⟨⟨⟨hx, hb, hml, hown, hts⟩, hK, hJ⟩, hr, hlk⟩ := C
  simp only [p_step] at h
  have hnx : nx = pc + 1 := by rcases hln with hln | hln <;> omega
  subst hnx
  have hd : decode cd.2.1 pc = .ok (.iastore, 1) := by rw [hd]; congr 2; omega
  split at h
  · split at h
    · next hi => exact xq_iast C' S hi (p_on_sem h).1 hd (fun H locs S => (p_on_sem h).2 la H locs hl S)
    · exact h.elim
  · exact h.elim
end
section
variable {mt : List pCd} {cd : pCd} {d : Nat} {Q : pQ} {nx a b k pc : Nat} {ls : List (Option Value)} {st : List Value} {M : Mem} {Qc : Array Value → State → Outcome → State → Prop}
theorem sd_bastore (C : Bx p s m args meth c cd.1.cls cd.2.1 cd.2.2.1 cd.2.2.2.1 D cT ad lay A) (hR : d + 1 ≤ R.frames ∧ 64 * (d + 1) ≤ R.locals) (hcs : kc ≤ R.cells ∧ ks ≤ R.slots) (ih : p_ih l mt lay D cT ad d) (hq : ∀ (r : Option Value) (M : Mem) (t : State), Q r M → HM D cT ad lay M t.heap → va_F A s t → Qc args s (.returned (r.map (cv ad))) t) (ok : p_eb cd.2.1 cd.2.2.1 (pc, nx, .bastore, a, b, k) = true ∧ p_ew mt cd.1.cls (pc, nx, .bastore, a, b, k)) (h : p_sem (ex mt lay d) Q (WX p l e R s m args below meth c kc ks D cT ad lay A cd.2.2.1 (MQ below Qc args s kc ks A)) (p_step cd lay nx (.bastore) a b k pc ls st M)) : WX p l e R s m args below meth c kc ks D cT ad lay A cd.2.2.1 (MQ below Qc args s kc ks A) (pc, ls, st, M) := by
  obtain ⟨ok, ow⟩ := ok
  simp only [p_eb, p_il, Bool.and_eq_true, Bool.or_eq_true, decide_eq_true_eq, beq_iff_eq] at ok
  obtain ⟨⟨⟨hd, hle⟩, hln⟩, hz⟩ := ok
  intro la H locs hl S
  have C' := C
  obtain ⟨⟨⟨hx, hb, hml, hown, hts⟩, hK, hJ⟩, hr, hlk⟩ := C
  simp only [p_step] at h
  have hnx : nx = pc + 1 := by rcases hln with hln | hln <;> omega
  subst hnx
  have hd : decode cd.2.1 pc = .ok (.bastore, 1) := by rw [hd]; congr 2; omega
  split at h
  · split at h
    · next hi => exact xq_zast C' S hi (p_on_sem h).1 hd (fun H locs S => (p_on_sem h).2 la H locs hl S)
    · next hi => exact xq_bast C' S hi (p_on_sem h).1 hd (fun H locs S => (p_on_sem h).2 la H locs hl S)
    · exact h.elim
  · exact h.elim
end
section
variable {mt : List pCd} {cd : pCd} {d : Nat} {Q : pQ} {nx a b k pc : Nat} {ls : List (Option Value)} {st : List Value} {M : Mem} {Qc : Array Value → State → Outcome → State → Prop}
theorem sd_lastore (C : Bx p s m args meth c cd.1.cls cd.2.1 cd.2.2.1 cd.2.2.2.1 D cT ad lay A) (hR : d + 1 ≤ R.frames ∧ 64 * (d + 1) ≤ R.locals) (hcs : kc ≤ R.cells ∧ ks ≤ R.slots) (ih : p_ih l mt lay D cT ad d) (hq : ∀ (r : Option Value) (M : Mem) (t : State), Q r M → HM D cT ad lay M t.heap → va_F A s t → Qc args s (.returned (r.map (cv ad))) t) (ok : p_eb cd.2.1 cd.2.2.1 (pc, nx, .lastore, a, b, k) = true ∧ p_ew mt cd.1.cls (pc, nx, .lastore, a, b, k)) (h : p_sem (ex mt lay d) Q (WX p l e R s m args below meth c kc ks D cT ad lay A cd.2.2.1 (MQ below Qc args s kc ks A)) (p_step cd lay nx (.lastore) a b k pc ls st M)) : WX p l e R s m args below meth c kc ks D cT ad lay A cd.2.2.1 (MQ below Qc args s kc ks A) (pc, ls, st, M) := by
  obtain ⟨ok, ow⟩ := ok
  simp only [p_eb, p_il, Bool.and_eq_true, Bool.or_eq_true, decide_eq_true_eq, beq_iff_eq] at ok
  obtain ⟨⟨⟨hd, hle⟩, hln⟩, hz⟩ := ok
  intro la H locs hl S
  have C' := C
  obtain ⟨⟨⟨hx, hb, hml, hown, hts⟩, hK, hJ⟩, hr, hlk⟩ := C
  simp only [p_step] at h
  have hnx : nx = pc + 1 := by rcases hln with hln | hln <;> omega
  subst hnx
  have hd : decode cd.2.1 pc = .ok (.lastore, 1) := by rw [hd]; congr 2; omega
  split at h
  · split at h
    · next hi => exact xq_last C' S hi (p_on_sem h).1 hd (fun H locs S => (p_on_sem h).2 la H locs hl S)
    · exact h.elim
  · exact h.elim
end
section
variable {mt : List pCd} {cd : pCd} {d : Nat} {Q : pQ} {nx a b k pc : Nat} {ls : List (Option Value)} {st : List Value} {M : Mem} {Qc : Array Value → State → Outcome → State → Prop}
theorem sd_arraylength (C : Bx p s m args meth c cd.1.cls cd.2.1 cd.2.2.1 cd.2.2.2.1 D cT ad lay A) (hR : d + 1 ≤ R.frames ∧ 64 * (d + 1) ≤ R.locals) (hcs : kc ≤ R.cells ∧ ks ≤ R.slots) (ih : p_ih l mt lay D cT ad d) (hq : ∀ (r : Option Value) (M : Mem) (t : State), Q r M → HM D cT ad lay M t.heap → va_F A s t → Qc args s (.returned (r.map (cv ad))) t) (ok : p_eb cd.2.1 cd.2.2.1 (pc, nx, .arraylength, a, b, k) = true ∧ p_ew mt cd.1.cls (pc, nx, .arraylength, a, b, k)) (h : p_sem (ex mt lay d) Q (WX p l e R s m args below meth c kc ks D cT ad lay A cd.2.2.1 (MQ below Qc args s kc ks A)) (p_step cd lay nx (.arraylength) a b k pc ls st M)) : WX p l e R s m args below meth c kc ks D cT ad lay A cd.2.2.1 (MQ below Qc args s kc ks A) (pc, ls, st, M) := by
  obtain ⟨ok, ow⟩ := ok
  simp only [p_eb, p_il, Bool.and_eq_true, Bool.or_eq_true, decide_eq_true_eq, beq_iff_eq] at ok
  obtain ⟨⟨⟨hd, hle⟩, hln⟩, hz⟩ := ok
  intro la H locs hl S
  have C' := C
  obtain ⟨⟨⟨hx, hb, hml, hown, hts⟩, hK, hJ⟩, hr, hlk⟩ := C
  simp only [p_step] at h
  have hnx : nx = pc + 1 := by rcases hln with hln | hln <;> omega
  subst hnx
  have hd : decode cd.2.1 pc = .ok (.arraylength, 1) := by rw [hd]; congr 2; omega
  split at h
  · split at h
    · next hi => exact xq_alen C' S hi (p_on_sem h).1 rfl hd ((p_on_sem h).2 la H locs hl S)
    · exact h.elim
  · exact h.elim
end
section
variable {mt : List pCd} {cd : pCd} {d : Nat} {Q : pQ} {nx a b k pc : Nat} {ls : List (Option Value)} {st : List Value} {M : Mem} {Qc : Array Value → State → Outcome → State → Prop}
theorem sd_invokevirtual (C : Bx p s m args meth c cd.1.cls cd.2.1 cd.2.2.1 cd.2.2.2.1 D cT ad lay A) (hR : d + 1 ≤ R.frames ∧ 64 * (d + 1) ≤ R.locals) (hcs : kc ≤ R.cells ∧ ks ≤ R.slots) (ih : p_ih l mt lay D cT ad d) (hq : ∀ (r : Option Value) (M : Mem) (t : State), Q r M → HM D cT ad lay M t.heap → va_F A s t → Qc args s (.returned (r.map (cv ad))) t) {n : Nat} (ok : p_eb cd.2.1 cd.2.2.1 (pc, nx, .invokevirtual n, a, b, k) = true ∧ p_ew mt cd.1.cls (pc, nx, .invokevirtual n, a, b, k)) (h : p_sem (ex mt lay d) Q (WX p l e R s m args below meth c kc ks D cT ad lay A cd.2.2.1 (MQ below Qc args s kc ks A)) (p_step cd lay nx (.invokevirtual n) a b k pc ls st M)) : WX p l e R s m args below meth c kc ks D cT ad lay A cd.2.2.1 (MQ below Qc args s kc ks A) (pc, ls, st, M) := by
  obtain ⟨ok, ow⟩ := ok
  simp only [p_eb, p_il, Bool.and_eq_true, Bool.or_eq_true, decide_eq_true_eq, beq_iff_eq] at ok
  obtain ⟨⟨⟨hd, hle⟩, hln⟩, hz⟩ := ok
  intro la H locs hl S
  have C' := C
  obtain ⟨⟨⟨hx, hb, hml, hown, hts⟩, hK, hJ⟩, hr, hlk⟩ := C
  simp only [p_step] at h
  have hnx : nx = pc + 3 := by rcases hln with hln | hln <;> omega
  subst hnx
  have hd : decode cd.2.1 pc = .ok (.invokevirtual n, 3) := by rw [hd]; congr 2; omega
  split at h
  · next q rest hdr =>
    split at h
    · next ci fks hi =>
      obtain ⟨⟨hc, hsum⟩, h'⟩ := h
      have h := h'
      clear h'
      subst hc
      obtain ⟨cd', w1, w2, w3, w4⟩ := ow
      obtain ⟨hst, hlen⟩ := p_cvR rest k st _ hdr
      have hM := ih _ _ _ _ _ w1 h
      have hst2 : st.map (cv ad) = ((st.take k).reverse.map (cv ad)).reverse ++ .ref (ad q) :: rest.map (cv ad) := by
        rw [← List.map_reverse, List.reverse_reverse]
        conv => lhs; rw [hst]
        rw [List.map_append]; rfl
      have hlen2 : ((st.take k).reverse.map (cv ad)).length = k := by rw [List.length_map, List.length_reverse, hlen]
      have hrun := run_V (l := l) (e := e) (R := R) (below := below) (As := (st.take k).reverse.map (cv ad)) (rest := rest.map (cv ad)) (st0 := st.map (cv ad)) C' S (kc := kc) (ks := ks) (ls := la) (pc := pc) hM hi w2 w3 ⟨by omega, by have := hR.2; have h45 : cd'.2.2.1 ≤ 45 := w4; omega⟩ hcs hl.1 hlen2 hst2 (by rw [p_sum_cv]; exact hsum) hd
      refine go_X C' S hrun (fun r M H locs hr S => ?_)
      rw [p_toList]
      exact hr la H locs hl S
    · exact h.elim
  · exact h.elim
end
section
variable {mt : List pCd} {cd : pCd} {d : Nat} {Q : pQ} {nx a b k pc : Nat} {ls : List (Option Value)} {st : List Value} {M : Mem} {Qc : Array Value → State → Outcome → State → Prop}
theorem sd_invokestatic (C : Bx p s m args meth c cd.1.cls cd.2.1 cd.2.2.1 cd.2.2.2.1 D cT ad lay A) (hR : d + 1 ≤ R.frames ∧ 64 * (d + 1) ≤ R.locals) (hcs : kc ≤ R.cells ∧ ks ≤ R.slots) (ih : p_ih l mt lay D cT ad d) (hq : ∀ (r : Option Value) (M : Mem) (t : State), Q r M → HM D cT ad lay M t.heap → va_F A s t → Qc args s (.returned (r.map (cv ad))) t) {n : Nat} (ok : p_eb cd.2.1 cd.2.2.1 (pc, nx, .invokestatic n, a, b, k) = true ∧ p_ew mt cd.1.cls (pc, nx, .invokestatic n, a, b, k)) (h : p_sem (ex mt lay d) Q (WX p l e R s m args below meth c kc ks D cT ad lay A cd.2.2.1 (MQ below Qc args s kc ks A)) (p_step cd lay nx (.invokestatic n) a b k pc ls st M)) : WX p l e R s m args below meth c kc ks D cT ad lay A cd.2.2.1 (MQ below Qc args s kc ks A) (pc, ls, st, M) := by
  obtain ⟨ok, ow⟩ := ok
  simp only [p_eb, p_il, Bool.and_eq_true, Bool.or_eq_true, decide_eq_true_eq, beq_iff_eq] at ok
  obtain ⟨⟨⟨hd, hle⟩, hln⟩, hz⟩ := ok
  intro la H locs hl S
  have C' := C
  obtain ⟨⟨⟨hx, hb, hml, hown, hts⟩, hK, hJ⟩, hr, hlk⟩ := C
  simp only [p_step] at h
  have hnx : nx = pc + 3 := by rcases hln with hln | hln <;> omega
  subst hnx
  have hd : decode cd.2.1 pc = .ok (.invokestatic n, 3) := by rw [hd]; congr 2; omega
  split at h
  · split at h
    · next n1 dp q sp r rest =>
      split at h
      · next n0 n2 hi hj =>
        obtain ⟨⟨⟨c1, c2, c3⟩, ⟨c4, c5⟩, c6⟩, h⟩ := p_on_sem h
        obtain ⟨w1, w2, w3, w4⟩ := ow
        have hn : nativeFrameWords "java/lang/System" "arraycopy" 5 = 7 := by decide
        refine xq_copy C' S hl.1 hi hj w1 w2 w3 w4 c1 c2 c3 c4 c5 (by omega) ?_ hd (fun H locs S => h la H locs hl S)
        have := hR.2
        rw [hn, p_sum_cv]
        omega
      · exact h.elim
    · exact h.elim
  · split at h
    · next y x rest =>
      obtain ⟨hsum, h⟩ := p_on_sem h
      obtain ⟨w1, w2, w3, w4⟩ := ow
      refine va_mmax hx hb (by rw [hml, hl.1]) hown (hts _ w1) (hts _ w2) (hts _ w3) (hts _ w4) (by omega) ?_ hcs.1 hcs.2 hd (h la H locs hl S)
      have := hR.2
      rw [p_sum_cv]
      omega
    · exact h.elim
  · split at h
    · next y x rest =>
      obtain ⟨hsum, h⟩ := p_on_sem h
      obtain ⟨w1, w2, w3, w4⟩ := ow
      refine va_mmin hx hb (by rw [hml, hl.1]) hown (hts _ w1) (hts _ w2) (hts _ w3) (hts _ w4) (by omega) ?_ hcs.1 hcs.2 hd (h la H locs hl S)
      have := hR.2
      rw [p_sum_cv]
      omega
    · exact h.elim
  · next hb3 hb4 hb5 =>
    obtain ⟨⟨hc, hsum⟩, h⟩ := h
    have ow : ∃ cd', mt[a]? = some cd' ∧ SOk cd'.1 cd'.2.1 cd'.2.2.1 cd'.2.2.2.1 k ∧ (if b = 2 then Cond.methodLinkNest cd.1.cls n cd'.1 RX10 ∈ nestW else Cond.methodLink cd.1.cls n cd'.1 ∈ wsG) ∧ cd'.2.2.1 ≤ 45 := by
      have ow : p_cs mt cd.1.cls n a b k := ow
      unfold p_cs at ow
      split at ow
      · exact (hb3 rfl).elim
      · exact (hb4 rfl).elim
      · exact (hb5 rfl).elim
      · exact ow
    obtain ⟨cd', w1, w2, w3, w4⟩ := ow
    have hM := ih _ _ _ _ _ w1 h
    have hst : st.map (cv ad) = ((st.take k).reverse.map (cv ad)).reverse ++ (st.drop k).map (cv ad) := by
      rw [← List.map_reverse, List.reverse_reverse, ← List.map_append, List.take_append_drop]
    have hlen : ((st.take k).reverse.map (cv ad)).length = k := by simp; omega
    have hrun : va_Run p l e R s m args below meth c H locs kc ks 0 0 (F0 m pc la (st.map (cv ad))) ((st.drop k).map (cv ad)) (QcX D cT ad lay (AA ad lay) (fun r M => WX p l e R s m args below meth c kc ks D cT ad lay A cd.2.2.1 (MQ below Qc args s kc ks A) (pc + 3, ls, r.toList ++ st.drop k, M)) ((st.take k).reverse.map (cv ad)).toArray) (AA ad lay) := by
      by_cases hb2 : b = 2
      · rw [if_pos hb2] at w3
        exact run_N C' S hM w2 w3 ⟨by omega, by have := hR.2; have h45 : cd'.2.2.1 ≤ 45 := w4; omega⟩ hcs hl.1 hlen hst (by rw [p_sum_cv]; exact hsum) hd
      · rw [if_neg hb2] at w3
        exact run_S C' S hM w2 w3 ⟨by omega, by have := hR.2; have h45 : cd'.2.2.1 ≤ 45 := w4; omega⟩ hcs hl.1 hlen hst (by rw [p_sum_cv]; exact hsum) hd
    refine go_X C' S hrun (fun r M H locs hr S => ?_)
    rw [p_toList]
    exact hr la H locs hl S
end
section
variable {mt : List pCd} {cd : pCd} {d : Nat} {Q : pQ} {nx a b k pc : Nat} {ls : List (Option Value)} {st : List Value} {M : Mem} {Qc : Array Value → State → Outcome → State → Prop}
theorem sd_ireturn (C : Bx p s m args meth c cd.1.cls cd.2.1 cd.2.2.1 cd.2.2.2.1 D cT ad lay A) (hR : d + 1 ≤ R.frames ∧ 64 * (d + 1) ≤ R.locals) (hcs : kc ≤ R.cells ∧ ks ≤ R.slots) (ih : p_ih l mt lay D cT ad d) (hq : ∀ (r : Option Value) (M : Mem) (t : State), Q r M → HM D cT ad lay M t.heap → va_F A s t → Qc args s (.returned (r.map (cv ad))) t) (ok : p_eb cd.2.1 cd.2.2.1 (pc, nx, .ireturn, a, b, k) = true ∧ p_ew mt cd.1.cls (pc, nx, .ireturn, a, b, k)) (h : p_sem (ex mt lay d) Q (WX p l e R s m args below meth c kc ks D cT ad lay A cd.2.2.1 (MQ below Qc args s kc ks A)) (p_step cd lay nx (.ireturn) a b k pc ls st M)) : WX p l e R s m args below meth c kc ks D cT ad lay A cd.2.2.1 (MQ below Qc args s kc ks A) (pc, ls, st, M) := by
  obtain ⟨ok, ow⟩ := ok
  simp only [p_eb, p_il, Bool.and_eq_true, Bool.or_eq_true, decide_eq_true_eq, beq_iff_eq] at ok
  obtain ⟨⟨⟨hd, hle⟩, hln⟩, hz⟩ := ok
  intro la H locs hl S
  have C' := C
  obtain ⟨⟨⟨hx, hb, hml, hown, hts⟩, hK, hJ⟩, hr, hlk⟩ := C
  simp only [p_step] at h
  have hnx : nx = pc + 1 := by rcases hln with hln | hln <;> omega
  subst hnx
  have hd : decode cd.2.1 pc = .ok (.ireturn, 1) := by rw [hd]; congr 2; omega
  split at h
  · next v =>
    split at h
    · next hret =>
      rw [hret] at C'
      exact xq_iret C' S (fun t ht hF => hq (some (.int v)) M t h.2 (by rw [ht]; exact S.1) hF) hd
    · next hret =>
      rw [hret] at C'
      exact xq_zret C' S (p_bits_n h.1).1 (fun t ht hF => hq (some (.int v)) M t h.2 (by rw [ht]; exact S.1) hF) hd
    · exact h.elim
  · exact h.elim
end
section
variable {mt : List pCd} {cd : pCd} {d : Nat} {Q : pQ} {nx a b k pc : Nat} {ls : List (Option Value)} {st : List Value} {M : Mem} {Qc : Array Value → State → Outcome → State → Prop}
theorem sd_lreturn (C : Bx p s m args meth c cd.1.cls cd.2.1 cd.2.2.1 cd.2.2.2.1 D cT ad lay A) (hR : d + 1 ≤ R.frames ∧ 64 * (d + 1) ≤ R.locals) (hcs : kc ≤ R.cells ∧ ks ≤ R.slots) (ih : p_ih l mt lay D cT ad d) (hq : ∀ (r : Option Value) (M : Mem) (t : State), Q r M → HM D cT ad lay M t.heap → va_F A s t → Qc args s (.returned (r.map (cv ad))) t) (ok : p_eb cd.2.1 cd.2.2.1 (pc, nx, .lreturn, a, b, k) = true ∧ p_ew mt cd.1.cls (pc, nx, .lreturn, a, b, k)) (h : p_sem (ex mt lay d) Q (WX p l e R s m args below meth c kc ks D cT ad lay A cd.2.2.1 (MQ below Qc args s kc ks A)) (p_step cd lay nx (.lreturn) a b k pc ls st M)) : WX p l e R s m args below meth c kc ks D cT ad lay A cd.2.2.1 (MQ below Qc args s kc ks A) (pc, ls, st, M) := by
  obtain ⟨ok, ow⟩ := ok
  simp only [p_eb, p_il, Bool.and_eq_true, Bool.or_eq_true, decide_eq_true_eq, beq_iff_eq] at ok
  obtain ⟨⟨⟨hd, hle⟩, hln⟩, hz⟩ := ok
  intro la H locs hl S
  have C' := C
  obtain ⟨⟨⟨hx, hb, hml, hown, hts⟩, hK, hJ⟩, hr, hlk⟩ := C
  simp only [p_step] at h
  have hnx : nx = pc + 1 := by rcases hln with hln | hln <;> omega
  subst hnx
  have hd : decode cd.2.1 pc = .ok (.lreturn, 1) := by rw [hd]; congr 2; omega
  split at h
  · next v =>
    split at h
    · next hret =>
      rw [hret] at C'
      exact xq_lret C' S (fun t ht hF => hq (some (.long v)) M t h.2 (by rw [ht]; exact S.1) hF) hd
    · exact h.elim
  · exact h.elim
end
section
variable {mt : List pCd} {cd : pCd} {d : Nat} {Q : pQ} {nx a b k pc : Nat} {ls : List (Option Value)} {st : List Value} {M : Mem} {Qc : Array Value → State → Outcome → State → Prop}
theorem sd_areturn (C : Bx p s m args meth c cd.1.cls cd.2.1 cd.2.2.1 cd.2.2.2.1 D cT ad lay A) (hR : d + 1 ≤ R.frames ∧ 64 * (d + 1) ≤ R.locals) (hcs : kc ≤ R.cells ∧ ks ≤ R.slots) (ih : p_ih l mt lay D cT ad d) (hq : ∀ (r : Option Value) (M : Mem) (t : State), Q r M → HM D cT ad lay M t.heap → va_F A s t → Qc args s (.returned (r.map (cv ad))) t) (ok : p_eb cd.2.1 cd.2.2.1 (pc, nx, .areturn, a, b, k) = true ∧ p_ew mt cd.1.cls (pc, nx, .areturn, a, b, k)) (h : p_sem (ex mt lay d) Q (WX p l e R s m args below meth c kc ks D cT ad lay A cd.2.2.1 (MQ below Qc args s kc ks A)) (p_step cd lay nx (.areturn) a b k pc ls st M)) : WX p l e R s m args below meth c kc ks D cT ad lay A cd.2.2.1 (MQ below Qc args s kc ks A) (pc, ls, st, M) := by
  obtain ⟨ok, ow⟩ := ok
  simp only [p_eb, p_il, Bool.and_eq_true, Bool.or_eq_true, decide_eq_true_eq, beq_iff_eq] at ok
  obtain ⟨⟨⟨hd, hle⟩, hln⟩, hz⟩ := ok
  intro la H locs hl S
  have C' := C
  obtain ⟨⟨⟨hx, hb, hml, hown, hts⟩, hK, hJ⟩, hr, hlk⟩ := C
  simp only [p_step] at h
  have hnx : nx = pc + 1 := by rcases hln with hln | hln <;> omega
  subst hnx
  have hd : decode cd.2.1 pc = .ok (.areturn, 1) := by rw [hd]; congr 2; omega
  split at h
  · next v =>
    split at h
    · next nm hret =>
      exact xq_aret C' S hret (fun t ht hF => hq (some (.ref v)) M t h.2 (by rw [ht]; exact S.1) hF) hd
    · exact h.elim
  · exact h.elim
end
section
variable {mt : List pCd} {cd : pCd} {d : Nat} {Q : pQ} {nx a b k pc : Nat} {ls : List (Option Value)} {st : List Value} {M : Mem} {Qc : Array Value → State → Outcome → State → Prop}
theorem sd_return_ (C : Bx p s m args meth c cd.1.cls cd.2.1 cd.2.2.1 cd.2.2.2.1 D cT ad lay A) (hR : d + 1 ≤ R.frames ∧ 64 * (d + 1) ≤ R.locals) (hcs : kc ≤ R.cells ∧ ks ≤ R.slots) (ih : p_ih l mt lay D cT ad d) (hq : ∀ (r : Option Value) (M : Mem) (t : State), Q r M → HM D cT ad lay M t.heap → va_F A s t → Qc args s (.returned (r.map (cv ad))) t) (ok : p_eb cd.2.1 cd.2.2.1 (pc, nx, .return_, a, b, k) = true ∧ p_ew mt cd.1.cls (pc, nx, .return_, a, b, k)) (h : p_sem (ex mt lay d) Q (WX p l e R s m args below meth c kc ks D cT ad lay A cd.2.2.1 (MQ below Qc args s kc ks A)) (p_step cd lay nx (.return_) a b k pc ls st M)) : WX p l e R s m args below meth c kc ks D cT ad lay A cd.2.2.1 (MQ below Qc args s kc ks A) (pc, ls, st, M) := by
  obtain ⟨ok, ow⟩ := ok
  simp only [p_eb, p_il, Bool.and_eq_true, Bool.or_eq_true, decide_eq_true_eq, beq_iff_eq] at ok
  obtain ⟨⟨⟨hd, hle⟩, hln⟩, hz⟩ := ok
  intro la H locs hl S
  have C' := C
  obtain ⟨⟨⟨hx, hb, hml, hown, hts⟩, hK, hJ⟩, hr, hlk⟩ := C
  simp only [p_step] at h
  have hnx : nx = pc + 1 := by rcases hln with hln | hln <;> omega
  subst hnx
  have hd : decode cd.2.1 pc = .ok (.return_, 1) := by rw [hd]; congr 2; omega
  split at h
  · split at h
    · next hret =>
      rw [hret] at C'
      exact xq_vret C' S (fun t ht hF => hq none M t h.2 (by rw [ht]; exact S.1) hF) hd
    · exact h.elim
  · exact h.elim
end
section
variable {mt : List pCd} {cd : pCd} {d : Nat} {Q : pQ} {nx a b k pc : Nat} {ls : List (Option Value)} {st : List Value} {M : Mem} {Qc : Array Value → State → Outcome → State → Prop}
theorem sd_all (C : Bx p s m args meth c cd.1.cls cd.2.1 cd.2.2.1 cd.2.2.2.1 D cT ad lay A) (hR : d + 1 ≤ R.frames ∧ 64 * (d + 1) ≤ R.locals) (hcs : kc ≤ R.cells ∧ ks ≤ R.slots) (ih : p_ih l mt lay D cT ad d) (hq : ∀ (r : Option Value) (M : Mem) (t : State), Q r M → HM D cT ad lay M t.heap → va_F A s t → Qc args s (.returned (r.map (cv ad))) t) (i : Instr) (ok : p_eb cd.2.1 cd.2.2.1 (pc, nx, i, a, b, k) = true ∧ p_ew mt cd.1.cls (pc, nx, i, a, b, k)) (h : p_sem (ex mt lay d) Q (WX p l e R s m args below meth c kc ks D cT ad lay A cd.2.2.1 (MQ below Qc args s kc ks A)) (p_step cd lay nx i a b k pc ls st M)) : WX p l e R s m args below meth c kc ks D cT ad lay A cd.2.2.1 (MQ below Qc args s kc ks A) (pc, ls, st, M) := by
  cases i with
  | aload_n n => exact sd_aload_n C hR hcs ih hq ok h
  | aload n => exact sd_aload C hR hcs ih hq ok h
  | iload_n n => exact sd_iload_n C hR hcs ih hq ok h
  | iload n => exact sd_iload C hR hcs ih hq ok h
  | lload_n n => exact sd_lload_n C hR hcs ih hq ok h
  | lload n => exact sd_lload C hR hcs ih hq ok h
  | iconst n => exact sd_iconst C hR hcs ih hq ok h
  | bipush n => exact sd_bipush C hR hcs ih hq ok h
  | sipush n => exact sd_sipush C hR hcs ih hq ok h
  | lconst n => exact sd_lconst C hR hcs ih hq ok h
  | ldc n => exact sd_ldc C hR hcs ih hq ok h
  | ldc_w n => exact sd_ldc_w C hR hcs ih hq ok h
  | ldc2_w n => exact sd_ldc2_w C hR hcs ih hq ok h
  | istore_n n => exact sd_istore_n C hR hcs ih hq ok h
  | istore n => exact sd_istore C hR hcs ih hq ok h
  | astore_n n => exact sd_astore_n C hR hcs ih hq ok h
  | astore n => exact sd_astore C hR hcs ih hq ok h
  | lstore_n n => exact sd_lstore_n C hR hcs ih hq ok h
  | lstore n => exact sd_lstore C hR hcs ih hq ok h
  | iinc n i => exact sd_iinc C hR hcs ih hq ok h
  | iadd => exact sd_iadd C hR hcs ih hq ok h
  | isub => exact sd_isub C hR hcs ih hq ok h
  | imul => exact sd_imul C hR hcs ih hq ok h
  | iand => exact sd_iand C hR hcs ih hq ok h
  | ior => exact sd_ior C hR hcs ih hq ok h
  | ixor => exact sd_ixor C hR hcs ih hq ok h
  | ishl => exact sd_ishl C hR hcs ih hq ok h
  | ishr => exact sd_ishr C hR hcs ih hq ok h
  | ladd => exact sd_ladd C hR hcs ih hq ok h
  | lsub => exact sd_lsub C hR hcs ih hq ok h
  | lmul => exact sd_lmul C hR hcs ih hq ok h
  | land => exact sd_land C hR hcs ih hq ok h
  | lor => exact sd_lor C hR hcs ih hq ok h
  | idiv => exact sd_idiv C hR hcs ih hq ok h
  | irem => exact sd_irem C hR hcs ih hq ok h
  | ldiv => exact sd_ldiv C hR hcs ih hq ok h
  | lrem => exact sd_lrem C hR hcs ih hq ok h
  | iushr => exact sd_iushr C hR hcs ih hq ok h
  | lshl => exact sd_lshl C hR hcs ih hq ok h
  | lshr => exact sd_lshr C hR hcs ih hq ok h
  | i2l => exact sd_i2l C hR hcs ih hq ok h
  | l2i => exact sd_l2i C hR hcs ih hq ok h
  | i2b => exact sd_i2b C hR hcs ih hq ok h
  | lcmp => exact sd_lcmp C hR hcs ih hq ok h
  | dup => exact sd_dup C hR hcs ih hq ok h
  | pop => exact sd_pop C hR hcs ih hq ok h
  | dup_x1 => exact sd_dup_x1 C hR hcs ih hq ok h
  | dup2 => exact sd_dup2 C hR hcs ih hq ok h
  | ifCond q off => exact sd_ifCond C hR hcs ih hq ok h
  | if_icmp q off => exact sd_if_icmp C hR hcs ih hq ok h
  | goto off => exact sd_goto C hR hcs ih hq ok h
  | ifnonnull off => exact sd_ifnonnull C hR hcs ih hq ok h
  | tableswitch df lo hi offs => exact sd_tableswitch C hR hcs ih hq ok h
  | lookupswitch df ps => exact sd_lookupswitch C hR hcs ih hq ok h
  | getfield n => exact sd_getfield C hR hcs ih hq ok h
  | putfield n => exact sd_putfield C hR hcs ih hq ok h
  | iaload => exact sd_iaload C hR hcs ih hq ok h
  | baload => exact sd_baload C hR hcs ih hq ok h
  | laload => exact sd_laload C hR hcs ih hq ok h
  | iastore => exact sd_iastore C hR hcs ih hq ok h
  | bastore => exact sd_bastore C hR hcs ih hq ok h
  | lastore => exact sd_lastore C hR hcs ih hq ok h
  | arraylength => exact sd_arraylength C hR hcs ih hq ok h
  | invokevirtual n => exact sd_invokevirtual C hR hcs ih hq ok h
  | invokestatic n => exact sd_invokestatic C hR hcs ih hq ok h
  | ireturn => exact sd_ireturn C hR hcs ih hq ok h
  | lreturn => exact sd_lreturn C hR hcs ih hq ok h
  | areturn => exact sd_areturn C hR hcs ih hq ok h
  | return_ => exact sd_return_ C hR hcs ih hq ok h
  | _ => exact h.elim
theorem fw_W (C : Bx p s m args meth c cd.1.cls cd.2.1 cd.2.2.1 cd.2.2.2.1 D cT ad lay A) (ok : p_mok mt cd) (hR : d + 1 ≤ R.frames ∧ 64 * (d + 1) ≤ R.locals) (hcs : kc ≤ R.cells ∧ ks ≤ R.slots) (ih : p_ih l mt lay D cT ad d) (hq : ∀ (r : Option Value) (M : Mem) (t : State), Q r M → HM D cT ad lay M t.heap → va_F A s t → Qc args s (.returned (r.map (cv ad))) t) {f : pFr} (h : fw (ex mt lay d) cd lay Q f) : WX p l e R s m args below meth c kc ks D cT ad lay A cd.2.2.1 (MQ below Qc args s kc ks A) f := by
  refine h _ (fun g hg => ?_) (fun pc ls ls' st M hs hX la H locs hl S => hX la H locs (hl.sub hs) S)
  unfold p_stp at hg
  split at hg
  · exact hg.elim
  · next nx i a b k he => exact sd_all C hR hcs ih hq i (ok.2 _ (p_fe_mem he)) hg
end
end PS
theorem p_ea_get (ad : Nat → Nat) : ∀ (av : List Value) (j i : Nat) (v : Value), p_lg (p_ea av) i = some v → (j + i, cv ad v) ∈ lv_args j (av.map (cv ad))
  | [], j, i, v, h => by cases h
  | w :: av, j, i, v, h => by
    simp only [p_ea] at h
    simp only [List.map_cons, lv_args]
    by_cases hc : w.category = 2
    · rw [if_pos hc] at h
      rw [cv_cat, if_pos hc]
      match i, h with
      | 0, h => cases h; exact List.mem_cons_self
      | 1, h => cases h
      | i + 2, h =>
        have := p_ea_get ad av (j + 2) i v h
        rw [show j + (i + 2) = j + 2 + i by omega]
        exact List.mem_cons_of_mem _ this
    · rw [if_neg hc] at h
      rw [cv_cat, if_neg hc]
      match i, h with
      | 0, h => cases h; exact List.mem_cons_self
      | i + 1, h =>
        have := p_ea_get ad av (j + 1) i v h
        rw [show j + (i + 1) = j + 1 + i by omega]
        exact List.mem_cons_of_mem _ this
theorem p_lg_app : ∀ (l : List (Option Value)) (n i : Nat) (v : Value), p_lg (l ++ List.replicate n none) i = some v → p_lg l i = some v
  | [], 0, _, _, h => by cases h
  | [], n + 1, 0, _, h => by cases h
  | [], n + 1, i + 1, v, h => by
    have := p_lg_app [] n i v h
    cases this
  | _ :: _, _, 0, _, h => h
  | _ :: l, n, i + 1, v, h => p_lg_app l n i v h
theorem p_ea_len (ad : Nat → Nat) : ∀ av : List Value, (lg_sl (av.map (cv ad))).length = (p_ea av).length
  | [] => rfl
  | v :: av => by
    have ih := p_ea_len ad av
    simp only [lg_sl, List.map_cons, List.flatMap_cons, List.length_append, p_ea] at ih ⊢
    rw [ih, cv_cat]
    split <;> simp <;> omega
/-- WHAT A CALL COMES TO, THE MACHINE COMES TO -/
theorem ex_met {mt : List pCd} (hmt : ∀ cd ∈ mt, p_mok mt cd) (l : Launch) (lay : List LC) (D : va_G) (cT : Nat → ClassId) (ad : Nat → Nat) : ∀ d, p_ih l mt lay D cT ad d
  | 0 => fun _ _ _ _ _ _ h => h.elim
  | d + 1 => by
    intro y av M Q cd hcd h
    obtain ⟨cd', h1, h2, h3⟩ := h
    have e0 : cd' = cd := Option.some.inj (h1.symm.trans hcd)
    subst e0
    have ok := hmt cd' (List.mem_of_getElem? h1)
    refine body_of ok.1 (by rw [p_ea_len]; exact h2) (fun p e s m args below meth c ls C hl S => ?_)
    refine fw_W (l := l) (e := e) (R := Rm (d + 1) (64 * (d + 1))) (below := below) (kc := 0) (ks := 0) C ok ⟨Nat.le_refl _, Nat.le_refl _⟩ ⟨Nat.le_refl _, Nat.le_refl _⟩ (ex_met hmt l lay D cT ad d) (fun r M t hQ hP hF => ⟨⟨r, M, rfl, hQ, hP⟩, hF⟩) h3 ls s.heap [] ⟨hl.1, hl.2.1, fun q hq => ?_⟩ S
    obtain ⟨v, hv, ev⟩ := p_ll_mem.mp (show (q.1, q.2) ∈ _ from hq)
    have := p_ea_get ad av 0 q.1 v (p_lg_app _ _ _ _ hv)
    rw [Nat.zero_add, ← ev] at this
    exact hl.2.2 q this
