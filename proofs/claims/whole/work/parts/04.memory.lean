/-! THE MEMORY: the cells of a world by numbers; ints and longs by cell and place. A layout says what each cell is; refs are part of the layout (they never change but at a making). -/
abbrev Mem : Type := (Nat → Nat → Int32) × (Nat → Nat → Int64)
/-- a cell's ints set, a cell's longs set -/
def sa (M : Mem) (i : Nat) (f : Nat → Int32) : Mem := (fun a => if a = i then f else M.1 a, M.2)
def sb (M : Mem) (i : Nat) (f : Nat → Int64) : Mem := (M.1, fun a => if a = i then f else M.2 a)
/-- one int set, one long set -/
def si (M : Mem) (i k : Nat) (v : Int32) : Mem := sa M i (upd (M.1 i) k v)
def sj (M : Mem) (i k : Nat) (v : Int64) : Mem := sb M i (vp_updL (M.2 i) k v)
theorem sa_s (M : Mem) (i : Nat) (f : Nat → Int32) : (sa M i f).1 i = f := by simp [sa]
theorem sa_n {M : Mem} {i j : Nat} {f : Nat → Int32} (h : j ≠ i) : (sa M i f).1 j = M.1 j := by simp [sa, h]
theorem sa_2 (M : Mem) (i : Nat) (f : Nat → Int32) : (sa M i f).2 = M.2 := rfl
theorem sb_s (M : Mem) (i : Nat) (f : Nat → Int64) : (sb M i f).2 i = f := by simp [sb]
theorem sb_n {M : Mem} {i j : Nat} {f : Nat → Int64} (h : j ≠ i) : (sb M i f).2 j = M.2 j := by simp [sb, h]
theorem sb_1 (M : Mem) (i : Nat) (f : Nat → Int64) : (sb M i f).1 = M.1 := rfl
/-- a field: an int (none), null (some none), the cell j (some (some j)) -/
abbrev FK : Type := Option (Option Nat)
/-- a cell: an array (its kind: 0 int, 1 long, 2 boolean, 3 byte; its length), an object (the number of its class; its fields) -/
abbrev LC : Type := (Nat × Nat) ⊕ (Nat × List FK)
def kT : Nat → FieldType
  | 0 => .int
  | 1 => .long
  | 2 => .boolean
  | _ => .byte
def fv (ad : Nat → Nat) (M : Mem) (i k : Nat) (fk : FK) : Value := match fk with
  | none => .int (M.1 i k)
  | some none => .null
  | some (some j) => .ref (ad j)
def ce (cT : Nat → ClassId) (ad : Nat → Nat) (M : Mem) (i : Nat) (lc : LC) : va_E := match lc with
  | .inl (t, n) => .inl (cT t, n, if t = 1 then .inr (.inl (M.2 i)) else .inl (M.1 i))
  | .inr (ci, fks) => .inr (ci, fks.mapIdx (fun k fk => fv ad M i k fk))
def cw (cT : Nat → ClassId) (ad : Nat → Nat) (lay : List LC) (M : Mem) : va_W := lay.mapIdx (fun i lc => (ad i, ce cT ad M i lc))
theorem cw_at {cT : Nat → ClassId} {ad : Nat → Nat} {lay : List LC} {M : Mem} {i : Nat} {lc : LC} (h : lay[i]? = some lc) : (cw cT ad lay M)[i]? = some (ad i, ce cT ad M i lc) := by
  simp [cw, h]
theorem cw_len {cT : Nat → ClassId} {ad : Nat → Nat} {lay : List LC} {M : Mem} : (cw cT ad lay M).length = lay.length := by simp [cw]
theorem fv_congr {ad : Nat → Nat} {M M' : Mem} {i : Nat} (h : M.1 i = M'.1 i) (k : Nat) (fk : FK) : fv ad M i k fk = fv ad M' i k fk := by
  unfold fv; rw [h]
theorem ce_congr {cT : Nat → ClassId} {ad : Nat → Nat} {M M' : Mem} {i : Nat} (h : M.1 i = M'.1 i) (h2 : M.2 i = M'.2 i) (lc : LC) : ce cT ad M i lc = ce cT ad M' i lc := by
  unfold ce
  rw [h, h2]
  cases lc with
  | inl q => rfl
  | inr q =>
    have e : (fun k fk => fv ad M i k fk) = (fun k fk => fv ad M' i k fk) := by funext k fk; exact fv_congr h k fk
    simp only [e]
theorem cw_set {cT : Nat → ClassId} {ad : Nat → Nat} {lay : List LC} {M M' : Mem} {i : Nat} {lc : LC} (h : lay[i]? = some lc) (h1 : ∀ j, j ≠ i → M'.1 j = M.1 j) (h2 : ∀ j, j ≠ i → M'.2 j = M.2 j) {e : va_E} (he : e = ce cT ad M' i lc) : (cw cT ad lay M).set i (ad i, e) = cw cT ad lay M' := by
  have hl : i < (cw cT ad lay M).length := by rw [cw_len]; exact (List.getElem?_eq_some_iff.mp h).1
  apply List.ext_getElem?
  intro j
  by_cases hj : j = i
  · subst hj
    rw [List.getElem?_set_self hl, cw_at h, he]
  · rw [List.getElem?_set_ne (Ne.symm hj)]
    simp only [cw, List.getElem?_mapIdx]
    cases lay[j]? with
    | none => rfl
    | some q => simp only [Option.map_some]; rw [ce_congr (h1 j hj).symm (h2 j hj).symm]
theorem cw_si {cT : Nat → ClassId} {ad : Nat → Nat} {lay : List LC} {M : Mem} {i ci k : Nat} {v : Int32} {fks : List FK} (h : lay[i]? = some (.inr (ci, fks))) (hk : fks[k]? = some none) : (cw cT ad lay M).set i (ad i, .inr (ci, (fks.mapIdx (fun k fk => fv ad M i k fk)).set k (.int v))) = cw cT ad lay (si M i k v) := by
  refine cw_set h (fun j hj => sa_n hj) (fun j hj => rfl) ?_
  unfold ce
  refine congrArg (fun z => Sum.inr (ci, z)) ?_
  apply List.ext_getElem?
  intro j
  by_cases hj : j = k
  · subst hj
    rw [List.getElem?_set_self (by rw [List.length_mapIdx]; exact (List.getElem?_eq_some_iff.mp hk).1), List.getElem?_mapIdx, hk]
    simp [fv, si, sa_s, upd]
  · rw [List.getElem?_set_ne (Ne.symm hj)]
    simp only [List.getElem?_mapIdx]
    cases fks[j]? with
    | none => rfl
    | some q =>
      cases q with
      | none => simp [fv, si, sa_s, upd, hj]
      | some q => cases q <;> rfl
def AA (ad : Nat → Nat) (lay : List LC) : Nat → Prop := fun q => ∃ i, i < lay.length ∧ q = ad i
def AJ (A : Nat → Prop) (ad : Nat → Nat) (lay : List LC) : Prop := (∀ i j, i < lay.length → j < lay.length → ad i = ad j → i = j) ∧ ∀ i, i < lay.length → A (ad i)
theorem AJ.own {A : Nat → Prop} {ad : Nat → Nat} {lay : List LC} (h : AJ A ad lay) : AJ (AA ad lay) ad lay := ⟨h.1, fun i hi => ⟨i, hi, rfl⟩⟩
theorem AJ.in {A : Nat → Prop} {ad : Nat → Nat} {lay : List LC} (h : AJ A ad lay) : ∀ q, AA ad lay q → A q := fun q ⟨i, hi, e⟩ => e ▸ h.2 i hi
theorem aj_D {A : Nat → Prop} {cT : Nat → ClassId} {ad : Nat → Nat} {lay : List LC} {M : Mem} (h : AJ A ad lay) : va_D A (cw cT ad lay M) := by
  have key : ∀ (k : Nat) (q : Nat × va_E), (cw cT ad lay M)[k]? = some q → k < lay.length ∧ q.1 = ad k := by
    intro k q hk
    have hl : k < lay.length := by rw [← cw_len (cT := cT) (ad := ad) (M := M)]; exact (List.getElem?_eq_some_iff.mp hk).1
    rw [cw_at (List.getElem?_eq_getElem hl)] at hk
    cases hk
    exact ⟨hl, rfl⟩
  refine ⟨fun i j a b hi hj hab => ?_, fun k q hk => ?_⟩
  · obtain ⟨h1, h2⟩ := key i a hi
    obtain ⟨h3, h4⟩ := key j b hj
    exact h.1 i j h1 h3 (by rw [← h2, ← h4, hab])
  · obtain ⟨h1, h2⟩ := key k q hk
    rw [h2]; exact h.2 k h1
def tyL (cT : Nat → ClassId) : List (ClassId × FieldType) := [(cT 0, .int), (cT 1, .long), (cT 2, .boolean), (cT 3, .byte)]
/-- the calls of nest mates: a class, the place in its pool, the method, the host -/
def nestW : List Cond := [.methodLinkNest RX3 65 yX10_isNode RX10, .methodLinkNest RX5 92 yX10_isNode RX10, .methodLinkNest RX5 11 yX8_init RX10, .methodLinkNest RX9 20 yX2_init RX10, .methodLinkNest RX10 9 yX6_init RX10, .methodLinkNest RX10 18 yX5_init RX10, .methodLinkNest RX10 25 yX9_init RX10, .methodLinkNest RX10 35 yX7_init RX10, .methodLinkNest RX10 42 yX1_init RX10, .methodLinkNest RX10 49 yX0_init RX10, .methodLinkNest RX10 394 yX4_init RX10]
def NW (U : State) : Prop := ∀ w ∈ nestW, va_Nw w U
def KX (D : va_G) (cT : Nat → ClassId) (U : State) : Prop := va_K D vwCl (tyL cT) U ∧ NW U
theorem nestW_M {w : Cond} (h : w ∈ nestW) : ∃ a i x b, w = .methodLinkNest a i x b := by
  simp only [nestW, List.mem_cons, List.not_mem_nil, or_false] at h
  rcases h with h | h | h | h | h | h | h | h | h | h | h <;> exact ⟨_, _, _, _, h⟩
theorem KX.warm {D : va_G} {cT : Nat → ClassId} {s U : State} (hW : s.WarmedH U.vm) (h : KX D cT s) : KX D cT U := by
  refine ⟨va_K.moved hW.alike h.1, fun w hw => ?_⟩
  obtain ⟨a, i, x, b, rfl⟩ := nestW_M hw
  exact va_Nw.warmM hW (h.2 _ hw)
theorem KX.same {D : va_G} {cT : Nat → ClassId} {u U : State} (e : u.vm = U.vm) (h : KX D cT u) : KX D cT U := by
  refine ⟨va_K.moved (by rw [e]; exact Vm.Alike.refl _) h.1, fun w hw => ?_⟩
  obtain ⟨a, i, x, b, rfl⟩ := nestW_M hw
  exact va_Nw.same rfl e (h.2 _ hw)
def HM (D : va_G) (cT : Nat → ClassId) (ad : Nat → Nat) (lay : List LC) (M : Mem) (H : Heap) : Prop := va_P D vwCl (cw cT ad lay M) H
def ST (D : va_G) (cT : Nat → ClassId) (ad : Nat → Nat) (lay : List LC) (A : Nat → Prop) (s : State) (M : Mem) (H : Heap) (locs : List Loc) : Prop := HM D cT ad lay M H ∧ va_S A s.heap H locs
def Cx (p : Program) (s : State) (m : MethodId) (args : Array Value) (c : Code) (own : String) (cc : ByteArray) (nL : Nat) (D : va_G) (cT : Nat → ClassId) (ad : Nat → Nat) (lay : List LC) (A : Nat → Prop) : Prop :=
  (p.tables.exec = Jvm.exec ∧ c.code = cc ∧ c.maxLocals = nL ∧ s.vm.findClass own = some m.cls ∧ ∀ w ∈ wsG, w.before args s = true) ∧ KX D cT s ∧ AJ A ad lay
abbrev Rm (fr lo : Nat) : Room := { frames := fr, cells := 0, slots := 0, locals := lo }
theorem ws_good : wsG.all goodWord = true := List.all_eq_true.mpr (fun _ h => (List.mem_filter.mp h).2)
theorem ws_goodIn (ws : List Cond) (h : ∀ w ∈ ws, w ∈ wsG) : GoodIn wsG ws := fun w hw => ⟨h w hw, good_of_word (List.all_eq_true.mp ws_good w (h w hw))⟩
