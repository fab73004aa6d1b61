/-! THE CLAIM OUT OF ONE WALK OF THE LAW'S BODY. Your part is whole_start (and what it stands on); all else here is the same for every law, but numbers. -/
def R_law : String := "EnginesOutLaw"
def lw_P (b : Addr) (xs : List Int32) (args : Array Value) (s : State) : Prop := args = #[.ref b] ∧ s.IntsAt b xs ∧ xs.length ≤ 2048 ∧ (Jvm.Cond.and given_1 narrow_1).before args s = true
/-- what a walk over the start with the record d0 says of its end, said of the start itself -/
theorem lw_closed {s t : State} {o : Outcome} {d0 : Drawn} {L : List Loc} {k n : Nat} (hd0 : s.drawn.sameBut d0 lw_cs) (hv : ∃ v, o = .returned v) (hW : (s.setDrawn d0).WarmedH t.vm) (hs : (s.setDrawn d0).sameButNew ({ t with vm := s.vm } : State) L k n) : State.butDraws s t lw_cs (fun t1 => Framed s o t1 L k n) := by
  have h2 : t.drawn = d0 := congrArg State.drawn hs.1
  refine ⟨⟨hv, hW, State.sameButNew.setDrawn hs s.drawn⟩, ?_, by decide⟩
  rw [h2]
  exact hd0
def lw_Q (_ : Array Value) (s : State) (o : Outcome) (t : State) : Prop := o = .returned (some (.int 1)) ∧ State.butDraws s t lw_cs (fun t1 => Framed s o t1 [] 601024 7293034)
def lw_Z (below : List Frame) (a : Array Value) (s : State) : State → Prop := fun t => ∃ o, t.status = .running ∧ Ended t below o ∧ lw_Q a s o t
/-- the law's own end, with 1 on the stack, nothing written that was there before, its room as the claim has it; d0: the record of draws at this point (at the entry s.drawn: begin with 'refine W.base ?_' and 'have hd0 := Drawn.sameBut.refl s.drawn lw_cs') -/
theorem lw_ret {p : Program} {l : Launch} {e : Env} {s : State} {m : MethodId} {below : List Frame} {meth : Method} {c : Code} {b : Nat} {d0 : Drawn} (hd0 : s.drawn.sameBut d0 lw_cs) (hx : p.tables.exec = Jvm.exec) (hb : c.code = code) (hr : meth.sig.returnType = ret) (hlocks : meth.locks = false) {pc : Nat} {H : Heap} {ls : Array Slot} (hdg : decode code pc = .ok (.ireturn, 1)) : W p l e room_1 (s.setDrawn d0) m #[Value.ref b] below meth c H [] 601024 7293034 (lw_Z below #[Value.ref b] s) (F0 m pc ls [.int 1]) := by
  intro T hT X
  obtain ⟨fs, hret, hrun, hended, hW, hframe⟩ := X.leave (v := some (.int 1)) (hlocks := hlocks) (fun h => by rw [hr] at h; cases h)
  have hmeth' : T.vm.method? m = some meth := X.method'
  refine ⟨T.setFrames fs, ?_, .returned (some (.int 1)), hrun, hended, rfl, lw_closed hd0 ⟨_, rfl⟩ hW hframe⟩
  jvm_step X.here [X.here.top, hx, hb, hdg, hmeth', hr, ret, narrow_b1]
  (try refine ⟨rfl, ?_⟩); (try refine ⟨rfl, ?_⟩)
  first | (intro acts; rw [hret _ acts rfl rfl rfl]) | rw [hret _ _ rfl rfl rfl]
  exact Steps.refl _
/-- what holds at the law's entry: the machine, the code, the tables' words (any of lw_tbl by 'hts w (by decide +kernel)'), the script of L ints xs at the cell b, what the Statement gives of the start (any of its parts by flat_of_before) -/
def lw_At (p : Program) (s : State) (m : MethodId) (meth : Method) (c : Code) (b L : Nat) (xs : Nat → Int32) : Prop :=
  p.tables.exec = Jvm.exec ∧ c.code = code ∧ meth.sig.returnType = ret ∧ c.maxLocals = 8 ∧ s.vm.findClass R_law = some m.cls ∧ (∀ w ∈ lw_tbl, w.before #[Value.ref b] s = true) ∧ va_X b L xs s s.heap ∧ b < s.heap.size ∧ meth.locks = false ∧ (Jvm.Cond.and given_1 narrow_1).before #[Value.ref b] s = true
/-! THE LAW: what its loop keeps -/
theorem KX_start {p : Program} {s : State} {m : MethodId} {meth : Method} {c : Code} {b L : Nat} {xs : Nat → Int32} (C0 : lw_At p s m meth c b L xs) : ∃ (D : va_G) (cT : Nat → ClassId), KX D cT s := by
  have hts := C0.2.2.2.2.2.1
  have hw : ∀ w ∈ wsG, w.before #[Value.ref b] s = true := fun w h => hts w (wsG_in w h)
  obtain ⟨a0, i0, k0⟩ := u_known (C := RX0) (T := TX0) (N := 4) (n := 4) hw uw_X0 (hw _ wd_388)
  obtain ⟨a1, i1, k1⟩ := u_known (C := RX1) (T := TX1) (N := 4) (n := 4) hw uw_X1 (hw _ wd_365)
  obtain ⟨a2, i2, k2⟩ := u_known (C := RX2) (T := TX2) (N := 12) (n := 12) hw uw_X2 (hw _ wd_245)
  obtain ⟨a3, i3, k3⟩ := u_known (C := RX3) (T := TX3) (N := 9) (n := 9) hw uw_X3 (hw _ wd_157)
  obtain ⟨a4, i4, k4⟩ := u_known (C := RX4) (T := TX4) (N := 9) (n := 9) hw uw_X4 (hw _ wd_913)
  obtain ⟨a5, i5, k5⟩ := u_known (C := RX5) (T := TX5) (N := 7) (n := 7) hw uw_X5 (hw _ wd_135)
  obtain ⟨a6, i6, k6⟩ := u_known (C := RX6) (T := TX6) (N := 2) (n := 2) hw uw_X6 (hw _ wd_119)
  obtain ⟨a7, i7, k7⟩ := u_known (C := RX7) (T := TX7) (N := 4) (n := 4) hw uw_X7 (hw _ wd_342)
  obtain ⟨a8, i8, k8⟩ := u_known (C := RX8) (T := TX8) (N := 2) (n := 2) hw uw_X8 (hw _ wd_141)
  obtain ⟨a9, i9, k9⟩ := u_known (C := RX9) (T := TX9) (N := 6) (n := 6) hw uw_X9 (hw _ wd_237)
  obtain ⟨a10, i10, k10⟩ := u_known (C := RX10) (T := TX10) (N := 9) (n := 9) hw uw_X10 (hw _ wd_111)
  obtain ⟨a11, i11, k11⟩ := u_known (C := RX11) (T := TX11) (N := 31) (n := 31) hw uw_X11 (hw _ wd_1129)
  obtain ⟨c0, kA0, p0, f0, g0, h0⟩ := Cond.arrayClass_spec (hw _ wd_155)
  obtain ⟨c1, kA1, p1, f1, g1, h1⟩ := Cond.arrayClass_spec (hw _ wd_133)
  obtain ⟨c2, kA2, p2, f2, g2, h2⟩ := Cond.arrayClass_spec (hw _ wd_209)
  obtain ⟨c3, kA3, p3, f3, g3, h3⟩ := Cond.arrayClass_spec (hw _ wd_1228)
  refine ⟨(fun k => [a0, a1, a2, a3, a4, a5, a6, a7, a8, a9, a10, a11].getD k a0, fun k => [i0, i1, i2, i3, i4, i5, i6, i7, i8, i9, i10, i11].getD k i0), fun k => [c0, c1, c2, c3].getD k c0, ⟨?_, ?_⟩, ?_⟩
  · intro k q hq
    match k, hq with
    | 0, hq => cases hq; exact k0
    | 1, hq => cases hq; exact k1
    | 2, hq => cases hq; exact k2
    | 3, hq => cases hq; exact k3
    | 4, hq => cases hq; exact k4
    | 5, hq => cases hq; exact k5
    | 6, hq => cases hq; exact k6
    | 7, hq => cases hq; exact k7
    | 8, hq => cases hq; exact k8
    | 9, hq => cases hq; exact k9
    | 10, hq => cases hq; exact k10
    | 11, hq => cases hq; exact k11
    | k + 12, hq => simp [vwCl] at hq
  · intro k q hq
    match k, hq with
    | 0, hq => cases hq; exact ⟨fun n z => ⟨fun k h => (by cases h), kA0, g0, p0, h0⟩, f0⟩
    | 1, hq => cases hq; exact ⟨fun n z => ⟨fun k h => (by cases h), kA1, g1, p1, h1⟩, f1⟩
    | 2, hq => cases hq; exact ⟨fun n z => ⟨fun k h => (by cases h), kA2, g2, p2, h2⟩, f2⟩
    | 3, hq => cases hq; exact ⟨fun n z => ⟨fun k h => (by cases h), kA3, g3, p3, h3⟩, f3⟩
    | k + 4, hq => simp [tyL] at hq
  · have go : ∀ (i : Nat) (w : Cond), w.onTables = true → lw_tbl[i]? = some w → va_Nw w s := fun i w h1 h2 => va_Nw.of h1 (hts w (List.mem_of_getElem? h2))
    intro w hw9
    simp only [nestW, List.mem_cons, List.not_mem_nil, or_false] at hw9
    rcases hw9 with rfl | rfl | rfl | rfl | rfl | rfl | rfl | rfl | rfl | rfl | rfl
    · exact go 579 _ rfl (by decide +kernel)
    · exact go 509 _ rfl (by decide +kernel)
    · exact go 142 _ rfl (by decide +kernel)
    · exact go 246 _ rfl (by decide +kernel)
    · exact go 120 _ rfl (by decide +kernel)
    · exact go 136 _ rfl (by decide +kernel)
    · exact go 238 _ rfl (by decide +kernel)
    · exact go 343 _ rfl (by decide +kernel)
    · exact go 366 _ rfl (by decide +kernel)
    · exact go 389 _ rfl (by decide +kernel)
    · exact go 914 _ rfl (by decide +kernel)
/-- the long array of the law -/
def Outc (D : va_G) (cT : Nat → ClassId) (s : State) (H : Heap) : Prop := ∃ f, va_at D vwCl (s.heap.size + 65, .inl (cT 1, 1, .inr (.inl f))) H
/-- between calls: t have been made -/
def LI (D : va_G) (cT : Nat → ClassId) (s : State) (t : Nat) (H : Heap) (locs : List Loc) (kc ks : Nat) : Prop :=
  ∃ (pl : Option Nat) (tl : List LC) (ad : Nat → Nat) (M : Mem), ((pl = none ∧ tl = [] ∧ kc ≤ 66 + t ∧ ks ≤ 4000 + 6 * t) ∨ (pl = some 65 ∧ tl = PT ∧ kc ≤ 72 + t ∧ ks ≤ 12000 + 6 * t)) ∧ AJ (oA s.heap.size) ad (LY pl tl) ∧ (∀ i, i < (LY pl tl).length → ad i ≠ s.heap.size + 65) ∧ (ad 0 = s.heap.size ∧ ad 52 = s.heap.size + 52) ∧ ST D cT ad (LY pl tl) (oA s.heap.size) s M H locs ∧ Inv t M ∧ Outc D cT s H
abbrev LV (s : State) (b t : Nat) : List (Nat × Value) := [(0, .ref b), (1, .ref s.heap.size), (2, .ref (s.heap.size + 52)), (3, .ref (s.heap.size + 65)), (4, .int (nI (4 * t)))]
abbrev Wl (p : Program) (l : Launch) (e : Env) (s : State) (m : MethodId) (below : List Frame) (meth : Method) (c : Code) (b : Nat) (d0 : Drawn) (H : Heap) (locs : List Loc) (kc ks pc : Nat) (ls : Array Slot) (st : List Value) : Prop := W p l e room_1 (s.setDrawn d0) m #[Value.ref b] below meth c H locs kc ks (lw_Z below #[Value.ref b] s) (F0 m pc ls st)
section S80
variable {p : Program} {l : Launch} {e : Env} {s : State} {m : MethodId} {below : List Frame} {meth : Method} {c : Code} {b L : Nat} {xs : Nat → Int32} {D : va_G} {cT : Nat → ClassId} {ad : Nat → Nat} {lay : List LC} {M : Mem} {t : Nat} {d0 : Drawn} {H : Heap} {locs : List Loc} {kc ks pc : Nat} {ls : Array Slot} {st : List Value}
theorem law_C (C0 : lw_At p s m meth c b L xs) (hK : KX D cT s) (hJ : AJ (oA s.heap.size) ad lay) (d0 : Drawn) : Bx p (s.setDrawn d0) m #[Value.ref b] meth c RL code 8 ret D cT ad lay (oA s.heap.size) := by
  obtain ⟨hx, hb, hr, hml, hown, hts, hX, hbl, hlocks, hgv⟩ := C0
  exact ⟨⟨⟨hx, hb, hml, hown, dr_words (fun w h => hts w (wsG_in w h)) d0⟩, KX.same (u := s) rfl hK, hJ⟩, hr, hlocks⟩
theorem l_arg {k : Nat} (C0 : lw_At p s m meth c b L xs) (hS : va_S (oA s.heap.size) s.heap H locs) (hl : lv_has ls 8 (LV s b t)) (h4 : 4 * t + 4 ≤ L) (hL : L ≤ 2048) (hk : k < 4) (hki : Int32.ofInt k = nI k) (d1 : decode code pc = .ok (.aload_n 0, 1)) (d2 : decode code (pc + 1) = .ok (.iload 4, 2)) (d3 : decode code (pc + 1 + 2) = .ok (.iconst k, 1)) (d4 : decode code (pc + 1 + 2 + 1) = .ok (.iadd, 1)) (d5 : decode code (pc + 1 + 2 + 1 + 1) = .ok (.iaload, 1)) (kk : Wl p l e s m below meth c b d0 H locs kc ks (pc + 1 + 2 + 1 + 1 + 1) ls (.int (xs (4 * t + k)) :: st)) : Wl p l e s m below meth c b d0 H locs kc ks pc ls st := by
  obtain ⟨hx, hb, hr, hml, hown, hts, hX, hbl, hlocks, hgv⟩ := C0
  refine lv_aload_n (k := 0) (i := 0) hx hb d1 rfl (lv_at hl 0 rfl) (lv_iload hx hb d2 (lv_at hl 4 rfl) (lv_iconst (v := nI k) hx hb d3 hki (lv_iadd hx hb d4 ?_)))
  rw [nI_add]
  refine va_sld (A := oA s.heap.size) (xs := xs) (L := L) (b := b) hx hb (va_X.moved (u := s) (U := s.setDrawn d0) (Vm.Alike.refl s.vm) hX) hbl (Nat.not_le.mpr hbl) hS ((z_in (n := 4 * t + k) (N := L) (by omega) (by omega)).mpr (by omega)) d5 ?_
  rw [z_cl (by omega)]
  exact kk
theorem cv_ints (ad : Nat → Nat) (as : List Int32) : (as.map Value.int).map (cv ad) = as.map Value.int := by
  rw [List.map_map]
  rfl
/-- a call in the law; what is not of its world stays -/
theorem l_call {y i ci idx n : Nat} {fks : List FK} {as : List Int32} {Q : Int32 → Mem → Prop} {rest : List Value} (C : Bx p (s.setDrawn d0) m #[Value.ref b] meth c RL code 8 ret D cT ad lay (oA s.heap.size)) (S : ST D cT ad lay (oA s.heap.size) s M H locs) (G : p_cv MT RL idx y ci n) (hex : exI lay 12 y (.ref i :: as.map Value.int) M Q) (hi : lay[i]? = some (.inr (ci, fks))) (hn : as.length = n) (hl : ls.size = 8) (hcs : kc ≤ 601024 ∧ ks ≤ 7293034) (hrm : (rest.map fun v => v.category).sum ≤ 8) (hdg : decode code pc = .ok (.invokevirtual idx, 3))
    (kk : ∀ (v : Int32) (M1 : Mem) (H1 : Heap) (locs1 : List Loc), Q v M1 → ST D cT ad lay (oA s.heap.size) s M1 H1 locs1 → (∀ q, q < H.size → ¬ AA ad lay q → H1[q]? = H[q]?) → H.size ≤ H1.size → Wl p l e s m below meth c b d0 H1 locs1 kc ks (pc + 3) ls (.int v :: rest)) : Wl p l e s m below meth c b d0 H locs kc ks pc ls ((as.map Value.int).reverse ++ .ref (ad i) :: rest) := by
  obtain ⟨cd, hcd, hV, hlk, hm45⟩ := G
  have hM := ex_met MT_ok l lay D cT ad 12 y (.ref i :: as.map Value.int) M (qI Q) cd hcd hex
  have e1 : (Value.ref i :: as.map Value.int).map (cv ad) = .ref (ad i) :: as.map Value.int := by
    rw [List.map_cons, cv_ints]
    rfl
  rw [e1] at hM
  have hr := run_V (l := l) (e := e) (R := room_1) (below := below) (kc := kc) (ks := ks) (pc := pc) (ls := ls) (rest := rest) (st0 := (as.map Value.int).reverse ++ .ref (ad i) :: rest) C S hM hi hV hlk ⟨by decide, by show 8 + (cd.2.2.1 + 11) + 64 * 12 ≤ 84000; omega⟩ hcs hl (by rw [List.length_map]; exact hn) rfl hrm hdg
  intro T hT X
  obtain ⟨v, st₀, t9, T', Lw, h0, X', hL, g1, g2, ⟨⟨r, u, hv, hp, hb⟩, hz, hk⟩, hst⟩ := hr T hT X
  obtain ⟨w, rfl, hq⟩ := hp
  cases hv
  rw [h0] at hz hk
  have hA := C.1.2.2.in
  have hS := S.2
  obtain ⟨t2, a1, b1⟩ := kk w u T'.heap (locs ++ Lw) hq ⟨by rw [g1]; exact hb, Nat.le_trans hS.1 (by rw [g1]; exact hz), fun q h1 h2 => by rw [g1, hk q (Nat.lt_of_lt_of_le h1 hS.1) (fun z => h2 (hA q z))]; exact hS.2.1 q h1 h2, fun q hq => by
      rcases List.mem_append.mp hq with h | h
      · exact hS.2.2 q h
      · exact hA _ (hL q h)⟩ (fun q h1 h2 => by rw [g1]; exact hk q h1 h2) (by rw [g1]; exact hz) T' rfl X'
  exact ⟨t2, hst t2 a1, b1⟩
theorem Outc.kept {H1 : Heap} (h : Outc D cT s H) (hne : ∀ i, i < lay.length → ad i ≠ s.heap.size + 65) (hk : ∀ q, q < H.size → ¬ AA ad lay q → H1[q]? = H[q]?) : Outc D cT s H1 := by
  obtain ⟨f, hf⟩ := h
  exact ⟨f, hf.kept (hk _ hf.lt (fun ⟨i, hi, ei⟩ => hne i hi ei.symm))⟩
end S80
/-- behind an arm -/
def Kont (p : Program) (l : Launch) (e : Env) (s : State) (m : MethodId) (below : List Frame) (meth : Method) (c : Code) (b : Nat) (D : va_G) (cT : Nat → ClassId) (t : Nat) : Prop := ∀ (d0 : Drawn) (H : Heap) (locs : List Loc) (kc ks : Nat) (ls : Array Slot), s.drawn.sameBut d0 lw_cs → LI D cT s (t + 1) H locs kc ks → lv_has ls 8 (LV s b t) → Wl p l e s m below meth c b d0 H locs kc ks 1343 ls []
def ArmL (pc : Nat) : Prop := ∀ (p : Program) (l : Launch) (e : Env) (s : State) (m : MethodId) (below : List Frame) (meth : Method) (c : Code) (b L : Nat) (xs : Nat → Int32) (D : va_G) (cT : Nat → ClassId) (t : Nat) (d0 : Drawn) (H : Heap) (locs : List Loc) (kc ks : Nat) (ls : Array Slot), l.flags = flags0 → lw_At p s m meth c b L xs → KX D cT s → s.drawn.sameBut d0 lw_cs → L ≤ 2048 → 4 * t + 4 ≤ L → LI D cT s t H locs kc ks → lv_has ls 8 (LV s b t) → Kont p l e s m below meth c b D cT t → Wl p l e s m below meth c b d0 H locs kc ks pc ls []
