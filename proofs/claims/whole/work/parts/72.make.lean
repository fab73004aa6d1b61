/-! MAKING: a layout grows, cell by cell -/
def zc (M : Mem) (i : Nat) : Mem := (fun a => if a = i then (fun _ => 0) else M.1 a, fun a => if a = i then (fun _ => 0) else M.2 a)
theorem zc_1 {M : Mem} {i j : Nat} (h : j ≠ i) : (zc M i).1 j = M.1 j := if_neg h
theorem zc_2 {M : Mem} {i j : Nat} (h : j ≠ i) : (zc M i).2 j = M.2 j := if_neg h
theorem zc_s (M : Mem) (i : Nat) : (zc M i).1 i = (fun _ => 0) ∧ (zc M i).2 i = (fun _ => 0) := ⟨if_pos rfl, if_pos rfl⟩
theorem cw_app {cT : Nat → ClassId} {ad : Nat → Nat} {lay : List LC} {M M' : Mem} {lc : LC} (h1 : ∀ j, j < lay.length → M'.1 j = M.1 j) (h2 : ∀ j, j < lay.length → M'.2 j = M.2 j) : cw cT ad (lay ++ [lc]) M' = cw cT ad lay M ++ [(ad lay.length, ce cT ad M' lay.length lc)] := by
  apply List.ext_getElem?
  intro j
  by_cases hj : j < lay.length
  · rw [List.getElem?_append_left (by rw [cw_len]; exact hj), cw_at (lc := lay[j]) (by rw [List.getElem?_append_left hj]; exact List.getElem?_eq_getElem hj), cw_at (List.getElem?_eq_getElem hj), ce_congr (h1 j hj) (h2 j hj)]
  · rw [List.getElem?_append_right (by rw [cw_len]; omega), cw_len]
    by_cases e : j = lay.length
    · subst e
      rw [cw_at (lc := lc) (by rw [List.getElem?_append_right (Nat.le_refl _), Nat.sub_self]; rfl), Nat.sub_self]
      rfl
    · have l1 : (cw cT ad (lay ++ [lc]) M').length ≤ j := by rw [cw_len, List.length_append]; show lay.length + 1 ≤ j; omega
      rw [List.getElem?_eq_none l1, List.getElem?_eq_none (by show 1 ≤ j - lay.length; omega)]
theorem cw_ref {cT : Nat → ClassId} {ad : Nat → Nat} {lay : List LC} {M : Mem} {i ci k j0 : Nat} {fks : List FK} (h : lay[i]? = some (.inr (ci, fks))) (hk : k < fks.length) : (cw cT ad lay M).set i (ad i, .inr (ci, (fks.mapIdx (fun k fk => fv ad M i k fk)).set k (.ref (ad j0)))) = cw cT ad (lay.set i (.inr (ci, fks.set k (some (some j0))))) M := by
  have hl : i < lay.length := (List.getElem?_eq_some_iff.mp h).1
  apply List.ext_getElem?
  intro j
  by_cases hj : j = i
  · subst hj
    rw [List.getElem?_set_self (by rw [cw_len]; exact hl), cw_at (lc := .inr (ci, fks.set k (some (some j0)))) (by rw [List.getElem?_set_self hl])]
    unfold ce
    refine congrArg (fun z => some (ad j, Sum.inr (ci, z))) ?_
    apply List.ext_getElem?
    intro q
    by_cases hq : q = k
    · subst hq
      rw [List.getElem?_set_self (by rw [List.length_mapIdx]; exact hk), List.getElem?_mapIdx, List.getElem?_set_self hk]
      rfl
    · rw [List.getElem?_set_ne (Ne.symm hq), List.getElem?_mapIdx, List.getElem?_mapIdx, List.getElem?_set_ne (Ne.symm hq)]
  · rw [List.getElem?_set_ne (Ne.symm hj)]
    simp only [cw, List.getElem?_mapIdx]
    rw [List.getElem?_set_ne (Ne.symm hj)]
/-- where the cells are: N of them, apart, all in A -/
def AJN (A : Nat → Prop) (ad : Nat → Nat) (N : Nat) : Prop := (∀ i j, i < N → j < N → ad i = ad j → i = j) ∧ ∀ i, i < N → A (ad i)
theorem AJN.aj {A : Nat → Prop} {ad : Nat → Nat} {N : Nat} {lay : List LC} (h : AJN A ad N) (hl : lay.length ≤ N) : AJ A ad lay := ⟨fun i j hi hj => h.1 i j (by omega) (by omega), fun i hi => h.2 i (by omega)⟩
section S72
variable {p : Program} {l : Launch} {e : Env} {R : Room} {s : State} {m : MethodId} {args : Array Value} {below : List Frame} {meth : Method} {c : Code} {H : Heap} {locs : List Loc} {kc ks : Nat} {Q : State → Prop}
variable {own : String} {cc : ByteArray} {nL : Nat} {ret : Option FieldType} {D : va_G} {cT : Nat → ClassId} {ad : Nat → Nat} {lay : List LC} {A : Nat → Prop} {M : Mem} {pc : Nat} {ls : Array Slot} {rest : List Value}
theorem Bx_lay {lay' : List LC} (C : Bx p s m args meth c own cc nL ret D cT ad lay A) (hJ : AJ A ad lay') : Bx p s m args meth c own cc nL ret D cT ad lay' A := ⟨⟨C.1.1, C.1.2.1, hJ⟩, C.2⟩
theorem cT_eq (hK : KX D cT s) {t : Nat} (ht : t < 4) {cA : ClassId} (h : s.vm.findClass ("[" ++ (kT t).toString) = some cA) : cA = cT t := by
  have := (hK.1.2 t (cT t, kT t) (tyL_at t ht)).2
  have e : s.vm.findClass ("[" ++ (kT t).toString) = some (cT t) := by
    match t, ht, this with
    | 0, _, h => exact h
    | 1, _, h => exact h
    | 2, _, h => exact h
    | 3, _, h => exact h
  exact Option.some.inj (h.symm.trans e)
theorem xq_newa (C : Bx p s m args meth c own cc nL ret D cT ad lay A) (S : ST D cT ad lay A s M H locs) {t n : Nat} {atype : ArrayType} (ht : t < 4) (hty : newarray.typeOf atype = kT t) (hw : Cond.arrayClass (kT t) ∈ wsG) (had : ad lay.length = H.size) (hn : n < 2147483648) (hbytes : n * componentBytes (kT t) ≤ 536870912) (hcells : kc + 1 ≤ R.cells) (hslots : ks + n ≤ R.slots) (hdg : decode cc pc = .ok (.newarray atype, 2))
    (kk : ∀ H1 : Heap, H1.size = H.size + 1 → ST D cT ad (lay ++ [.inl (t, n)]) A s (zc M lay.length) H1 locs → W p l e R s m args below meth c H1 locs (kc + 1) (ks + n) Q (F0 m (pc + 2) ls (.ref (ad lay.length) :: rest))) : W p l e R s m args below meth c H locs kc ks Q (F0 m pc ls (.int (nI n) :: rest)) := by
  obtain ⟨⟨⟨hx, hb, hml, hown, hts⟩, hK, hJ⟩, hr, hlk⟩ := C
  refine va_newaK (g := F0 m pc ls (.int (nI n) :: rest)) hx hb (by rw [hty]; exact hts _ hw) rfl hdg rfl (nI_pos hn) (z_cl hn) (by rw [hty]; exact hbytes) hcells hslots rfl fun H1 cA e1 z1 o1 hAr hNm => ?_
  rw [hty] at hNm e1
  have hcA := cT_eq hK ht hNm
  subst hcA
  have hP := S.1
  unfold HM at hP
  have hk : ∀ (k : Nat) (x : Nat × va_E), (cw cT ad lay M)[k]? = some x → H1[x.1]? = H[x.1]? := fun k x hx => o1 x.1 ((hP k x hx).lt)
  have hgo := kk H1 z1 ⟨?_, Nat.le_trans S.2.1 (by omega), fun x h1 h2 => (o1 x (Nat.lt_of_lt_of_le h1 S.2.1)).trans (S.2.2.1 x h1 h2), S.2.2.2⟩
  · rw [had] at hgo
    exact hgo
  · unfold HM
    rw [cw_app (M := M) (fun j hj => zc_1 (by omega)) (fun j hj => zc_2 (by omega))]
    refine (hP.kept hk).app (fun k x hx => ?_)
    have hz : k < 1 := (List.getElem?_eq_some_iff.mp hx).1
    rw [show k = 0 by omega] at hx
    cases hx
    show H1[ad lay.length]? = some (vp_cell _ _)
    rw [had, e1]
    congr 1
    match t, ht with
    | 0, _ => unfold vp_cell; rw [(zc_s M lay.length).1]; rfl
    | 1, _ => unfold vp_cell; rw [(zc_s M lay.length).2]; rfl
    | 2, _ => unfold vp_cell; rw [(zc_s M lay.length).1]; rfl
    | 3, _ => unfold vp_cell; rw [(zc_s M lay.length).1]; rfl
end S72
