/-! THE PLANNER IS MADE: planned() where it is null; moves, needs, up there -/
/-- where the cells are, once the planner is at P -/
def adN (ad : Nat → Nat) (P : Nat) : Nat → Nat := fun j => if j < 65 then ad j else P + (j - 65)
def AN (ad : Nat → Nat) (P : Nat) : Nat → Prop := fun q => AA ad (LY none []) q ∨ P ≤ q
theorem adN_lt {ad : Nat → Nat} {P j : Nat} (h : j < 65) : adN ad P j = ad j := if_pos h
theorem adN_ge {ad : Nat → Nat} {P j : Nat} : adN ad P (65 + j) = P + j := by
  unfold adN
  rw [if_neg (by omega), show 65 + j - 65 = j by omega]
theorem cw_jn2 {cT : Nat → ClassId} {ad ad2 : Nat → Nat} {n : Nat} {lay L : List LC} {M M' : Mem} (hn : lay.length = n) (ha : ∀ j, ad (n + j) = ad2 j) : cw cT ad (lay ++ L.map (shL n)) (jn n M M') = cw cT ad lay M ++ cw cT ad2 L M' := by
  apply List.ext_getElem?
  intro j
  by_cases hj : j < n
  · rw [List.getElem?_append_left (by rw [cw_len, hn]; exact hj), cw_at (lc := lay[j]'(by omega)) (by rw [List.getElem?_append_left (by omega)]; exact List.getElem?_eq_getElem (by omega)), cw_at (List.getElem?_eq_getElem (by omega)), ce_congr (if_pos hj) (if_pos hj)]
  · rw [List.getElem?_append_right (by rw [cw_len]; omega), cw_len, hn]
    by_cases hl : j - n < L.length
    · rw [cw_at (lc := shL n (L[j - n])) (by rw [List.getElem?_append_right (by omega), hn, List.getElem?_map, List.getElem?_eq_getElem hl]; rfl), cw_at (List.getElem?_eq_getElem hl)]
      have e1 : ad j = ad2 (j - n) := by rw [← ha (j - n), show n + (j - n) = j by omega]
      have e2 : ce cT ad (jn n M M') j (shL n (L[j - n])) = ce cT ad2 M' (j - n) (L[j - n]) := by
        have m1 : (jn n M M').1 j = M'.1 (j - n) := if_neg hj
        have m2 : (jn n M M').2 j = M'.2 (j - n) := if_neg hj
        cases L[j - n] with
        | inl q =>
          obtain ⟨t, z⟩ := q
          show (Sum.inl (cT t, z, if t = 1 then .inr (.inl ((jn n M M').2 j)) else .inl ((jn n M M').1 j)) : va_E) = _
          rw [m1, m2]
          rfl
        | inr q =>
          obtain ⟨ci, fks⟩ := q
          show (Sum.inr (ci, (fks.map (shF n)).mapIdx (fun k fk => fv ad (jn n M M') j k fk)) : va_E) = Sum.inr (ci, fks.mapIdx (fun k fk => fv ad2 M' (j - n) k fk))
          congr 2
          apply List.ext_getElem?
          intro k
          rw [List.getElem?_mapIdx, List.getElem?_mapIdx, List.getElem?_map]
          cases fks[k]? with
          | none => rfl
          | some fk =>
            match fk with
            | none =>
              show some (Value.int ((jn n M M').1 j k)) = some (Value.int (M'.1 (j - n) k))
              rw [m1]
            | some none => rfl
            | some (some q) =>
              show some (Value.ref (ad (n + q))) = some (Value.ref (ad2 q))
              rw [ha]
      rw [e1, e2]
    · rw [List.getElem?_eq_none (by rw [cw_len, List.length_append, List.length_map]; omega), List.getElem?_eq_none (by rw [cw_len]; omega)]
/-- refs of a layout are below n -/
def rfB (n : Nat) (lc : LC) : Bool := match lc with
  | .inl _ => true
  | .inr (_, fks) => fks.all (fun fk => match fk with
    | some (some j) => j < n
    | _ => true)
theorem cw_ad {cT : Nat → ClassId} {ad ad2 : Nat → Nat} {n : Nat} {lay : List LC} {M : Mem} (hn : lay.length ≤ n) (hb : lay.all (rfB n) = true) (ha : ∀ j, j < n → ad j = ad2 j) : cw cT ad lay M = cw cT ad2 lay M := by
  apply List.ext_getElem?
  intro j
  by_cases hj : j < lay.length
  · rw [cw_at (List.getElem?_eq_getElem hj), cw_at (List.getElem?_eq_getElem hj), ha j (by omega)]
    have h9 := List.all_eq_true.mp hb lay[j] (List.getElem_mem hj)
    cases hc : lay[j] with
    | inl q => rfl
    | inr q =>
      obtain ⟨ci, fks⟩ := q
      rw [hc] at h9
      show some (ad2 j, (Sum.inr (ci, fks.mapIdx (fun k fk => fv ad M j k fk)) : va_E)) = some (ad2 j, Sum.inr (ci, fks.mapIdx (fun k fk => fv ad2 M j k fk)))
      congr 4
      apply List.ext_getElem?
      intro k
      rw [List.getElem?_mapIdx, List.getElem?_mapIdx]
      cases hf : fks[k]? with
      | none => rfl
      | some fk =>
        have h8 := List.all_eq_true.mp h9 fk (List.mem_of_getElem? hf)
        match fk, h8 with
        | none, _ => rfl
        | some none, _ => rfl
        | some (some q), h8 =>
          show some (Value.ref (ad q)) = some (Value.ref (ad2 q))
          rw [ha q (of_decide_eq_true h8)]
  · rw [List.getElem?_eq_none (by rw [cw_len]; omega), List.getElem?_eq_none (by rw [cw_len]; omega)]
theorem LY_rf : (LY none []).all (rfB 65) = true := by decide +kernel
theorem LY_65 : (LY none []).length = 65 := rfl
def PN (D : va_G) (cT : Nat → ClassId) (ad : Nat → Nat) (M : Mem) (P : Nat) (av : List Value) : Array Value → State → Prop := va_Pc av (fun U => HM D cT ad (LY none []) M U.heap ∧ KX D cT U ∧ AJ (AN ad P) ad (LY none []) ∧ U.heap.size = P)
def QN (D : va_G) (cT : Nat → ClassId) (ad : Nat → Nat) (P : Nat) (Q : pQ) : Array Value → State → Outcome → State → Prop := fun _ st oc t => (∃ (r : Option Value) (M : Mem), oc = .returned (r.map (cv (adN ad P))) ∧ Q r M ∧ HM D cT (adN ad P) LPl M t.heap) ∧ va_F (AN ad P) st t
theorem PN_blind (D : va_G) (cT : Nat → ClassId) (ad : Nat → Nat) (M : Mem) (P : Nat) (av : List Value) : FrameBlind (PN D cT ad M P av) := by
  intro a U g mk q
  obtain ⟨q0, q1, q2, q3⟩ := q
  exact ⟨q0, q1, KX.same (u := U) (U := U.calling g mk a) rfl q2, q3⟩
theorem AJ_N {ad : Nat → Nat} {P : Nat} (h : AJ (AN ad P) ad (LY none [])) (hlt : ∀ i, i < 65 → ad i < P) : AJ (AN ad P) (adN ad P) LPl := by
  have e71 : LPl.length = 71 := rfl
  have hj : ∀ i j, i < 65 → j < 65 → ad i = ad j → i = j := fun i j hi hj => h.1 i j hi hj
  refine ⟨fun i j hi hj2 q => ?_, fun i hi => ?_⟩
  · rw [e71] at hi hj2
    unfold adN at q
    by_cases c1 : i < 65
    · rw [if_pos c1] at q
      by_cases c2 : j < 65
      · rw [if_pos c2] at q; exact hj i j c1 c2 q
      · rw [if_neg c2] at q
        have := hlt i c1
        omega
    · rw [if_neg c1] at q
      by_cases c2 : j < 65
      · rw [if_pos c2] at q
        have := hlt j c2
        omega
      · rw [if_neg c2] at q
        omega
  · by_cases c1 : i < 65
    · rw [adN_lt c1]; exact h.2 i c1
    · refine Or.inr ?_
      unfold adN
      rw [if_neg c1]
      omega
theorem HM_lt {D : va_G} {cT : Nat → ClassId} {ad : Nat → Nat} {lay : List LC} {M : Mem} {H : Heap} (h : HM D cT ad lay M H) {i : Nat} (hi : i < lay.length) : ad i < H.size := by
  unfold HM at h
  exact (h i _ (cw_at (List.getElem?_eq_getElem hi))).lt
theorem body_N {l : Launch} {y : MethodName} {bytes : ByteArray} {maxL : Nat} {ret : Option FieldType} {fr lo : Nat} {av : List Value} {D : va_G} {cT : Nat → ClassId} {ad : Nat → Nat} {P : Nat} {M : Mem} {Qc : Array Value → State → Outcome → State → Prop} (hy : plainName y.cls = true) (hsz : (lg_sl av).length ≤ maxL)
    (body : ∀ (p : Program) (e : Env) (s : State) (m : MethodId) (args : Array Value) (below : List Frame) (meth : Method) (c : Code) (ls : Array Slot), Bx p s m args meth c y.cls bytes maxL ret D cT ad (LY none []) (AN ad P) → s.heap.size = P → lv_has ls maxL (lv_args 0 av) → ST D cT ad (LY none []) (AN ad P) s M s.heap [] → W p l e (Rk fr 6 7243 lo) s m args below meth c s.heap [] 0 0 (MQ below Qc args s 6 7243 (AN ad P)) (F0 m 0 ls [])) :
    Met l y (.code y bytes maxL ret :: wsG) (Rk fr 6 7243 lo) (PN D cT ad M P av) Qc 6 7243 (AN ad P) := by
  refine Met.ofW (cc := bytes) (maxL := maxL) (ret := ret) hy rfl ?_
  intro p e s m args below meth c s₁ B hml hv
  obtain ⟨rfl, hP, hK, hJ, hz⟩ := hv
  have hts := atoms_spec (ws := .code y bytes maxL ret :: wsG) B.pre
  have hown : s.vm.findClass y.cls = some m.cls := findClass_of_methodNamed B.named
  have hl := lv_entry av (n := maxL) hsz
  rw [lg_entry_eq]
  generalize (lg_sl av ++ List.replicate (maxL - (lg_sl av).length) Slot.unset).toArray = ls at hl ⊢
  exact body p e s m av.toArray below meth c ls ⟨⟨⟨B.exec, B.bytes, hml, hown, fun w h => hts w (List.mem_cons_of_mem _ h)⟩, hK, hJ⟩, B.returns, B.notSynchronized⟩ hz hl ⟨hP, va_S.rf⟩
theorem lv_ok {ls : Array Slot} {nL : Nat} {ad : Nat → Nat} {lv : List (Nat × Value)} {als : List (Option Value)} (h : lv_has ls nL lv) (hs : ∀ i v, p_lg als i = some v → (i, cv ad v) ∈ lv) : LvOk ls nL ad als := by
  refine ⟨h.1, h.2.1, fun q hq => ?_⟩
  obtain ⟨v, hv, ev⟩ := p_ll_mem.mp (show (q.1, q.2) ∈ _ from hq)
  have := hs q.1 v hv
  rw [← ev] at this
  exact h.2.2 q this
