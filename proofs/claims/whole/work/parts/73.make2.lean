/-! CONSTRUCTORS: one is at o, its world is from o on; its cells by numbers from 0 -/
abbrev oa (o : Nat) : Nat → Nat := fun j => o + j
abbrev oA (o : Nat) : Nat → Prop := fun q => o ≤ q
theorem oJ (o : Nat) (lay : List LC) : AJ (oA o) (oa o) lay := ⟨fun i j _ _ h => Nat.add_left_cancel h, fun i _ => Nat.le_add_right _ _⟩
def Zm : Mem := (fun _ _ => 0, fun _ _ => 0)
theorem zc_id {M : Mem} {n : Nat} (h1 : M.1 n = fun _ => 0) (h2 : M.2 n = fun _ => 0) : zc M n = M := by
  refine Prod.ext (funext fun a => ?_) (funext fun a => ?_)
  · by_cases h : a = n
    · subst h; exact (if_pos rfl).trans h1.symm
    · exact if_neg h
  · by_cases h : a = n
    · subst h; exact (if_pos rfl).trans h2.symm
    · exact if_neg h
theorem si_id {M : Mem} {i k : Nat} {v : Int32} (h : M.1 i k = v) : si M i k v = M := by
  refine Prod.ext (funext fun a => ?_) rfl
  show (if a = i then upd (M.1 i) k v else M.1 a) = M.1 a
  by_cases e : a = i
  · subst e
    rw [if_pos rfl]
    funext j
    unfold upd
    by_cases ej : j = k
    · subst ej; rw [if_pos rfl]; exact h.symm
    · rw [if_neg ej]
  · rw [if_neg e]
/-- a world behind another: its refs shifted, its memory from n on -/
def shF (n : Nat) (fk : FK) : FK := match fk with
  | some (some j) => some (some (n + j))
  | fk => fk
def shL (n : Nat) (lc : LC) : LC := match lc with
  | .inl q => .inl q
  | .inr (ci, fks) => .inr (ci, fks.map (shF n))
def jn (n : Nat) (M M' : Mem) : Mem := (fun a => if a < n then M.1 a else M'.1 (a - n), fun a => if a < n then M.2 a else M'.2 (a - n))
theorem cw_jn {cT : Nat → ClassId} {o n : Nat} {lay L : List LC} {M M' : Mem} (hn : lay.length = n) : cw cT (oa o) (lay ++ L.map (shL n)) (jn n M M') = cw cT (oa o) lay M ++ cw cT (oa (o + n)) L M' := by
  apply List.ext_getElem?
  intro j
  by_cases hj : j < n
  · rw [List.getElem?_append_left (by rw [cw_len, hn]; exact hj), cw_at (lc := lay[j]'(by omega)) (by rw [List.getElem?_append_left (by omega)]; exact List.getElem?_eq_getElem (by omega)), cw_at (List.getElem?_eq_getElem (by omega)), ce_congr (if_pos hj) (if_pos hj)]
  · rw [List.getElem?_append_right (by rw [cw_len]; omega), cw_len, hn]
    by_cases hl : j - n < L.length
    · rw [cw_at (lc := shL n (L[j - n])) (by rw [List.getElem?_append_right (by omega), hn, List.getElem?_map, List.getElem?_eq_getElem hl]; rfl), cw_at (List.getElem?_eq_getElem hl)]
      have e1 : oa o j = oa (o + n) (j - n) := by show o + j = o + n + (j - n); omega
      have e2 : ce cT (oa o) (jn n M M') j (shL n (L[j - n])) = ce cT (oa (o + n)) M' (j - n) (L[j - n]) := by
        have m1 : (jn n M M').1 j = M'.1 (j - n) := if_neg hj
        have m2 : (jn n M M').2 j = M'.2 (j - n) := if_neg hj
        cases L[j - n] with
        | inl q =>
          obtain ⟨t, z⟩ := q
          show (Sum.inl (cT t, z, if t = 1 then .inr (.inl ((jn n M M').2 j)) else .inl ((jn n M M').1 j)) : va_E) = _
          rw [m1, m2]
          rfl
        | inr q =>
          obtain ⟨ci, fks⟩ := q
          show (Sum.inr (ci, (fks.map (shF n)).mapIdx (fun k fk => fv (oa o) (jn n M M') j k fk)) : va_E) = Sum.inr (ci, fks.mapIdx (fun k fk => fv (oa (o + n)) M' (j - n) k fk))
          congr 2
          apply List.ext_getElem?
          intro k
          rw [List.getElem?_mapIdx, List.getElem?_mapIdx, List.getElem?_map]
          cases fks[k]? with
          | none => rfl
          | some fk =>
            match fk with
            | none =>
              show some (Value.int ((jn n M M').1 j k)) = some (Value.int (M'.1 (j - n) k))
              rw [m1]
            | some none => rfl
            | some (some q) =>
              show some (Value.ref (o + (n + q))) = some (Value.ref (o + n + q))
              rw [Nat.add_assoc]
      rw [e1, e2]
    · rw [List.getElem?_eq_none (by rw [cw_len, List.length_append, List.length_map]; omega), List.getElem?_eq_none (by rw [cw_len]; omega)]
section S73
variable {p : Program} {l : Launch} {e : Env} {R : Room} {s : State} {m : MethodId} {args : Array Value} {below : List Frame} {meth : Method} {c : Code} {H : Heap} {locs : List Loc} {kc ks : Nat} {Q : State → Prop}
variable {own : String} {cc : ByteArray} {nL : Nat} {ret : Option FieldType} {D : va_G} {cT : Nat → ClassId} {ad : Nat → Nat} {lay : List LC} {A : Nat → Prop} {M : Mem} {pc : Nat} {ls : Array Slot} {rest : List Value}
/-- the heap is no larger than what was made says -/
theorem w_sz {g : JFrame} (kk : H.size ≤ s.heap.size + kc → W p l e R s m args below meth c H locs kc ks Q g) : W p l e R s m args below meth c H locs kc ks Q g := fun T hT X => kk (by have h := X.same.2.2.1; rw [← hT]; exact h) T hT X
/-- new -/
theorem xq_new (C : Bx p s m args meth c own cc nL ret D cT ad lay A) (S : ST D cT ad lay A s M H locs) {ci index : Nat} {fks : List FK} {Cn : String} {T : u_T} {N : Nat} (hc : vwCl[ci]? = some (Cn, T, N)) (hin : ∀ w ∈ u_ws Cn T N, w ∈ wsG) (ty0 : Nat → FieldType) (hty : ∀ k, k < N → parseFieldDescriptor (T k).2.2.1 = some (ty0 k)) (hcl : Cond.classLink own index Cn ∈ wsG) (hins : Cond.instantiable Cn N ∈ wsG) (hini : Cond.initialized Cn ∈ wsG) (hf : ∀ k, k < N → defaultValue (ty0 k) = vp_V (fks.mapIdx (fun k fk => fv ad (zc M lay.length) lay.length k fk)) k) (had : ad lay.length = H.size) (hcells : kc + 1 ≤ R.cells) (hslots : ks + N ≤ R.slots) (hdg : decode cc pc = .ok (.new index, 3))
    (kk : ∀ H1 : Heap, ST D cT ad (lay ++ [.inr (ci, fks)]) A s (zc M lay.length) H1 locs → W p l e R s m args below meth c H1 locs (kc + 1) (ks + N) Q (F0 m (pc + 3) ls (.ref (ad lay.length) :: rest))) : W p l e R s m args below meth c H locs kc ks Q (F0 m pc ls rest) := by
  obtain ⟨⟨⟨hx, hb, hml, hown, hts⟩, hK, hJ⟩, hr, hlk⟩ := C
  have hKn := hK.1.1 ci _ hc
  refine W.newcK hx hb hown (hts _ hcl) (hts _ hins) (hts _ hini) rfl hdg hcells hslots hKn.2.1 rfl fun H1 kC hkC e1 z1 o1 => ?_
  have hP := S.1
  unfold HM at hP
  have hk : ∀ (k : Nat) (x : Nat × va_E), (cw cT ad lay M)[k]? = some x → H1[x.1]? = H[x.1]? := fun k x hx => o1 x.1 ((hP k x hx).lt)
  have hgo := kk H1 ⟨?_, Nat.le_trans S.2.1 (by omega), fun x h1 h2 => (o1 x (Nat.lt_of_lt_of_le h1 S.2.1)).trans (S.2.2.1 x h1 h2), S.2.2.2⟩
  · rw [had] at hgo
    exact hgo
  · unfold HM
    rw [cw_app (M := M) (fun j hj => zc_1 (by omega)) (fun j hj => zc_2 (by omega))]
    refine (hP.kept hk).app (fun k x hx => ?_)
    have hz : k < 1 := (List.getElem?_eq_some_iff.mp hx).1
    rw [show k = 0 by omega] at hx
    cases hx
    refine ⟨_, hc, ?_⟩
    show t_OB (ad lay.length) _ _ _ _ _
    rw [had]
    exact (u_born ty0 hts hin hKn hkC e1 hty).to hf
/-- a field that holds a cell is set, in a constructor -/
theorem xq_putr (C : Bx p s m args meth c own cc nL ret D cT ad lay A) (hinit : meth.name = "<init>" ∨ True) (S : ST D cT ad lay A s M H locs) {i ci k index j0 : Nat} {fks : List FK} {Cn : String} {T : u_T} {N : Nat} (hi : lay[i]? = some (.inr (ci, fks))) (hc : vwCl[ci]? = some (Cn, T, N)) (hin : ∀ w ∈ u_ws Cn T N, w ∈ wsG) (ty0 : Nat → FieldType) (hty : ∀ k, k < N → parseFieldDescriptor (T k).2.2.1 = some (ty0 k)) (hnm : ∀ a, a < N → ∀ b, b < N → a ≠ b → (T a).2.1 ≠ (T b).2.1) (hk : k < N) (hf : k < fks.length) (hlink : Cond.fieldLink own index (T k).1 (T k).2.1 (T k).2.2.1 ∈ wsG) (hfin : (T k).2.2.2 = false ∨ (meth.name = "<init>" ∧ (T k).1 = own)) (hn : ∀ v : Nat, narrow (ty0 k) (.ref v) = .ref v) (hfit : ∀ v : Nat, fits (ty0 k) (.ref v) = true) (hdg : decode cc pc = .ok (.putfield index, 3))
    (kk : ∀ (H : Heap) (locs : List Loc), ST D cT ad (lay.set i (.inr (ci, fks.set k (some (some j0))))) A s M H locs → W p l e R s m args below meth c H locs kc ks Q (F0 m (pc + 3) ls rest)) : W p l e R s m args below meth c H locs kc ks Q (F0 m pc ls (.ref (ad j0) :: .ref (ad i) :: rest)) := by
  obtain ⟨⟨⟨hx, hb, hml, hown, hts⟩, hK, hJ⟩, hr, hlk⟩ := C
  have eW := cw_ref (cT := cT) (ad := ad) (M := M) (j0 := j0) hi hf
  have go : ∀ (H1 : Heap) (locs1 : List Loc), va_P D vwCl ((cw cT ad lay M).set i (ad i, .inr (ci, (fks.mapIdx (fun k fk => fv ad M i k fk)).set k (.ref (ad j0))))) H1 → va_D A ((cw cT ad lay M).set i (ad i, .inr (ci, (fks.mapIdx (fun k fk => fv ad M i k fk)).set k (.ref (ad j0))))) → va_S A s.heap H1 locs1 → W p l e R s m args below meth c H1 locs1 kc ks Q (F0 m (pc + 3) ls rest) := fun H1 locs1 hP hD hS => kk H1 locs1 ⟨by unfold HM; rw [← eW]; exact hP, hS⟩
  have hll : k < (fks.mapIdx (fun k fk => fv ad M i k fk)).length := by rw [List.length_mapIdx]; exact hf
  cases hT : (T k).2.2.2 with
  | false => exact va_put (ci := ci) hx hb hts hin ty0 hty hnm hown hK.1 S.1 (aj_D hJ) S.2 i (cw_at hi) hc k hk (hts _ hlink) (fun _ h => h) hT (hty k hk) (hn _) (hfit _) hll hdg go
  | true =>
    rcases hfin with h | ⟨h1, h2⟩
    · rw [hT] at h; cases h
    · exact va_putF (ci := ci) hx hb hts hin ty0 hty hnm hown hK.1 S.1 (aj_D hJ) S.2 i (cw_at hi) hc k hk (hts _ hlink) (fun _ h => h) hT h1 h2 (hty k hk) (hn _) (hfit _) hll hdg go
/-- Object.<init> -/
theorem xq_obj (C : Bx p s m args meth c own cc nL ret D cT ad lay A) {idx a : Nat} (hl : ls.size = nL) (h1 : Cond.methodLink own idx objectInit ∈ wsG) (h2 : Cond.instanceMethod objectInit ∈ wsG) (h3 : Cond.code objectInit ⟨#[0xb1]⟩ 1 none ∈ wsG) (hd : decode cc pc = .ok (.invokespecial idx, 3)) (hframes : 1 ≤ R.frames) (hlocals : 12 ≤ R.locals) (kk : W p l e R s m args below meth c H locs kc ks Q (F0 m (pc + 3) ls [])) : W p l e R s m args below meth c H locs kc ks Q (F0 m pc ls [.ref a]) := by
  obtain ⟨⟨⟨hx, hb, hml, hown, hts⟩, hK, hJ⟩, hr, hlk⟩ := C
  refine W.objInit hx hb hown (hts _ h1) (hts _ h2) (hts _ h3) rfl (by rw [hml]; exact hl) rfl hd hframes (by simpa [F0] using hlocals) ?_
  exact kk
/-- how large the heap is -/
theorem k_sz {o : Nat} {g : JFrame} (S : ST D cT (oa o) lay A s M H locs) (h0 : s.heap.size + kc = o + lay.length) (hl : 0 < lay.length) (kk : oa o lay.length = H.size → W p l e R s m args below meth c H locs kc ks Q g) : W p l e R s m args below meth c H locs kc ks Q g := by
  refine w_sz (fun hz => kk ?_)
  have hP := S.1
  unfold HM at hP
  have := (hP (lay.length - 1) _ (cw_at (List.getElem?_eq_getElem (by omega)))).lt
  show o + lay.length = H.size
  have h2 : o + (lay.length - 1) < H.size := this
  omega
end S73
