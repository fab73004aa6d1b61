/-! THE LAW'S OWN row: it catches -/
def PLr (D : va_G) (cT : Nat → ClassId) (ad : Nat → Nat) (lay : List LC) (M : Mem) (x : Int32) (qo : Nat) : Array Value → State → Prop := va_Pc [.ref (ad 0), .int x, .ref qo] (fun U => HM D cT ad lay M U.heap ∧ KX D cT U ∧ AJ (AA ad lay) ad lay ∧ XPH U U.heap ∧ ∃ f, va_at D vwCl (qo, .inl (cT 1, 1, .inr (.inl f))) U.heap)
def QLr (D : va_G) (cT : Nat → ClassId) (M : Mem) (x : Int32) (qo : Nat) : Array Value → State → Outcome → State → Prop := fun _ st oc t => (∃ (r : Int32) (f : Nat → Int64), oc = .returned (some (.int r)) ∧ ((r = 0 ∧ inR M x ∧ f 0 = M.2 2 x.toNatClampNeg) ∨ (r = 1 ∧ ¬ inR M x)) ∧ va_at D vwCl (qo, .inl (cT 1, 1, .inr (.inl f))) t.heap) ∧ va_F (fun q => q = qo) st t
theorem PLr_blind (D : va_G) (cT : Nat → ClassId) (ad : Nat → Nat) (lay : List LC) (M : Mem) (x : Int32) (qo : Nat) : FrameBlind (PLr D cT ad lay M x qo) := by
  intro a U g mk q
  obtain ⟨q0, q1, q2, q3, q4, q5⟩ := q
  exact ⟨q0, q1, KX.same (u := U) (U := U.calling g mk a) rfl q2, q3, XPH.same (u := U) (U := U.calling g mk a) rfl q4, q5⟩
theorem HM_out {D : va_G} {cT : Nat → ClassId} {qo : Nat} {f : Nat → Int64} {H : Heap} : HM D cT (fun _ => qo) [.inl (1, 1)] (sb Zm 0 f) H ↔ va_at D vwCl (qo, .inl (cT 1, 1, .inr (.inl f))) H := by
  constructor
  · intro h
    unfold HM at h
    exact h 0 _ rfl
  · intro h
    unfold HM
    intro k x hx
    have hk1 : k < 1 := by have := (List.getElem?_eq_some_iff.mp hx).1; rw [cw_len] at this; exact this
    rw [show k = 0 by omega] at hx
    cases hx
    exact h
theorem AJ_out (qo : Nat) : AJ (fun q => q = qo) (fun _ => qo) [.inl (1, 1)] := ⟨fun i j hi hj _ => by have hi : i < 1 := hi; have hj : j < 1 := hj; omega, fun i _ => rfl⟩
theorem met_lrow (l : Launch) (hfl : l.stackTraces = false) (D : va_G) (cT : Nat → ClassId) (ad : Nat → Nat) (pl : Option Nat) (tl : List LC) (M : Mem) (x : Int32) (qo : Nat) {n : Nat} (hn : M.1 1 1 = nI n) (hn13 : n ≤ 13) : Met l yL_row (.codeWith yL_row cL_row 4 (some .int) [(0, 8, 11, 13)] :: wsG) (Rk 12 1 6 1024) (PLr D cT ad (LY pl tl) M x qo) (QLr D cT M x qo) 1 6 (fun q => q = qo) := by
  refine va_MetW (cc := cL_row) (maxL := 4) (ret := some .int) (hh := [(0, 8, 11, 13)]) (by decide +kernel) rfl ?_
  intro p e s m args below meth c s₁ B hml hv
  obtain ⟨rfl, hP, hK, hJ, hXP, f, hf⟩ := hv
  have hts0 := atoms_spec (ws := .codeWith yL_row cL_row 4 (some .int) [(0, 8, 11, 13)] :: wsG) B.pre
  have hts : ∀ w ∈ wsG, w.before [Value.ref (ad 0), .int x, .ref qo].toArray s = true := fun w h => hts0 w (List.mem_cons_of_mem _ h)
  have htab := vx_table (x := yL_row) B (hts0 _ List.mem_cons_self)
  have hown : s.vm.findClass RL = some m.cls := findClass_of_methodNamed B.named
  have hl := lv_entry [.ref (ad 0), .int x, .ref qo] (n := 4) (Nat.le_of_ble_eq_true rfl)
  rw [lg_entry_eq]
  generalize (lg_sl [Value.ref (ad 0), .int x, .ref qo] ++ List.replicate (4 - (lg_sl [Value.ref (ad 0), .int x, .ref qo]).length) Slot.unset).toArray = ls at hl ⊢
  have hl : lv_has ls 4 [(0, .ref (ad 0)), (1, .int x), (2, .ref qo)] := hl
  have hx := B.exec
  have hb := B.bytes
  have hlk := B.notSynchronized
  have hCF : CallFix p m c cL_row 4 s [Value.ref (ad 0), .int x, .ref qo].toArray wsG RL := ⟨hx, hb, hml, hown, hts⟩
  have C9 : Bx p s m [Value.ref (ad 0), .int x, .ref qo].toArray meth c RL cL_row 4 (some .int) D cT (fun _ => qo) [.inl (1, 1)] (fun q => q = qo) := ⟨⟨hCF, hK, AJ_out qo⟩, B.returns, hlk⟩
  refine lv_aload_n (k := 2) (i := 2) hx hb (by decide +kernel) rfl (lv_at hl 2 rfl) ?_
  refine lv_iconst (n := 0) (v := nI 0) hx hb (by decide +kernel) rfl ?_
  refine lv_aload_n (k := 0) (i := 0) hx hb (by decide +kernel) rfl (lv_at hl 0 rfl) ?_
  refine lv_iload_n (k := 1) (i := 1) hx hb (by decide +kernel) rfl (lv_at hl 1 rfl) ?_
  have cwx : CallW (Rk 12 1 6 1024) s [Value.ref (ad 0), .int x, .ref qo].toArray RL yX10_row.cls 7 yX10_row cX10_row 2 (some .long) (.code yX10_row cX10_row 2 (some .long) :: wsG) (Rk 8 1 6 512) 1 6 1 := by
    refine cwV 1 hts (ws_goodIn _ ?_) rfl rfl rfl ⟨rfl, by decide, by decide, by decide +kernel⟩ ⟨by decide, by decide⟩
    intro w hw
    simp only [wsV, List.mem_append, List.mem_cons, List.not_mem_nil, or_false] at hw
    rcases hw with (rfl | rfl | rfl | rfl) | rfl | hw
    · exact wd_1063
    · exact wd_1064
    · exact wd_1065
    · exact wd_88
    · exact wd_1066
    · exact hw
  have e0 : ∃ fs, (cw cT ad (LY pl tl) M)[0]? = some (ad 0, .inr (10, fs)) := ⟨_, cw_at (i := 0) (lc := .inr (10, [some (some 1), some (some 3), some (some 15), some (some 29), some (some 43), some (some 46), some (some 47), some pl, none])) rfl⟩
  obtain ⟨fs, e0⟩ := e0
  have hr := vx_runV (l := l) (e := e) (below := below) (meth := meth) (As := [.int x]) (rest := [.int (nI 0), .ref qo]) (g := F0 m 4 ls [.int x, .ref (ad 0), .int (nI 0), .ref qo]) (H := s.heap) (locs := []) (cells := 0) (slots := 0) hCF (met_row l hfl D cT ad pl tl M x hn hn13) cwx ⟨PR_blind _ _ _ _ _ _, va_recv (q0 := 0) (ci := 10) (fs := fs) hK.1 hP rfl e0, fun U hU hW => ⟨rfl, by rw [hU]; exact hP, hK.warm hW, hJ, by rw [hU]; exact hXP.warm hW⟩⟩ rfl rfl hl.1 rfl (lv_room (Nat.le_of_ble_eq_true rfl)) (show decode cL_row 4 = .ok (.invokevirtual 7, 3) by decide +kernel) ⟨by decide, by decide⟩
  intro T hT X
  rcases hr T hT X with ⟨v, st₀, t, T', Lw, h0, X', hL, e1, e2, ⟨⟨hv, hin⟩, hh⟩, hst⟩ | ⟨q, st₀, t, T', Lw, E, ce, h0, X', hL, e1, e2, ⟨hE, hnr, hz, hk⟩, hce, hcv, hcl, hst⟩
  · cases hv
    have hLn : Lw = [] := by
      cases Lw with
      | nil => rfl
      | cons a b => exact (hL a List.mem_cons_self).elim
    subst hLn
    have hH : T'.heap = s.heap := by rw [e1, hh, h0]
    have go : W p l e (Rk 12 1 6 1024) s m [Value.ref (ad 0), .int x, .ref qo].toArray below meth c s.heap [] 1 6 (MQ below (QLr D cT M x qo) [Value.ref (ad 0), .int x, .ref qo].toArray s 1 6 (fun q => q = qo)) (F0 m 7 ls [.long (M.2 2 x.toNatClampNeg), .int (nI 0), .ref qo]) := by
      have S9 : ST D cT (fun _ => qo) [.inl (1, 1)] (fun q => q = qo) s (sb Zm 0 f) s.heap [] := ⟨HM_out.mpr hf, va_S.rf⟩
      refine xq_last (i := 0) (n := 1) C9 S9 rfl ((z_in (by omega) (by omega)).mpr (by omega)) (by decide +kernel) (fun H1 locs1 S1 => ?_)
      refine lv_goto (off := 6) (tgt := 14) hx hb (by decide +kernel) (by decide) ?_
      refine lv_iconst (n := 0) (v := 0) hx hb (by decide +kernel) rfl ?_
      refine xq_iret C9 S1 (fun t ht hF => ⟨⟨0, vp_updL f 0 (M.2 2 x.toNatClampNeg), rfl, Or.inl ⟨rfl, hin, if_pos rfl⟩, ?_⟩, hF⟩) (by decide +kernel)
      rw [ht]
      have h9 := S1.1
      unfold HM at h9
      exact h9 0 _ rfl
    obtain ⟨t2, a1, b1⟩ := go T' hH X'
    exact ⟨t2, hst t2 a1, b1⟩
  · subst hE
    have hLn : Lw = [] := by
      cases Lw with
      | nil => rfl
      | cons a b => exact (hL a List.mem_cons_self).elim
    subst hLn
    rw [h0] at hz hk
    have hk2 : ∀ q : Nat, q < s.heap.size → T'.heap[q]? = s.heap[q]? := fun q hq => by rw [e1]; exact hk q hq
    have go : vx_W p l e (Rk 12 1 6 1024) s m [Value.ref (ad 0), .int x, .ref qo].toArray below meth c T'.heap [] 1 6 (MQ below (QLr D cT M x qo) [Value.ref (ad 0), .int x, .ref qo].toArray s 1 6 (fun q => q = qo)) (F0 m 4 ls [.int (nI 0), .ref qo]) q := by
      refine vx_catch (own := RL) (name := xN) (E := xN) (ce := ce) hown [] ⟨0, 8, 11, 13⟩ [] (by rw [htab]; rfl) (fun z hz => by cases hz) (by decide) (by decide) (hts _ wd_1062) (va_Nw.use rfl (hXP.1 (.castable xN xN) (List.mem_cons_of_mem _ (List.mem_cons_of_mem _ (List.mem_cons_of_mem _ List.mem_cons_self))))) (by rw [e1]; exact hce) hcv hcl ?_
      refine lv_astore_n (k := 3) (i := 3) hx hb (by decide +kernel) rfl hl (by decide) rfl (fun ls1 hl1 => ?_)
      refine lv_iconst (n := 1) (v := 1) hx hb (by decide +kernel) rfl ?_
      have hf1 := hf.kept (hk2 qo hf.lt)
      have S9 : ST D cT (fun _ => qo) [.inl (1, 1)] (fun q => q = qo) s (sb Zm 0 f) T'.heap [] := ⟨HM_out.mpr hf1, by rw [e1]; exact hz, fun q h1 _ => hk2 q h1, fun l h => by cases h⟩
      exact xq_iret C9 S9 (fun t ht hF => ⟨⟨1, f, rfl, Or.inr ⟨rfl, hnr⟩, by rw [ht]; exact hf1⟩, hF⟩) (by decide +kernel)
    obtain ⟨t2, a1, b1⟩ := go T' rfl X'
    exact ⟨t2, hst.trans a1, b1⟩
