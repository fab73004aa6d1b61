/-! SHARE: the reference's method draws (its quotient may be no number) -/
section S90
variable {p : Program} {l : Launch} {e : Env} {R : Room} {s : State} {m : MethodId} {args : Array Value} {below : List Frame} {meth : Method} {c : Code} {H : Heap} {locs : List Loc} {kc ks : Nat} {QW : State → Prop}
variable {own : String} {cc : ByteArray} {nL : Nat} {ret : Option FieldType} {D : va_G} {cT : Nat → ClassId} {ad : Nat → Nat} {lay : List LC} {A : Nat → Prop} {M : Mem} {pc : Nat} {ls : Array Slot} {rest : List Value}
theorem x_cv {y i ci idx n d : Nat} {fks : List FK} {as : List Int32} {Q : pQ} (C : Bx p s m args meth c own cc nL ret D cT ad lay A) (S : ST D cT ad lay A s M H locs) (G : p_cv MT own idx y ci n) (hex : ex MT lay d y (.ref i :: as.map Value.int) M Q) (hi : lay[i]? = some (.inr (ci, fks))) (hn : as.length = n) (hl : ls.size = nL) (hR : d + 1 ≤ R.frames ∧ 64 * (d + 1) ≤ R.locals) (hcs : kc ≤ R.cells ∧ ks ≤ R.slots) (hrm : (rest.map fun v => v.category).sum ≤ 8) (hdg : decode cc pc = .ok (.invokevirtual idx, 3))
    (kk : ∀ (r : Option Value) (M1 : Mem) (H1 : Heap) (locs1 : List Loc), Q r M1 → ST D cT ad lay A s M1 H1 locs1 → W p l e R s m args below meth c H1 locs1 kc ks QW (F0 m (pc + 3) ls ((r.map (cv ad)).toList ++ rest))) : W p l e R s m args below meth c H locs kc ks QW (F0 m pc ls ((as.map Value.int).reverse ++ .ref (ad i) :: rest)) := by
  obtain ⟨cd, hcd, hV, hlk, hm45⟩ := G
  have hM := ex_met MT_ok l lay D cT ad d y (.ref i :: as.map Value.int) M Q cd hcd hex
  have e1 : (Value.ref i :: as.map Value.int).map (cv ad) = .ref (ad i) :: as.map Value.int := by
    rw [List.map_cons, cv_ints]
    rfl
  rw [e1] at hM
  exact go_X C S (run_V (l := l) (e := e) (R := R) (below := below) (kc := kc) (ks := ks) (pc := pc) (ls := ls) (rest := rest) (st0 := (as.map Value.int).reverse ++ .ref (ad i) :: rest) C S hM hi hV hlk ⟨hR.1, by omega⟩ hcs hl (by rw [List.length_map]; exact hn) rfl hrm hdg) kk
theorem x_cvI {y i ci idx n d : Nat} {fks : List FK} {as : List Int32} {Q : Int32 → Mem → Prop} (C : Bx p s m args meth c own cc nL ret D cT ad lay A) (S : ST D cT ad lay A s M H locs) (G : p_cv MT own idx y ci n) (hex : exI lay d y (.ref i :: as.map Value.int) M Q) (hi : lay[i]? = some (.inr (ci, fks))) (hn : as.length = n) (hl : ls.size = nL) (hR : d + 1 ≤ R.frames ∧ 64 * (d + 1) ≤ R.locals) (hcs : kc ≤ R.cells ∧ ks ≤ R.slots) (hrm : (rest.map fun v => v.category).sum ≤ 8) (hdg : decode cc pc = .ok (.invokevirtual idx, 3))
    (kk : ∀ (v : Int32) (M1 : Mem) (H1 : Heap) (locs1 : List Loc), Q v M1 → ST D cT ad lay A s M1 H1 locs1 → W p l e R s m args below meth c H1 locs1 kc ks QW (F0 m (pc + 3) ls (.int v :: rest))) : W p l e R s m args below meth c H locs kc ks QW (F0 m pc ls ((as.map Value.int).reverse ++ .ref (ad i) :: rest)) :=
  x_cv C S G hex hi hn hl hR hcs hrm hdg (fun r M1 H1 locs1 hq S1 => by
    obtain ⟨v, rfl, hq⟩ := hq
    exact kk v M1 H1 locs1 hq S1)
theorem x_cvV {y i ci idx n d : Nat} {fks : List FK} {as : List Int32} {Q : Mem → Prop} (C : Bx p s m args meth c own cc nL ret D cT ad lay A) (S : ST D cT ad lay A s M H locs) (G : p_cv MT own idx y ci n) (hex : exV lay d y (.ref i :: as.map Value.int) M Q) (hi : lay[i]? = some (.inr (ci, fks))) (hn : as.length = n) (hl : ls.size = nL) (hR : d + 1 ≤ R.frames ∧ 64 * (d + 1) ≤ R.locals) (hcs : kc ≤ R.cells ∧ ks ≤ R.slots) (hrm : (rest.map fun v => v.category).sum ≤ 8) (hdg : decode cc pc = .ok (.invokevirtual idx, 3))
    (kk : ∀ (M1 : Mem) (H1 : Heap) (locs1 : List Loc), Q M1 → ST D cT ad lay A s M1 H1 locs1 → W p l e R s m args below meth c H1 locs1 kc ks QW (F0 m (pc + 3) ls rest)) : W p l e R s m args below meth c H locs kc ks QW (F0 m pc ls ((as.map Value.int).reverse ++ .ref (ad i) :: rest)) :=
  x_cv C S G hex hi hn hl hR hcs hrm hdg (fun r M1 H1 locs1 hq S1 => by
    obtain ⟨rfl, hq⟩ := hq
    exact kk M1 H1 locs1 hq S1)
end S90
theorem met_share (l : Launch) (D : va_G) (cT : Nat → ClassId) (ad : Nat → Nat) (pl : Option Nat) (tl : List LC) (M : Mem) {Q : Int32 → Mem → Prop} (hch : exV (LY pl tl) 5 165 [.ref 52] (si M 52 7 (nI 0)) (fun M1 => exI (LY pl tl) 5 189 [.ref 52] M1 (fun r2 M2 => exI (LY pl tl) 5 166 [.ref 52, .int r2] M2 (fun r3 M3 => exI (LY pl tl) 5 186 [.ref 52] M3 (fun r4 M4 => ∀ r, alike32 r (FP.fdiv (FP.i2f r3) (FP.i2f r4)) = true → Q (fbI r) M4))))) : MetD lw_cs l yX11_share (.code yX11_share cX11_share 1 (some .int) :: wsG) (Rm 8 512) (Pc0 D cT ad (LY pl tl) M [.ref (ad 52)]) (QcX D cT ad (LY pl tl) (AA ad (LY pl tl)) (qI Q)) 0 0 (AA ad (LY pl tl)) := by
  refine MetD.ofW (cc := cX11_share) (maxL := 1) (ret := some .int) (by decide +kernel) rfl ?_
  intro p e s m args below meth c s₁ B hml hv hd0
  obtain ⟨rfl, hP, hK, hJ⟩ := hv
  have hts0 := atoms_spec (ws := .code yX11_share cX11_share 1 (some .int) :: wsG) B.pre
  have hts : ∀ w ∈ wsG, w.before [Value.ref (ad 52)].toArray s = true := fun w h => hts0 w (List.mem_cons_of_mem _ h)
  have hown : s.vm.findClass RX11 = some m.cls := findClass_of_methodNamed B.named
  have hl := lv_entry [.ref (ad 52)] (n := 1) (Nat.le_of_ble_eq_true rfl)
  rw [lg_entry_eq]
  generalize (lg_sl [Value.ref (ad 52)] ++ List.replicate (1 - (lg_sl [Value.ref (ad 52)]).length) Slot.unset).toArray = ls at hl ⊢
  have hl : lv_has ls 1 [(0, .ref (ad 52))] := hl
  have C : ∀ d, Bx p (s.setDrawn d) m [Value.ref (ad 52)].toArray meth c RX11 cX11_share 1 (some .int) D cT ad (LY pl tl) (AA ad (LY pl tl)) := fun d => ⟨⟨⟨B.exec, B.bytes, hml, hown, dr_words hts d⟩, KX.same (u := s) rfl hK, hJ⟩, B.returns, B.notSynchronized⟩
  have hx := B.exec
  have hb := B.bytes
  have S : ST D cT ad (LY pl tl) (AA ad (LY pl tl)) (s.setDrawn s.drawn) M s.heap [] := ⟨hP, va_S.rf⟩
  have C1 := C s.drawn
  refine lv_aload_n (k := 0) (i := 0) hx hb (by decide +kernel) rfl (lv_at hl 0 rfl) ?_
  refine lv_iconst (n := 0) (v := nI 0) hx hb (by decide +kernel) rfl ?_
  refine xq_put (i := 52) (ci := 11) (k := 7) C1 S rfl rfl uw_X11 tyX11 tyX11_ok nmX11 (by decide) rfl wd_1141 rfl rfl rfl (by decide +kernel) (fun H locs S => ?_)
  refine lv_aload_n (k := 0) (i := 0) hx hb (by decide +kernel) rfl (lv_at hl 0 rfl) ?_
  refine x_cvV (as := []) (rest := []) C1 S cv_X11_163 hch rfl rfl hl.1 ⟨by decide, by decide⟩ ⟨Nat.le_refl _, Nat.le_refl _⟩ (Nat.le_of_ble_eq_true rfl) (by decide +kernel) (fun M1 H locs h1 S => ?_)
  refine lv_aload_n (k := 0) (i := 0) hx hb (by decide +kernel) rfl (lv_at hl 0 rfl) ?_
  refine lv_aload_n (k := 0) (i := 0) hx hb (by decide +kernel) rfl (lv_at hl 0 rfl) ?_
  refine x_cvI (as := []) (rest := [.ref (ad 52)]) C1 S cv_X11_230 h1 rfl rfl hl.1 ⟨by decide, by decide⟩ ⟨Nat.le_refl _, Nat.le_refl _⟩ (Nat.le_of_ble_eq_true rfl) (by decide +kernel) (fun r2 M2 H locs h2 S => ?_)
  refine x_cvI (as := [r2]) (rest := []) C1 S cv_X11_166 h2 rfl rfl hl.1 ⟨by decide, by decide⟩ ⟨Nat.le_refl _, Nat.le_refl _⟩ (Nat.le_of_ble_eq_true rfl) (by decide +kernel) (fun r3 M3 H locs h3 S => ?_)
  refine lv_i2f hx hb (by decide +kernel) ?_
  refine lv_aload_n (k := 0) (i := 0) hx hb (by decide +kernel) rfl (lv_at hl 0 rfl) ?_
  refine x_cvI (as := []) (rest := [.float (FP.i2f r3)]) C1 S cv_X11_221 h3 rfl rfl hl.1 ⟨by decide, by decide⟩ ⟨Nat.le_refl _, Nat.le_refl _⟩ (Nat.le_of_ble_eq_true rfl) (by decide +kernel) (fun r4 M4 H locs h4 S => ?_)
  refine lv_i2f hx hb (by decide +kernel) ?_
  refine lv_fdiv_any hd0 lw_bits hx hb (by decide +kernel) (fun r d1 hal hd1 => ?_)
  refine f_call (own := RX11) (nL := 1) (y := yF_bits) (rest := []) (C d1).1.1 (met_bits l r) ⟨⟨wd_1480, wd_103, wd_1481⟩, by decide, by decide, by decide +kernel⟩ wd_1479 ⟨by decide, by decide⟩ ⟨Nat.le_refl _, Nat.le_refl _⟩ hl.1 (Nat.le_of_ble_eq_true rfl) (by decide +kernel) ?_
  refine W.endD hd1 ?_
  exact xq_iret (C d1) S (fun t ht hF => ⟨⟨some (.int (fbI r)), M4, rfl, ⟨fbI r, rfl, h4 r hal⟩, by rw [ht]; exact S.1⟩, hF⟩) (by decide +kernel)
theorem sh_inv {M : Mem} {t r : Nat} {f : Nat → Int32} {o t' : Int32} (hI : Inv t M) : Inv t (lyM (thr (pM (sa M 44 f) o t')) r) := ⟨hI.1, hI.2.1, hI.2.2⟩
theorem sh_chain {pl : Option Nat} {tl : List LC} {M M1 : Mem} {t : Nat} (hv : V (M.1 53) t) (h53 : M1.1 53 = M.1 53) (hIn : Inv (t + 1) (lyM (thr M1) (rcN (M1.1 53)))) (l : Launch) (D : va_G) (cT : Nat → ClassId) (ad : Nat → Nat) : MetD lw_cs l yX11_share (.code yX11_share cX11_share 1 (some .int) :: wsG) (Rm 8 512) (Pc0 D cT ad (LY pl tl) M1 [.ref (ad 52)]) (QcX D cT ad (LY pl tl) (AA ad (LY pl tl)) (qI (fun v M2 => v = nI (shB (shA (M.1 53) (rcN (M.1 53))) (shT (M.1 53))) ∧ Inv (t + 1) M2))) 0 0 (AA ad (LY pl tl)) := by
  obtain ⟨e1, e2, e3, e4⟩ := sh_ok hv.1 (rcN (M.1 53))
  refine met_share (Q := fun v M2 => v = nI (shB (shA (M.1 53) (rcN (M.1 53))) (shT (M.1 53))) ∧ Inv (t + 1) M2) l D cT ad pl tl M1 ?_
  exact m_shareP (pl := pl) (tl := tl) (d := 0) (M := M1) (t := t) (Q2 := fun r3 r4 M4 => ∀ r, alike32 r (FP.fdiv (FP.i2f r3) (FP.i2f r4)) = true → fbI r = nI (shB (shA (M.1 53) (rcN (M.1 53))) (shT (M.1 53))) ∧ Inv (t + 1) M4) (by rw [h53]; exact hv) (fun r hr9 => ⟨by rw [h53] at hr9; exact sh_bits e3 e4 hr9, hIn⟩)
theorem ar_796 : ArmL 796 := by
  intro p l e s m below meth c b L xs D cT t d0 H locs kc ks ls hf C0 hK hd0 hL h4 hI hl kk
  obtain ⟨pl, tl, ad, M, hc, hJ, hne, hax, S, hInv, hout⟩ := hI
  have C := law_C C0 hK hJ d0
  have hx := C0.1
  have hb := C0.2.1
  have hcs := hc_cs (by omega) hc
  have hI := hInv.up (t' := t + 1) (by omega) (by omega)
  obtain ⟨hv, hr⟩ := hInv.1
  have l1 : ls[1]? = some (.val (.ref (ad 0))) := by rw [hax.1]; exact lv_at hl 1 rfl
  have l2 : ls[2]? = some (.val (.ref (ad 52))) := by rw [hax.2]; exact lv_at hl 2 rfl
  refine lv_aload_n (k := 1) (i := 1) hx hb (by decide +kernel) rfl l1 ?_
  refine l_call (pc := 797) (as := []) (rest := []) (Q := fun r M1 => r = nI (shB (shA (M.1 53) (rcN (M.1 53))) (shT (M.1 53))) ∧ M1 = pM (sa M 44 (nA (M.1 53) (rcN (M.1 53)) (M.1 44))) (cvO (M.1 53) (rcN (M.1 53))) (cvT (M.1 53) (rcN (M.1 53)))) C S cl_104 (s_shareC (d := 6) (t := t) hv hr ⟨rfl, rfl⟩) rfl rfl hl.1 hcs (Nat.le_of_ble_eq_true rfl) (by decide +kernel) (fun v M1 H1 locs1 hq S1 hk1 hz1 => ?_)
  obtain ⟨rfl, rfl⟩ := hq
  refine lv_aload_n (k := 2) (i := 2) hx hb (by decide +kernel) rfl l2 ?_
  have hIn0 := sh_inv (r := rcN (M.1 53)) (f := nA (M.1 53) (rcN (M.1 53)) (M.1 44)) (o := cvO (M.1 53) (rcN (M.1 53))) (t' := cvT (M.1 53) (rcN (M.1 53))) hI
  have h53 : (pM (sa M 44 (nA (M.1 53) (rcN (M.1 53)) (M.1 44))) (cvO (M.1 53) (rcN (M.1 53))) (cvT (M.1 53) (rcN (M.1 53)))).1 53 = M.1 53 := rfl
  generalize pM (sa M 44 (nA (M.1 53) (rcN (M.1 53)) (M.1 44))) (cvO (M.1 53) (rcN (M.1 53))) (cvT (M.1 53) (rcN (M.1 53))) = M1 at S1 hIn0 h53
  have hM := sh_chain (pl := pl) (tl := tl) hv h53 (by rw [h53]; exact hIn0) l D cT ad
  generalize nI (shB (shA (M.1 53) (rcN (M.1 53))) (shT (M.1 53))) = vS at hM ⊢
  have hts := C.1.1.2.2.2.2
  have cwx : CallW room_1 (s.setDrawn d0) #[Value.ref b] RL yX11_share.cls 107 yX11_share cX11_share 1 (some .int) (.code yX11_share cX11_share 1 (some .int) :: wsG) (Rm 8 512) 0 0 0 := by
    refine cwV 0 hts (ws_goodIn _ ?_) rfl rfl rfl ⟨rfl, by decide, by decide, by decide +kernel⟩ ⟨by decide, by decide⟩
    intro w hw
    simp only [wsV, List.mem_append, List.mem_cons, List.not_mem_nil, or_false] at hw
    rcases hw with (rfl | rfl | rfl | rfl) | rfl | hw
    · exact wd_1475
    · exact wd_1476
    · exact wd_1477
    · exact wd_99
    · exact wd_1478
    · exact hw
  have e0 : ∃ fs, (cw cT ad (LY pl tl) M1)[52]? = some (ad 52, .inr (11, fs)) := ⟨_, cw_at (i := 52) (lc := .inr (11, [some (some 53), some (some 54), none, some (some 55), none, some (some 56), none, none, some (some 57), none, none, none, none, none, none, none, some (some 58), some (some 59), none, none, none, none, none, some (some 60), some (some 61), some (some 62), some (some 63), some (some 64), none, none, none])) rfl⟩
  obtain ⟨fs, e0⟩ := e0
  have hr := va_runV_D (cs := lw_cs) (l := l) (e := e) (below := below) (meth := meth) (As := []) (rest := [.int vS]) (g := F0 m 801 ls (.ref (ad 52) :: [.int vS])) (locs := locs1) (cells := kc) (slots := ks) C.1.1 hM cwx ⟨Pc0_blind _ _ _ _ _ _, va_recv (q0 := 52) (ci := 11) (fs := fs) C.1.2.1.1 S1.1 rfl e0, Mt_pre S1.1 C.1.2.1 C.1.2.2.own⟩ rfl rfl hl.1 rfl (lv_room (Nat.le_of_ble_eq_true rfl)) (show decode code 801 = .ok (.invokevirtual 107, 3) by decide +kernel) hcs
  intro T hT X
  obtain ⟨v9, st₀, t9, T', Lw, d', hd', h0, X', hLw, g1, g2, ⟨⟨r, u, hv9, hp, hb9⟩, hz, hk⟩, hst⟩ := hr T hT X
  obtain ⟨w, rfl, hq⟩ := hp
  cases hv9
  rw [h0] at hz hk
  have hA := C.1.2.2.in
  have hS := S1.2
  have S2 : ST D cT ad (LY pl tl) (oA s.heap.size) s u T'.heap (locs1 ++ Lw) := ⟨by rw [g1]; exact hb9, Nat.le_trans hS.1 (by rw [g1]; exact hz), fun q h1 h2 => by rw [g1, hk q (Nat.lt_of_lt_of_le h1 hS.1) (fun z => h2 (hA q z))]; exact hS.2.1 q h1 h2, fun q hq => by
      rcases List.mem_append.mp hq with h | h
      · exact hS.2.2 q h
      · exact hA _ (hLw q h)⟩
  have fin : Wl p l e s m below meth c b d' T'.heap (locs1 ++ Lw) kc ks 804 ls [.int w, .int vS] := by
    refine lv_icmp_eq (off := 539) (tgt := 1343) hx hb (by decide +kernel) (by decide) (fun _ => kk d' T'.heap (locs1 ++ Lw) kc ks ls (hd0.trans hd') ⟨pl, tl, ad, u, hc_up hc, hJ, hne, hax, S2, hq.2, (hout.kept hne hk1).kept hne (fun q h1 h2 => by rw [g1]; exact hk q h1 h2)⟩ hl) (fun h => absurd hq.1.symm h)
  obtain ⟨t2, a1, b1⟩ := fin T' rfl X'
  exact ⟨t2, hst t2 a1, b1⟩
