/-! THE PLANNER IS MADE: the machine -/
theorem kg_X10_X4 : KCd RX10 4 338 [some none, some none, some none, none, none, none, some none, some none, none] RX4 TX4 9 tyX4 := ⟨rfl, uw_X4, tyX4_ok, wd_912, wd_913, wd_105, by decide, by decide⟩
theorem kn_X10_394 : Cond.methodLinkNest RX10 394 yX4_init RX10 ∈ nestW := by unfold nestW; simp
def LPlan : List LC := [.inr (4, [some (some 1), some (some 2), some (some 3), none, none, none, some (some 4), some (some 5), none]), .inl (0, 6), .inl (0, 6), .inl (0, 6), .inl (0, 48), .inl (0, 7168)]
theorem jn_zc {n : Nat} {M M' : Mem} : jn n (zc M n) M' = jn n M M' := by
  unfold jn
  refine Prod.ext (funext fun a => ?_) (funext fun a => ?_)
  · show (if a < n then (zc M n).1 a else M'.1 (a - n)) = (if a < n then M.1 a else M'.1 (a - n))
    by_cases h : a < n
    · rw [if_pos h, if_pos h, zc_1 (by omega)]
    · rw [if_neg h, if_neg h]
  · show (if a < n then (zc M n).2 a else M'.2 (a - n)) = (if a < n then M.2 a else M'.2 (a - n))
    by_cases h : a < n
    · rw [if_pos h, if_pos h, zc_2 (by omega)]
    · rw [if_neg h, if_neg h]
section S85
variable {p : Program} {l : Launch} {e : Env} {R : Room} {s : State} {m : MethodId} {args : Array Value} {below : List Frame} {meth : Method} {c : Code} {H : Heap} {locs : List Loc} {kc ks : Nat} {Q : State → Prop}
variable {own : String} {cc : ByteArray} {nL : Nat} {ret : Option FieldType} {D : va_G} {cT : Nat → ClassId} {ad : Nat → Nat} {lay lay0 : List LC} {A : Nat → Prop} {M : Mem} {pc : Nat} {ls : Array Slot} {rest st0 : List Value} {P n : Nat}
theorem Bx_ad {ad' : Nat → Nat} {lay' : List LC} (C : Bx p s m args meth c own cc nL ret D cT ad lay A) (hJ : AJ A ad' lay') : Bx p s m args meth c own cc nL ret D cT ad' lay' A := ⟨⟨C.1.1, C.1.2.1, hJ⟩, C.2⟩
theorem k_go2 {mc ms : Nat} {L2 : List LC} {M2 : Mem} {fks2 : List FK} {ci2 : Nat} {a : Array Value} (hn : lay.length = n) (hAP : ∀ q, P ≤ q → A q) (ha : ∀ j, ad (n + j) = oa P j) (hlt : ∀ i, i < n → ad i < P) (S : ST D cT ad (lay ++ [.inr (ci2, fks2)]) A s M H locs) (hr : va_Run p l e R s m args below meth c H locs kc ks mc ms (F0 m pc ls st0) rest (KQ D cT P L2 M2 a) (oA P))
    (kk : ∀ (H : Heap) (locs : List Loc), ST D cT ad (lay ++ L2.map (shL n)) A s (jn n M M2) H locs → W p l e R s m args below meth c H locs (kc + mc) (ks + ms) Q (F0 m (pc + 3) ls rest)) : W p l e R s m args below meth c H locs kc ks Q (F0 m pc ls st0) := by
  intro T hT X
  obtain ⟨v, st₀, t, T', L, h0, X', hL, e1, e2, ⟨⟨hv, hb⟩, hz, hk⟩, st⟩ := hr T hT X
  cases hv
  rw [h0] at hz hk
  have hS := S.2
  have hP := S.1
  unfold HM at hP
  have hHM : HM D cT ad (lay ++ L2.map (shL n)) (jn n M M2) T'.heap := by
    unfold HM
    rw [cw_jn2 hn ha, e1]
    refine va_P.app (fun k x hx => ?_) hb
    have hlt2 : k < lay.length := by rw [← cw_len (cT := cT) (ad := ad) (M := M)]; exact (List.getElem?_eq_some_iff.mp hx).1
    have e9 : (cw cT ad lay M)[k]? = some (ad k, ce cT ad M k (lay[k])) := cw_at (List.getElem?_eq_getElem hlt2)
    have hx2 : (cw cT ad (lay ++ [.inr (ci2, fks2)]) M)[k]? = some x := by
      rw [cw_at (lc := lay[k]) (by rw [List.getElem?_append_left hlt2]; exact List.getElem?_eq_getElem hlt2)]
      rw [e9] at hx
      exact hx
    have h8 := hP k x hx2
    have hx1 : x.1 = ad k := by rw [e9] at hx; cases hx; rfl
    refine h8.kept (hk x.1 h8.lt (fun z => ?_))
    have z : P ≤ x.1 := z
    have := hlt k (by omega)
    omega
  obtain ⟨t2, a1, b1⟩ := kk T'.heap (locs ++ L) ⟨hHM, Nat.le_trans hS.1 (by rw [e1]; exact hz), fun q h1 h2 => by rw [e1, hk q (Nat.lt_of_lt_of_le h1 hS.1) (fun z => h2 (hAP q z))]; exact hS.2.1 q h1 h2, fun q hq => by
      rcases List.mem_append.mp hq with h | h
      · exact hS.2.2 q h
      · exact hAP _ (hL q h)⟩ T' rfl X'
  exact ⟨t2, st t2 a1, b1⟩
theorem run_IN2 {y : MethodName} {host : String} {bytes : ByteArray} {maxL fr lo mc ms ci2 index : Nat} {fks2 : List FK} {L2 : List LC} {M2 : Mem} (C : Bx p s m args meth c own cc nL ret D cT ad lay0 A) (hP : HM D cT (oa P) [.inr (ci2, fks2)] Zm H) (hsz : H.size = P + 1) (K : KC y bytes maxL fr lo mc ms ci2 fks2 L2 M2) (hini : Cond.initialized y.cls ∈ wsG) (hlk : Cond.methodLinkNest own index y host ∈ nestW) (hins : Cond.instanceMethod y ∈ wsG) (hcode : Cond.code y bytes maxL none ∈ wsG) (hy : y.name = "<init>") (hd : y.cls ≠ "java/lang/invoke/MethodHandle" ∧ y.cls ≠ "java/lang/invoke/VarHandle" ∧ (parseMethodDescriptor y.desc).map (fun d => d.parameters.length) = some 0) (hR : fr + 1 ≤ R.frames ∧ 8 + (maxL + 11) + lo ≤ R.locals) (hl : ls.size = nL) (hrm : (rest.map fun v => v.category).sum ≤ 8) (hdg : decode cc pc = .ok (.invokespecial index, 3)) (hcs : kc + mc ≤ R.cells ∧ ks + ms ≤ R.slots) :
    va_Run p l e R s m args below meth c H locs kc ks mc ms (F0 m pc ls (.ref P :: rest)) rest (KQ D cT P L2 M2 #[.ref P]) (oA P) := by
  have hts := C.1.1.2.2.2.2
  refine va_runIN (As := []) C.1.1 (K l D cT P) ⟨va_cnB 0 hts (ws_goodIn _ ?_) rfl rfl rfl (C.1.2.1.2 _ hlk) (hts _ hini) hd hR, hy, hts _ hins⟩ ⟨KP_blind _ _ _ _ _, fun U hU hW => ⟨rfl, by rw [hU]; exact hP, C.1.2.1.warm hW, by rw [hU]; exact hsz⟩⟩ rfl rfl hl rfl (lv_room hrm) hdg hcs
  intro w hw
  rcases List.mem_cons.mp hw with rfl | hw
  · exact hcode
  · exact hw
end S85
theorem met_planned (l : Launch) (D : va_G) (cT : Nat → ClassId) (ad : Nat → Nat) (P : Nat) (M : Mem) {d : Nat} {K : Mem → Prop} (hK0 : exP d (jn 65 M Zm) K) : Met l m_X10_planned.1 (.code m_X10_planned.1 m_X10_planned.2.1 m_X10_planned.2.2.1 m_X10_planned.2.2.2.1 :: wsG) (Rk (d + 4) 6 7243 (64 * (d + 4))) (PN D cT ad M P [.ref (ad 0)]) (QN D cT ad P (qR 65 K)) 6 7243 (AN ad P) := by
  refine body_N (by decide +kernel) (Nat.le_of_ble_eq_true rfl) (fun p e s m args below meth c ls C hz hl S => ?_)
  have hl : lv_has ls 2 [(0, .ref (ad 0))] := hl
  have hlt : ∀ i, i < 65 → ad i < P := fun i hi => by rw [← hz]; exact HM_lt S.1 hi
  have hx := C.1.1.1
  have hb := C.1.1.2.1
  refine lv_aload_n (k := 0) (i := 0) hx hb (by decide +kernel) rfl (lv_at hl 0 rfl) ?_
  refine xq_get (i := 0) (ci := 10) (k := 7) (fk := some none) C S rfl rfl uw_X10 (by decide) rfl wd_414 (by decide +kernel) ?_
  refine lv_astore_nN (k := 1) (i := 1) hx hb (by decide +kernel) rfl hl (by decide) rfl (fun ls1 hl1 => ?_)
  have hl1 : lv_has ls1 2 [(1, .null), (0, .ref (ad 0))] := hl1
  refine lv_aload_nN (k := 1) (i := 1) hx hb (by decide +kernel) rfl (lv_at hl1 0 rfl) ?_
  refine lv_ifnonnullN (off := 16) hx hb (by decide +kernel) ?_
  have eC : cw cT ad (LY none []) M = cw cT (adN ad P) (LY none []) M := cw_ad (n := 65) (Nat.le_refl _) LY_rf (fun j hj => (adN_lt hj).symm)
  have S' : ST D cT (adN ad P) (LY none []) (AN ad P) s M s.heap [] := ⟨by unfold HM; rw [← eC]; exact S.1, S.2⟩
  have hJ := AJ_N C.1.2.2 hlt
  have hJ0 : AJ (AN ad P) (adN ad P) (LY none []) := ⟨fun i j hi hj => hJ.1 i j (by have : LPl.length = 71 := rfl; have : (LY none []).length = 65 := rfl; omega) (by have : LPl.length = 71 := rfl; have : (LY none []).length = 65 := rfl; omega), fun i hi => hJ.2 i (by have : LPl.length = 71 := rfl; have : (LY none []).length = 65 := rfl; omega)⟩
  have G := kg_X10_X4
  obtain ⟨hc2, hin2, hty2, hcl, hins, hini, hfk, hdf⟩ := G
  have had : adN ad P (LY none []).length = s.heap.size := by rw [hz]; rfl
  refine xq_new (ci := 4) (N := 9) (fks := [some none, some none, some none, none, none, none, some none, some none, none]) (Bx_ad C hJ0) S' hc2 hin2 tyX4 hty2 hcl hins hini ?_ had (Nat.le_of_ble_eq_true rfl) (Nat.le_of_ble_eq_true rfl) (by decide +kernel) (fun H1 S1 => ?_)
  · rw [dfl_eq (zc_s M (LY none []).length).1 hfk]
    exact hdf
  · refine lv_dup hx hb (by decide +kernel) rfl ?_
    refine w_sz (fun hzz => ?_)
    have hP1 := S1.1
    unfold HM at hP1
    have e7 : (cw cT (adN ad P) (LY none [] ++ [.inr (4, [some none, some none, some none, none, none, none, some none, some none, none])]) (zc M 65))[65]? = some (P, ce cT (adN ad P) (zc M 65) 65 (.inr (4, [some none, some none, some none, none, none, none, some none, some none, none]))) := cw_at rfl
    have h8 := hP1 _ _ e7
    have h9 : P < H1.size := h8.lt
    have hP2 : HM D cT (oa P) [.inr (4, [some none, some none, some none, none, none, none, some none, some none, none])] Zm H1 := by
      unfold HM
      intro k x hx
      have hk1 : k < 1 := by have := (List.getElem?_eq_some_iff.mp hx).1; rw [cw_len] at this; exact this
      rw [show k = 0 by omega, cw_at (lc := .inr (4, [some none, some none, some none, none, none, none, some none, some none, none])) rfl] at hx
      cases hx
      have e10 : ce cT (oa P) Zm 0 (.inr (4, [some none, some none, some none, none, none, none, some none, some none, none])) = ce cT (adN ad P) (zc M 65) 65 (.inr (4, [some none, some none, some none, none, none, none, some none, some none, none])) := by
        show (Sum.inr (4, List.mapIdx (fun k fk => fv (oa P) Zm 0 k fk) _) : va_E) = Sum.inr (4, List.mapIdx (fun k fk => fv (adN ad P) (zc M 65) 65 k fk) _)
        rw [dfl_eq (M := Zm) (i := 0) rfl hfk, dfl_eq (zc_s M 65).1 hfk]
      rw [e10]
      exact h8
    refine k_go2 (pc := 13) (n := 65) (P := P) (rest := [.ref (adN ad P 65)]) (st0 := [.ref P, .ref P]) rfl (fun q hq => Or.inr hq) (fun j => adN_ge) (fun i hi => by rw [adN_lt hi]; exact hlt i hi) S1 (run_IN2 (host := RX10) (pc := 13) (rest := [.ref P]) C hP2 (by omega) kc_X4 wd_105 kn_X10_394 wd_915 wd_916 rfl ⟨by decide, by decide, by decide +kernel⟩ ⟨by show 2 + 1 ≤ d + 4; omega, by show 8 + (1 + 11) + 128 ≤ 64 * (d + 4); omega⟩ hl1.1 (Nat.le_of_ble_eq_true rfl) (by decide +kernel) ⟨Nat.le_of_ble_eq_true rfl, Nat.le_of_ble_eq_true rfl⟩) (fun H2 locs2 S2 => ?_)
    rw [show (LY none []).length = 65 from rfl, jn_zc] at S2
    refine lv_astore_n (k := 1) (i := 1) hx hb (by decide +kernel) rfl hl1 (by decide) rfl (fun ls2 hl2 => ?_)
    have hl2 : lv_has ls2 2 [(1, .ref (adN ad P 65)), (0, .ref (ad 0))] := hl2
    refine lv_aload_n (k := 0) (i := 0) hx hb (by decide +kernel) rfl (lv_at hl2 1 rfl) ?_
    refine lv_aload_n (k := 1) (i := 1) hx hb (by decide +kernel) rfl (lv_at hl2 0 rfl) ?_
    have S2 : ST D cT (adN ad P) (LY none PT) (AN ad P) s (jn 65 M Zm) H2 locs2 := S2
    have hJ2 : AJ (AN ad P) (adN ad P) (LY none PT) := hJ
    refine xq_putr (i := 0) (ci := 10) (k := 7) (j0 := 65) (fks := [some (some 1), some (some 3), some (some 15), some (some 29), some (some 43), some (some 46), some (some 47), some none, none]) (Bx_ad C hJ2) (Or.inr trivial) S2 rfl rfl uw_X10 tyX10 tyX10_ok nmX10 (by decide) (by decide) wd_414 (Or.inl rfl) (fun _ => rfl) (fun _ => rfl) (by decide +kernel) (fun H3 locs3 S3 => ?_)
    have S3 : ST D cT (adN ad P) LPl (AN ad P) s (jn 65 M Zm) H3 locs3 := S3
    refine fw_W (cd := m_X10_planned) (mt := MT) (d := d) (l := l) (e := e) (R := Rk (d + 4) 6 7243 (64 * (d + 4))) (below := below) (kc := 6) (ks := 7243) (Qc := QN D cT ad P (qR 65 K)) (Q := qR 65 K) (Bx_ad C hJ) q_X10_planned ⟨by show d + 1 ≤ d + 4; omega, by show 64 * (d + 1) ≤ 64 * (d + 4); omega⟩ ⟨Nat.le_refl _, Nat.le_refl _⟩ (ex_met MT_ok l LPl D cT (adN ad P) d) (fun r M t hQ hP hF => ⟨⟨r, M, rfl, hQ, hP⟩, hF⟩) (fr_planned hK0) ls2 H3 locs3 (lv_ok hl2 (fun i v hv => ?_)) S3
    match i, hv with
    | 0, hv => cases hv; exact List.mem_cons_of_mem _ List.mem_cons_self
    | 1, hv => cases hv; exact List.mem_cons_self
    | n + 2, hv => cases hv
