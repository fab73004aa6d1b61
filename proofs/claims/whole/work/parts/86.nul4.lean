/-! moves, needs, up WHERE THE PLANNER IS MADE: the machine -/
section S86
variable {p : Program} {l : Launch} {e : Env} {R : Room} {s : State} {m : MethodId} {args : Array Value} {below : List Frame} {meth : Method} {c : Code} {Q : State → Prop}
variable {cc : ByteArray} {nL : Nat} {ret : Option FieldType} {D : va_G} {cT : Nat → ClassId} {ad : Nat → Nat} {M : Mem} {pc : Nat} {ls : Array Slot} {P d : Nat} {K : Mem → Prop}
theorem pl_call (C : Bx p s m args meth c RX10 cc nL ret D cT ad (LY none []) (AN ad P)) (S : ST D cT ad (LY none []) (AN ad P) s M s.heap []) (hz : s.heap.size = P) (hK0 : exP d (jn 65 M Zm) K) (hR : d + 4 + 1 ≤ R.frames ∧ 8 + (2 + 11) + 64 * (d + 4) ≤ R.locals) (hcs : 6 ≤ R.cells ∧ 7243 ≤ R.slots) (hl : ls.size = nL) (hdg : decode cc pc = .ok (.invokevirtual 333, 3))
    (kk : ∀ (M1 : Mem) (H1 : Heap) (locs1 : List Loc), K M1 → ST D cT (adN ad P) LPl (AN ad P) s M1 H1 locs1 → W p l e R s m args below meth c H1 locs1 6 7243 Q (F0 m (pc + 3) ls [.ref (adN ad P 65)])) : W p l e R s m args below meth c s.heap [] 0 0 Q (F0 m pc ls [.ref (ad 0)]) := by
  have hts := C.1.1.2.2.2.2
  have ok := vo_X10_planned
  have cwx : CallW R s args RX10 m_X10_planned.1.cls 333 m_X10_planned.1 m_X10_planned.2.1 m_X10_planned.2.2.1 m_X10_planned.2.2.2.1 (.code m_X10_planned.1 m_X10_planned.2.1 m_X10_planned.2.2.1 m_X10_planned.2.2.2.1 :: wsG) (Rk (d + 4) 6 7243 (64 * (d + 4))) 6 7243 0 := by
    refine cwV 0 hts (ws_goodIn _ ?_) rfl rfl rfl ⟨rfl, ok.2.2⟩ hR
    intro w hw
    simp only [wsV, List.mem_append, List.mem_cons, List.not_mem_nil, or_false] at hw
    obtain ⟨o1, o2, o3, o4⟩ := ok.2.1
    rcases hw with (rfl | rfl | rfl | rfl) | rfl | hw
    · exact wd_908
    · exact o1
    · exact o2
    · exact o3
    · exact o4
    · exact hw
  have hr := va_runV (l := l) (e := e) (below := below) (meth := meth) (As := []) (rest := []) (g := F0 m pc ls [.ref (ad 0)]) (locs := []) (cells := 0) (slots := 0) C.1.1 (met_planned l D cT ad P M hK0) cwx ⟨PN_blind _ _ _ _ _ _, va_recv (q0 := 0) (ci := 10) (fs := ([some (some 1), some (some 3), some (some 15), some (some 29), some (some 43), some (some 46), some (some 47), some none, none] : List FK).mapIdx (fun k fk => fv ad M 0 k fk)) C.1.2.1.1 S.1 rfl (cw_at (lc := .inr (10, [some (some 1), some (some 3), some (some 15), some (some 29), some (some 43), some (some 46), some (some 47), some none, none])) rfl), fun U hU hW => ⟨rfl, by rw [hU]; exact S.1, C.1.2.1.warm hW, C.1.2.2, by rw [hU]; exact hz⟩⟩ rfl rfl hl rfl (lv_room (Nat.le_of_ble_eq_true rfl)) hdg ⟨by omega, by omega⟩
  intro T hT X
  obtain ⟨v, st₀, t9, T', Lw, h0, X', hL, g1, g2, ⟨⟨r, u, hv, hp, hb⟩, hz1, hk⟩, hst⟩ := hr T hT X
  obtain ⟨rfl, hq⟩ := hp
  cases hv
  rw [h0] at hz1 hk
  obtain ⟨t2, a1, b1⟩ := kk u T'.heap ([] ++ Lw) hq ⟨by rw [g1]; exact hb, by rw [g1]; exact hz1, fun q h1 h2 => by rw [g1]; exact hk q h1 h2, fun q hq => hL q hq⟩ T' rfl X'
  exact ⟨t2, hst t2 a1, b1⟩
end S86
/-- the answer, and what the reference is to do -/
abbrev QOp (y : Nat) (am : List Value) (t : Nat) : pQ := qI (fun r M1 => exI LPl 12 y am M1 (fun r2 M2 => r2 = r ∧ Inv (t + 1) M2))
theorem Inv_jn {t : Nat} {M M' : Mem} (h : Inv t M) : Inv t (jn 65 M M') := Inv_c (fun c hc => if_pos hc) (fun c hc => if_pos hc) h
theorem met_moves (l : Launch) (D : va_G) (cT : Nat → ClassId) (ad : Nat → Nat) (P : Nat) (M : Mem) {t : Nat} {x : Int32} (h : Inv t M) (ht : t < 512) (c1 : ¬ x < 0) (c2 : x ≤ nI 6) : Met l m_X10_moves.1 (.code m_X10_moves.1 m_X10_moves.2.1 m_X10_moves.2.2.1 m_X10_moves.2.2.2.1 :: wsG) (Rk 16 6 7243 1200) (PN D cT ad M P [.ref (ad 0), .int x]) (QN D cT ad P (QOp 223 [.ref 52, .int x] t)) 6 7243 (AN ad P) := by
  refine body_N (by decide +kernel) (Nat.le_of_ble_eq_true rfl) (fun p e s m args below meth c ls C hz hl S => ?_)
  have hl : lv_has ls 4 [(0, .ref (ad 0)), (1, .int x)] := hl
  have hlt : ∀ i, i < 65 → ad i < P := fun i hi => by rw [← hz]; exact HM_lt S.1 hi
  have hx := C.1.1.1
  have hb := C.1.1.2.1
  refine lv_iload_n (k := 1) (i := 1) hx hb (by decide +kernel) rfl (lv_at hl 1 rfl) ?_
  refine lv_if_lt (off := 9) (tgt := 10) hx hb (by decide +kernel) (by decide) (fun q => absurd q c1) (fun _ => ?_)
  refine lv_iload_n (k := 1) (i := 1) hx hb (by decide +kernel) rfl (lv_at hl 1 rfl) ?_
  refine lv_bipush (n := 6) (v := nI 6) hx hb (by decide +kernel) rfl ?_
  refine lv_icmp_le (off := 5) (tgt := 12) hx hb (by decide +kernel) (by decide) (fun _ => ?_) (fun q => absurd c2 q)
  refine lv_aload_n (k := 0) (i := 0) hx hb (by decide +kernel) rfl (lv_at hl 0 rfl) ?_
  refine pl_call (pc := 13) (d := 10) C S hz (nv_moves (d := 0) (Inv_jn h) ht c1 c2) ⟨by decide, by decide⟩ ⟨by decide, by decide⟩ hl.1 (by decide +kernel) (fun M1 H1 locs1 hK S1 => ?_)
  refine fw_W (cd := m_X10_moves) (mt := MT) (d := 11) (l := l) (e := e) (R := Rk 16 6 7243 1200) (below := below) (kc := 6) (ks := 7243) (Qc := QN D cT ad P (QOp 223 [.ref 52, .int x] t)) (Q := QOp 223 [.ref 52, .int x] t) (Bx_ad C (AJ_N C.1.2.2 hlt)) q_X10_moves ⟨by decide, by decide⟩ ⟨Nat.le_refl _, Nat.le_refl _⟩ (ex_met MT_ok l LPl D cT (adN ad P) 11) (fun r M t hQ hP hF => ⟨⟨r, M, rfl, hQ, hP⟩, hF⟩) (fr_moves hK) ls H1 locs1 (lv_ok hl (fun i v hv => ?_)) S1
  match i, hv with
  | 0, hv => cases hv; exact List.mem_cons_self
  | 1, hv => cases hv; exact List.mem_cons_of_mem _ List.mem_cons_self
  | 2, hv => cases hv
  | 3, hv => cases hv
  | n + 4, hv => cases hv
theorem met_up (l : Launch) (D : va_G) (cT : Nat → ClassId) (ad : Nat → Nat) (P : Nat) (M : Mem) {t : Nat} {x : Int32} (h : Inv t M) (ht : t < 512) (c1 : ¬ x < 0) (c2 : x ≤ nI 6) : Met l m_X10_up.1 (.code m_X10_up.1 m_X10_up.2.1 m_X10_up.2.2.1 m_X10_up.2.2.2.1 :: wsG) (Rk 16 6 7243 1200) (PN D cT ad M P [.ref (ad 0), .int x]) (QN D cT ad P (QOp 227 [.ref 52, .int x] t)) 6 7243 (AN ad P) := by
  refine body_N (by decide +kernel) (Nat.le_of_ble_eq_true rfl) (fun p e s m args below meth c ls C hz hl S => ?_)
  have hl : lv_has ls 5 [(0, .ref (ad 0)), (1, .int x)] := hl
  have hlt : ∀ i, i < 65 → ad i < P := fun i hi => by rw [← hz]; exact HM_lt S.1 hi
  have hx := C.1.1.1
  have hb := C.1.1.2.1
  refine lv_iload_n (k := 1) (i := 1) hx hb (by decide +kernel) rfl (lv_at hl 1 rfl) ?_
  refine lv_if_lt (off := 9) (tgt := 10) hx hb (by decide +kernel) (by decide) (fun q => absurd q c1) (fun _ => ?_)
  refine lv_iload_n (k := 1) (i := 1) hx hb (by decide +kernel) rfl (lv_at hl 1 rfl) ?_
  refine lv_bipush (n := 6) (v := nI 6) hx hb (by decide +kernel) rfl ?_
  refine lv_icmp_le (off := 5) (tgt := 12) hx hb (by decide +kernel) (by decide) (fun _ => ?_) (fun q => absurd c2 q)
  refine lv_aload_n (k := 0) (i := 0) hx hb (by decide +kernel) rfl (lv_at hl 0 rfl) ?_
  refine pl_call (pc := 13) (d := 10) C S hz (nv_up (d := 0) (Inv_jn h) ht c1 c2) ⟨by decide, by decide⟩ ⟨by decide, by decide⟩ hl.1 (by decide +kernel) (fun M1 H1 locs1 hK S1 => ?_)
  refine fw_W (cd := m_X10_up) (mt := MT) (d := 11) (l := l) (e := e) (R := Rk 16 6 7243 1200) (below := below) (kc := 6) (ks := 7243) (Qc := QN D cT ad P (QOp 227 [.ref 52, .int x] t)) (Q := QOp 227 [.ref 52, .int x] t) (Bx_ad C (AJ_N C.1.2.2 hlt)) q_X10_up ⟨by decide, by decide⟩ ⟨Nat.le_refl _, Nat.le_refl _⟩ (ex_met MT_ok l LPl D cT (adN ad P) 11) (fun r M t hQ hP hF => ⟨⟨r, M, rfl, hQ, hP⟩, hF⟩) (fr_up hK) ls H1 locs1 (lv_ok hl (fun i v hv => ?_)) S1
  match i, hv with
  | 0, hv => cases hv; exact List.mem_cons_self
  | 1, hv => cases hv; exact List.mem_cons_of_mem _ List.mem_cons_self
  | 2, hv => cases hv
  | 3, hv => cases hv
  | 4, hv => cases hv
  | n + 5, hv => cases hv
theorem met_needs (l : Launch) (D : va_G) (cT : Nat → ClassId) (ad : Nat → Nat) (P : Nat) (M : Mem) {t : Nat} (h : Inv t M) (ht : t < 512) : Met l m_X10_needs.1 (.code m_X10_needs.1 m_X10_needs.2.1 m_X10_needs.2.2.1 m_X10_needs.2.2.2.1 :: wsG) (Rk 16 6 7243 1200) (PN D cT ad M P [.ref (ad 0)]) (QN D cT ad P (QOp 231 [.ref 52] t)) 6 7243 (AN ad P) := by
  refine body_N (by decide +kernel) (Nat.le_of_ble_eq_true rfl) (fun p e s m args below meth c ls C hz hl S => ?_)
  have hl : lv_has ls 4 [(0, .ref (ad 0))] := hl
  have hlt : ∀ i, i < 65 → ad i < P := fun i hi => by rw [← hz]; exact HM_lt S.1 hi
  have hx := C.1.1.1
  have hb := C.1.1.2.1
  refine lv_aload_n (k := 0) (i := 0) hx hb (by decide +kernel) rfl (lv_at hl 0 rfl) ?_
  refine pl_call (pc := 1) (d := 10) C S hz (nv_needs (d := 0) (Inv_jn h) ht) ⟨by decide, by decide⟩ ⟨by decide, by decide⟩ hl.1 (by decide +kernel) (fun M1 H1 locs1 hK S1 => ?_)
  refine fw_W (cd := m_X10_needs) (mt := MT) (d := 11) (l := l) (e := e) (R := Rk 16 6 7243 1200) (below := below) (kc := 6) (ks := 7243) (Qc := QN D cT ad P (QOp 231 [.ref 52] t)) (Q := QOp 231 [.ref 52] t) (Bx_ad C (AJ_N C.1.2.2 hlt)) q_X10_needs ⟨by decide, by decide⟩ ⟨Nat.le_refl _, Nat.le_refl _⟩ (ex_met MT_ok l LPl D cT (adN ad P) 11) (fun r M t hQ hP hF => ⟨⟨r, M, rfl, hQ, hP⟩, hF⟩) (fr_needs hK) ls H1 locs1 (lv_ok hl (fun i v hv => ?_)) S1
  match i, hv with
  | 0, hv => cases hv; exact List.mem_cons_self
  | 1, hv => cases hv
  | 2, hv => cases hv
  | 3, hv => cases hv
  | n + 4, hv => cases hv
