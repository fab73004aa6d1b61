/-! THE LAW'S ARMS OF moves, up, needs -/
section S87
variable {p : Program} {l : Launch} {e : Env} {s : State} {m : MethodId} {below : List Frame} {meth : Method} {c : Code} {b : Nat} {D : va_G} {cT : Nat → ClassId} {ad : Nat → Nat} {M : Mem} {d0 : Drawn} {H : Heap} {locs : List Loc} {kc ks pc : Nat} {ls : Array Slot}
/-- a call that makes the planner -/
theorem l_callN {cd : pCd} {idx n : Nat} {as : List Int32} {Q : Int32 → Mem → Prop} {rest : List Value} (C : Bx p (s.setDrawn d0) m #[Value.ref b] meth c RL code 8 ret D cT ad (LY none []) (oA s.heap.size)) (S : ST D cT ad (LY none []) (oA s.heap.size) s M H locs) (hM : Met l cd.1 (.code cd.1 cd.2.1 cd.2.2.1 cd.2.2.2.1 :: wsG) (Rk 16 6 7243 1200) (PN D cT ad M H.size (.ref (ad 0) :: as.map Value.int)) (QN D cT ad H.size (qI Q)) 6 7243 (AN ad H.size)) (hV : VOk cd.1 cd.2.1 cd.2.2.1 cd.2.2.2.1 n 10) (hlk : Cond.methodLink RL idx cd.1 ∈ wsG) (h45 : cd.2.2.1 ≤ 45) (hn : as.length = n) (hl : ls.size = 8) (hcs : kc + 6 ≤ 601024 ∧ ks + 7243 ≤ 7293034) (hrm : (rest.map fun v => v.category).sum ≤ 8) (hdg : decode code pc = .ok (.invokevirtual idx, 3))
    (kk : ∀ (v : Int32) (M1 : Mem) (H1 : Heap) (locs1 : List Loc), Q v M1 → AJ (oA s.heap.size) (adN ad H.size) LPl → ST D cT (adN ad H.size) LPl (oA s.heap.size) s M1 H1 locs1 → (∀ q, q < H.size → ¬ AA ad (LY none []) q → H1[q]? = H[q]?) → Wl p l e s m below meth c b d0 H1 locs1 (kc + 6) (ks + 7243) (pc + 3) ls (.int v :: rest)) : Wl p l e s m below meth c b d0 H locs kc ks pc ls ((as.map Value.int).reverse ++ .ref (ad 0) :: rest) := by
  have hts := C.1.1.2.2.2.2
  have cwx : CallW room_1 (s.setDrawn d0) #[Value.ref b] RL cd.1.cls idx cd.1 cd.2.1 cd.2.2.1 cd.2.2.2.1 (.code cd.1 cd.2.1 cd.2.2.1 cd.2.2.2.1 :: wsG) (Rk 16 6 7243 1200) 6 7243 n := by
    refine cwV n hts (ws_goodIn _ ?_) rfl rfl rfl ⟨rfl, hV.2.2⟩ ⟨by decide, by show 8 + (cd.2.2.1 + 11) + 1200 ≤ 84000; omega⟩
    intro w hw
    simp only [wsV, List.mem_append, List.mem_cons, List.not_mem_nil, or_false] at hw
    obtain ⟨o1, o2, o3, o4⟩ := hV.2.1
    rcases hw with (rfl | rfl | rfl | rfl) | rfl | hw
    · exact hlk
    · exact o1
    · exact o2
    · exact o3
    · exact o4
    · exact hw
  have hlt : ∀ i, i < 65 → ad i < H.size := fun i hi => HM_lt S.1 hi
  have hJ0 : AJ (AN ad H.size) ad (LY none []) := ⟨C.1.2.2.1, fun i hi => Or.inl ⟨i, hi, rfl⟩⟩
  have hA : ∀ q, AN ad H.size q → oA s.heap.size q := fun q h => by
    rcases h with h | h
    · exact C.1.2.2.in q h
    · exact Nat.le_trans S.2.1 h
  have hJN := AJ_N hJ0 hlt
  have hJN2 : AJ (oA s.heap.size) (adN ad H.size) LPl := ⟨hJN.1, fun i hi => hA _ (hJN.2 i hi)⟩
  have hce : vwCl[10]? = some (RX10, TX10, 9) := rfl
  obtain ⟨T9, N9, hc9⟩ := hV.1
  have hr := va_runV (l := l) (e := e) (below := below) (meth := meth) (As := as.map Value.int) (rest := rest) (g := F0 m pc ls ((as.map Value.int).reverse ++ .ref (ad 0) :: rest)) (locs := locs) (cells := kc) (slots := ks) C.1.1 hM cwx ⟨PN_blind _ _ _ _ _ _, va_recv (q0 := 0) (ci := 10) (fs := ([some (some 1), some (some 3), some (some 15), some (some 29), some (some 43), some (some 46), some (some 47), some none, none] : List FK).mapIdx (fun k fk => fv ad M 0 k fk)) C.1.2.1.1 S.1 hc9 (cw_at (lc := .inr (10, [some (some 1), some (some 3), some (some 15), some (some 29), some (some 43), some (some 46), some (some 47), some none, none])) rfl), fun U hU hW => ⟨rfl, by rw [hU]; exact S.1, C.1.2.1.warm hW, hJ0, by rw [hU]⟩⟩ rfl (by rw [List.length_map]; exact hn) hl rfl (lv_room hrm) hdg hcs
  intro T hT X
  obtain ⟨v, st₀, t9, T', Lw, h0, X', hL, g1, g2, ⟨⟨r, u, hv, hp, hb⟩, hz, hk⟩, hst⟩ := hr T hT X
  obtain ⟨w, rfl, hq⟩ := hp
  cases hv
  rw [h0] at hz hk
  have hS := S.2
  obtain ⟨t2, a1, b1⟩ := kk w u T'.heap (locs ++ Lw) hq hJN2 ⟨by rw [g1]; exact hb, Nat.le_trans hS.1 (by rw [g1]; exact hz), fun q h1 h2 => by rw [g1, hk q (Nat.lt_of_lt_of_le h1 hS.1) (fun z => h2 (hA q z))]; exact hS.2.1 q h1 h2, fun q hq => by
      rcases List.mem_append.mp hq with h | h
      · exact hS.2.2 q h
      · exact hA _ (hL q h)⟩ (fun q h1 h2 => by
        rw [g1]
        refine hk q h1 (fun z => ?_)
        rcases z with z | z
        · exact h2 z
        · omega) T' rfl X'
  exact ⟨t2, hst t2 a1, b1⟩
end S87
theorem ne_N {ad : Nat → Nat} {P q : Nat} (hne : ∀ i, i < (LY none []).length → ad i ≠ q) (hq : q < P) : ∀ i, i < (LY (some 65) PT).length → adN ad P i ≠ q := by
  intro i hi
  by_cases c : i < 65
  · rw [adN_lt c]; exact hne i c
  · unfold adN
    rw [if_neg c]
    omega
/-- one number: in range, or not -/
theorem armP1 {pc i1 i2 yc ym : Nat} {cd : pCd} (hn : ∀ (pl : Option Nat) (tl : List LC) (M : Mem) (t : Nat) (x : Int32), (x < 0 ∨ ¬ x ≤ nI 6) → Inv t M → t < 512 → Op pl tl 12 yc [.ref 0, .int x] ym [.ref 52, .int x] t M) (hp : ∀ (M : Mem) (t : Nat) (x : Int32), Inv t M → t < 512 → Op (some 65) PT 12 yc [.ref 0, .int x] ym [.ref 52, .int x] t M) (hmet : ∀ (l : Launch) (D : va_G) (cT : Nat → ClassId) (ad : Nat → Nat) (P : Nat) (M : Mem) (t : Nat) (x : Int32), Inv t M → t < 512 → ¬ x < 0 → x ≤ nI 6 → Met l cd.1 (.code cd.1 cd.2.1 cd.2.2.1 cd.2.2.2.1 :: wsG) (Rk 16 6 7243 1200) (PN D cT ad M P [.ref (ad 0), .int x]) (QN D cT ad P (QOp ym [.ref 52, .int x] t)) 6 7243 (AN ad P)) (hcd : MT[yc]? = some cd) (G1 : p_cv MT RL i1 yc 10 1) (G2 : p_cv MT RL i2 ym 11 1) {off : Int} (ho : ((pc + 20 : Nat) : Int) + off = (1343 : Nat)) (d1 : decode code pc = .ok (.aload_n 1, 1)) (a1 : dArg (pc + 1) 1) (d2 : decode code (pc + 7) = .ok (.invokevirtual i1, 3)) (d3 : decode code (pc + 10) = .ok (.aload_n 2, 1)) (a2 : dArg (pc + 11) 1) (d4 : decode code (pc + 17) = .ok (.invokevirtual i2, 3)) (d5 : decode code (pc + 20) = .ok (.if_icmp .eq off, 3)) : ArmL pc := by
  intro p l e s m below meth c b L xs D cT t d0 H locs kc ks ls hf C0 hK hd0 hL h4 hI hl kk
  obtain ⟨pl, tl, ad, M, hc, hJ, hne, hax, S, hInv, hout⟩ := hI
  have C := law_C C0 hK hJ d0
  have hx := C0.1
  have hb := C0.2.1
  have hcs := hc_cs (by omega) hc
  have l1 : ls[1]? = some (.val (.ref (ad 0))) := by rw [hax.1]; exact lv_at hl 1 rfl
  have l2 : ls[2]? = some (.val (.ref (ad 52))) := by rw [hax.2]; exact lv_at hl 2 rfl
  refine lv_aload_n (k := 1) (i := 1) hx hb d1 rfl l1 ?_
  refine l_arg' C0 S.2 hl h4 hL (by omega) rfl a1 ?_
  by_cases hop : Op pl tl 12 yc [.ref 0, .int (xs (4 * t + 1))] ym [.ref 52, .int (xs (4 * t + 1))] t M
  · refine l_call (as := [xs (4 * t + 1)]) (rest := []) C S G1 hop rfl rfl hl.1 hcs (Nat.le_of_ble_eq_true rfl) d2 (fun v M1 H1 locs1 hq S1 hk1 hz1 => ?_)
    refine lv_aload_n (k := 2) (i := 2) hx hb d3 rfl l2 ?_
    refine l_arg' C0 S1.2 hl h4 hL (by omega) rfl a2 ?_
    refine l_call (as := [xs (4 * t + 1)]) (rest := [.int v]) C S1 G2 hq rfl rfl hl.1 hcs (Nat.le_of_ble_eq_true rfl) d4 (fun v2 M2 H2 locs2 hq2 S2 hk2 hz2 => ?_)
    refine lv_icmp_eq (tgt := 1343) hx hb d5 ho (fun _ => kk d0 H2 locs2 kc ks ls hd0 ⟨pl, tl, ad, M2, hc_up hc, hJ, hne, hax, S2, hq2.2, (hout.kept hne hk1).kept hne hk2⟩ hl) (fun h => absurd hq2.1.symm h)
  · rcases hc with ⟨rfl, rfl, k1, k2⟩ | ⟨rfl, rfl, k1, k2⟩
    · have c1 : ¬ xs (4 * t + 1) < 0 := fun q => hop (hn _ _ _ _ _ (Or.inl q) hInv (by omega))
      have c2 : xs (4 * t + 1) ≤ nI 6 := Classical.byContradiction fun q => hop (hn _ _ _ _ _ (Or.inr q) hInv (by omega))
      obtain ⟨cd', hcd', hV, hlk, h45⟩ := G1
      have ecd : cd' = cd := Option.some.inj (hcd'.symm.trans hcd)
      subst ecd
      have hqs : s.heap.size + 65 < H.size := by obtain ⟨f, hf⟩ := hout; exact hf.lt
      refine l_callN (as := [xs (4 * t + 1)]) (rest := []) C S (hmet l D cT ad H.size M t (xs (4 * t + 1)) hInv (by omega) c1 c2) hV hlk h45 rfl hl.1 ⟨by omega, by omega⟩ (Nat.le_of_ble_eq_true rfl) d2 (fun v M1 H1 locs1 hq hJ1 S1 hk1 => ?_)
      have C1 := law_C C0 hK hJ1 d0
      have l3 : ls[2]? = some (.val (.ref (adN ad H.size 52))) := l2
      have hne1 := ne_N hne hqs
      refine lv_aload_n (k := 2) (i := 2) hx hb d3 rfl l3 ?_
      refine l_arg' C0 S1.2 hl h4 hL (by omega) rfl a2 ?_
      refine l_call (as := [xs (4 * t + 1)]) (rest := [.int v]) C1 S1 G2 hq rfl rfl hl.1 ⟨by omega, by omega⟩ (Nat.le_of_ble_eq_true rfl) d4 (fun v2 M2 H2 locs2 hq2 S2 hk2 hz2 => ?_)
      refine lv_icmp_eq (tgt := 1343) hx hb d5 ho (fun _ => kk d0 H2 locs2 (kc + 6) (ks + 7243) ls hd0 ⟨some 65, PT, adN ad H.size, M2, Or.inr ⟨rfl, rfl, by omega, by omega⟩, hJ1, hne1, hax, S2, hq2.2, (hout.kept hne hk1).kept hne1 hk2⟩ hl) (fun h => absurd hq2.1.symm h)
    · exact absurd (hp _ _ _ hInv (by omega)) hop
theorem armP0 {pc i1 i2 yc ym : Nat} {cd : pCd} (hp : ∀ (M : Mem) (t : Nat), Inv t M → t < 512 → Op (some 65) PT 12 yc [.ref 0] ym [.ref 52] t M) (hmet : ∀ (l : Launch) (D : va_G) (cT : Nat → ClassId) (ad : Nat → Nat) (P : Nat) (M : Mem) (t : Nat), Inv t M → t < 512 → Met l cd.1 (.code cd.1 cd.2.1 cd.2.2.1 cd.2.2.2.1 :: wsG) (Rk 16 6 7243 1200) (PN D cT ad M P [.ref (ad 0)]) (QN D cT ad P (QOp ym [.ref 52] t)) 6 7243 (AN ad P)) (hcd : MT[yc]? = some cd) (G1 : p_cv MT RL i1 yc 10 0) (G2 : p_cv MT RL i2 ym 11 0) {off : Int} (ho : ((pc + 8 : Nat) : Int) + off = (1343 : Nat)) (d1 : decode code pc = .ok (.aload_n 1, 1)) (d2 : decode code (pc + 1) = .ok (.invokevirtual i1, 3)) (d3 : decode code (pc + 4) = .ok (.aload_n 2, 1)) (d4 : decode code (pc + 5) = .ok (.invokevirtual i2, 3)) (d5 : decode code (pc + 8) = .ok (.if_icmp .eq off, 3)) : ArmL pc := by
  intro p l e s m below meth c b L xs D cT t d0 H locs kc ks ls hf C0 hK hd0 hL h4 hI hl kk
  obtain ⟨pl, tl, ad, M, hc, hJ, hne, hax, S, hInv, hout⟩ := hI
  have C := law_C C0 hK hJ d0
  have hx := C0.1
  have hb := C0.2.1
  have hcs := hc_cs (by omega) hc
  have l1 : ls[1]? = some (.val (.ref (ad 0))) := by rw [hax.1]; exact lv_at hl 1 rfl
  have l2 : ls[2]? = some (.val (.ref (ad 52))) := by rw [hax.2]; exact lv_at hl 2 rfl
  refine lv_aload_n (k := 1) (i := 1) hx hb d1 rfl l1 ?_
  rcases hc with ⟨rfl, rfl, k1, k2⟩ | ⟨rfl, rfl, k1, k2⟩
  · obtain ⟨cd', hcd', hV, hlk, h45⟩ := G1
    have ecd : cd' = cd := Option.some.inj (hcd'.symm.trans hcd)
    subst ecd
    have hqs : s.heap.size + 65 < H.size := by obtain ⟨f, hf⟩ := hout; exact hf.lt
    refine l_callN (as := []) (rest := []) C S (hmet l D cT ad H.size M t hInv (by omega)) hV hlk h45 rfl hl.1 ⟨by omega, by omega⟩ (Nat.le_of_ble_eq_true rfl) d2 (fun v M1 H1 locs1 hq hJ1 S1 hk1 => ?_)
    have C1 := law_C C0 hK hJ1 d0
    have l3 : ls[2]? = some (.val (.ref (adN ad H.size 52))) := l2
    have hne1 := ne_N hne hqs
    refine lv_aload_n (k := 2) (i := 2) hx hb d3 rfl l3 ?_
    refine l_call (as := []) (rest := [.int v]) C1 S1 G2 hq rfl rfl hl.1 ⟨by omega, by omega⟩ (Nat.le_of_ble_eq_true rfl) d4 (fun v2 M2 H2 locs2 hq2 S2 hk2 hz2 => ?_)
    refine lv_icmp_eq (tgt := 1343) hx hb d5 ho (fun _ => kk d0 H2 locs2 (kc + 6) (ks + 7243) ls hd0 ⟨some 65, PT, adN ad H.size, M2, Or.inr ⟨rfl, rfl, by omega, by omega⟩, hJ1, hne1, hax, S2, hq2.2, (hout.kept hne hk1).kept hne1 hk2⟩ hl) (fun h => absurd hq2.1.symm h)
  · refine l_call (as := []) (rest := []) C S G1 (hp M t hInv (by omega)) rfl rfl hl.1 hcs (Nat.le_of_ble_eq_true rfl) d2 (fun v M1 H1 locs1 hq S1 hk1 hz1 => ?_)
    refine lv_aload_n (k := 2) (i := 2) hx hb d3 rfl l2 ?_
    refine l_call (as := []) (rest := [.int v]) C S1 G2 hq rfl rfl hl.1 hcs (Nat.le_of_ble_eq_true rfl) d4 (fun v2 M2 H2 locs2 hq2 S2 hk2 hz2 => ?_)
    refine lv_icmp_eq (tgt := 1343) hx hb d5 ho (fun _ => kk d0 H2 locs2 kc ks ls hd0 ⟨some 65, PT, ad, M2, Or.inr ⟨rfl, rfl, by omega, by omega⟩, hJ, hne, hax, S2, hq2.2, (hout.kept hne hk1).kept hne hk2⟩ hl) (fun h => absurd hq2.1.symm h)
theorem ar_1087 : ArmL 1087 := armP1 (cd := m_X10_moves) (off := 236) (fun pl tl M t x hx h ht => opn_moves (d := 0) hx h ht) (fun M t x h ht => op_moves (d := 0) h ht) (fun l D cT ad P M t x h ht c1 c2 => met_moves l D cT ad P M h ht c1 c2) t_X10_moves cl_164 cl_167 (by decide) (by decide +kernel) (by unfold dArg; decide +kernel) (by decide +kernel) (by decide +kernel) (by unfold dArg; decide +kernel) (by decide +kernel) (by decide +kernel)
theorem ar_1112 : ArmL 1112 := armP1 (cd := m_X10_up) (off := 211) (fun pl tl M t x hx h ht => opn_up (d := 0) hx h ht) (fun M t x h ht => op_up (d := 0) h ht) (fun l D cT ad P M t x h ht c1 c2 => met_up l D cT ad P M h ht c1 c2) t_X10_up cl_168 cl_171 (by decide) (by decide +kernel) (by unfold dArg; decide +kernel) (by decide +kernel) (by decide +kernel) (by unfold dArg; decide +kernel) (by decide +kernel) (by decide +kernel)
theorem ar_1224 : ArmL 1224 := armP0 (cd := m_X10_needs) (off := 111) (fun M t h ht => op_needs (d := 0) h ht) (fun l D cT ad P M t h ht => met_needs l D cT ad P M h ht) t_X10_needs cl_184 cl_187 (by decide) (by decide +kernel) (by decide +kernel) (by decide +kernel) (by decide +kernel) (by decide +kernel)
