/-! THE LAW'S ARM OF row -/
theorem row_in {x : Int32} {n : Nat} (hn : n ≤ 13) : (lN 0 ≤ x.toInt64 ∧ x.toInt64 ≤ (nI n - nI 1).toInt64) ↔ (¬ x < 0 ∧ x < nI n) := by
  have key : ∀ n, n ≤ 13 → (nI n - nI 1).toInt = (n : Int) - 1 := by decide
  rw [← z_i2l (a := 0) (by omega), z_wle, z_wle, Int32.le_iff_toInt_le, Int32.le_iff_toInt_le, Int32.lt_iff_toInt_lt, Int32.lt_iff_toInt_lt, key n hn, nI_toInt (by omega), nI_toInt (by omega)]
  have : (0 : Int32).toInt = 0 := by decide
  rw [this]
  omega
section S93
variable {pl : Option Nat} {tl : List LC} {d : Nat} {M : Mem} {t : Nat}
theorem row_inv {v : Int32} (hI : Inv t M) : Inv t (si M 52 7 v) := ⟨hI.1, hI.2.1, hI.2.2⟩
theorem m_rowP {x : Int32} (h : Inv t M) (ht : t < 512) : exL (LY pl tl) (d + 12) 236 [.ref 52, .int x] M (fun v M1 => exI (LY pl tl) (d + 12) 133 [.ref 52] M1 (fun r M2 => Inv (t + 1) M2 ∧ ((inR M x ∧ r = 0 ∧ v = M.2 2 x.toNatClampNeg) ∨ (¬ inR M x ∧ r = 1)))) := by
  have hI := h.up (t' := t + 1) (by omega) (by omega)
  obtain ⟨n, n13, r1, r2, r3⟩ := h.2.1
  refine e_X11_row (s_in ?_)
  rw [r2]
  by_cases hin : inR M x
  · have hin' : ¬ x < 0 ∧ x < nI n := by rw [← r1]; exact hin
    rw [if_pos ((row_in n13).mpr hin')]
    refine ⟨fun q => absurd q (by decide), fun _ => ?_⟩
    obtain ⟨j, hj, e⟩ : ∃ j, j < n ∧ x = nI j := by
      rcases z_ix x (n := n) (by omega) with (q | q) | ⟨j, hj, e⟩
      · exact absurd q hin'.1
      · have := hin'.2
        rw [Int32.lt_iff_toInt_lt] at this
        rw [Int32.le_iff_toInt_le] at q
        omega
      · exact ⟨j, hj, e⟩
    have hc : x.toNatClampNeg = j := by rw [e]; exact z_cl (by omega)
    refine ⟨by rw [e]; exact (z_in (by omega) (by omega)).mpr (by omega), ?_⟩
    refine e_X11_thrown ⟨row_inv hI, Or.inl ⟨hin, ?_, ?_⟩⟩
    · show (si M 52 7 (nI 0)).1 52 7 = 0
      unfold si
      rw [sa_s]
      exact if_pos rfl
    · show M.2 56 x.toNatClampNeg = _
      rw [hc]
      exact (r3 j hj).symm
  · have hin' : ¬ (¬ x < 0 ∧ x < nI n) := by rw [← r1]; exact hin
    rw [if_neg (fun q => hin' ((row_in n13).mp q))]
    refine ⟨fun _ => ?_, fun q => absurd rfl q⟩
    refine e_X11_lost (e_X11_thrown ⟨row_inv (row_inv hI), Or.inr ⟨hin, ?_⟩⟩)
    show (si (si M 52 7 (nI 0)) 52 7 (nI 1)).1 52 7 = 1
    unfold si
    rw [sa_s]
    exact if_pos rfl
end S93
theorem HM_kept {D : va_G} {cT : Nat → ClassId} {ad : Nat → Nat} {lay : List LC} {M : Mem} {H H1 : Heap} (h : HM D cT ad lay M H) (hk : ∀ i, i < lay.length → H1[ad i]? = H[ad i]?) : HM D cT ad lay M H1 := by
  unfold HM at h ⊢
  refine h.kept (fun k q hq => ?_)
  have hl : k < lay.length := by rw [← cw_len (cT := cT) (ad := ad) (M := M)]; exact (List.getElem?_eq_some_iff.mp hq).1
  rw [cw_at (List.getElem?_eq_getElem hl)] at hq
  cases hq
  exact hk k hl
section S93b
variable {p : Program} {l : Launch} {e : Env} {s : State} {m : MethodId} {below : List Frame} {meth : Method} {c : Code} {b : Nat} {D : va_G} {cT : Nat → ClassId} {ad : Nat → Nat} {lay : List LC} {M : Mem} {d0 : Drawn} {H : Heap} {locs : List Loc} {kc ks pc : Nat} {ls : Array Slot}
theorem l_callL {y i ci idx n : Nat} {fks : List FK} {as : List Int32} {Q : Int64 → Mem → Prop} {rest : List Value} (C : Bx p (s.setDrawn d0) m #[Value.ref b] meth c RL code 8 ret D cT ad lay (oA s.heap.size)) (S : ST D cT ad lay (oA s.heap.size) s M H locs) (G : p_cv MT RL idx y ci n) (hex : exL lay 12 y (.ref i :: as.map Value.int) M Q) (hi : lay[i]? = some (.inr (ci, fks))) (hn : as.length = n) (hl : ls.size = 8) (hcs : kc ≤ 601024 ∧ ks ≤ 7293034) (hrm : (rest.map fun v => v.category).sum ≤ 8) (hdg : decode code pc = .ok (.invokevirtual idx, 3))
    (kk : ∀ (v : Int64) (M1 : Mem) (H1 : Heap) (locs1 : List Loc), Q v M1 → ST D cT ad lay (oA s.heap.size) s M1 H1 locs1 → (∀ q, q < H.size → ¬ AA ad lay q → H1[q]? = H[q]?) → H.size ≤ H1.size → Wl p l e s m below meth c b d0 H1 locs1 kc ks (pc + 3) ls (.long v :: rest)) : Wl p l e s m below meth c b d0 H locs kc ks pc ls ((as.map Value.int).reverse ++ .ref (ad i) :: rest) := by
  obtain ⟨cd, hcd, hV, hlk, hm45⟩ := G
  have hM := ex_met MT_ok l lay D cT ad 12 y (.ref i :: as.map Value.int) M (qL Q) cd hcd hex
  have e1 : (Value.ref i :: as.map Value.int).map (cv ad) = .ref (ad i) :: as.map Value.int := by
    rw [List.map_cons, cv_ints]
    rfl
  rw [e1] at hM
  have hr := run_V (l := l) (e := e) (R := room_1) (below := below) (kc := kc) (ks := ks) (pc := pc) (ls := ls) (rest := rest) (st0 := (as.map Value.int).reverse ++ .ref (ad i) :: rest) C S hM hi hV hlk ⟨by decide, by show 8 + (cd.2.2.1 + 11) + 64 * 12 ≤ 84000; omega⟩ hcs hl (by rw [List.length_map]; exact hn) rfl hrm hdg
  intro T hT X
  obtain ⟨v, st₀, t9, T', Lw, h0, X', hL, g1, g2, ⟨⟨r, u, hv, hp, hb⟩, hz, hk⟩, hst⟩ := hr T hT X
  obtain ⟨w, rfl, hq⟩ := hp
  cases hv
  rw [h0] at hz hk
  have hA := C.1.2.2.in
  have hS := S.2
  obtain ⟨t2, a1, b1⟩ := kk w u T'.heap (locs ++ Lw) hq ⟨by rw [g1]; exact hb, Nat.le_trans hS.1 (by rw [g1]; exact hz), fun q h1 h2 => by rw [g1, hk q (Nat.lt_of_lt_of_le h1 hS.1) (fun z => h2 (hA q z))]; exact hS.2.1 q h1 h2, fun q hq => by
      rcases List.mem_append.mp hq with h | h
      · exact hS.2.2 q h
      · exact hA _ (hL q h)⟩ (fun q h1 h2 => by rw [g1]; exact hk q h1 h2) (by rw [g1]; exact hz) T' rfl X'
  exact ⟨t2, hst t2 a1, b1⟩
theorem XP_start {L : Nat} {xs : Nat → Int32} (C0 : lw_At p s m meth c b L xs) : (∀ w ∈ xB, va_Nw w s) ∧ vx_Zq Bundle.tN "UNASSIGNED_STACK" Bundle.steD (oA s.heap.size) s s.heap ∧ vx_Zq Bundle.tN "SUPPRESSED_SENTINEL" Bundle.listD (oA s.heap.size) s s.heap := by
  obtain ⟨hx, hb, hr, hml, hown, hts, hX, hbl, hlocks, hgv⟩ := C0
  have hs := flat_of_before _ hgv
  have go : ∀ (i : Nat) (w : Cond), w.onTables = true → lw_tbl[i]? = some w → va_Nw w s := fun i w h1 h2 => va_Nw.of h1 (hts w (List.mem_of_getElem? h2))
  refine ⟨fun w hw => ?_, ?_, ?_⟩
  · simp only [xB, List.mem_cons, List.not_mem_nil, or_false] at hw
    rcases hw with rfl | rfl | rfl | rfl
    · exact go 1070 _ rfl (by decide +kernel)
    · exact go 1072 _ rfl (by decide +kernel)
    · exact go 1074 _ rfl (by decide +kernel)
    · exact go 1069 _ rfl (by decide +kernel)
  · exact vx_Zqof (hts _ (List.mem_of_getElem? (i := 1094) (by decide +kernel))) (hts _ (List.mem_of_getElem? (i := 106) (by decide +kernel))) (hs _ (by decide +kernel)) (fun a ha => Nat.not_le.mpr ha)
  · exact vx_Zqof (hts _ (List.mem_of_getElem? (i := 1096) (by decide +kernel))) (hts _ (List.mem_of_getElem? (i := 106) (by decide +kernel))) (hs _ (by decide +kernel)) (fun a ha => Nat.not_le.mpr ha)
end S93b
theorem ar_1288 : ArmL 1288 := by
  intro p l e s m below meth c b L xs D cT t d0 H locs kc ks ls hf C0 hK hd0 hL h4 hI hl kk
  obtain ⟨pl, tl, ad, M, hc, hJ, hne, hax, S, hInv, hout⟩ := hI
  have C := law_C C0 hK hJ d0
  have hx := C0.1
  have hb := C0.2.1
  have hts := C.1.1.2.2.2.2
  have hfl := fl_tr hf
  obtain ⟨n, n13, r1, -⟩ := hInv.2.1
  have hXP : XPH s H := by
    obtain ⟨x1, x2, x3⟩ := XP_start C0
    have hk : ∀ a : Nat, a < s.heap.size → ¬ oA s.heap.size a → H[a]? = s.heap[a]? := fun a ha hn => S.2.2.1 a ha hn
    exact ⟨x1, vx_Zq.narrow (vx_Zq.kept x2 hk) (fun q h => h.elim), vx_Zq.narrow (vx_Zq.kept x3 hk) (fun q h => h.elim)⟩
  have l1 : ls[1]? = some (.val (.ref (ad 0))) := by rw [hax.1]; exact lv_at hl 1 rfl
  refine lv_aload_n (k := 1) (i := 1) hx hb (by decide +kernel) rfl l1 ?_
  refine l_arg' (pc := 1289) (k := 1) C0 S.2 hl h4 hL (by omega) rfl (by unfold dArg; decide +kernel) ?_
  refine lv_aload_n (k := 3) (i := 3) hx hb (by decide +kernel) rfl (lv_at hl 3 rfl) ?_
  have cwx : vx_CSW room_1 (s.setDrawn d0) #[Value.ref b] RL 200 yL_row cL_row 4 (some .int) [(0, 8, 11, 13)] (.codeWith yL_row cL_row 4 (some .int) [(0, 8, 11, 13)] :: wsG) (Rk 12 1 6 1024) 1 6 3 := by
    refine vx_cwSW 3 hts (ws_goodIn _ ?_) rfl rfl rfl ⟨by decide, by decide, by decide +kernel⟩ ⟨by decide, by decide⟩
    intro w hw
    simp only [va_wsS, List.mem_append, List.mem_cons, List.not_mem_nil, or_false] at hw
    rcases hw with (rfl | rfl | rfl) | rfl | hw
    · exact wd_1059
    · exact wd_1060
    · exact wd_87
    · exact wd_1061
    · exact hw
  have hcs0 := hc_cs (by omega) hc
  have hcs : kc + 1 ≤ 601024 ∧ ks + 6 ≤ 7293034 := by rcases hc with ⟨_, _, h1, h2⟩ | ⟨_, _, h1, h2⟩ <;> exact ⟨by omega, by omega⟩
  have hr := vx_runSW (l := l) (e := e) (below := below) (meth := meth) (As := [.ref (ad 0), .int (xs (4 * t + 1)), .ref (s.heap.size + 65)]) (rest := []) (g := F0 m 1296 ls [.ref (s.heap.size + 65), .int (xs (4 * t + 1)), .ref (ad 0)]) (H := H) (locs := locs) (cells := kc) (slots := ks) C.1.1 (met_lrow l hfl D cT ad pl tl M (xs (4 * t + 1)) (s.heap.size + 65) r1 n13) cwx ⟨PLr_blind _ _ _ _ _ _ _, fun U hU hW => ⟨rfl, by rw [hU]; exact S.1, C.1.2.1.warm hW, C.1.2.2.own, by rw [hU]; exact (XPH.same (u := s) (U := s.setDrawn d0) rfl hXP).warm hW, by rw [hU]; exact hout⟩⟩ rfl rfl hl.1 rfl (lv_room (Nat.le_of_ble_eq_true rfl)) (show decode code 1296 = .ok (.invokestatic 200, 3) by decide +kernel) hcs
  intro T hT X
  obtain ⟨v9, st₀, t9, T', Lw, h0, X', hLw, g1, g2, ⟨⟨r, f, hv9, hrf, hat⟩, hz, hk⟩, hst⟩ := hr T hT X
  cases hv9
  rw [h0] at hz hk
  have hS := S.2
  have hT'k : ∀ i, i < (LY pl tl).length → T'.heap[ad i]? = H[ad i]? := fun i hi => by rw [g1]; exact hk _ (HM_lt S.1 hi) (hne i hi)
  have S1 : ST D cT ad (LY pl tl) (oA s.heap.size) s M T'.heap (locs ++ Lw) := ⟨HM_kept S.1 hT'k, Nat.le_trans hS.1 (by rw [g1]; exact hz), fun q h1 h2 => by rw [g1, hk q (Nat.lt_of_lt_of_le h1 hS.1) (fun z => h2 (by rw [z]; exact Nat.le_add_right _ _))]; exact hS.2.1 q h1 h2, fun q hq => by
      rcases List.mem_append.mp hq with h | h
      · exact hS.2.2 q h
      · have := hLw q h
        rw [this]; exact Nat.le_add_right _ _⟩
  have hat : va_at D vwCl (s.heap.size + 65, .inl (cT 1, 1, .inr (.inl f))) T'.heap := by rw [g1]; exact hat
  have fin : Wl p l e s m below meth c b d0 T'.heap (locs ++ Lw) (kc + 1) (ks + 6) 1299 ls [.int r] := by
    refine lv_istore (i := 5) hx hb (by decide +kernel) hl (by decide) rfl (fun ls1 hl1 => ?_)
    have hl1 : lv_has ls1 8 [(5, .int r), (0, .ref b), (1, .ref s.heap.size), (2, .ref (s.heap.size + 52)), (3, .ref (s.heap.size + 65)), (4, .int (nI (4 * t)))] := hl1
    have hl1' : lv_has ls1 8 (LV s b t) := lv_sub hl1 [1, 2, 3, 4, 5] rfl
    have l2 : ls1[2]? = some (.val (.ref (ad 52))) := by rw [hax.2]; exact lv_at hl1' 2 rfl
    refine lv_aload_n (k := 2) (i := 2) hx hb (by decide +kernel) rfl l2 ?_
    refine l_arg' (pc := 1302) (k := 1) C0 S1.2 hl1' h4 hL (by omega) rfl (by unfold dArg; decide +kernel) ?_
    refine l_callL (pc := 1308) (as := [xs (4 * t + 1)]) (rest := []) C S1 cl_205 (m_rowP (d := 0) hInv (by omega)) rfl rfl hl1.1 hcs (Nat.le_of_ble_eq_true rfl) (by decide +kernel) (fun v M1 H1 locs1 hq S2 hk1 hz1 => ?_)
    refine lv_lstore (i := 6) hx hb (by decide +kernel) hl1 (by decide) rfl (fun ls2 hl2 => ?_)
    have hl2 : lv_has ls2 8 [(6, .long v), (5, .int r), (0, .ref b), (1, .ref s.heap.size), (2, .ref (s.heap.size + 52)), (3, .ref (s.heap.size + 65)), (4, .int (nI (4 * t)))] := hl2
    have hl2' : lv_has ls2 8 (LV s b t) := lv_sub hl2 [2, 3, 4, 5, 6] rfl
    have l2 : ls2[2]? = some (.val (.ref (ad 52))) := by rw [hax.2]; exact lv_at hl2' 2 rfl
    refine lv_aload_n (k := 2) (i := 2) hx hb (by decide +kernel) rfl l2 ?_
    refine l_call (pc := 1314) (as := []) (rest := []) C S2 cl_206 hq rfl rfl hl2.1 hcs (Nat.le_of_ble_eq_true rfl) (by decide +kernel) (fun r2 M2 H2 locs2 hq2 S3 hk2 hz2 => ?_)
    obtain ⟨hI2, hq2⟩ := hq2
    have ho1 : ∃ f', va_at D vwCl (s.heap.size + 65, .inl (cT 1, 1, .inr (.inl f'))) T'.heap := ⟨f, hat⟩
    have hk12 : va_at D vwCl (s.heap.size + 65, .inl (cT 1, 1, .inr (.inl f))) H2 := by
      have a1 := hat.kept (hk1 _ hat.lt (fun ⟨i, hi, ei⟩ => hne i hi ei.symm))
      exact a1.kept (hk2 _ a1.lt (fun ⟨i, hi, ei⟩ => hne i hi ei.symm))
    have hcu : (pl = none ∧ tl = [] ∧ kc + 1 ≤ 66 + (t + 1) ∧ ks + 6 ≤ 4000 + 6 * (t + 1)) ∨ (pl = some 65 ∧ tl = PT ∧ kc + 1 ≤ 72 + (t + 1) ∧ ks + 6 ≤ 12000 + 6 * (t + 1)) := by
      rcases hc with ⟨a, b, c, d⟩ | ⟨a, b, c, d⟩
      · exact Or.inl ⟨a, b, by omega, by omega⟩
      · exact Or.inr ⟨a, b, by omega, by omega⟩
    have done : Wl p l e s m below meth c b d0 H2 locs2 (kc + 1) (ks + 6) 1340 ls2 [] := lv_goto (off := 3) (tgt := 1343) hx hb (by decide +kernel) (by decide) (kk d0 H2 locs2 (kc + 1) (ks + 6) ls2 hd0 ⟨pl, tl, ad, M2, hcu, hJ, hne, hax, S3, hI2, ⟨f, hk12⟩⟩ hl2')
    refine lv_iload hx hb (by decide +kernel) (lv_at hl2 1 rfl) ?_
    have heq : r2 = r := by
      rcases hrf with ⟨a1, a2, -⟩ | ⟨a1, a2⟩
      · rcases hq2 with ⟨-, b2, -⟩ | ⟨b1, -⟩
        · rw [a1, b2]
        · exact absurd a2 b1
      · rcases hq2 with ⟨b1, -⟩ | ⟨-, b2⟩
        · exact absurd b1 a2
        · rw [a1, b2]
    refine lv_icmp_eq (off := 5) (tgt := 1324) hx hb (by decide +kernel) (by decide) (fun _ => ?_) (fun h => absurd heq h)
    refine lv_iload hx hb (by decide +kernel) (lv_at hl2 1 rfl) ?_
    refine lv_if_ne (off := 14) (tgt := 1340) hx hb (by decide +kernel) (by decide) (fun _ => done) (fun hr0 => ?_)
    have hval : f 0 = v := by
      rcases hrf with ⟨a1, a2, a3⟩ | ⟨a1, a2⟩
      · rcases hq2 with ⟨-, -, b3⟩ | ⟨b1, -⟩
        · rw [a3, b3]
        · exact absurd a2 b1
      · rw [hr0] at a1
        exact absurd a1 (by decide)
    refine lv_aload_n (k := 3) (i := 3) hx hb (by decide +kernel) rfl (lv_at hl2' 3 rfl) ?_
    refine lv_iconst (n := 0) (v := nI 0) hx hb (by decide +kernel) rfl ?_
    have hJo : AJ (oA s.heap.size) (fun _ => s.heap.size + 65) [.inl (1, 1)] := ⟨(AJ_out (s.heap.size + 65)).1, fun i _ => Nat.le_add_right _ _⟩
    refine xq_lald (i := 0) (n := 1) (M := sb Zm 0 f) (law_C C0 hK hJo d0) ⟨HM_out.mpr hk12, S3.2⟩ rfl ((z_in (by omega) (by omega)).mpr (by omega)) (by decide +kernel) ?_
    refine lv_lload hx hb (by decide +kernel) (lv_at hl2 0 rfl) ?_
    refine W.lcmp hx hb (by decide +kernel) ?_
    refine lv_if_eq (off := 5) (tgt := 1340) hx hb (by decide +kernel) (by decide) (fun _ => done) (fun h => absurd ((lg_cmp_eq _ _).mpr hval) h)
  obtain ⟨t2, a1, b1⟩ := fin T' rfl X'
  exact ⟨t2, hst t2 a1, b1⟩
