/-! THE LAW: its loop, its start -/
def swo : Array Int := #[193, 218, 243, 256, 281, 306, 331, 396, 433, 458, 495, 532, 557, 582, 619, 632, 657, 682, 719, 732, 757, 770, 795, 808, 821, 834, 847, 872, 897, 910, 935, 960, 985, 1010, 1035, 1048, 1073, 1098, 1135, 1172, 1185, 1198, 1211, 1224, 1249]
theorem sw_d : decode code 39 = .ok (.tableswitch 1304 0 44 swo, 193) := by decide +kernel
theorem sw_arm {k : Nat} (hk : k < 45) : ∃ (off : Int) (tgt : Nat), swo[k]? = some off ∧ (39 : Int) + off = (tgt : Int) ∧ ArmL tgt := by
  match k, hk with
  | 0, _ => exact ⟨193, 232, rfl, by decide, ar_232⟩
  | 1, _ => exact ⟨218, 257, rfl, by decide, ar_257⟩
  | 2, _ => exact ⟨243, 282, rfl, by decide, ar_282⟩
  | 3, _ => exact ⟨256, 295, rfl, by decide, ar_295⟩
  | 4, _ => exact ⟨281, 320, rfl, by decide, ar_320⟩
  | 5, _ => exact ⟨306, 345, rfl, by decide, ar_345⟩
  | 6, _ => exact ⟨331, 370, rfl, by decide, ar_370⟩
  | 7, _ => exact ⟨396, 435, rfl, by decide, ar_435⟩
  | 8, _ => exact ⟨433, 472, rfl, by decide, ar_472⟩
  | 9, _ => exact ⟨458, 497, rfl, by decide, ar_497⟩
  | 10, _ => exact ⟨495, 534, rfl, by decide, ar_534⟩
  | 11, _ => exact ⟨532, 571, rfl, by decide, ar_571⟩
  | 12, _ => exact ⟨557, 596, rfl, by decide, ar_596⟩
  | 13, _ => exact ⟨582, 621, rfl, by decide, ar_621⟩
  | 14, _ => exact ⟨619, 658, rfl, by decide, ar_658⟩
  | 15, _ => exact ⟨632, 671, rfl, by decide, ar_671⟩
  | 16, _ => exact ⟨657, 696, rfl, by decide, ar_696⟩
  | 17, _ => exact ⟨682, 721, rfl, by decide, ar_721⟩
  | 18, _ => exact ⟨719, 758, rfl, by decide, ar_758⟩
  | 19, _ => exact ⟨732, 771, rfl, by decide, ar_771⟩
  | 20, _ => exact ⟨757, 796, rfl, by decide, ar_796⟩
  | 21, _ => exact ⟨770, 809, rfl, by decide, ar_809⟩
  | 22, _ => exact ⟨795, 834, rfl, by decide, ar_834⟩
  | 23, _ => exact ⟨808, 847, rfl, by decide, ar_847⟩
  | 24, _ => exact ⟨821, 860, rfl, by decide, ar_860⟩
  | 25, _ => exact ⟨834, 873, rfl, by decide, ar_873⟩
  | 26, _ => exact ⟨847, 886, rfl, by decide, ar_886⟩
  | 27, _ => exact ⟨872, 911, rfl, by decide, ar_911⟩
  | 28, _ => exact ⟨897, 936, rfl, by decide, ar_936⟩
  | 29, _ => exact ⟨910, 949, rfl, by decide, ar_949⟩
  | 30, _ => exact ⟨935, 974, rfl, by decide, ar_974⟩
  | 31, _ => exact ⟨960, 999, rfl, by decide, ar_999⟩
  | 32, _ => exact ⟨985, 1024, rfl, by decide, ar_1024⟩
  | 33, _ => exact ⟨1010, 1049, rfl, by decide, ar_1049⟩
  | 34, _ => exact ⟨1035, 1074, rfl, by decide, ar_1074⟩
  | 35, _ => exact ⟨1048, 1087, rfl, by decide, ar_1087⟩
  | 36, _ => exact ⟨1073, 1112, rfl, by decide, ar_1112⟩
  | 37, _ => exact ⟨1098, 1137, rfl, by decide, ar_1137⟩
  | 38, _ => exact ⟨1135, 1174, rfl, by decide, ar_1174⟩
  | 39, _ => exact ⟨1172, 1211, rfl, by decide, ar_1211⟩
  | 40, _ => exact ⟨1185, 1224, rfl, by decide, ar_1224⟩
  | 41, _ => exact ⟨1198, 1237, rfl, by decide, ar_1237⟩
  | 42, _ => exact ⟨1211, 1250, rfl, by decide, ar_1250⟩
  | 43, _ => exact ⟨1224, 1263, rfl, by decide, ar_1263⟩
  | 44, _ => exact ⟨1249, 1288, rfl, by decide, ar_1288⟩
  | k + 45, hk => exact absurd hk (by omega)
def L10c : List LC := [.inr (10, [some (some 1), some (some 3), some (some 15), some (some 29), some (some 43), some (some 46), some (some 47), some none, none]), .inr (6, [some (some 2), none]), .inl (1, 13), .inr (5, [some (some 4), some (some 6), some (some 14), none, none, none, none]), .inr (8, [some (some 5), none]), .inl (0, 300), .inr (3, [some (some 7), some (some 8), some (some 9), some (some 10), some (some 11), some (some 12), some (some 13), none, none]), .inl (0, 12), .inl (0, 66), .inl (0, 66), .inl (0, 66), .inl (2, 66), .inl (0, 144), .inl (0, 8), .inl (0, 6), .inr (9, [some (some 16), some (some 24), none, none, none, none]), .inr (3, [some (some 17), some (some 18), some (some 19), some (some 20), some (some 21), some (some 22), some (some 23), none, none]), .inl (0, 12), .inl (0, 66), .inl (0, 66), .inl (0, 66), .inl (2, 66), .inl (0, 144), .inl (0, 8), .inr (2, [some (some 25), some (some 26), some (some 27), some (some 28), none, none, none, none, none, none, none, none]), .inl (0, 6), .inl (0, 6), .inl (0, 6), .inl (0, 20), .inr (9, [some (some 30), some (some 38), none, none, none, none]), .inr (3, [some (some 31), some (some 32), some (some 33), some (some 34), some (some 35), some (some 36), some (some 37), none, none]), .inl (0, 12), .inl (0, 66), .inl (0, 66), .inl (0, 66), .inl (2, 66), .inl (0, 144), .inl (0, 8), .inr (2, [some (some 39), some (some 40), some (some 41), some (some 42), none, none, none, none, none, none, none, none]), .inl (0, 6), .inl (0, 6), .inl (0, 6), .inl (0, 20), .inr (7, [some (some 44), some (some 45), none, none]), .inl (0, 8), .inl (0, 144), .inr (1, [none, none, none, none]), .inr (0, [some (some 48), some (some 49), some (some 50), some (some 51)]), .inl (0, 6), .inl (0, 6), .inl (0, 7), .inl (1, 8)]
def L11c : List LC := [.inr (11, [some (some 1), some (some 2), none, some (some 3), none, some (some 4), none, none, some (some 5), none, none, none, none, none, none, none, some (some 6), some (some 7), none, none, none, none, none, some (some 8), some (some 9), some (some 10), some (some 11), some (some 12), none, none, none]), .inl (0, 480), .inl (0, 480), .inl (3, 300), .inl (1, 32), .inl (0, 480), .inl (0, 144), .inl (0, 8), .inl (0, 7), .inl (0, 6), .inl (0, 6), .inl (0, 6), .inl (0, 6)]
theorem kg_L_X10 : KCd RL 10 8 [some none, some none, some none, some none, some none, some none, some none, some none, none] RX10 TX10 9 tyX10 := ⟨rfl, uw_X10, tyX10_ok, wd_110, wd_111, wd_88, by decide, by decide⟩
theorem kg_L_X11 : KCd RL 11 16 [some none, some none, none, some none, none, some none, none, none, some none, none, none, none, none, none, none, none, some none, some none, none, none, none, none, none, some none, some none, some none, some none, some none, none, none, none] RX11 TX11 31 tyX11 := ⟨rfl, uw_X11, tyX11_ok, wd_1128, wd_1129, wd_99, by decide, by decide⟩
theorem jn_0 (M M' : Mem) : jn 0 M M' = M' := by
  refine Prod.ext (funext fun a => ?_) (funext fun a => ?_)
  · show (if a < 0 then M.1 a else M'.1 (a - 0)) = M'.1 a
    rw [if_neg (Nat.not_lt_zero a)]; rfl
  · show (if a < 0 then M.2 a else M'.2 (a - 0)) = M'.2 a
    rw [if_neg (Nat.not_lt_zero a)]; rfl
theorem sub4 {L : Nat} (hL : L ≤ 2048) : (nI L - nI 4).toInt = (L : Int) - 4 := by
  by_cases h : 4 ≤ L
  · rw [z_sub h, nI_toInt (by omega)]
    omega
  · have key : ∀ L, L < 4 → (nI L - nI 4).toInt = (L : Int) - 4 := by decide
    exact key L (by omega)
section S94
variable {p : Program} {l : Launch} {e : Env} {s : State} {m : MethodId} {below : List Frame} {meth : Method} {c : Code} {b L : Nat} {xs : Nat → Int32} {D : va_G} {cT : Nat → ClassId}
theorem LI_up {t : Nat} {H : Heap} {locs : List Loc} {kc ks : Nat} (ht : t < 512) (h : LI D cT s t H locs kc ks) : LI D cT s (t + 1) H locs kc ks := by
  obtain ⟨pl, tl, ad, M, hc, hJ, hne, hax, S, hInv, hout⟩ := h
  exact ⟨pl, tl, ad, M, hc_up hc, hJ, hne, hax, S, hInv.up (by omega) (by omega), hout⟩
theorem law_loop (hf : l.flags = flags0) (C0 : lw_At p s m meth c b L xs) (hK : KX D cT s) (hL : L ≤ 2048) : ∀ (n t : Nat) (d0 : Drawn) (H : Heap) (locs : List Loc) (kc ks : Nat) (ls : Array Slot), L ≤ 4 * (n + t) → t ≤ 512 → s.drawn.sameBut d0 lw_cs → LI D cT s t H locs kc ks → lv_has ls 8 (LV s b t) → Wl p l e s m below meth c b d0 H locs kc ks 23 ls [] := by
  intro n
  induction n with
  | zero =>
    intro t d0 H locs kc ks ls hn ht hd0 hI hl
    obtain ⟨hx, hb, hr, hml, hown, hts, hX, hbl, hlocks, hgv⟩ := id C0
    obtain ⟨pl, tl, ad, M, hc, hJ, hne, hax, S, hInv, hout⟩ := hI
    refine lv_iload hx hb (by decide +kernel) (lv_at hl 4 rfl) ?_
    refine lv_aload_n (k := 0) (i := 0) hx hb (by decide +kernel) rfl (lv_at hl 0 rfl) ?_
    refine va_slen (A := oA s.heap.size) (xs := xs) (L := L) (b := b) hx hb (va_X.moved (u := s) (U := s.setDrawn d0) (Vm.Alike.refl s.vm) hX) hbl (Nat.not_le.mpr hbl) S.2 (by decide +kernel) ?_
    refine lv_iconst (n := 4) (v := nI 4) hx hb (by decide +kernel) rfl ?_
    refine lv_isub hx hb (by decide +kernel) ?_
    refine lv_icmp_gt (off := 1320) (tgt := 1349) hx hb (by decide +kernel) (by decide) (fun _ => ?_) (fun h => ?_)
    · refine lv_iconst (n := 1) (v := 1) hx hb (by decide +kernel) rfl ?_
      refine va_forget (fun q hq => S.2.2.2 q hq) ?_
      have hcs : kc ≤ 601024 ∧ ks ≤ 7293034 := by rcases hc with ⟨_, _, h1, h2⟩ | ⟨_, _, h1, h2⟩ <;> exact ⟨by omega, by omega⟩
      refine W.widen (k := 601024) (n := 7293034) hcs.1 hcs.2 ?_
      exact lw_ret hd0 hx hb hr hlocks (by decide +kernel)
    · exfalso
      refine h ?_
      show nI L - nI 4 < nI (4 * t)
      rw [Int32.lt_iff_toInt_lt, sub4 hL, nI_toInt (by omega)]
      omega
  | succ n ih =>
    intro t d0 H locs kc ks ls hn ht hd0 hI hl
    obtain ⟨hx, hb, hr, hml, hown, hts, hX, hbl, hlocks, hgv⟩ := id C0
    obtain ⟨pl, tl, ad, M, hc, hJ, hne, hax, S, hInv, hout⟩ := id hI
    refine lv_iload hx hb (by decide +kernel) (lv_at hl 4 rfl) ?_
    refine lv_aload_n (k := 0) (i := 0) hx hb (by decide +kernel) rfl (lv_at hl 0 rfl) ?_
    refine va_slen (A := oA s.heap.size) (xs := xs) (L := L) (b := b) hx hb (va_X.moved (u := s) (U := s.setDrawn d0) (Vm.Alike.refl s.vm) hX) hbl (Nat.not_le.mpr hbl) S.2 (by decide +kernel) ?_
    refine lv_iconst (n := 4) (v := nI 4) hx hb (by decide +kernel) rfl ?_
    refine lv_isub hx hb (by decide +kernel) ?_
    refine lv_icmp_gt (off := 1320) (tgt := 1349) hx hb (by decide +kernel) (by decide) (fun _ => ?_) (fun h => ?_)
    · refine lv_iconst (n := 1) (v := 1) hx hb (by decide +kernel) rfl ?_
      refine va_forget (fun q hq => S.2.2.2 q hq) ?_
      have hcs : kc ≤ 601024 ∧ ks ≤ 7293034 := by rcases hc with ⟨_, _, h1, h2⟩ | ⟨_, _, h1, h2⟩ <;> exact ⟨by omega, by omega⟩
      refine W.widen (k := 601024) (n := 7293034) hcs.1 hcs.2 ?_
      exact lw_ret hd0 hx hb hr hlocks (by decide +kernel)
    · have h4 : 4 * t + 4 ≤ L := by
        have h : ¬ (nI L - nI 4 < nI (4 * t)) := h
        rw [Int32.lt_iff_toInt_lt, sub4 hL, nI_toInt (by omega)] at h
        omega
      have kont : Kont p l e s m below meth c b D cT t := by
        intro d1 H1 locs1 kc1 ks1 ls1 hd1 hI1 hl1
        refine lv_iinc (i := 4) (n := 4) (k := 4) (v := nI (4 * (t + 1))) hx hb (by decide +kernel) hl1 rfl ?_ (by decide) rfl (fun ls2 hl2 => ?_)
        · show nI (4 * t) + nI 4 = nI (4 * (t + 1))
          rw [nI_add]
          rfl
        · have hl2 : lv_has ls2 8 [(4, .int (nI (4 * (t + 1)))), (0, .ref b), (1, .ref s.heap.size), (2, .ref (s.heap.size + 52)), (3, .ref (s.heap.size + 65))] := hl2
          refine lv_goto (off := -1323) (tgt := 23) hx hb (by decide +kernel) (by decide) ?_
          exact ih (t + 1) d1 H1 locs1 kc1 ks1 ls2 (by omega) (by omega) hd1 hI1 (lv_sub hl2 [1, 2, 3, 4, 0] rfl)
      refine lv_aload_n (k := 0) (i := 0) hx hb (by decide +kernel) rfl (lv_at hl 0 rfl) ?_
      refine lv_iload hx hb (by decide +kernel) (lv_at hl 4 rfl) ?_
      refine va_sld (A := oA s.heap.size) (xs := xs) (L := L) (b := b) hx hb (va_X.moved (u := s) (U := s.setDrawn d0) (Vm.Alike.refl s.vm) hX) hbl (Nat.not_le.mpr hbl) S.2 ((z_in (n := 4 * t) (N := L) (by omega) (by omega)).mpr (by omega)) (by decide +kernel) ?_
      refine lv_bipush (n := 63) (v := nI 63) hx hb (by decide +kernel) rfl ?_
      refine lv_iand hx hb (by decide +kernel) ?_
      generalize xs (nI (4 * t)).toNatClampNeg &&& nI 63 = x
      by_cases hin : x.toInt < 0 ∨ 44 < x.toInt
      · refine lv_tableOut (tgt := 1343) hx hb sw_d hin (by decide) ?_
        exact kont d0 H locs kc ks ls hd0 (LI_up (by omega) hI) hl
      · obtain ⟨k, hk⟩ : ∃ k : Nat, x.toInt = (k : Int) := ⟨x.toInt.toNat, by omega⟩
        obtain ⟨off, tgt, ho, ht9, harm⟩ := sw_arm (k := k) (by omega)
        refine lv_tableIn (off := off) (tgt := tgt) hx hb sw_d (by omega) (by omega) (by rw [hk]; exact ho) ht9 ?_
        exact harm p l e s m below meth c b L xs D cT t d0 H locs kc ks ls hf C0 hK hd0 hL h4 hI hl kont
end S94
set_option maxRecDepth 4000 in
/-- from the entry, for every script of at most 2048 ints, the law comes to its end with true -/
theorem whole_start {p : Program} {e : Env} {s : State} {m : MethodId} {below : List Frame} {meth : Method} {c : Code} (l : Launch) (hflags : l.flags = flags0) {b L : Nat} {xs : Nat → Int32} (hL : L ≤ 2048) (C0 : lw_At p s m meth c b L xs) : W p l e room_1 s m #[Value.ref b] below meth c s.heap [] 0 0 (lw_Z below #[Value.ref b] s) (entryFrame m ([Value.ref b] : List Value).toArray 8) := by
  obtain ⟨D, cT, hK⟩ := KX_start C0
  obtain ⟨hx, hb, hr, hml, hown, hts, hX, hbl, hlocks, hgv⟩ := id C0
  have hd0 := Drawn.sameBut.refl s.drawn lw_cs
  refine W.base ?_
  have hl := lv_entry [.ref b] (n := 8) (Nat.le_of_ble_eq_true rfl)
  rw [lg_entry_eq]
  generalize (lg_sl [Value.ref b] ++ List.replicate (8 - (lg_sl [Value.ref b]).length) Slot.unset).toArray = ls at hl ⊢
  have hl : lv_has ls 8 [(0, .ref b)] := hl
  have C : Bx p (s.setDrawn s.drawn) m #[Value.ref b] meth c RL code 8 ret D cT (oa s.heap.size) [] (oA s.heap.size) := law_C C0 hK (oJ s.heap.size []) s.drawn
  have S : ST D cT (oa s.heap.size) [] (oA s.heap.size) (s.setDrawn s.drawn) Zm s.heap [] := ⟨fun k q h => (by simp [cw] at h), va_S.rf⟩
  refine k_mk (pc := 0) (o := s.heap.size) (lay := []) (rest := []) (mc := 51) (ms := 1944) (L2 := L10c) (M2 := MK_X10) C S rfl (Nat.le_refl _) kg_L_X10 (by decide) (by decide) rfl rfl (by decide +kernel) (by decide +kernel) (fun H locs hP hs => run_I (lay := []) C hP hs kc_X10 wd_88 wd_112 wd_113 wd_114 rfl ⟨by decide, by decide, by decide +kernel⟩ ⟨by decide, by decide⟩ hl.1 (Nat.le_of_ble_eq_true rfl) (by decide +kernel) ⟨by decide, by decide⟩) (fun H1 locs1 S1 => ?_)
  have S1 : ST D cT (oa s.heap.size) L10c (oA s.heap.size) (s.setDrawn s.drawn) MK_X10 H1 locs1 := by
    have h := S1
    rw [show ([] : List LC).length = 0 from rfl, jn_0] at h
    exact h
  refine lv_astore_n (k := 1) (i := 1) hx hb (by decide +kernel) rfl hl (by decide) rfl (fun ls1 hl1 => ?_)
  have hl1 : lv_has ls1 8 [(1, .ref s.heap.size), (0, .ref b)] := hl1
  refine k_sz S1 (show s.heap.size + 52 = s.heap.size + L10c.length from rfl) (by decide) (fun had => ?_)
  refine k_mk (pc := 8) (o := s.heap.size) (lay := L10c) (rest := []) (mc := 12) (ms := 1955) (L2 := L11c) (M2 := MK_X11) C S1 had (Nat.le_refl _) kg_L_X11 (by decide) (by decide) rfl rfl (by decide +kernel) (by decide +kernel) (fun H locs hP hs => run_I (lay := L10c) C hP hs kc_X11 wd_99 wd_1130 wd_1131 wd_1132 rfl ⟨by decide, by decide, by decide +kernel⟩ ⟨by decide, by decide⟩ hl1.1 (Nat.le_of_ble_eq_true rfl) (by decide +kernel) ⟨by decide, by decide⟩) (fun H2 locs2 S2 => ?_)
  have S2 : ST D cT (oa s.heap.size) (LY none []) (oA s.heap.size) (s.setDrawn s.drawn) M0 H2 locs2 := S2
  refine lv_astore_n (k := 2) (i := 2) hx hb (by decide +kernel) rfl hl1 (by decide) rfl (fun ls2 hl2 => ?_)
  have hl2 : lv_has ls2 8 [(2, .ref (s.heap.size + 52)), (1, .ref s.heap.size), (0, .ref b)] := hl2
  refine lv_iconst (n := 1) (v := nI 1) hx hb (by decide +kernel) rfl ?_
  refine k_sz S2 (show s.heap.size + 65 = s.heap.size + (LY none []).length from rfl) (by decide) (fun had2 => ?_)
  refine xq_newa (lay := LY none []) (t := 1) (n := 1) (atype := .long) (pc := 17) (Bx_lay C (oJ s.heap.size (LY none []))) S2 (by decide) rfl wd_133 had2 (by decide) (by decide) (by decide) (by decide) (by decide +kernel) (fun H3 _ S3 => ?_)
  have S3 : ST D cT (oa s.heap.size) (LY none [] ++ [.inl (1, 1)]) (oA s.heap.size) (s.setDrawn s.drawn) M0 H3 locs2 := by
    have h := S3
    rw [zc_id (M := M0) (n := (LY none []).length) rfl rfl] at h
    exact h
  refine lv_astore_n (k := 3) (i := 3) hx hb (by decide +kernel) rfl hl2 (by decide) rfl (fun ls3 hl3 => ?_)
  have hl3 : lv_has ls3 8 [(3, .ref (s.heap.size + 65)), (2, .ref (s.heap.size + 52)), (1, .ref s.heap.size), (0, .ref b)] := hl3
  refine lv_iconst (n := 0) (v := nI 0) hx hb (by decide +kernel) rfl ?_
  refine lv_istore (i := 4) hx hb (by decide +kernel) hl3 (by decide) rfl (fun ls4 hl4 => ?_)
  have hl4 : lv_has ls4 8 [(4, .int (nI 0)), (3, .ref (s.heap.size + 65)), (2, .ref (s.heap.size + 52)), (1, .ref s.heap.size), (0, .ref b)] := hl4
  have hP3 := S3.1
  unfold HM at hP3
  rw [cw_app (M := M0) (fun _ _ => rfl) (fun _ _ => rfl)] at hP3
  have hLY : HM D cT (oa s.heap.size) (LY none []) M0 H3 := fun k q hq => hP3 k q (by rw [List.getElem?_append_left (List.getElem?_eq_some_iff.mp hq).1]; exact hq)
  have hO : Outc D cT s H3 := ⟨M0.2 65, hP3 65 _ (by rw [List.getElem?_append_right (by rw [cw_len]; exact Nat.le_refl _), cw_len]; rfl)⟩
  have hli : LI D cT s 0 H3 locs2 66 3940 := ⟨none, [], oa s.heap.size, M0, Or.inl ⟨rfl, rfl, by omega, by omega⟩, oJ s.heap.size (LY none []), fun i hi h => by
      have hi : i < 65 := hi
      have h : s.heap.size + i = s.heap.size + 65 := h
      omega, ⟨rfl, rfl⟩, ⟨hLY, S3.2⟩, Inv_0, hO⟩
  exact law_loop hflags C0 hK hL 512 0 s.drawn H3 locs2 66 3940 ls4 (by omega) (by omega) hd0 hli (lv_sub hl4 [4, 3, 2, 1, 0] rfl)
