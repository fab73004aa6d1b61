/-! WHAT HOLDS BETWEEN CALLS: the reference's row w (cell 53) is as it must be (V), the class's world (cells b ..) tells the same (RC) -/
def sN (w : Nat → Int32) : Nat := tn (w 456)
def eN (w : Nat → Int32) : Nat := tn (w 457)
def rN (w : Nat → Int32) : Nat := tn (w 458)
def wt (w : Nat → Int32) (a : Nat) : Nat := tn (w a)
def sp (w : Nat → Int32) (s : Nat) : Nat := tn (w (300 + s))
def po (w : Nat → Int32) (e : Nat) : Nat := tn (w (308 + e))
def mo (w : Nat → Int32) (e : Nat) : Nat := tn (w (320 + e))
def rcN (w : Nat → Int32) : Nat := tn (w 459)
def svN (w : Nat → Int32) : Nat := tn (w 460)
def lmN (w : Nat → Int32) : Nat := tn (w 461)
def miN (w : Nat → Int32) : Nat := tn (w 462)
def bN (w : Nat → Int32) : Nat := tn (w 468)
def lo (w : Nat → Int32) (k : Nat) : Nat := tn (w (326 + k)) / 100
def hi (w : Nat → Int32) (k : Nat) : Nat := tn (w (326 + k)) % 100
def hs (w : Nat → Int32) (i : Nat) : Nat := tn (w (392 + i % 64))
/-- the roads as told -/
def VT (w : Nat → Int32) : Prop := (∀ k, k < rN w → w (326 + k) = nI (100 * lo w k + hi w k) ∧ lo w k < hi w k ∧ hi w k < 12 ∧ 0 < rd w (lo w k) (hi w k)) ∧ (∀ k k', k < rN w → k' < rN w → lo w k = lo w k' → hi w k = hi w k' → k = k') ∧ (∀ a b, a < b → b < 12 → 0 < rd w a b → ∃ k, k < rN w ∧ lo w k = a ∧ hi w k = b) ∧ (∀ a, a < 12 → rd w a a = 0) ∧ ∀ a b, a < 12 → b < 12 → rd w a b = 0 → sh w a b = 0
def VL (w : Nat → Int32) : Prop := (w 456 = nI (sN w) ∧ sN w ≤ 8) ∧ (w 458 = nI (rN w) ∧ rN w ≤ 66) ∧ (∀ a, a < 12 → w a = nI (wt w a) ∧ wt w a ≤ 99) ∧ (∀ s, s < sN w → w (300 + s) = nI (sp w s) ∧ sp w s < 12) ∧ (∀ s s', s < sN w → s' < sN w → sp w s = sp w s' → s = s') ∧ VRd w ∧ VT w
def VC (w : Nat → Int32) : Prop := (w 457 = nI (eN w) ∧ eN w ≤ 6) ∧ ∀ e, e < eN w → (w (308 + e) = nI (po w e) ∧ po w e < sN w) ∧ w (320 + e) = nI (mo w e) ∧ mo w e ≤ 2
def VP (w : Nat → Int32) : Prop := (w 459 = nI (rcN w) ∧ 1 ≤ rcN w ∧ rcN w ≤ 60) ∧ (w 460 = nI (svN w) ∧ svN w ≤ 240) ∧ w 461 = nI (lmN w) ∧ lmN w ≤ 20
def VM (w : Nat → Int32) (t : Nat) : Prop := (w 462 = nI (miN w) ∧ miN w ≤ 600 * t) ∧ (w 468 = nI (bN w) ∧ bN w ≤ 6 * t) ∧ (∀ i, i < bN w → bN w ≤ i + 64 → w (392 + i % 64) = nI (hs w i) ∧ hs w i ≤ miN w) ∧ ∀ i j, i ≤ j → j < bN w → bN w ≤ i + 64 → hs w i ≤ hs w j
def V (w : Nat → Int32) (t : Nat) : Prop := VL w ∧ VC w ∧ VP w ∧ VM w t
def RLd (b : Nat) (M : Mem) (w : Nat → Int32) : Prop := (∀ a, a < 12 → M.1 (b + 2) a = w a) ∧ M.1 (b + 1) 8 = w 456 ∧ M.1 (b + 1) 7 = w 458 ∧ (∀ s, s < sN w → M.1 (b + 8) s = w (300 + s)) ∧ (∀ k, k < rN w → M.1 (b + 3) k = nI (lo w k) ∧ M.1 (b + 4) k = nI (hi w k) ∧ M.1 (b + 5) k = nI (rd w (lo w k) (hi w k)) ∧ M.1 (b + 6) k = nI (sh w (lo w k) (hi w k))) ∧ ∀ a c, a < 12 → c < 12 → M.1 (b + 7) (12 * a + c) = nI (dist w a c)
def RK (b : Nat) (M : Mem) (w : Nat → Int32) : Prop := M.1 (b + 9) 4 = w 457 ∧ (∀ e, e < eN w → M.1 (b + 10) e = w (308 + e) ∧ M.1 (b + 11) e = w (320 + e) ∧ M.1 (b + 12) e = w (314 + e)) ∧ M.1 (b + 9) 6 = w 462 ∧ M.1 (b + 9) 7 = w 463 ∧ M.1 (b + 9) 8 = w 464 ∧ M.1 (b + 9) 9 = w 465 ∧ M.1 (b + 9) 10 = w 466 ∧ M.1 (b + 9) 11 = w 467
def RP (b : Nat) (M : Mem) (w : Nat → Int32) : Prop := M.1 b 2 = w 459 ∧ M.1 b 3 = w 460 ∧ M.1 b 4 = w 461 ∧ M.1 b 5 = w 469
def RH (b : Nat) (M : Mem) (w : Nat → Int32) : Prop := M.1 (b + 9) 5 = nI (min (bN w) 20) ∧ ∀ j, j < min (bN w) 20 → M.1 (b + 13) j = w (392 + (bN w - min (bN w) 20 + j) % 64)
def RC (b : Nat) (M : Mem) (w : Nat → Int32) : Prop := RLd b M w ∧ RK b M w ∧ RP b M w ∧ RH b M w
def RowOk (M : Mem) : Prop := ∃ n, n ≤ 13 ∧ M.1 1 1 = nI n ∧ M.1 52 6 = nI n ∧ ∀ j, j < n → M.2 2 j = M.2 56 j
def TxtOk (M : Mem) : Prop := ∃ n, n ≤ 300 ∧ M.1 4 1 = nI n ∧ M.1 52 4 = nI n ∧ ∀ j, j < n → M.1 5 j = M.1 55 j &&& nI 255
def KpOk (M : Mem) (t : Nat) : Prop := (M.1 0 8 = nI 0 ∧ M.1 52 2 = nI 0) ∨ (M.1 0 8 = nI 1 ∧ M.1 52 2 = nI 1 ∧ V (M.1 54) t ∧ RC 29 M (M.1 54))
def Inv (t : Nat) (M : Mem) : Prop := (V (M.1 53) t ∧ RC 15 M (M.1 53)) ∧ RowOk M ∧ TxtOk M ∧ KpOk M t ∧ t ≤ 512
/-! the same w, but for what doesn't matter -/
theorem VL_cg {w w' : Nat → Int32} (h : ∀ j, (j < 308 ∨ (326 ≤ j ∧ j < 392) ∨ j = 456 ∨ j = 458) → w' j = w j) : (VL w' ↔ VL w) ∧ sN w' = sN w ∧ rN w' = rN w ∧ (∀ a b, a < 12 → b < 12 → rd w' a b = rd w a b ∧ sh w' a b = sh w a b) ∧ (∀ k, k < 66 → lo w' k = lo w k ∧ hi w' k = hi w k) ∧ ∀ a b, a < 12 → b < 12 → dist w' a b = dist w a b := by
  have e1 : sN w' = sN w := by unfold sN; rw [h 456 (by omega)]
  have e2 : rN w' = rN w := by unfold rN; rw [h 458 (by omega)]
  have e3 : ∀ a b, a < 12 → b < 12 → rd w' a b = rd w a b ∧ sh w' a b = sh w a b := fun a b ha hb => by
    unfold rd sh
    rw [h (12 + 12 * a + b) (by omega), h (156 + 12 * a + b) (by omega)]
    exact ⟨rfl, rfl⟩
  have e4 : ∀ k, k < 66 → lo w' k = lo w k ∧ hi w' k = hi w k := fun k hk => by
    unfold lo hi
    rw [h (326 + k) (by omega)]
    exact ⟨rfl, rfl⟩
  have e5 : ∀ a b, a < 12 → b < 12 → dist w' a b = dist w a b := fun a b ha hb => by
    refine FW_congr (n := 12) (fun x y hx hy => ?_) 12 (Nat.le_refl _) a b ha hb
    unfold co
    rw [(e3 x y hx hy).1, (e3 x y hx hy).2]
  refine ⟨?_, e1, e2, e3, e4, e5⟩
  have key : ∀ u v : Nat → Int32, (∀ j, (j < 308 ∨ (326 ≤ j ∧ j < 392) ∨ j = 456 ∨ j = 458) → u j = v j) → sN u = sN v → rN u = rN v → (∀ a b, a < 12 → b < 12 → rd u a b = rd v a b ∧ sh u a b = sh v a b) → (∀ k, k < 66 → lo u k = lo v k ∧ hi u k = hi v k) → VL v → VL u := by
    intro u v h f1 f2 f3 f4 hv
    obtain ⟨⟨a1, a2⟩, ⟨b1, b2⟩, c1, d1, e1, g1, t1, t2, t3, t4, t5⟩ := hv
    unfold VL VT
    rw [f1, f2, h 456 (by omega), h 458 (by omega)]
    refine ⟨⟨a1, a2⟩, ⟨b1, b2⟩, fun a ha => ?_, fun s hs => ?_, fun s s' hs hs' q => ?_, fun a b ha hb => ?_, fun k hk => ?_, fun k k' hk hk' q q' => ?_, fun a b hab hb q => ?_, fun a ha => ?_, fun a b ha hb q => ?_⟩
    · have : wt u a = wt v a := by unfold wt; rw [h a (by omega)]
      rw [this, h a (by omega)]; exact c1 a ha
    · have : sp u s = sp v s := by unfold sp; rw [h (300 + s) (by omega)]
      rw [this, h (300 + s) (by omega)]; exact d1 s hs
    · have x1 : sp u s = sp v s := by unfold sp; rw [h (300 + s) (by omega)]
      have x2 : sp u s' = sp v s' := by unfold sp; rw [h (300 + s') (by omega)]
      exact e1 s s' hs hs' (by rw [← x1, ← x2, q])
    · rw [(f3 a b ha hb).1, (f3 a b ha hb).2, (f3 b a hb ha).1, (f3 b a hb ha).2, h (12 + 12 * a + b) (by omega), h (156 + 12 * a + b) (by omega)]
      exact g1 a b ha hb
    · obtain ⟨x1, x2⟩ := f4 k (by omega)
      have := t1 k hk
      rw [x1, x2, h (326 + k) (by omega), (f3 _ _ (by omega) (by omega)).1]
      exact this
    · exact t2 k k' hk hk' (by rw [← (f4 k (by omega)).1, ← (f4 k' (by omega)).1, q]) (by rw [← (f4 k (by omega)).2, ← (f4 k' (by omega)).2, q'])
    · rw [(f3 a b (by omega) hb).1] at q
      obtain ⟨k, hk, x1, x2⟩ := t3 a b hab hb q
      exact ⟨k, hk, by rw [(f4 k (by omega)).1, x1], by rw [(f4 k (by omega)).2, x2]⟩
    · rw [(f3 a a ha ha).1]; exact t4 a ha
    · rw [(f3 a b ha hb).1] at q
      rw [(f3 a b ha hb).2]; exact t5 a b ha hb q
  exact ⟨key w w' (fun j hj => (h j hj).symm) e1.symm e2.symm (fun a b ha hb => ⟨(e3 a b ha hb).1.symm, (e3 a b ha hb).2.symm⟩) (fun k hk => ⟨(e4 k hk).1.symm, (e4 k hk).2.symm⟩), key w' w h e1 e2 e3 e4⟩
theorem VC_cg {w w' : Nat → Int32} (h : ∀ j, ((308 ≤ j ∧ j < 314) ∨ (320 ≤ j ∧ j < 326) ∨ j = 456 ∨ j = 457) → w' j = w j) (hv : VC w) : VC w' := by
  obtain ⟨⟨a1, a2⟩, b1⟩ := hv
  have e1 : eN w' = eN w := by unfold eN; rw [h 457 (by omega)]
  have e2 : sN w' = sN w := by unfold sN; rw [h 456 (by omega)]
  unfold VC
  rw [e1, e2, h 457 (by omega)]
  refine ⟨⟨a1, a2⟩, fun e he => ?_⟩
  have x1 : po w' e = po w e := by unfold po; rw [h (308 + e) (by omega)]
  have x2 : mo w' e = mo w e := by unfold mo; rw [h (320 + e) (by omega)]
  rw [x1, x2, h (308 + e) (by omega), h (320 + e) (by omega)]
  exact b1 e he
theorem VP_cg {w w' : Nat → Int32} (h : ∀ j, (459 ≤ j ∧ j ≤ 461) → w' j = w j) (hv : VP w) : VP w' := by
  unfold VP rcN svN lmN at *
  rw [h 459 (by omega), h 460 (by omega), h 461 (by omega)]
  exact hv
theorem VM_cg {w w' : Nat → Int32} {t : Nat} (h : ∀ j, ((392 ≤ j ∧ j < 456) ∨ j = 462 ∨ j = 468) → w' j = w j) (hv : VM w t) : VM w' t := by
  have e1 : bN w' = bN w := by unfold bN; rw [h 468 (by omega)]
  have e2 : miN w' = miN w := by unfold miN; rw [h 462 (by omega)]
  have e3 : ∀ i, hs w' i = hs w i := fun i => by unfold hs; rw [h (392 + i % 64) (by omega)]
  obtain ⟨a1, a2, a3, a4⟩ := hv
  unfold VM
  rw [e1, e2, h 462 (by omega), h 468 (by omega)]
  refine ⟨a1, a2, fun i hi hj => ?_, fun i j hij hj hb => ?_⟩
  · rw [e3, h (392 + i % 64) (by omega)]; exact a3 i hi hj
  · rw [e3, e3]; exact a4 i j hij hj hb
theorem VM_up {w : Nat → Int32} {t t' : Nat} (ht : t ≤ t') (h : VM w t) : VM w t' := ⟨⟨h.1.1, by have := h.1.2; omega⟩, ⟨h.2.1.1, by have := h.2.1.2; omega⟩, h.2.2⟩
theorem V_up {w : Nat → Int32} {t t' : Nat} (ht : t ≤ t') (h : V w t) : V w t' := ⟨h.1, h.2.1, h.2.2.1, VM_up ht h.2.2.2⟩
theorem RLd_cg {b : Nat} {M : Mem} {w w' : Nat → Int32} (h : ∀ j, (j < 308 ∨ (326 ≤ j ∧ j < 392) ∨ j = 456 ∨ j = 458) → w' j = w j) (hv : VL w) (hr : RLd b M w) : RLd b M w' := by
  obtain ⟨-, e1, e2, e3, e4, e5⟩ := VL_cg h
  obtain ⟨a1, a2, a3, a4, a5, a6⟩ := hr
  have hn := hv.2.1.2
  have hs8 := hv.1.2
  unfold RLd
  rw [e1, e2, h 456 (by omega), h 458 (by omega)]
  refine ⟨fun a ha => ?_, a2, a3, fun s hs => ?_, fun k hk => ?_, fun a c ha hc => ?_⟩
  · rw [h a (by omega)]; exact a1 a ha
  · rw [h (300 + s) (by omega)]; exact a4 s hs
  · obtain ⟨x1, x2⟩ := e4 k (by omega)
    have y := hv.2.2.2.2.2.2.1 k hk
    rw [x1, x2, (e3 _ _ (by omega) (by omega)).1, (e3 _ _ (by omega) (by omega)).2]; exact a5 k hk
  · rw [e5 a c ha hc]; exact a6 a c ha hc
theorem RK_cg {b : Nat} {M : Mem} {w w' : Nat → Int32} (h : ∀ j, ((308 ≤ j ∧ j < 326) ∨ j = 457 ∨ (462 ≤ j ∧ j ≤ 467)) → w' j = w j) (hv : VC w) (hr : RK b M w) : RK b M w' := by
  have e1 : eN w' = eN w := by unfold eN; rw [h 457 (by omega)]
  have := hv.1.2
  unfold RK
  rw [e1, h 457 (by omega), h 462 (by omega), h 463 (by omega), h 464 (by omega), h 465 (by omega), h 466 (by omega), h 467 (by omega)]
  refine ⟨hr.1, fun e he => ?_, hr.2.2⟩
  rw [h (308 + e) (by omega), h (320 + e) (by omega), h (314 + e) (by omega)]
  exact hr.2.1 e he
theorem RP_cg {b : Nat} {M : Mem} {w w' : Nat → Int32} (h : ∀ j, ((459 ≤ j ∧ j ≤ 461) ∨ j = 469) → w' j = w j) (hr : RP b M w) : RP b M w' := by
  unfold RP
  rw [h 459 (by omega), h 460 (by omega), h 461 (by omega), h 469 (by omega)]
  exact hr
theorem RH_cg {b : Nat} {M : Mem} {w w' : Nat → Int32} (h : ∀ j, ((392 ≤ j ∧ j < 456) ∨ j = 468) → w' j = w j) (hr : RH b M w) : RH b M w' := by
  have e1 : bN w' = bN w := by unfold bN; rw [h 468 (by omega)]
  unfold RH
  rw [e1]
  refine ⟨hr.1, fun j hj => ?_⟩
  rw [h _ (by omega)]
  exact hr.2 j hj
theorem Inv.up {t t' : Nat} {M : Mem} (ht : t ≤ t') (ht' : t' ≤ 512) (h : Inv t M) : Inv t' M := by
  obtain ⟨⟨h1, h2⟩, h3, h4, h5, h6⟩ := h
  refine ⟨⟨V_up ht h1, h2⟩, h3, h4, ?_, ht'⟩
  rcases h5 with h5 | ⟨a, b, c, d⟩
  · exact Or.inl h5
  · exact Or.inr ⟨a, b, V_up ht c, d⟩
theorem upd_ne {f : Nat → Int32} {k j : Nat} {v : Int32} (h : j ≠ k) : upd f k v j = f j := pk_un h
theorem upd_eq (f : Nat → Int32) (k : Nat) (v : Int32) : upd f k v k = v := pk_us
