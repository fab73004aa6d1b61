/-! THE CLASS READS -/
def fvO : Option Nat → Int32
  | none => -1
  | some q => nI q
def DRp (M : Mem) (u : Nat → Int32) : Prop := (M.1 6 7 = nI (rN u) ∧ M.1 6 8 = nI (sN u) ∧ M.1 3 3 = nI (eN u)) ∧ (∀ a, a < 12 → M.1 7 a = u a) ∧ (∀ k, k < rN u → M.1 8 k = nI (lo u k) ∧ M.1 9 k = nI (hi u k) ∧ M.1 10 k = nI (rd u (lo u k) (hi u k)) ∧ M.1 11 k = nI 0) ∧ (∀ s, s < sN u → M.1 13 s = u (300 + s)) ∧ ∀ e, e < eN u → M.1 14 e = u (308 + e)
def CRp (T : Nat → Int32) (n : Nat) (M : Mem) (s : Ps) : Prop := ((M.1 3 4 = nI s.1 ∧ M.1 3 5 = fvO s.2.1 ∧ M.1 3 6 = s.2.2.2) ∧ DRp M s.2.2.1) ∧ M.1 4 1 = nI n ∧ ∀ j, j < n → M.1 5 j = T j
def FrR (A B : Mem) : Prop := B.2 = A.2 ∧ ∀ c, (c < 3 ∨ c = 4 ∨ c = 5 ∨ 15 ≤ c) → B.1 c = A.1 c
theorem FrR.r (A : Mem) : FrR A A := ⟨rfl, fun _ _ => rfl⟩
theorem FrR.t {A B C : Mem} (h : FrR A B) (g : FrR B C) : FrR A C := ⟨g.1.trans h.1, fun c hc => (g.2 c hc).trans (h.2 c hc)⟩
theorem FrR_3 (M : Mem) (k : Nat) (v : Int32) : FrR M (si M 3 k v) := ⟨rfl, fun c hc => si_c (by omega)⟩
theorem CR_4 {T : Nat → Int32} {n : Nat} {M : Mem} {s : Ps} {p : Nat} (h : CRp T n M s) : CRp T n (si M 3 4 (nI p)) (p, s.2) := by
  obtain ⟨⟨⟨h1, h2, h3⟩, h4⟩, h5, h6⟩ := h
  have e : ∀ j, j ≠ 4 → (si M 3 4 (nI p)).1 3 j = M.1 3 j := fun j hj => by rw [si_s, upd_ne hj]
  refine ⟨⟨⟨by rw [si_s, upd_eq], by rw [e 5 (by omega)]; exact h2, by rw [e 6 (by omega)]; exact h3⟩, ?_⟩, h5, h6⟩
  obtain ⟨⟨d1, d2, d3⟩, d4⟩ := h4
  exact ⟨⟨d1, d2, by rw [e 3 (by omega)]; exact d3⟩, d4⟩
theorem CR_5 {T : Nat → Int32} {n : Nat} {M : Mem} {s : Ps} {q : Nat} (h : CRp T n M s) : CRp T n (si M 3 5 (nI q)) (s.1, some q, s.2.2) := by
  obtain ⟨⟨⟨h1, h2, h3⟩, h4⟩, h5, h6⟩ := h
  have e : ∀ j, j ≠ 5 → (si M 3 5 (nI q)).1 3 j = M.1 3 j := fun j hj => by rw [si_s, upd_ne hj]
  refine ⟨⟨⟨by rw [e 4 (by omega)]; exact h1, by rw [si_s, upd_eq]; rfl, by rw [e 6 (by omega)]; exact h3⟩, ?_⟩, h5, h6⟩
  obtain ⟨⟨d1, d2, d3⟩, d4⟩ := h4
  exact ⟨⟨d1, d2, by rw [e 3 (by omega)]; exact d3⟩, d4⟩
theorem fvO_m1 {o : Option Nat} (h : ∀ q, o = some q → q < 2147483648) : fvO o = -1 ↔ o = none := by
  cases o with
  | none => exact ⟨fun _ => rfl, fun _ => rfl⟩
  | some q => exact ⟨fun z => ((z_m1 (h q rfl)).mp z).elim, fun z => by cases z⟩
section S61
variable {pl : Option Nat} {tl : List LC} {d : Nat} {M : Mem} {t : Nat} {T : Nat → Int32} {n : Nat} {s : Ps}
theorem s_signAt {Q : Int32 → Mem → Prop} {p : Nat} (hn : n ≤ 300) (hp : p ≤ 400) (h4 : M.1 4 1 = nI n) (h5 : ∀ j, j < n → M.1 5 j = T j) (h : Q (sg T n p) M) : exI (LY pl tl) (d + 1) 124 [.ref 4, .int (nI p)] M Q := by
  refine e_X8_signAt (br_f (nI_pos (by omega)) ?_)
  rw [h4, z_cl (by omega)]
  unfold sg at h
  by_cases q : p < n
  · rw [if_pos q] at h
    exact br_f (nI_ge q (by omega)) ⟨(z_in (by omega) (by omega)).mpr (by omega), by rw [h5 p q]; exact h⟩
  · rw [if_neg q] at h
    exact br_t (nI_le (by omega) (by omega)) h
theorem s_refuseC {Q : Mem → Prop} {q : Nat} (hc : CRp T n M s) (hq : ∀ q, s.2.1 = some q → q ≤ n) (hn : n ≤ 300) (h : ∀ M', CRp T n M' (rfs q s) → FrR M M' → Q M') : exV (LY pl tl) (d + 1) 108 [.ref 3, .int (nI q)] M Q := by
  refine e_X5_refuse ?_
  rw [hc.1.1.2.1, fvO_m1 (fun q z => by have := hq q z; omega)]
  refine ⟨fun c => ?_, fun c => ?_⟩
  · cases hf : s.2.1 with
    | none => exact absurd hf c
    | some x => exact h M (by rw [rfs_f hf]; exact hc) (FrR.r M)
  · exact h _ (by rw [rfs_n c]; exact CR_5 hc) (FrR_3 _ _ _)
theorem s_takeC {Q : Mem → Prop} {c : Nat} (hc : CRp T n M s) (hp : PI n s) (hn : n ≤ 300) (h : ∀ M', CRp T n M' (tks T n c s) → FrR M M' → Q M') : exV (LY pl tl) (d + 2) 106 [.ref 3, .int (nI c)] M Q := by
  have p1 := hp.1
  refine e_X5_take ?_
  rw [hc.1.1.2.1, fvO_m1 (fun q z => by have := hp.2.2.2 q z; omega), hc.1.1.1]
  refine ⟨fun z => s_signAt hn (by omega) hc.2.1 hc.2.2 ⟨fun z2 => ?_, fun z2 => ?_⟩, fun z => ?_⟩
  · rw [hc.1.1.1]
    refine s_refuseC hc hp.2.2.2 hn (fun M' h1 h2 => h M' ?_ h2)
    unfold tks
    rw [z]
    dsimp only
    rw [if_neg z2]
    exact h1
  · rw [hc.1.1.1, nI_add]
    refine h _ ?_ (FrR_3 _ _ _)
    unfold tks
    rw [z]
    dsimp only
    rw [if_pos z2]
    exact CR_4 hc
  · cases hf : s.2.1 with
    | none => exact absurd hf z
    | some x => exact h M (by rw [tks_f hf]; exact hc) (FrR.r M)
theorem s_isDigC {Q : Int32 → Mem → Prop} (hc : CRp T n M s) (hp : s.1 ≤ 302) (hn : n ≤ 300) (h1 : isDg T n s.1 = true → Q (nI 1) M) (h0 : ¬ isDg T n s.1 = true → Q (nI 0) M) : exI (LY pl tl) (d + 2) 105 [.ref 3] M Q := by
  refine e_X5_isDigitNext ?_
  rw [hc.1.1.1]
  refine s_signAt hn (by omega) hc.2.1 hc.2.2 ⟨fun c => h0 (fun z => ?_), fun c => ⟨fun c2 => h0 (fun z => ?_), fun c2 => h1 ?_⟩⟩
  · unfold isDg at z
    rw [Bool.and_eq_true, decide_eq_true_eq, decide_eq_true_eq] at z
    exact i_nle.mpr c z.1
  · unfold isDg at z
    rw [Bool.and_eq_true, decide_eq_true_eq, decide_eq_true_eq] at z
    exact i_nle.mpr c2 z.2
  · unfold isDg
    rw [Bool.and_eq_true, decide_eq_true_eq, decide_eq_true_eq]
    exact ⟨Classical.byContradiction (fun q => c (i_nle.mp q)), Classical.byContradiction (fun q => c2 (i_nle.mp q))⟩
theorem s_numC {Q : Int32 → Mem → Prop} {l g : Nat} (hc : CRp T n M s) (hp : PI n s) (hn : n ≤ 300) (hg : g < 1000) (hl : l < 1000) (h : ∀ M', CRp T n M' (nms T n l g s).2 → FrR M M' → Q (oM1 (nms T n l g s).1) M') : exI (LY pl tl) (d + 3) 107 [.ref 3, .int (nI l), .int (nI g)] M Q := by
  have p1 := hp.1
  refine e_X5_takeNumber ?_
  rw [hc.1.1.2.1, fvO_m1 (fun q z => by have := hp.2.2.2 q z; omega)]
  refine ⟨fun z => s_isDigC hc (by omega) hn (fun d1 => ⟨fun _ => ?_, fun q => absurd q (by decide)⟩) (fun d1 => ⟨fun q => absurd rfl q, fun _ => ?_⟩), fun z => ?_⟩
  · obtain ⟨a1, a2, a3⟩ := isDg_d d1
    rw [hc.1.1.1]
    refine s_signAt hn (by omega) hc.2.1 hc.2.2 ?_
    rw [hc.1.1.1, nI_add, a2, z_sub (by omega), show 48 + dgt T n s.1 - 48 = dgt T n s.1 by omega]
    have hc2 := CR_4 (p := s.1 + 1) hc
    have f2 := FrR_3 M 4 (nI (s.1 + 1))
    generalize si M 3 4 (nI (s.1 + 1)) = M2 at hc2 f2 ⊢
    have k1 : M2.1 3 4 = nI (s.1 + 1) := hc2.1.1.1
    refine s_isDigC hc2 (by show s.1 + 1 ≤ 302; omega) hn (fun d2 => ⟨fun q => absurd q (by decide), fun _ => ?_⟩) (fun d2 => ⟨fun _ => ?_, fun q => absurd rfl q⟩)
    · have d2 : isDg T n (s.1 + 1) = true := d2
      obtain ⟨b1', b2', b3'⟩ := isDg_d d2
      rw [k1]
      refine s_signAt (T := T) hn (by omega) hc2.2.1 hc2.2.2 ?_
      rw [b2', pk_mul, nI_add, z_sub (by omega), show 10 * dgt T n s.1 + (48 + dgt T n (s.1 + 1)) - 48 = 10 * dgt T n s.1 + dgt T n (s.1 + 1) by omega, k1, nI_add (s.1 + 1) 1, z_sub (by omega), show s.1 + 1 + 1 - 1 = s.1 + 1 by omega, z_lt (by omega) (by omega), z_le (by omega) (by omega)]
      have hc3 := CR_4 (p := s.1 + 1 + 1) hc2
      have f3 := f2.t (FrR_3 M2 4 (nI (s.1 + 1 + 1)))
      generalize si M2 3 4 (nI (s.1 + 1 + 1)) = M3 at hc3 f3 ⊢
      have vq : nmv T n s.1 = 10 * dgt T n s.1 + dgt T n (s.1 + 1) := if_pos d2
      have qq : nmq T n s.1 = s.1 + 2 := if_pos d2
      have bad : ¬ (l ≤ nmv T n s.1 ∧ nmv T n s.1 ≤ g) → exV (LY pl tl) (d + 2) 108 [.ref 3, .int (nI (s.1 + 1))] M3 (fun M4 => Q (-1) M4) := fun hb => by
        have en : nms T n l g s = (none, (s.1 + 2, some (s.1 + 1), s.2.2)) := by
          unfold nms
          rw [z]
          dsimp only
          rw [if_pos d1, if_neg hb, qq, show s.1 + 2 - 1 = s.1 + 1 by omega]
        rw [en] at h
        refine s_refuseC (q := s.1 + 1) hc3 (fun q w => by rw [show (s.1 + 1 + 1, (s.1 + 1, s.2).2).2.1 = s.2.1 from rfl, z] at w; cases w) hn (fun M' h1 h2 => h M' ?_ (f3.t h2))
        rw [rfs_n (s := (s.1 + 1 + 1, (s.1 + 1, s.2).2)) z] at h1
        exact h1
      refine ⟨fun q => bad (by omega), fun q => ⟨fun q2 => ?_, fun q2 => bad (by omega)⟩⟩
      have en : nms T n l g s = (some (10 * dgt T n s.1 + dgt T n (s.1 + 1)), (s.1 + 2, none, s.2.2)) := by
        unfold nms
        rw [z]
        dsimp only
        rw [if_pos d1, if_pos (by omega), qq, vq]
      rw [en] at h
      refine h M3 ?_ f3
      have e3 : (s.1 + 1 + 1, (s.1 + 1, s.2).2) = ((s.1 + 2, none, s.2.2) : Ps) := Prod.ext rfl (Prod.ext z rfl)
      rw [e3] at hc3
      exact hc3
    · have d2 : ¬ isDg T n (s.1 + 1) = true := d2
      have vq : nmv T n s.1 = dgt T n s.1 := if_neg d2
      have qq : nmq T n s.1 = s.1 + 1 := if_neg d2
      rw [k1, z_sub (by omega), show s.1 + 1 - 1 = s.1 by omega, z_lt (by omega) (by omega), z_le (by omega) (by omega)]
      have bad : ¬ (l ≤ nmv T n s.1 ∧ nmv T n s.1 ≤ g) → exV (LY pl tl) (d + 2) 108 [.ref 3, .int (nI s.1)] M2 (fun M4 => Q (-1) M4) := fun hb => by
        have en : nms T n l g s = (none, (s.1 + 1, some s.1, s.2.2)) := by
          unfold nms
          rw [z]
          dsimp only
          rw [if_pos d1, if_neg hb, qq, show s.1 + 1 - 1 = s.1 by omega]
        rw [en] at h
        refine s_refuseC (q := s.1) hc2 (fun q w => by rw [show (s.1 + 1, s.2).2.1 = s.2.1 from rfl, z] at w; cases w) hn (fun M' h1 h2 => h M' ?_ (f2.t h2))
        rw [rfs_n (s := (s.1 + 1, s.2)) z] at h1
        exact h1
      refine ⟨fun q => bad (by omega), fun q => ⟨fun q2 => ?_, fun q2 => bad (by omega)⟩⟩
      have en : nms T n l g s = (some (dgt T n s.1), (s.1 + 1, none, s.2.2)) := by
        unfold nms
        rw [z]
        dsimp only
        rw [if_pos d1, if_pos (by omega), qq, vq]
      rw [en] at h
      refine h M2 ?_ f2
      have e3 : (s.1 + 1, s.2) = ((s.1 + 1, none, s.2.2) : Ps) := Prod.ext rfl (Prod.ext z rfl)
      rw [e3] at hc2
      exact hc2
  · rw [hc.1.1.1]
    have en : nms T n l g s = (none, rfs s.1 s) := by
      unfold nms
      rw [z]
      dsimp only
      rw [if_neg d1]
    rw [en] at h
    exact s_refuseC hc hp.2.2.2 hn (fun M' h1 h2 => h M' h1 h2)
  · cases hf : s.2.1 with
    | none => exact absurd hf z
    | some x =>
      have := h M (by rw [nms_f hf]; exact hc) (FrR.r M)
      rw [nms_f hf] at this
      exact this
theorem PI_nms {l g : Nat} (hp : PI n s) : PI n (nms T n l g s).2 := by
  rcases nms_ok (T := T) (lo := l) (hi := g) hp.1 with ⟨a1, ⟨q, a2, a3⟩, a4, a5⟩ | ⟨a, a1, a0, -, a2, a3, a4, a5, a6⟩
  · refine ⟨a4, by rw [a5]; exact hp.2.1, fun z => (by rw [a2] at z; cases z), fun q' z => ?_⟩
    rw [a2] at z
    have z := Option.some.inj z
    subst z
    rcases a3 with y | y
    · exact hp.2.2.2 q y
    · exact y
  · refine ⟨a5, by rw [a6]; exact hp.2.1, fun _ => ?_, fun q' z => (by rw [a3] at z; cases z)⟩
    rw [a6]
    have := hp.2.2.1 a0
    omega
theorem PI_tks {c : Nat} (hc : c < 256) (hp : PI n s) : PI n (tks T n c s) := by
  rcases tks_ok (T := T) (n := n) (c := c) hc hp.1 with ⟨⟨q, b1, b2⟩, b3, b4⟩ | ⟨b1, b0, b2, b3, b4⟩
  · refine ⟨b3, by rw [b4]; exact hp.2.1, fun z => (by rw [b1] at z; cases z), fun q' z => ?_⟩
    rw [b1] at z
    have z := Option.some.inj z
    subst z
    rcases b2 with y | y
    · exact hp.2.2.2 q y
    · exact y
  · refine ⟨by omega, by rw [b4]; exact hp.2.1, fun _ => ?_, fun q' z => (by rw [b1] at z; cases z)⟩
    rw [b4]
    have := hp.2.2.1 b0
    omega
theorem PI_rfs {q : Nat} (hq : q ≤ n) (hp : PI n s) : PI n (rfs q s) := by
  cases hf : s.2.1 with
  | none =>
    rw [rfs_n hf]
    refine ⟨hp.1, hp.2.1, fun z => (by cases z), fun q' z => ?_⟩
    have z := Option.some.inj z
    omega
  | some x => rw [rfs_f hf]; exact hp
end S61
