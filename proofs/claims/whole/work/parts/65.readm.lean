/-! THE REFERENCE READS -/
def MR (T : Nat → Int32) (n : Nat) (M : Mem) (s : Ps) : Prop := (M.1 52 10 = nI s.1 ∧ M.1 52 11 = fvO s.2.1 ∧ M.1 52 15 = s.2.2.2) ∧ M.1 57 = s.2.2.1 ∧ M.1 52 9 = nI n ∧ ∀ j, j < n → M.1 55 j &&& nI 255 = T j
/-- only what is read has changed -/
def FrM (A B : Mem) : Prop := B.2 = A.2 ∧ (∀ c, c ≠ 52 → c ≠ 57 → B.1 c = A.1 c) ∧ ∀ j, j ≠ 10 → j ≠ 11 → j ≠ 15 → B.1 52 j = A.1 52 j
theorem FrM.r (A : Mem) : FrM A A := ⟨rfl, fun _ _ _ => rfl, fun _ _ _ _ => rfl⟩
theorem FrM.t {A B C : Mem} (h : FrM A B) (g : FrM B C) : FrM A C := ⟨g.1.trans h.1, fun c h1 h2 => (g.2.1 c h1 h2).trans (h.2.1 c h1 h2), fun j h1 h2 h3 => (g.2.2 j h1 h2 h3).trans (h.2.2 j h1 h2 h3)⟩
theorem FrM_52 (M : Mem) {k : Nat} (v : Int32) (hk : k = 10 ∨ k = 11 ∨ k = 15) : FrM M (si M 52 k v) := ⟨rfl, fun c h1 h2 => si_c h1, fun j h1 h2 h3 => by rw [si_s, upd_ne (by omega)]⟩
theorem FrM_57 (M : Mem) (k : Nat) (v : Int32) : FrM M (si M 57 k v) := ⟨rfl, fun c h1 h2 => si_c h2, fun j h1 h2 h3 => by rw [si_c (by omega)]⟩
theorem MR_10 {T : Nat → Int32} {n : Nat} {M : Mem} {s : Ps} {p : Nat} (h : MR T n M s) : MR T n (si M 52 10 (nI p)) (p, s.2) := by
  obtain ⟨⟨h1, h2, h3⟩, h4, h5, h6⟩ := h
  exact ⟨⟨by rw [si_s, upd_eq], by rw [si_s, upd_ne (by omega)]; exact h2, by rw [si_s, upd_ne (by omega)]; exact h3⟩, h4, by rw [si_s, upd_ne (by omega)]; exact h5, h6⟩
theorem MR_11 {T : Nat → Int32} {n : Nat} {M : Mem} {s : Ps} {q : Nat} (h : MR T n M s) : MR T n (si M 52 11 (nI q)) (s.1, some q, s.2.2) := by
  obtain ⟨⟨h1, h2, h3⟩, h4, h5, h6⟩ := h
  exact ⟨⟨by rw [si_s, upd_ne (by omega)]; exact h1, by rw [si_s, upd_eq]; rfl, by rw [si_s, upd_ne (by omega)]; exact h3⟩, h4, by rw [si_s, upd_ne (by omega)]; exact h5, h6⟩
section S65
variable {pl : Option Nat} {tl : List LC} {d : Nat} {M : Mem} {t : Nat} {T : Nat → Int32} {n : Nat} {s : Ps}
theorem m_sees {Q : Int32 → Mem → Prop} (hn : n ≤ 300) (hp : s.1 ≤ 302) (hc : MR T n M s) (h : Q (sg T n s.1) M) : exI (LY pl tl) (d + 1) 143 [.ref 52] M Q := by
  obtain ⟨⟨h1, h2, h3⟩, h4, h5, h6⟩ := hc
  refine e_X11_sees ?_
  rw [h1, h5, z_cl (by omega)]
  unfold sg at h
  by_cases q : s.1 < n
  · rw [if_pos q] at h
    exact br_f (nI_ge q (by omega)) ⟨(z_in (by omega) (by omega)).mpr (by omega), by rw [h6 _ q]; exact h⟩
  · rw [if_neg q] at h
    exact br_t (nI_le (by omega) (by omega)) h
theorem m_fault {Q : Mem → Prop} {q : Nat} (hc : MR T n M s) (hq : ∀ q, s.2.1 = some q → q ≤ n) (hn : n ≤ 300) (h : ∀ M', MR T n M' (rfs q s) → FrM M M' → M'.1 57 = M.1 57 → Q M') : exV (LY pl tl) (d + 1) 144 [.ref 52, .int (nI q)] M Q := by
  refine e_X11_fault ?_
  rw [hc.1.2.1, fvO_m1 (fun q z => by have := hq q z; omega)]
  refine ⟨fun c => ?_, fun c => ?_⟩
  · cases hf : s.2.1 with
    | none => exact absurd hf c
    | some x => exact h M (by rw [rfs_f hf]; exact hc) (FrM.r M) rfl
  · exact h _ (by rw [rfs_n c]; exact MR_11 hc) (FrM_52 _ _ (by omega)) rfl
theorem m_expect {Q : Mem → Prop} {c : Nat} (hc : MR T n M s) (hp : PI n s) (hn : n ≤ 300) (h : ∀ M', MR T n M' (tks T n c s) → FrM M M' → Q M') : exV (LY pl tl) (d + 2) 145 [.ref 52, .int (nI c)] M Q := by
  have p1 := hp.1
  refine e_X11_expect ?_
  rw [hc.1.2.1, fvO_m1 (fun q z => by have := hp.2.2.2 q z; omega)]
  refine ⟨fun z => m_sees hn (by omega) hc ⟨fun z2 => ?_, fun z2 => ?_⟩, fun z => ?_⟩
  · rw [hc.1.1]
    refine m_fault hc hp.2.2.2 hn (fun M' h1 h2 _ => h M' ?_ h2)
    unfold tks
    rw [z]
    dsimp only
    rw [if_neg z2]
    exact h1
  · rw [hc.1.1, nI_add]
    refine h _ ?_ (FrM_52 _ _ (by omega))
    unfold tks
    rw [z]
    dsimp only
    rw [if_pos z2]
    exact MR_10 hc
  · cases hf : s.2.1 with
    | none => exact absurd hf z
    | some x => exact h M (by rw [tks_f hf]; exact hc) (FrM.r M)
theorem s_inV {Q : Int32 → Mem → Prop} {v l g : Nat} (hv : v < 2147483648) (hl : l < 2147483648) (hg : g < 2147483648) (h1 : l ≤ v → v ≤ g → Q (nI 1) M) (h0 : ¬ (l ≤ v ∧ v ≤ g) → Q (nI 0) M) : exI (LY pl tl) (d + 1) 134 [.long (nI v).toInt64, .long (nI l).toInt64, .long (nI g).toInt64] M Q := by
  refine s_in ?_
  simp only [z_wle]
  by_cases q : l ≤ v ∧ v ≤ g
  · rw [if_pos ⟨(z_le hl hv).mpr q.1, (z_le hv hg).mpr q.2⟩]; exact h1 q.1 q.2
  · rw [if_neg (fun z => q ⟨(z_le hl hv).mp z.1, (z_le hv hg).mp z.2⟩)]; exact h0 q
theorem s_inD {Q : Int32 → Mem → Prop} {p : Nat} (h1 : isDg T n p = true → Q (nI 1) M) (h0 : ¬ isDg T n p = true → Q (nI 0) M) : exI (LY pl tl) (d + 1) 134 [.long (sg T n p).toInt64, .long (lN 48), .long (lN 57)] M Q := by
  refine s_in ?_
  rw [show lN 48 = (nI 48).toInt64 from rfl, show lN 57 = (nI 57).toInt64 from rfl]
  simp only [z_wle]
  unfold isDg at h1 h0
  rw [Bool.and_eq_true, decide_eq_true_eq, decide_eq_true_eq] at h1 h0
  by_cases q : nI 48 ≤ sg T n p ∧ sg T n p ≤ nI 57
  · rw [if_pos q]; exact h1 q
  · rw [if_neg q]; exact h0 q
/-- the number, or the least there may be -/
def nvl (l : Nat) : Option Nat → Int32
  | none => nI l
  | some v => nI v
theorem m_number {Q : Int32 → Mem → Prop} {l g : Nat} (hc : MR T n M s) (hp : PI n s) (hn : n ≤ 300) (hg : g < 1000) (hl : l ≤ 1) (h : ∀ M', MR T n M' (nms T n l g s).2 → FrM M M' → Q (nvl l (nms T n l g s).1) M') : exI (LY pl tl) (d + 2) 146 [.ref 52, .int (nI l), .int (nI g)] M Q := by
  have p1 := hp.1
  refine e_X11_number ?_
  rw [hc.1.2.1, fvO_m1 (fun q z => by have := hp.2.2.2 q z; omega)]
  refine ⟨fun z => ?_, fun z => ?_⟩
  · -- behind the digits
    have en : isDg T n s.1 = true → (l ≤ nmv T n s.1 ∧ nmv T n s.1 ≤ g) → nms T n l g s = (some (nmv T n s.1), (nmq T n s.1, none, s.2.2)) := fun d1 r => by
      unfold nms
      rw [z]
      dsimp only
      rw [if_pos d1, if_pos r]
    have eb : isDg T n s.1 = true → ¬ (l ≤ nmv T n s.1 ∧ nmv T n s.1 ≤ g) → nms T n l g s = (none, (nmq T n s.1, some (nmq T n s.1 - 1), s.2.2)) := fun d1 r => by
      unfold nms
      rw [z]
      dsimp only
      rw [if_pos d1, if_neg r]
    have fin : ∀ M2 : Mem, isDg T n s.1 = true → MR T n M2 (nmq T n s.1, s.2) → FrM M M2 → nmv T n s.1 < 1000 → nmq T n s.1 ≤ 302 → 1 ≤ nmq T n s.1 → exI (LY pl tl) (d + 1) 134 [.long (nI (nmv T n s.1)).toInt64, .long (nI l).toInt64, .long (nI g).toInt64] M2 (fun r1 M1 => (¬ r1 = 0 → exI (LY pl tl) (d + 1) 134 [.long (nI (nmv T n s.1)).toInt64, .long (nI l).toInt64, .long (nI g).toInt64] M1 (fun r2 M2 => (r2 = 0 → Q (nI l) M2) ∧ (¬ r2 = 0 → Q (nI (nmv T n s.1)) M2))) ∧ (r1 = 0 → exV (LY pl tl) (d + 1) 144 [.ref 52, .int (M1.1 52 10 - nI 1)] M1 (fun M3 => exI (LY pl tl) (d + 1) 134 [.long (nI (nmv T n s.1)).toInt64, .long (nI l).toInt64, .long (nI g).toInt64] M3 (fun r4 M4 => (r4 = 0 → Q (nI l) M4) ∧ (¬ r4 = 0 → Q (nI (nmv T n s.1)) M4))))) := by
      intro M2 d1 c2 f2 vl' ql qp
      refine s_inV (by omega) (by omega) (by omega) (fun r1 r2 => ⟨fun _ => s_inV (by omega) (by omega) (by omega) (fun _ _ => ⟨fun q => absurd q (by decide), fun _ => ?_⟩) (fun q => absurd ⟨r1, r2⟩ q), fun q => absurd q (by decide)⟩) (fun r => ⟨fun q => absurd rfl q, fun _ => ?_⟩)
      · rw [en d1 ⟨r1, r2⟩] at h
        have e3 : ((nmq T n s.1, s.2) : Ps) = (nmq T n s.1, none, s.2.2) := Prod.ext rfl (Prod.ext z rfl)
        rw [e3] at c2
        exact h M2 c2 f2
      · rw [c2.1.1, z_sub (show 1 ≤ nmq T n s.1 from qp)]
        refine m_fault c2 (fun q y => by rw [show ((nmq T n s.1, s.2) : Ps).2.1 = s.2.1 from rfl, z] at y; cases y) hn (fun M3 c3 f3 _ => s_inV (by omega) (by omega) (by omega) (fun r1 r2 => absurd ⟨r1, r2⟩ r) (fun _ => ⟨fun _ => ?_, fun q => absurd rfl q⟩))
        rw [eb d1 r] at h
        rw [rfs_n (s := (nmq T n s.1, s.2)) z] at c3
        exact h M3 c3 (f2.t f3)
    refine c_X11_number_15 (br_f (nI_ge (by omega) (by omega)) (m_sees hn (by omega) hc (s_inD (fun d1 => ⟨fun q => absurd q (by decide), fun _ => ?_⟩) (fun d1 => ⟨fun _ => ?_, fun q => absurd rfl q⟩))))
    · obtain ⟨a1, a2, a3⟩ := isDg_d d1
      refine m_sees hn (by omega) hc ?_
      rw [a2, pk_mul, nI_add, z_sub (by omega), show 10 * 0 + (48 + dgt T n s.1) - 48 = dgt T n s.1 by omega, hc.1.1, nI_add s.1 1, nI_add 0 1]
      have c2 := MR_10 (p := s.1 + 1) hc
      have f2 := FrM_52 M (k := 10) (nI (s.1 + 1)) (by omega)
      generalize si M 52 10 (nI (s.1 + 1)) = M2 at c2 f2 ⊢
      refine c_X11_number_15 (br_f (nI_ge (by omega) (by omega)) (m_sees hn (by show s.1 + 1 ≤ 302; omega) c2 (s_inD (fun d2 => ⟨fun q => absurd q (by decide), fun _ => ?_⟩) (fun d2 => ⟨fun _ => ⟨fun _ => ?_, fun q => absurd q (by decide)⟩, fun q => absurd rfl q⟩))))
      · have d2 : isDg T n (s.1 + 1) = true := d2
        obtain ⟨b1', b2', b3'⟩ := isDg_d d2
        have vq : nmv T n s.1 = 10 * dgt T n s.1 + dgt T n (s.1 + 1) := if_pos d2
        have qq : nmq T n s.1 = s.1 + 2 := if_pos d2
        refine m_sees hn (by show s.1 + 1 ≤ 302; omega) c2 ?_
        have c3 := MR_10 (p := s.1 + 1 + 1) c2
        have f3 := f2.t (FrM_52 M2 (k := 10) (nI (s.1 + 1 + 1)) (by omega))
        dsimp only
        rw [b2', pk_mul, nI_add, z_sub (by omega), show 10 * dgt T n s.1 + (48 + dgt T n (s.1 + 1)) - 48 = nmv T n s.1 by omega, c2.1.1, nI_add (s.1 + 1) 1]
        generalize si M2 52 10 (nI (s.1 + 1 + 1)) = M3 at c3 f3 ⊢
        refine c_X11_number_15 (br_t (by decide) ⟨fun _ => fin M3 d1 ?_ f3 (by omega) (by omega) (by omega), fun q => absurd q (by decide)⟩)
        rw [qq]
        exact c3
      · have d2 : ¬ isDg T n (s.1 + 1) = true := d2
        have vq : nmv T n s.1 = dgt T n s.1 := if_neg d2
        have qq : nmq T n s.1 = s.1 + 1 := if_neg d2
        rw [← vq]
        exact fin M2 d1 (by rw [qq]; exact c2) f2 (by omega) (by omega) (by omega)
    · have en0 : nms T n l g s = (none, rfs s.1 s) := by
        unfold nms
        rw [z]
        dsimp only
        rw [if_neg d1]
      rw [en0] at h
      refine ⟨fun q => absurd rfl q, fun _ => ?_⟩
      rw [hc.1.1]
      refine m_fault hc hp.2.2.2 hn (fun M' h1 h2 _ => s_inV (by omega) (by omega) (by omega) (fun r1 _ => ⟨fun q => absurd q (by decide), fun _ => ?_⟩) (fun _ => ⟨fun _ => h M' h1 h2, fun q => absurd rfl q⟩))
      have : l = 0 := by omega
      subst this
      exact h M' h1 h2
  · cases hf : s.2.1 with
    | none => exact absurd hf z
    | some x =>
      have := h M (by rw [nms_f hf]; exact hc) (FrM.r M)
      rw [nms_f hf] at this
      exact this
end S65
