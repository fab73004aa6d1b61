/-! STORMS -/
section S27
variable {pl : Option Nat} {tl : List LC} {d : Nat} {M : Mem} {t : Nat}
theorem s_drawC {Q : Int32 → Mem → Prop} {n : Nat} (h0 : 0 < n) (hn : n < 2147483648) (h : Q (nI (dvS (nxS (M.1 15 5)) n)) (si M 15 5 (nxS (M.1 15 5)))) : exI (LY pl tl) (d + 1) 126 [.ref 15, .int (nI n)] M Q := by
  refine e_X9_draw ⟨fun c => ?_, fun c => ⟨?_, ?_⟩⟩
  · rw [z_le0 hn] at c; omega
  · rw [z_eq0 hn]; omega
  · have := dvS_ok (nxS (M.1 15 5)) h0 hn
    rw [← this] at h
    exact h
theorem s_drawM {Q : Int32 → Mem → Prop} {n : Nat} (h0 : 0 < n) (hn : n < 2147483648) (h : Q (nI (dvS (nxS (M.1 53 469)) n)) (sa M 53 (drW (M.1 53)))) : exI (LY pl tl) (d + 1) 185 [.ref 52, .int (nI n)] M Q := by
  refine e_X11_draw ⟨?_, ?_⟩
  · rw [z_eq0 hn]; omega
  · have := dvS_ok (nxS (M.1 53 469)) h0 hn
    rw [← this] at h
    exact h
theorem RC_dr {w : Nat → Int32} (hv : V w t) (hr : RC 15 M w) : RC 15 (si M 15 5 (nxS (M.1 15 5))) (drW w) ∧ M.1 15 5 = w 469 := by
  obtain ⟨r1, r2, r3, r4⟩ := hr
  have e : M.1 15 5 = w 469 := r3.2.2.2
  refine ⟨⟨RLd_cg (b := 15) (M := M) (fun j hj => drW_ne (by omega)) hv.1 r1, RK_cg (b := 15) (M := M) (fun j hj => drW_ne (by omega)) hv.2.1 r2, ?_, RH_cg (b := 15) (M := M) (fun j hj => drW_ne (by omega)) r4⟩, e⟩
  refine ⟨r3.1, r3.2.1, r3.2.2.1, ?_⟩
  show nxS (M.1 15 5) = drW w 469
  rw [e]
  exact (upd_eq _ _ _).symm
theorem Fr15_si {A : Mem} {k : Nat} {v : Int32} : Fr15 A (si A 15 k v) := ⟨rfl, fun c hc => si_c (by omega)⟩
theorem s_callSome {Q : Mem → Prop} {w : Nat → Int32} (hv : V w t) (hr : RC 15 M w) (h : ∀ B, Fr15 M B → RC 15 B (if allN w = 0 then w else clW (drW w) (nd (wt w) 12 0 (dvS (nxS (w 469)) (allN w)))) → Q B) : exV (LY pl tl) (d + 6) 132 [.ref 15] M Q := by
  obtain ⟨a1, a2⟩ := all_pre hv.1 12 (Nat.le_refl _)
  have a2 : allN w ≤ 1188 := a2
  have aw : wS (M.1 17) (nI 4095) 12 = nI (allN w) := (wS_17 hr _).trans a1
  refine e_X9_callSomewhere (s_weigh ?_)
  rw [aw]
  refine ⟨fun c => ?_, fun c => ?_⟩
  · rw [z_eq0 (by omega)] at c
    obtain ⟨rd1, rd2⟩ := RC_dr hv hr
    refine s_drawC (by omega) (by omega) ?_
    rw [rd2]
    rw [rd2] at rd1
    rw [if_neg c] at h
    obtain ⟨dv1, dv2⟩ := drW_V hv
    have hl0 : dvS (nxS (w 469)) (allN w) < sm (wt w) 12 0 := by rw [sm_pre]; exact Nat.mod_lt _ (by omega)
    have key : ∀ k a l, a + k = 12 → l < sm (wt w) k a → l < 65536 → nd (wt w) k a l = nd (wt w) 12 0 (dvS (nxS (w 469)) (allN w)) → fx (LY pl tl) (d + 5) m_X9_callSomewhere (qV Q) (24, [some (.ref 15), none, some (.int (nI l)), some (.int (nI a))], [], si M 15 5 (nxS (w 469))) := by
      intro k
      induction k with
      | zero => intro a l _ hl _ _; exact absurd hl (Nat.not_lt_zero _)
      | succ k ih =>
        intro a l hak hl hlt hnd
        have hl : l < wt w a + sm (wt w) k (a + 1) := hl
        obtain ⟨w1, w2⟩ := hv.1.2.2.1 a (by omega)
        have hv12 : vp_in (nI a) 12 := (z_in (by omega) (by omega)).mpr (by omega)
        refine c_X9_callSomewhere_24 ?_
        have q17 : (si M 15 5 (nxS (w 469))).1 17 a = nI (wt w a) := (hr.1.1 a (by omega)).trans w1
        rw [z_cl (by omega), q17, z_le (a := wt w a) (b := l) (by omega) (by omega)]
        have hnd : (if l < wt w a then a else nd (wt w) k (a + 1) (l - wt w a)) = nd (wt w) 12 0 (dvS (nxS (w 469)) (allN w)) := hnd
        refine br_f (nI_ge (by omega) (by omega)) ⟨hv12, fun c => ⟨hv12, ?_⟩, fun c => ?_⟩
        · rw [if_neg (by omega)] at hnd
          rw [z_sub c, nI_add]
          exact ih (a + 1) (l - wt w a) (by omega) (by omega) (by omega) hnd
        · rw [if_pos (by omega)] at hnd
          refine s_send dv1 rd1 (by omega) (fun B hF hR => h B (Fr15_si.trans' hF) ?_)
          rw [← hnd]
          exact hR
    exact key 12 0 _ rfl hl0 (by have : dvS (nxS (w 469)) (allN w) < allN w := Nat.mod_lt _ (by omega)
                                 omega) rfl
  · rw [z_eq0 (by omega)] at c
    rw [if_pos c] at h
    exact h M (Fr15.rfl' M) hr
theorem s_nodeAt {Q : Int32 → Mem → Prop} {l : Nat} (hv : VL (M.1 53)) (hl : l < allN (M.1 53)) (h : Q (nI (nd (wt (M.1 53)) 12 0 l)) M) : exI (LY pl tl) (d + 1) 187 [.ref 52, .int (nI l)] M Q := by
  obtain ⟨a1, a2⟩ := all_pre hv 12 (Nat.le_refl _)
  have a2 : allN (M.1 53) ≤ 1188 := a2
  refine e_X11_nodeAt ?_
  have key : ∀ k a l', a + k = 12 → l' < sm (wt (M.1 53)) k a → l' < 65536 → nd (wt (M.1 53)) k a l' = nd (wt (M.1 53)) 12 0 l → fx (LY pl tl) d m_X11_nodeAt (qI Q) (4, [some (.ref 52), none, some (.int (nI a)), some (.int (nI l'))], [], M) := by
    intro k
    induction k with
    | zero => intro a l' _ hl _ _; exact absurd hl (Nat.not_lt_zero _)
    | succ k ih =>
      intro a l' hak hl' hlt hnd
      have hl' : l' < wt (M.1 53) a + sm (wt (M.1 53)) k (a + 1) := hl'
      obtain ⟨w1, w2⟩ := hv.2.2.1 a (by omega)
      have hv480 : vp_in (nI a) 480 := (z_in (by omega) (by omega)).mpr (by omega)
      have hnd : (if l' < wt (M.1 53) a then a else nd (wt (M.1 53)) k (a + 1) (l' - wt (M.1 53) a)) = nd (wt (M.1 53)) 12 0 l := hnd
      refine c_X11_nodeAt_4 ?_
      rw [z_0add, z_cl (by omega), w1, z_lt (by omega) (by omega)]
      refine ⟨hv480, fun c => ?_, fun c => ⟨hv480, ?_⟩⟩
      · rw [if_pos c] at hnd
        rw [← hnd] at h
        exact h
      · rw [if_neg c] at hnd
        rw [z_sub (by omega), nI_add]
        exact ih (a + 1) (l' - wt (M.1 53) a) (by omega) (by omega) (by omega) hnd
  exact key 12 0 l rfl (by rw [sm_pre]; exact hl) (by omega) rfl
def isW (w : Nat → Int32) (c : Int32) : Nat → (Nat → Int32)
  | 0 => w
  | k + 1 => stW (isW w c k) c
theorem isW_V {w : Nat → Int32} (c : Int32) (hv : V w t) (ht : t < 512) : ∀ k, k ≤ 600 → V (isW w c k) (t + 1) ∧ miN (isW w c k) = miN w + k
  | 0, _ => ⟨V_up (by omega) hv, rfl⟩
  | k + 1, h => by
    obtain ⟨i1, i2⟩ := isW_V c hv ht k (by omega)
    have hb := hv.2.2.2.1.2
    obtain ⟨j1, j2⟩ := stW_V c i1 (by omega) (by omega)
    exact ⟨j1, by show miN (stW (isW w c k) c) = _; omega⟩
theorem stW_ne {w : Nat → Int32} {c : Int32} (hn : eN w ≤ 6) {j : Nat} (h1 : j < 314 ∨ 326 ≤ j) (h2 : j < 462 ∨ 469 < j ∨ j = 467 ∨ j = 468) : stW w c j = w j := by
  have p : pmW w j = w j := pmA_ne (by omega) (by omega)
  have eE : eN (drW (drW (pmW w))) ≤ 6 := by
    have : eN (drW (drW (pmW w))) = eN w := by
      unfold eN
      rw [drW_ne (by omega), drW_ne (by omega)]
      exact congrArg tn (pmA_ne (by omega) (by omega))
    omega
  unfold stW
  split
  · rw [drW_ne (by omega), p]
  · split
    · rw [drW_ne (by omega), p]
    · rw [clW_ne eE h1 (by omega), drW_ne (by omega), drW_ne (by omega), p]
theorem wtP (w : Nat → Int32) : ∀ a, a < 12 → wt (drW (pmW w)) a = wt w a := wt_cg (fun a ha => by rw [drW_ne (by omega)]; exact pmA_ne (by omega) (by omega))
theorem allP (w : Nat → Int32) : allN (drW (pmW w)) = allN w := pre_cg 12 (fun a ha => wtP w a ha)
/-- a minute of the class's storm, at its loop -/
theorem s_stC {X : Prop} {w : Nat → Int32} {c : Int32} {Y : Mem → Prop} (hv : V w t) (hm : miN w + 1 ≤ 600 * t) (ht : t ≤ 512) (hr : RC 15 M w) (h : ∀ B, Fr15 M B → RC 15 B (stW w c) → Y B) : exI (LY pl tl) (d + 7) 68 [.ref 24] M (fun _ M2 => exI (LY pl tl) (d + 7) 126 [.ref 15, .int (nI 1000)] M2 (fun r3 M3 => (c ≤ r3 → Y M3) ∧ (¬ c ≤ r3 → exV (LY pl tl) (d + 7) 132 [.ref 15] M3 (fun M4 => Y M4)))) := by
  obtain ⟨p1, p2⟩ := pmW_V hv hm ht
  refine s_nextMinute hv hr (fun B hF hR => ?_)
  obtain ⟨x1, x2⟩ := RC_dr p1 hR
  refine s_drawC (by omega) (by omega) ?_
  rw [x2]
  rw [x2] at x1
  obtain ⟨dv1, dv2⟩ := drW_V p1
  unfold stW at h
  refine ⟨fun q => ?_, fun q => ?_⟩
  · rw [if_pos q] at h
    exact h _ (hF.trans' Fr15_si) x1
  · rw [if_neg q] at h
    refine s_callSome dv1 x1 (fun C hC hRC => h C ((hF.trans' Fr15_si).trans' hC) ?_)
    rw [allP] at hRC
    have e469 : drW (pmW w) 469 = nxS (pmW w 469) := upd_eq _ _ _
    rw [e469] at hRC
    rw [nd_cg (f := wt (drW (pmW w))) (g := wt w) 12 0 _ (fun i hi => wtP w i (by omega))] at hRC
    exact hRC
/-- a minute of the reference's storm -/
theorem s_stM {w : Nat → Int32} {c : Int32} {Y : Mem → Prop} (hw : M.1 53 = w) (hv : V w t) (hm : miN w + 1 ≤ 600 * t) (ht : t ≤ 512) (h58 : ∀ a b, a < 12 → b < 12 → M.1 58 (12 * a + b) = nI (dist w a b)) (h : Y (sa M 53 (stW w c))) : exI (LY pl tl) (d + 7) 182 [.ref 52] M (fun _ M3 => exI (LY pl tl) (d + 7) 185 [.ref 52, .int (nI 1000)] M3 (fun r4 M4 => (c ≤ r4 → Y M4) ∧ (¬ c ≤ r4 → exI (LY pl tl) (d + 7) 186 [.ref 52] M4 (fun r5 M5 => (r5 ≤ 0 → Y M5) ∧ (¬ r5 ≤ 0 → exI (LY pl tl) (d + 7) 186 [.ref 52] M5 (fun r6 M6 => exI (LY pl tl) (d + 7) 185 [.ref 52, .int r6] M6 (fun r7 M7 => exI (LY pl tl) (d + 7) 187 [.ref 52, .int r7] M7 (fun r8 M8 => exI (LY pl tl) (d + 7) 176 [.ref 52, .int r8] M8 (fun _ M9 => Y M9))))))))) := by
  subst hw
  obtain ⟨p1, p2⟩ := pmW_V hv hm ht
  obtain ⟨dv1, dv2⟩ := drW_V p1
  obtain ⟨ddv1, ddv2⟩ := drW_V dv1
  obtain ⟨a1, a2⟩ := all_pre dv1.1 12 (Nat.le_refl _)
  have a2 : allN (drW (pmW (M.1 53))) ≤ 1188 := a2
  have a1 : wS (drW (pmW (M.1 53))) (nI 4095) 12 = nI (allN (M.1 53)) := by rw [a1, ← allP]; rfl
  rw [allP] at a2
  refine s_passesOne hv.2.1 (s_drawM (by omega) (by omega) ?_)
  rw [sa_s, sa_sa]
  unfold stW at h
  refine ⟨fun q => ?_, fun q => ?_⟩
  · rw [if_pos q] at h
    exact h
  · rw [if_neg q] at h
    refine s_allWeights ?_
    rw [sa_s, a1]
    refine ⟨fun q2 => ?_, fun q2 => s_allWeights ?_⟩
    · rw [z_le0 (by omega)] at q2
      rw [if_pos q2] at h
      exact h
    · rw [z_le0 (by omega)] at q2
      rw [if_neg q2] at h
      rw [sa_s, a1]
      refine s_drawM (by omega) (by omega) ?_
      have e469 : drW (pmW (M.1 53)) 469 = nxS (pmW (M.1 53) 469) := upd_eq _ _ _
      rw [sa_s, sa_sa, e469]
      have wt2 : ∀ a, a < 12 → wt (drW (drW (pmW (M.1 53)))) a = wt (M.1 53) a := fun a ha => by
        rw [← wtP (M.1 53) a ha]
        exact wt_cg (fun a ha => drW_ne (by omega)) a ha
      have all2 : allN (drW (drW (pmW (M.1 53)))) = allN (M.1 53) := pre_cg 12 (fun a ha => wt2 a ha)
      refine s_nodeAt (M := sa M 53 (drW (drW (pmW (M.1 53))))) (by rw [sa_s]; exact ddv1.1) (by rw [sa_s, all2]; exact Nat.mod_lt _ (by omega)) ?_
      rw [sa_s, nd_cg (f := wt (drW (drW (pmW (M.1 53))))) (g := wt (M.1 53)) 12 0 _ (fun i hi => wt2 i (by omega))]
      have hnd : nd (wt (M.1 53)) 12 0 (dvS (nxS (nxS (pmW (M.1 53) 469))) (allN (M.1 53))) < 12 := by
        have := nd_lt (f := wt (M.1 53)) (k := 12) (a := 0) (l := dvS (nxS (nxS (pmW (M.1 53) 469))) (allN (M.1 53))) (by rw [sm_pre]; exact Nat.mod_lt _ (by show 0 < allN (M.1 53); omega))
        omega
      have dd : ∀ a b, a < 12 → b < 12 → dist (drW (drW (pmW (M.1 53)))) a b = dist (M.1 53) a b := (VL_cg (fun j hj => by rw [drW_ne (by omega), drW_ne (by omega)]; exact pmA_ne (by omega) (by have := hv.2.1.1.2; omega))).2.2.2.2.2
      refine s_callsT (t := t) (w := drW (drW (pmW (M.1 53)))) (sa_s _ _ _) ddv1 (fun a b ha hb => by rw [dd a b ha hb]; exact h58 a b ha hb) hnd ?_
      rw [sa_sa]
      exact h
theorem isW_ne {w : Nat → Int32} {c : Int32} (hv : V w t) (ht : t < 512) {j : Nat} (h1 : j < 314 ∨ 326 ≤ j) (h2 : j < 462 ∨ 469 < j ∨ j = 467 ∨ j = 468) : ∀ k, k ≤ 600 → isW w c k j = w j
  | 0, _ => rfl
  | k + 1, h => by
    show stW (isW w c k) c j = w j
    rw [stW_ne (isW_V c hv ht k (by omega)).1.2.1.1.2 h1 h2, isW_ne hv ht h1 h2 k (by omega)]
theorem op_storms {x y : Int32} (h : Inv t M) (ht : t < 512) : Op pl tl (d + 12) 19 [.ref 0, .int x, .int y] 188 [.ref 52, .int x, .int y] t M := by
  have hI := h.up (t' := t + 1) (by omega) (by omega)
  obtain ⟨⟨hv, hr⟩, -⟩ := h
  have hb := hv.2.2.2.1.2
  have no : ∀ Q : Int32 → Mem → Prop, ((x < nI 1 ∨ ¬ x ≤ nI 600) ∨ (y < 0 ∨ ¬ y ≤ nI 1000)) → Q (-1) (thr M) → exI (LY pl tl) (d + 12) 188 [.ref 52, .int x, .int y] M Q := by
    intro Q hx hq
    refine e_X11_storms (s_inR (by omega) (by omega) (fun j h1 h2 e => ⟨fun c => absurd c (by decide), fun _ => s_inR (by omega) (by omega) (fun i h3 h4 e2 => ?_) (fun _ => ⟨fun c => absurd rfl c, fun _ => hq⟩)⟩) (fun _ => ⟨fun _ => hq, fun c => absurd rfl c⟩))
    exfalso
    rcases hx with (z | z) | (z | z)
    · rw [e, z_lt (by omega) (by omega)] at z; omega
    · exact z (by rw [e]; exact nI_le h2 (by omega))
    · rw [e2] at z; exact nI_pos (by omega) z
    · exact z (by rw [e2]; exact nI_le h4 (by omega))
  have lt_nle : ∀ {a b : Int32}, a < b → ¬ b ≤ a := fun {a b} q z => by rw [Int32.lt_iff_toInt_lt] at q; rw [Int32.le_iff_toInt_le] at z; omega
  have nlt_le : ∀ {a b : Int32}, ¬ a < b → b ≤ a := fun {a b} q => by rw [Int32.lt_iff_toInt_lt] at q; rw [Int32.le_iff_toInt_le]; omega
  refine e_X10_storms ⟨fun c => no _ (Or.inl (Or.inl c)) ⟨rfl, hI⟩, fun c => ⟨fun c2 => no _ (Or.inl (Or.inr (lt_nle c2))) ⟨rfl, hI⟩, fun c2 => ⟨fun c3 => no _ (Or.inr (Or.inl c3)) ⟨rfl, hI⟩, fun c3 => ⟨fun c4 => ?_, fun c4 => no _ (Or.inr (Or.inr c4)) ⟨rfl, hI⟩⟩⟩⟩⟩
  obtain ⟨n, h1, h2, e⟩ := z_1 c (by omega) (nlt_le c2)
  subst e
  have k7 : M.1 24 7 = M.1 53 463 := hr.2.1.2.2.2.1
  have k8 : M.1 24 8 = M.1 53 464 := hr.2.1.2.2.2.2.1
  have k9 : M.1 24 9 = M.1 53 465 := hr.2.1.2.2.2.2.2.1
  rw [k7, k8, k9]
  have cls : ∀ Q : Int32 → Mem → Prop, (∀ B, Fr15 M B → RC 15 B (isW (M.1 53) y n) → Q (isW (M.1 53) y n 463 - M.1 53 463) (rwC B 2 (fun j => if j = 0 then (isW (M.1 53) y n 464 - M.1 53 464).toInt64 else (isW (M.1 53) y n 465 - M.1 53 465).toInt64))) → fx (LY pl tl) (d + 11) m_X10_storms (qI Q) (63, [some (.ref 0), some (.int (nI n)), some (.int y), some (.int (M.1 53 463)), some (.int (M.1 53 464)), some (.int (M.1 53 465)), some (.int (nI 0))], [], M) := by
    intro Q hQ
    have key : ∀ k i, i + k = n → ∀ B, Fr15 M B → RC 15 B (isW (M.1 53) y i) → fx (LY pl tl) (d + 11) m_X10_storms (qI Q) (63, [some (.ref 0), some (.int (nI n)), some (.int y), some (.int (M.1 53 463)), some (.int (M.1 53 464)), some (.int (M.1 53 465)), some (.int (nI i))], [], B) := by
      intro k
      induction k with
      | zero =>
        intro i hi B hF hR
        have : i = n := by omega
        subst this
        refine c_X10_storms_63 (br_t (nI_le (Nat.le_refl _) (by omega)) (s_tell2 ?_))
        have q7 : B.1 24 7 = isW (M.1 53) y i 463 := hR.2.1.2.2.2.1
        have q8 : B.1 24 8 = isW (M.1 53) y i 464 := hR.2.1.2.2.2.2.1
        have q9 : B.1 24 9 = isW (M.1 53) y i 465 := hR.2.1.2.2.2.2.2.1
        rw [q8, q9]
        have q7' : ∀ g, (rwC B 2 g).1 24 7 = isW (M.1 53) y i 463 := fun g => q7
        rw [q7']
        exact hQ B hF hR
      | succ k ih =>
        intro i hi B hF hR
        obtain ⟨i1, i2⟩ := isW_V y hv ht i (by omega)
        refine c_X10_storms_63 (br_f (nI_ge (by omega) (by omega)) ?_)
        rw [nI_add]
        exact s_stC (X := True) (d := d + 4) i1 (by omega) (by omega) hR (fun B' hF' hR' => ih (i + 1) (by omega) B' (hF.trans' hF') hR')
    exact key n 0 (by omega) M (Fr15.rfl' M) hr
  refine cls _ (fun B hF hR => ?_)
  have h53 : B.1 53 = M.1 53 := hF.2 53 (by omega)
  obtain ⟨j, hj, ey⟩ := z_0 c3 (by omega) c4
  refine e_X11_storms (s_inR (by omega) (by omega) (fun _ _ _ _ => ⟨fun c => absurd c (by decide), fun _ => s_inR (by omega) (by omega) (fun _ _ _ _ => ⟨fun _ => ?_, fun c => absurd c (by decide)⟩) (fun q => ?_)⟩) (fun q => ?_))
  · generalize hB : rwC B 2 (fun j => if j = 0 then (isW (M.1 53) y n 464 - M.1 53 464).toInt64 else (isW (M.1 53) y n 465 - M.1 53 465).toInt64) = C
    have hC53 : C.1 53 = M.1 53 := by rw [← hB]; exact h53
    refine s_lyT (t := t) (by rw [hC53]; exact hv) ?_
    rw [hC53]
    have l53 : (lyM (thr C) (rcN (M.1 53))).1 53 = M.1 53 := hC53
    have l58 : ∀ a b, a < 12 → b < 12 → (lyM (thr C) (rcN (M.1 53))).1 58 (12 * a + b) = nI (dist (M.1 53) a b) := fun a b ha hb => by
      have := ly58 (M := thr C) (r := rcN (M.1 53)) a b ha hb
      rw [show (thr C).1 53 = M.1 53 from hC53] at this
      exact this
    rw [l53]
    generalize hA : lyM (thr C) (rcN (M.1 53)) = A at l53 l58
    have key : ∀ k i, i + k = n → fx (LY pl tl) (d + 11) m_X11_storms (qI (fun r2 M2 => r2 = isW (M.1 53) y n 463 - M.1 53 463 ∧ Inv (t + 1) M2)) (67, [some (.ref 52), some (.int (nI n)), some (.int y), some (.int (M.1 53 463)), some (.int (M.1 53 464)), some (.int (M.1 53 465)), some (.int (nI i))], [], sa A 53 (isW (M.1 53) y i)) := by
      intro k
      induction k with
      | zero =>
        intro i hi
        have : i = n := by omega
        subst this
        refine c_X11_storms_67 (br_t (nI_le (Nat.le_refl _) (by omega)) ?_)
        rw [sa_s, rwM_0 _ (fun j => if j = 0 then (isW (M.1 53) y i 464 - M.1 53 464).toInt64 else (isW (M.1 53) y i 465 - M.1 53 465).toInt64)]
        have w53 : ∀ m g, (rwM (sa A 53 (isW (M.1 53) y i)) m g).1 53 = isW (M.1 53) y i := fun m g => sa_s A 53 (isW (M.1 53) y i)
        refine s_mtell 1 rfl (by omega) rfl ?_
        rw [w53]
        refine s_mtell 2 rfl (by omega) rfl ?_
        rw [w53]
        refine ⟨rfl, ?_⟩
        refine Inv_step hI hF (isW_V y hv ht i (by omega)).1 hR (w53 _ _) (fun c h1 h2 => ?_) ⟨?_, ?_⟩ (rows_ok (B := B) (n := 2) (by omega) ?_ rfl ?_ rfl (fun j hj => rfl))
        · show (si _ 52 6 _).1 c = _
          rw [si_c (by omega)]
          show (sa A 53 _).1 c = _
          rw [sa_n (by omega), ← hA]
          show (sa (sa (si C 52 7 (nI 0)) 58 _) 59 _).1 c = _
          rw [sa_n (by omega), sa_n (by omega), si_c (by omega), ← hB]
          show (si _ 1 1 _).1 c = _
          rw [si_c h1]; rfl
        · rw [← hA, ← hB]; rfl
        · rw [← hA, ← hB]; rfl
        · rw [← hA, ← hB]; rfl
        · rw [← hA, ← hB]; rfl
      | succ k ih =>
        intro i hi
        obtain ⟨i1, i2⟩ := isW_V y hv ht i (by omega)
        refine c_X11_storms_67 (br_f (nI_ge (by omega) (by omega)) ?_)
        rw [nI_add]
        refine s_stM (d := d + 4) (w := isW (M.1 53) y i) (sa_s _ _ _) i1 (by omega) (by omega) (fun a b ha hb => ?_) ?_
        · have e1 : dist (isW (M.1 53) y i) a b = dist (M.1 53) a b := (VL_cg (fun j hj => isW_ne hv ht (by omega) (by omega) i (by omega))).2.2.2.2.2 a b ha hb
          rw [e1, sa_n (by omega)]; exact l58 a b ha hb
        · rw [sa_sa]
          exact ih (i + 1) (by omega)
    have := key n 0 (by omega)
    have e0 : sa A 53 (isW (M.1 53) y 0) = A := sa_eq (fun j => by show M.1 53 j = _; rw [l53])
    rw [e0] at this
    exact this
  · rw [ey] at q
    rcases q with q | q
    · exact (nI_pos (by omega) q).elim
    · exact (q (nI_le hj (by omega))).elim
  · rcases q with q | q
    · rw [z_lt (by omega) (by omega)] at q; omega
    · exact (q (nI_le h2 (by omega))).elim
end S27
