/-! up -/
def mvS (w0 : Nat → Int32) : List Nat → List Nat → (Nat → Int32) → (Nat → Int32)
  | e :: L, s :: gs, w => mvS w0 L gs (if s = po w0 e then w else mvW w e s (wy w0 e s))
  | _, _, w => w
/-- from engine e on the posts are as they were -/
def Rel (e : Nat) (w w0 : Nat → Int32) : Prop := (∀ j, (j < 308 ∨ 326 ≤ j) → (j < 392 ∨ 456 ≤ j) → j ≠ 467 → j ≠ 468 → w j = w0 j) ∧ ∀ e', e ≤ e' → e' < 6 → w (308 + e') = w0 (308 + e')
theorem Rel_mv {e s way : Nat} {w w0 : Nat → Int32} (he : e < 6) (h : Rel e w w0) : Rel (e + 1) (mvW w e s way) w0 := by
  refine ⟨fun j h1 h2 h3 h4 => ?_, fun e' h1 h2 => ?_⟩
  · rw [mvW_ne he h1 h2 h3 h4]; exact h.1 j h1 h2 h3 h4
  · rw [mvW_po he h2, if_neg (by omega)]; exact h.2 e' (by omega) h2
theorem Rel_n {e : Nat} {w w0 : Nat → Int32} (h : Rel e w w0) : eN w = eN w0 ∧ sN w = sN w0 ∧ rcN w = rcN w0 ∧ (∀ s, s < 8 → sp w s = sp w0 s) ∧ (∀ a b, a < 12 → b < 12 → dist w a b = dist w0 a b) ∧ ∀ e', e ≤ e' → e' < 6 → po w e' = po w0 e' := by
  refine ⟨?_, ?_, ?_, fun s hs => ?_, (VL_cg (fun j hj => h.1 j (by omega) (by omega) (by omega) (by omega))).2.2.2.2.2, fun e' h1 h2 => ?_⟩
  · unfold eN; rw [h.1 457 (by omega) (by omega) (by omega) (by omega)]
  · unfold sN; rw [h.1 456 (by omega) (by omega) (by omega) (by omega)]
  · unfold rcN; rw [h.1 459 (by omega) (by omega) (by omega) (by omega)]
  · unfold sp; rw [h.1 (300 + s) (by omega) (by omega) (by omega) (by omega)]
  · unfold po; rw [h.2 e' h1 h2]
section S57
variable {pl : Option Nat} {tl : List LC} {d : Nat} {M : Mem} {t : Nat}
theorem m_up_n {Q : Int32 → Mem → Prop} {x : Int32} (hx : x < 0 ∨ ¬ x ≤ nI 6) (h : Q (-1) (thr M)) : exI (LY pl tl) (d + 4) 227 [.ref 52, .int x] M Q := by
  refine e_X11_up (s_inR (by omega) (by omega) (fun j h1 h2 e => ?_) (fun _ => ⟨fun c => absurd rfl c, fun _ => h⟩))
  subst e
  rcases hx with z | z
  · exact absurd z (nI_pos (by omega))
  · exact absurd (nI_le h2 (by omega)) z
theorem m_up {Q : Int32 → Mem → Prop} {n : Nat} (hv : V (M.1 53) t) (ht : t ≤ 512) (hb : bN (M.1 53) + 6 ≤ 6 * t) (hn : n ≤ 6) (h : ∀ A, (∀ c, c < 58 → c ≠ 52 → c ≠ 53 → A.1 c = M.1 c) → (∀ j, j < 7 → A.1 52 j = M.1 52 j) → A.2 = M.2 → A.1 53 = mvS (M.1 53) (RLs (M.1 53)) (GLs (M.1 53) (min n (mvN (M.1 53)))) (M.1 53) → Q (nI (mvd (M.1 53) (RLs (M.1 53)) (GLs (M.1 53) (min n (mvN (M.1 53)))))) (rwM A 2 (fun j => if j = 0 then (nI (cvM (M.1 53) (rcN (M.1 53)) (fk (GLs (M.1 53) (min n (mvN (M.1 53)))) 0))).toInt64 else (CV (mvS (M.1 53) (RLs (M.1 53)) (GLs (M.1 53) (min n (mvN (M.1 53)))) (M.1 53)) (rcN (M.1 53))).toInt64))) : exI (LY pl tl) (d + 11) 227 [.ref 52, .int (nI n)] M Q := by
  have n6 := hv.2.1.1.2
  have s8 := hv.1.1.2
  have hl : lmN (M.1 53) ≤ 20 := hv.2.2.1.2.2.2
  have hmv : mvN (M.1 53) ≤ lmN (M.1 53) := by unfold mvN; omega
  refine e_X11_up (s_inR (by omega) (by omega) (fun j h1 h2 e => ⟨fun _ => ?_, fun c => absurd c (by decide)⟩) (fun q => ?_))
  · refine s_mayM (M := thr M) (t := t) hv ht ?_
    have e1 : (thr M).1 53 = M.1 53 := rfl
    rw [e1, nI_min n (mvN (M.1 53)) (by omega) (by omega)]
    generalize hn' : min n (mvN (M.1 53)) = n' at h
    have hn6 : n' ≤ 6 := by omega
    refine s_laysMoves (t := t) (M := thr M) hv hn6 (fun T B F fO f28 f30 fB => ?_)
    have f28 : F 28 = nI (cvM (M.1 53) (rcN (M.1 53)) (fk (GLs (M.1 53) n') 0)) := f28
    have fB : ∀ e, e < eN (M.1 53) → B e = nI (tf (RLs (M.1 53)) (GLs (M.1 53) n') (po (M.1 53)) e) := fB
    have aC : ∀ c, c < 58 → c ≠ 52 → (tM (lyM (thr M) (rcN (M.1 53))) T B F).1 c = M.1 c := fun c hc h52 => by
      unfold tM
      rw [sa_n h52, sa_n (by omega), sa_n (by omega)]
      unfold lyM
      rw [sa_n (by omega), sa_n (by omega)]
      exact si_c h52
    have a52 : ∀ j, j < 7 → (tM (lyM (thr M) (rcN (M.1 53))) T B F).1 52 j = M.1 52 j := fun j hj => by
      show F j = _
      rw [fO j (by omega) (by omega) (by omega)]
      show (si M 52 7 (nI 0)).1 52 j = _
      rw [si_s, upd_ne (by omega)]
    have a2 : (tM (lyM (thr M) (rcN (M.1 53))) T B F).2 = M.2 := rfl
    have q53 : (tM (lyM (thr M) (rcN (M.1 53))) T B F).1 53 = M.1 53 := rfl
    have q64 : (tM (lyM (thr M) (rcN (M.1 53))) T B F).1 64 = B := rfl
    have q28 : (tM (lyM (thr M) (rcN (M.1 53))) T B F).1 52 28 = F 28 := rfl
    have q58 : ∀ a b, a < 12 → b < 12 → (tM (lyM (thr M) (rcN (M.1 53))) T B F).1 58 (12 * a + b) = nI (dist (M.1 53) a b) := ly58 (M := thr M) (r := rcN (M.1 53))
    have q59 : ∀ s, s < sN (M.1 53) → (tM (lyM (thr M) (rcN (M.1 53))) T B F).1 59 s = rM (M.1 53) (rcN (M.1 53)) s := ly59 (M := thr M)
    have hgg : g2 (M.1 53) (RLs (M.1 53)) (GLs (M.1 53) n') := (PP_val (r := rcN (M.1 53)) (RLs (M.1 53)) n' 0 (rlk_po hv (Nat.le_refl _))).2
    have e0 : tM (lyM (thr M) (rcN ((thr M).1 53))) T B F = tM (lyM (thr M) (rcN (M.1 53))) T B F := rfl
    rw [e0]
    generalize tM (lyM (thr M) (rcN (M.1 53))) T B F = A at *
    generalize hw : M.1 53 = w0 at *
    have e2 : A = sa A 53 w0 := by rw [← q53, sa_id]
    rw [e2]
    have st := lp_p (σ := (Nat → Int32) × Nat × List Nat × (Nat → Nat)) (X := fx (LY pl tl) (d + 10) m_X11_up (qI Q)) (fun e σ => (35, [some (.ref 52), none, some (.int (nI σ.2.1)), some (.int (nI e))], [], sa A 53 σ.1)) (fun e σ => (Rel e σ.1 w0 ∧ V σ.1 t ∧ bN σ.1 + (eN w0 - e) ≤ 6 * t) ∧ mvS w0 (rlk w0 (eN w0 - e)) σ.2.2.1 σ.1 = mvS w0 (RLs w0) (GLs w0 n') w0 ∧ σ.2.1 + mvd w0 (rlk w0 (eN w0 - e)) σ.2.2.1 = mvd w0 (RLs w0) (GLs w0 n') ∧ tf (RLs w0) (GLs w0 n') (po w0) = tf (rlk w0 (eN w0 - e)) σ.2.2.1 σ.2.2.2 ∧ (∀ x, e ≤ x → σ.2.2.2 x = po w0 x) ∧ g2 w0 (rlk w0 (eN w0 - e)) σ.2.2.1) (eN w0) (fun e σ he hP hx => ?_) (fun σ hP => ?_) (w0, 0, GLs w0 n', po w0) ⟨⟨⟨fun _ _ _ _ _ => rfl, fun _ _ _ => rfl⟩, hv, by show bN w0 + (eN w0 - 0) ≤ 6 * t; omega⟩, rfl, by show 0 + mvd w0 (RLs w0) (GLs w0 n') = _; omega, rfl, fun _ _ => rfl, hgg⟩
    · exact st
    · obtain ⟨w, k, gs, g0⟩ := σ
      obtain ⟨⟨r1, r2, r3⟩, h1, h1', h2, h3, h4⟩ := hP
      dsimp only at r1 r2 r3 h1 h1' h2 h3 h4 ⊢
      obtain ⟨w1, w2, w3, w4, w5, w6⟩ := Rel_n r1
      obtain ⟨⟨p1, p2⟩, -⟩ := hv.2.1.2 e he
      have ek : eN w0 - e = (eN w0 - (e + 1)) + 1 := by omega
      have ee : eN w0 - (eN w0 - (e + 1) + 1) = e := by omega
      have s53 : (sa A 53 w).1 53 = w := sa_s _ _ _
      have s64 : (sa A 53 w).1 64 = B := q64
      have w457 : w 457 = nI (eN w0) := (r1.1 457 (by omega) (by omega) (by omega) (by omega)).trans hv.2.1.1.1
      have wpo : w (308 + e) = nI (po w0 e) := (r1.2 e (Nat.le_refl _) (by omega)).trans p1
      refine c_X11_up_35 ?_
      rw [s53, s64, w457, nI_add 308 e, z_cl (show 308 + e < 2147483648 by omega), z_cl (show e < 2147483648 by omega), wpo, fB e he, h2, nI_add e 1, nI_add k 1]
      have v6 := (z_in (n := e) (N := 6) (by omega) (by omega)).mpr (by omega)
      have v4 := (z_in (n := 308 + e) (N := 480) (by omega) (by omega)).mpr (by omega)
      rw [ek] at h1 h1' h4 ⊢
      rw [ek] at h2
      by_cases q : rdy w0 e = true
      · have er : rlk w0 (eN w0 - (e + 1) + 1) = e :: rlk w0 (eN w0 - (e + 1)) := by
          show (if rdy w0 (eN w0 - (eN w0 - (e + 1) + 1)) = true then (eN w0 - (eN w0 - (e + 1) + 1)) :: rlk w0 (eN w0 - (e + 1)) else rlk w0 (eN w0 - (e + 1))) = _
          rw [ee, if_pos q]
        rw [er] at h1 h1' h2 h4 ⊢
        cases gs with
        | nil => exact h4.elim
        | cons s gs =>
          have hte : tf (e :: rlk w0 (eN w0 - (e + 1))) (s :: gs) g0 e = s := by
            show tf (rlk w0 (eN w0 - (e + 1))) gs (fun y => if y = e then s else g0 y) e = s
            rw [tf_lt _ (by omega) gs _ e (by omega), if_pos rfl]
          have sl := h4.1.1
          rw [hte, z_eq (by omega) (by omega)]
          have nxt : ∀ x, e + 1 ≤ x → (fun y => if y = e then s else g0 y) x = po w0 x := fun x hx => by
            show (if x = e then s else g0 x) = _
            rw [if_neg (by omega)]; exact h3 x (by omega)
          have h1 : mvS w0 (rlk w0 (eN w0 - (e + 1))) gs (if s = po w0 e then w else mvW w e s (wy w0 e s)) = mvS w0 (RLs w0) (GLs w0 n') w0 := h1
          have h1' : k + ((if s = po w0 e then 0 else 1) + mvd w0 (rlk w0 (eN w0 - (e + 1))) gs) = mvd w0 (RLs w0) (GLs w0 n') := h1'
          refine br_f (nI_ge he (by omega)) ⟨v6, v4, fun c => ⟨v6, ?_⟩, fun c => ?_⟩
          · rw [if_neg c] at h1 h1'
            have z2 := (hv.1.2.2.2.1 _ p2).2
            have y2 := (hv.1.2.2.2.1 _ sl).2
            refine s_sends (t := t) (M := sa A 53 w) (way := wy w0 e s) (by rw [s53]; exact r2) ht (fun a b ha hb => ?_) (by rw [s53, w1]; exact he) (by rw [s53, w2]; exact sl) ?_ ?_
            · rw [s53, w5 a b ha hb]; exact q58 a b ha hb
            · rw [s53, w6 e (Nat.le_refl _) (by omega), w4 _ (by omega), w4 _ (by omega), w5 _ _ z2 y2]; rfl
            · rw [s53, sa_sa]
              obtain ⟨V1, B1⟩ := mvW_V (e := e) (s := s) (way := wy w0 e s) r2 ht (by rw [w1]; exact he) (by rw [w2]; exact sl) (by omega)
              refine hx (mvW w e s (wy w0 e s), k + 1, gs, fun y => if y = e then s else g0 y) ⟨⟨Rel_mv (by omega) r1, V1, ?_⟩, h1, ?_, h2, nxt, h4.2⟩
              · show bN (mvW w e s (wy w0 e s)) + (eN w0 - (e + 1)) ≤ 6 * t
                omega
              · show k + 1 + mvd w0 (rlk w0 (eN w0 - (e + 1))) gs = _
                omega
          · rw [if_pos c] at h1 h1'
            refine hx (w, k, gs, fun y => if y = e then s else g0 y) ⟨⟨⟨r1.1, fun e' z1 z2 => r1.2 e' (by omega) z2⟩, r2, ?_⟩, h1, ?_, h2, nxt, h4.2⟩
            · show bN w + (eN w0 - (e + 1)) ≤ 6 * t
              omega
            · show k + mvd w0 (rlk w0 (eN w0 - (e + 1))) gs = _
              omega
      · have er : rlk w0 (eN w0 - (e + 1) + 1) = rlk w0 (eN w0 - (e + 1)) := by
          show (if rdy w0 (eN w0 - (eN w0 - (e + 1) + 1)) = true then (eN w0 - (eN w0 - (e + 1) + 1)) :: rlk w0 (eN w0 - (e + 1)) else rlk w0 (eN w0 - (e + 1))) = _
          rw [ee, if_neg q]
        rw [er] at h1 h1' h2 h4 ⊢
        rw [tf_lt _ (by omega) gs g0 e (by omega), h3 e (Nat.le_refl _)]
        refine br_f (nI_ge he (by omega)) ⟨v6, v4, fun c => absurd rfl c, fun _ => ?_⟩
        refine hx (w, k, gs, g0) ⟨⟨⟨r1.1, fun e' z1 z2 => r1.2 e' (by omega) z2⟩, r2, ?_⟩, h1, h1', h2, fun x hx => h3 x (by omega), h4⟩
        show bN w + (eN w0 - (e + 1)) ≤ 6 * t
        omega
    · obtain ⟨w, k, gs, g0⟩ := σ
      obtain ⟨⟨r1, r2, r3⟩, h1, h1', h2, h3, h4⟩ := hP
      dsimp only at r1 r2 r3 h1 h1' h2 h3 h4 ⊢
      obtain ⟨w1, w2, w3, w4, w5, w6⟩ := Rel_n r1
      rw [show eN w0 - eN w0 = 0 by omega] at h1 h1'
      have h1 : w = mvS w0 (RLs w0) (GLs w0 n') w0 := by rw [← h1]; cases gs <;> rfl
      have h1' : k = mvd w0 (RLs w0) (GLs w0 n') := by rw [← h1']; cases gs <;> rfl
      have s53 : (sa A 53 w).1 53 = w := sa_s _ _ _
      have s28 : (sa A 53 w).1 52 28 = nI (cvM w0 (rcN w0) (fk (GLs w0 n') 0)) := q28.trans f28
      have w457 : w 457 = nI (eN w0) := (r1.1 457 (by omega) (by omega) (by omega) (by omega)).trans hv.2.1.1.1
      have hAQ := h (sa A 53 w) (fun c c1 c2 c3 => by rw [sa_n c3]; exact aC c c1 c2) (fun j hj => a52 j hj) a2 (s53.trans h1)
      rw [← h1, ← h1'] at hAQ
      refine c_X11_up_35 ?_
      rw [s53, s28, w457]
      refine br_t (nI_le (Nat.le_refl _) (by omega)) ?_
      rw [rwM_0 (sa A 53 w) (fun j => if j = 0 then (nI (cvM w0 (rcN w0) (fk (GLs w0 n') 0))).toInt64 else (CV w (rcN w0)).toInt64)]
      refine s_mtell 1 rfl (by omega) rfl (s_reachedNow (r := rcN w0) (M := rwM (sa A 53 w) 1 (fun j => if j = 0 then (nI (cvM w0 (rcN w0) (fk (GLs w0 n') 0))).toInt64 else (CV w (rcN w0)).toInt64)) r2.2.1 (fun s hs => ?_) r2.1.1.2 (s_nowW (r := rcN w0) (M := rwM (sa A 53 w) 1 (fun j => if j = 0 then (nI (cvM w0 (rcN w0) (fk (GLs w0 n') 0))).toInt64 else (CV w (rcN w0)).toInt64)) (s_mtell 2 rfl (by omega) rfl hAQ)))
      show A.1 59 s = rM w (rcN w0) s
      have hs : s < sN w := hs
      rw [w2] at hs
      rw [q59 s hs]
      unfold rM
      refine mk_congr 12 (fun a ha => ?_)
      rw [w4 s (by omega), w5 _ _ (hv.1.2.2.2.1 s hs).2 ha]
  · rcases q with z | z
    · exact absurd z (nI_pos (by omega))
    · exact absurd (nI_le hn (by omega)) z
end S57
