/-! moves, needs -/
def rowS (w : Nat → Int32) : List Nat → List Nat → Nat × (Nat → Int64) → Nat × (Nat → Int64)
  | e :: L, s :: gs, st => rowS w L gs (if s = po w e then st else (st.1 + 2, vp_updL (vp_updL st.2 st.1 (nI e).toInt64) (st.1 + 1) (nI s).toInt64))
  | _, _, st => st
theorem rowS_le (w : Nat → Int32) : ∀ (L gs : List Nat) (st : Nat × (Nat → Int64)), (rowS w L gs st).1 ≤ st.1 + 2 * L.length ∧ st.1 ≤ (rowS w L gs st).1
  | [], gs, st => by cases gs <;> exact ⟨by show st.1 ≤ _; omega, Nat.le_refl _⟩
  | e :: L, [], st => ⟨by show st.1 ≤ _; omega, Nat.le_refl _⟩
  | e :: L, s :: gs, st => by
    have ih := rowS_le w L gs (if s = po w e then st else (st.1 + 2, vp_updL (vp_updL st.2 st.1 (nI e).toInt64) (st.1 + 1) (nI s).toInt64))
    have hl : (e :: L).length = L.length + 1 := rfl
    show (rowS w L gs (if s = po w e then st else (st.1 + 2, vp_updL (vp_updL st.2 st.1 (nI e).toInt64) (st.1 + 1) (nI s).toInt64))).1 ≤ _ ∧ st.1 ≤ (rowS w L gs (if s = po w e then st else (st.1 + 2, vp_updL (vp_updL st.2 st.1 (nI e).toInt64) (st.1 + 1) (nI s).toInt64))).1
    by_cases q : s = po w e
    · rw [if_pos q] at ih ⊢
      omega
    · rw [if_neg q] at ih ⊢
      dsimp only at ih
      omega
theorem rwM_cg {M : Mem} {n : Nat} {g g' : Nat → Int64} (h : ∀ j, j < n → g j = g' j) : rwM M n g = rwM M n g' := by
  have e : pfxL n g (M.2 56) = pfxL n g' (M.2 56) := funext (fun j => by
    unfold pfxL
    by_cases q : j < n
    · rw [if_pos q, if_pos q, h j q]
    · rw [if_neg q, if_neg q])
  unfold rwM
  rw [e]
theorem updL_ne {g : Nat → Int64} {k j : Nat} {x : Int64} (h : j ≠ k) : vp_updL g k x j = g j := if_neg h
theorem updL_eq (g : Nat → Int64) (k : Nat) (x : Int64) : vp_updL g k x k = x := if_pos rfl
theorem tf_lt {w : Nat → Int32} : ∀ k, k ≤ eN w → ∀ (gs : List Nat) (g : Nat → Nat) (x : Nat), x < eN w - k → tf (rlk w k) gs g x = g x
  | 0, _, gs, g, x, _ => by cases gs <;> rfl
  | k + 1, hk, gs, g, x, hx => by
    by_cases q : rdy w (eN w - (k + 1)) = true
    · rw [show rlk w (k + 1) = (eN w - (k + 1)) :: rlk w k from if_pos q]
      cases gs with
      | nil => rfl
      | cons s gs =>
        show tf (rlk w k) gs (fun y => if y = eN w - (k + 1) then s else g y) x = g x
        rw [tf_lt k (by omega) gs _ x (by omega), if_neg (by omega)]
    · rw [show rlk w (k + 1) = rlk w k from if_neg q]
      exact tf_lt k (by omega) gs g x (by omega)
section S55
variable {pl : Option Nat} {tl : List LC} {d : Nat} {M : Mem} {t : Nat}
theorem s_addU {Q : Mem → Prop} {n : Nat} {g : Nat → Int64} {x : Int64} (hn : n < 13) (h : Q (rwC M (n + 1) (vp_updL g n x))) : exV (LY pl tl) (d + 1) 110 [.ref 1, .long x] (rwC M n g) Q := by
  rw [rwC_cg (g := g) (g' := vp_updL g n x) (fun j hj => (updL_ne (by omega)).symm)]
  exact s_add hn (updL_eq g n x).symm h
theorem s_mtellU {Q : Mem → Prop} {n : Nat} {g : Nat → Int64} {x : Int64} (hn : n < 32) (h : Q (rwM M (n + 1) (vp_updL g n x))) : exV (LY pl tl) (d + 1) 136 [.ref 52, .long x] (rwM M n g) Q := by
  rw [rwM_cg (g := g) (g' := vp_updL g n x) (fun j hj => (updL_ne (by omega)).symm)]
  exact s_mtell (n + 1) rfl hn (updL_eq g n x).symm h
/-- the row of moves -/
def mvR (w : Nat → Int32) (n : Nat) : Nat × (Nat → Int64) := rowS w (RLs w) (GLs w n) (1, fun _ => (nI (mns w (RLs w) (GLs w n))).toInt64)
theorem mvR_le {w : Nat → Int32} {t : Nat} (hv : V w t) (n : Nat) : (mvR w n).1 ≤ 13 := by
  have n6 := hv.2.1.1.2
  have h1 := (rowS_le w (RLs w) (GLs w n) (1, fun _ => (nI (mns w (RLs w) (GLs w n))).toInt64)).1
  have h2 : (RLs w).length ≤ eN w := rlk_len w (eN w)
  unfold mvR
  dsimp only at h1
  omega
theorem m_moves_n {Q : Int32 → Mem → Prop} {x : Int32} (hx : x < 0 ∨ ¬ x ≤ nI 6) (h : Q (-1) (thr M)) : exI (LY pl tl) (d + 4) 223 [.ref 52, .int x] M Q := by
  refine e_X11_moves (s_inR (by omega) (by omega) (fun j h1 h2 e => ?_) (fun _ => ⟨fun c => absurd rfl c, fun _ => h⟩))
  subst e
  rcases hx with z | z
  · exact absurd z (nI_pos (by omega))
  · exact absurd (nI_le h2 (by omega)) z
theorem m_moves {Q : Int32 → Mem → Prop} {n : Nat} (hv : V (M.1 53) t) (hn : n ≤ 6) (h : ∀ A, (∀ c, c < 58 → c ≠ 52 → A.1 c = M.1 c) → (∀ j, j < 7 → A.1 52 j = M.1 52 j) → A.2 = M.2 → Q (nI (cvM (M.1 53) (rcN (M.1 53)) (fk (GLs (M.1 53) n) 0))) (rwM A (mvR (M.1 53) n).1 (mvR (M.1 53) n).2)) : exI (LY pl tl) (d + 11) 223 [.ref 52, .int (nI n)] M Q := by
  have n6 := hv.2.1.1.2
  have s8 := hv.1.1.2
  have hR := mvR_le hv n
  refine e_X11_moves (s_inR (by omega) (by omega) (fun j h1 h2 e => ⟨fun _ => ?_, fun c => absurd c (by decide)⟩) (fun q => ?_))
  · refine s_laysMoves (t := t) (M := thr M) hv hn (fun T B F fO f28 f30 fB => ?_)
    have f28 : F 28 = nI (cvM (M.1 53) (rcN (M.1 53)) (fk (GLs (M.1 53) n) 0)) := f28
    have f30 : F 30 = nI (mns (M.1 53) (RLs (M.1 53)) (GLs (M.1 53) n)) := f30
    have fB : ∀ e, e < eN (M.1 53) → B e = nI (tf (RLs (M.1 53)) (GLs (M.1 53) n) (po (M.1 53)) e) := fB
    have hA1 := h (tM (lyM (thr M) (rcN (M.1 53))) T B F) (fun c hc h52 => by
      unfold tM
      rw [sa_n h52, sa_n (by omega), sa_n (by omega)]
      unfold lyM
      rw [sa_n (by omega), sa_n (by omega)]
      exact si_c h52) (fun j hj => by
      show F j = _
      rw [fO j (by omega) (by omega) (by omega)]
      show (si M 52 7 (nI 0)).1 52 j = _
      rw [si_s, upd_ne (by omega)]) rfl
    have q53 : (tM (lyM (thr M) (rcN (M.1 53))) T B F).1 53 = M.1 53 := rfl
    have q64 : (tM (lyM (thr M) (rcN (M.1 53))) T B F).1 64 = B := rfl
    have q28 : (tM (lyM (thr M) (rcN (M.1 53))) T B F).1 52 28 = F 28 := rfl
    have q30 : (tM (lyM (thr M) (rcN (M.1 53))) T B F).1 52 30 = F 30 := rfl
    have hgg : g2 (M.1 53) (RLs (M.1 53)) (GLs (M.1 53) n) := (PP_val (r := rcN (M.1 53)) (RLs (M.1 53)) n 0 (rlk_po hv (Nat.le_refl _))).2
    have e0 : tM (lyM (thr M) (rcN ((thr M).1 53))) T B F = tM (lyM (thr M) (rcN (M.1 53))) T B F := rfl
    rw [e0]
    generalize tM (lyM (thr M) (rcN (M.1 53))) T B F = A at *
    generalize hw : M.1 53 = w at *
    rw [q30, f30, rwM_0 A (fun _ => (nI (mns w (RLs w) (GLs w n))).toInt64)]
    refine s_mtell 1 rfl (by omega) rfl ?_
    have q457 : ∀ n g, (rwM A n g).1 53 457 = nI (eN w) := fun n g => (congrFun q53 457).trans hv.2.1.1.1
    have a53 : ∀ n g, (rwM A n g).1 53 = w := fun n g => q53
    have a64 : ∀ n g, (rwM A n g).1 64 = B := fun n g => q64
    have st := lp_p (σ := (Nat × (Nat → Int64)) × List Nat × (Nat → Nat)) (X := fx (LY pl tl) (d + 10) m_X11_moves (qI Q)) (fun e σ => (40, [some (.ref 52), none, some (.int (nI e))], [], rwM A σ.1.1 σ.1.2)) (fun e σ => rowS w (rlk w (eN w - e)) σ.2.1 σ.1 = mvR w n ∧ tf (RLs w) (GLs w n) (po w) = tf (rlk w (eN w - e)) σ.2.1 σ.2.2 ∧ (∀ x, e ≤ x → σ.2.2 x = po w x) ∧ g2 w (rlk w (eN w - e)) σ.2.1) (eN w) (fun e σ he hP hx => ?_) (fun σ hP => ?_) ((1, fun _ => (nI (mns w (RLs w) (GLs w n))).toInt64), GLs w n, po w) ⟨rfl, rfl, fun _ _ => rfl, hgg⟩
    · exact st
    · obtain ⟨⟨k, g⟩, gs, g0⟩ := σ
      obtain ⟨h1, h2, h3, h4⟩ := hP
      dsimp only at h1 h2 h3 h4 ⊢
      obtain ⟨⟨p1, p2⟩, -⟩ := hv.2.1.2 e he
      have ek : eN w - e = (eN w - (e + 1)) + 1 := by omega
      have ee : eN w - (eN w - (e + 1) + 1) = e := by omega
      refine c_X11_moves_40 ?_
      rw [q457, a53, a64, nI_add 308 e, z_cl (show 308 + e < 2147483648 by omega), z_cl (show e < 2147483648 by omega), p1, fB e he, h2, nI_add e 1]
      have v6 := (z_in (n := e) (N := 6) (by omega) (by omega)).mpr (by omega)
      have v4 := (z_in (n := 308 + e) (N := 480) (by omega) (by omega)).mpr (by omega)
      rw [ek] at h1 h4 ⊢
      rw [ek] at h2
      by_cases q : rdy w e = true
      · have er : rlk w (eN w - (e + 1) + 1) = e :: rlk w (eN w - (e + 1)) := by
          show (if rdy w (eN w - (eN w - (e + 1) + 1)) = true then (eN w - (eN w - (e + 1) + 1)) :: rlk w (eN w - (e + 1)) else rlk w (eN w - (e + 1))) = _
          rw [ee, if_pos q]
        rw [er] at h1 h2 h4 ⊢
        cases gs with
        | nil => exact h4.elim
        | cons s gs =>
          have hte : tf (e :: rlk w (eN w - (e + 1))) (s :: gs) g0 e = s := by
            show tf (rlk w (eN w - (e + 1))) gs (fun y => if y = e then s else g0 y) e = s
            rw [tf_lt _ (by omega) gs _ e (by omega), if_pos rfl]
          have sl := h4.1.1
          rw [hte, z_eq (by omega) (by omega)]
          have nxt : ∀ x, e + 1 ≤ x → (fun y => if y = e then s else g0 y) x = po w x := fun x hx => by
            show (if x = e then s else g0 x) = _
            rw [if_neg (by omega)]; exact h3 x (by omega)
          refine br_f (nI_ge he (by omega)) ⟨v6, v4, fun c => ?_, fun c => ?_⟩
          · have h1 : rowS w (rlk w (eN w - (e + 1))) gs (if s = po w e then (k, g) else (k + 2, vp_updL (vp_updL g k (nI e).toInt64) (k + 1) (nI s).toInt64)) = mvR w n := h1
            rw [if_neg c] at h1
            have hk := (rowS_le w (rlk w (eN w - (e + 1))) gs (k + 2, vp_updL (vp_updL g k (nI e).toInt64) (k + 1) (nI s).toInt64)).2
            rw [h1] at hk
            dsimp only at hk
            refine s_mtellU (by omega) ⟨v6, ?_⟩
            rw [a64, fB e he, h2, hte]
            refine s_mtellU (by omega) ?_
            exact hx ((k + 1 + 1, vp_updL (vp_updL g k (nI e).toInt64) (k + 1) (nI s).toInt64), gs, fun y => if y = e then s else g0 y) ⟨h1, h2, nxt, h4.2⟩
          · have h1 : rowS w (rlk w (eN w - (e + 1))) gs (if s = po w e then (k, g) else (k + 2, vp_updL (vp_updL g k (nI e).toInt64) (k + 1) (nI s).toInt64)) = mvR w n := h1
            rw [if_pos c] at h1
            exact hx ((k, g), gs, fun y => if y = e then s else g0 y) ⟨h1, h2, nxt, h4.2⟩
      · have er : rlk w (eN w - (e + 1) + 1) = rlk w (eN w - (e + 1)) := by
          show (if rdy w (eN w - (eN w - (e + 1) + 1)) = true then (eN w - (eN w - (e + 1) + 1)) :: rlk w (eN w - (e + 1)) else rlk w (eN w - (e + 1))) = _
          rw [ee, if_neg q]
        rw [er] at h1 h2 h4 ⊢
        rw [tf_lt _ (by omega) gs g0 e (by omega), h3 e (Nat.le_refl _)]
        refine br_f (nI_ge he (by omega)) ⟨v6, v4, fun c => absurd rfl c, fun _ => ?_⟩
        exact hx ((k, g), gs, g0) ⟨h1, h2, fun x hx => h3 x (by omega), h4⟩
    · obtain ⟨⟨k, g⟩, gs, g0⟩ := σ
      obtain ⟨h1, h2, h3, h4⟩ := hP
      dsimp only at h1 h2 h3 h4 ⊢
      have er : rowS w (rlk w (eN w - eN w)) gs (k, g) = (k, g) := by
        rw [show eN w - eN w = 0 by omega]
        cases gs <;> rfl
      rw [er] at h1
      have e1 : k = (mvR w n).1 := by rw [← h1]
      have e2 : g = (mvR w n).2 := by rw [← h1]
      refine c_X11_moves_40 ?_
      rw [q457]
      refine br_t (nI_le (Nat.le_refl _) (by omega)) ?_
      have r28 : (rwM A k g).1 52 28 = nI (cvM w (rcN w) (fk (GLs w n) 0)) := by
        show (si _ 52 6 _).1 52 28 = _
        rw [si_s, upd_ne (by omega)]
        exact q28.trans f28
      rw [r28, e1, e2]
      exact hA1
  · rcases q with z | z
    · exact absurd z (nI_pos (by omega))
    · exact absurd (nI_le hn (by omega)) z
end S55
