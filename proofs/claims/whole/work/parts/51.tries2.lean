/-! THE REFERENCE TRIES ALL MOVES, and lays the best -/
theorem foB_n {v : Nat → Option Int} {c : Nat → Cd} {B : Option Cd} {s : Nat} (h : v s = none) : foB v c B (s + 1) = foB v c B s := by
  show (match v s with | none => foB v c B s | some _ => stp (foB v c B s) (c s)) = _
  rw [h]
theorem foB_y {v : Nat → Option Int} {c : Nat → Cd} {B : Option Cd} {s : Nat} {x : Int} (h : v s = some x) : foB v c B (s + 1) = stp (foB v c B s) (c s) := by
  show (match v s with | none => foB v c B s | some _ => stp (foB v c B s) (c s)) = _
  rw [h]
section S51
variable {pl : Option Nat} {tl : List LC} {d : Nat} {M : Mem} {t : Nat}
theorem s_tries {w : Nat → Int32} {r : Nat} (hw : M.1 53 = w) (hv : V w t) (h58 : ∀ a b, a < 12 → b < 12 → M.1 58 (12 * a + b) = nI (dist w a b)) (h59 : ∀ s, s < sN w → M.1 59 s = rM w r s) : ∀ k {Q : Mem → Prop} {e left m v n : Nat} {g : Nat → Nat} {T B F : Nat → Int32} {o : Option Cd}, e + k = eN w → left ≤ 6 → v ≤ e → n ≤ 660 * e → (∀ x, x < e → T x = nI (g x)) → (∀ x, x < eN w → g x < sN w) → (∀ x, e ≤ x → g x = po w x) → oe w r g e = SO w r (nI m) → BOk (eN w) o B F → FOk M F → (∀ T' B' F', (∀ x, x < e → T' x = nI (g x)) → BOk (eN w) (stp o (cd w r (rlk w k) left m v n g)) B' F' → FOk M F' → Q (tM M T' B' F')) → exV (LY pl tl) (d + k + 3) 221 [.ref 52, .int (nI e), .int (nI left), .int (nI v), .int (nI n)] (tM M T B F) Q := by
  have n6 := hv.2.1.1.2
  have s8 := hv.1.1.2
  have q457 : ∀ T B F, (tM M T B F).1 53 457 = nI (eN w) := fun T B F => (congrFun hw 457).trans hv.2.1.1.1
  have q456 : ∀ T B F, (tM M T B F).1 53 456 = nI (sN w) := fun T B F => (congrFun hw 456).trans hv.1.1.1
  have q53 : ∀ T B F, (tM M T B F).1 53 = w := fun T B F => hw
  intro k
  induction k with
  | zero =>
    intro Q e left m v n g T B F o hek hl hve hn hT hg hpo hm hB hF h
    have e0 : e = eN w := by omega
    subst e0
    refine e_X11_tries ?_
    rw [q457]
    refine ⟨fun c => absurd rfl c, fun _ => s_weighs (t := t) hw hv h59 hT hg hm (by omega) (by omega) hB hF (fun B' F' hB' hF' => h T B' F' hT hB' hF')⟩
  | succ k ih =>
    intro Q e left m v n g T B F o hek hl hve hn hT hg hpo hm hB hF h
    have he : e < eN w := by omega
    obtain ⟨⟨p1, p2⟩, -⟩ := hv.2.1.2 e he
    obtain ⟨z1, z2⟩ := hv.1.2.2.2.1 _ p2
    have hLk : ∀ x, x ∈ rlk w k → po w x < sN w := rlk_po hv (by omega)
    have ee : eN w - (k + 1) = e := by omega
    refine e_X11_tries ?_
    rw [q457, q53, nI_add 308 e, z_cl (show 308 + e < 2147483648 by omega), p1, z_eq (by omega) (by omega)]
    refine ⟨fun _ => ⟨(z_in (by omega) (by omega)).mpr (by omega), s_isReady (by omega) ?_⟩, fun c => absurd c (by omega)⟩
    rw [q53]
    by_cases hr : w (320 + e) = nI 0
    · rw [if_pos hr]
      have er : rdy w e = true := decide_eq_true hr
      refine ⟨fun _ => ?_, fun c => absurd c (by decide)⟩
      -- one of the stations
      have rcu : ∀ (s left' v' n' : Nat) (T B F : Nat → Int32) (o : Option Cd) {Q : Mem → Prop}, s < sN w → left' ≤ 6 → v' ≤ e + 1 → n' ≤ 660 * (e + 1) → (∀ x, x < e → T x = nI (g x)) → BOk (eN w) o B F → FOk M F → (∀ T' B' F', (∀ x, x < e → T' x = nI (g x)) → BOk (eN w) (stp o (cd w r (rlk w k) left' (m ||| 2 ^ s) v' n' (fun x => if x = e then s else g x))) B' F' → FOk M F' → Q (tM M T' B' F')) → exV (LY pl tl) (d + k + 3) 221 [.ref 52, .int (nI (e + 1)), .int (nI left'), .int (nI v'), .int (nI n')] (si (tM M T B F) 63 e (nI s)) Q := by
        intro s left' v' n' T B F o Q hs hl' hv' hn' hT hB hF hq
        rw [tM_63]
        refine ih (e := e + 1) (g := fun x => if x = e then s else g x) (m := m ||| 2 ^ s) (by omega) hl' hv' hn' (fun x hx => ?_) (fun x hx => ?_) (fun x hx => ?_) ?_ hB hF (fun T' B' F' hT' hB' hF' => hq T' B' F' (fun x hx => ?_) hB' hF')
        · show upd T e (nI s) x = nI (if x = e then s else g x)
          by_cases q : x = e
          · subst q; rw [upd_eq, if_pos rfl]
          · rw [upd_ne q, if_neg q]; exact hT x (by omega)
        · show (if x = e then s else g x) < sN w
          split
          · exact hs
          · exact hg x hx
        · show (if x = e then s else g x) = po w x
          rw [if_neg (by omega)]; exact hpo x (by omega)
        · show (if rdy w e = true then oe w r (fun x => if x = e then s else g x) e ||| rM w r (if e = e then s else g e) else oe w r (fun x => if x = e then s else g x) e) = _
          rw [if_pos er, if_pos rfl, SO_or hs s8, ← hm, oe_cg (g := fun x => if x = e then s else g x) (g' := g) e (fun x hx => if_neg (by omega))]
        · rw [hT' x (by omega)]
          show nI (if x = e then s else g x) = _
          rw [if_neg (by omega)]
      refine lp_p (σ := (Nat → Int32) × (Nat → Int32) × (Nat → Int32)) (X := fx (LY pl tl) (d + k + 3) m_X11_tries (qV Q)) (fun s σ => (63, [some (.ref 52), some (.int (nI e)), some (.int (nI left)), some (.int (nI v)), some (.int (nI n)), some (.int (nI (po w e))), some (.int (nI s)), none, none], [], tM M σ.1 σ.2.1 σ.2.2)) (fun s σ => (∀ x, x < e → σ.1 x = nI (g x)) ∧ BOk (eN w) (foB (opv w r e (rlk w k) left m) (fun s => cd w r (rlk w k) (if s = po w e then left else left - 1) (m ||| 2 ^ s) (v + (if s = po w e then 0 else 1)) (n + (if s = po w e then 0 else wy w e s)) (fun x => if x = e then s else g x)) o s) σ.2.1 σ.2.2 ∧ FOk M σ.2.2) (sN w) (fun s σ hs hP hx => ?_) (fun σ hP => ?_) (T, B, F) ⟨hT, hB, hF⟩
      · obtain ⟨T, B, F⟩ := σ
        obtain ⟨hT, hB, hF⟩ := hP
        obtain ⟨y1, y2⟩ := hv.1.2.2.2.1 _ hs
        have hwy : dist w (sp w (po w e)) (sp w s) = wy w e s := rfl
        have wl : wy w e s ≤ 999 := dist_le hv.1.2.2.2.2.2.1 z2 y2
        have w660 : wy w e s < 999 → wy w e s ≤ 660 := fun z => dist_660 hv.1.2.2.2.2.2.1 z2 y2 z
        refine c_X11_tries_63 ?_
        dsimp only at hT hB hF ⊢
        rw [q456, q53, nI_add 300 (po w e), nI_add 300 s, z_cl (show 300 + po w e < 2147483648 by omega), z_cl (show 300 + s < 2147483648 by omega), z1, y1, nI_add s 1, nI_add e 1, nI_add v 1, nI_add v 0]
        refine br_f (nI_ge hs (by omega)) ⟨(z_in (by omega) (by omega)).mpr (by omega), (z_in (by omega) (by omega)).mpr (by omega), s_farOf z2 y2 ?_⟩
        have f58 : (tM M T B F).1 58 (12 * sp w (po w e) + sp w s) = nI (wy w e s) := h58 _ _ z2 y2
        rw [f58, nI_add n _, z_eq (by omega) (by omega), z_eq0 (by omega), z_lt (by omega) (by omega), z_cl (show e < 2147483648 by omega)]
        have v6 := (z_in (n := e) (N := 6) (by omega) (by omega)).mpr (by omega)
        refine ⟨fun c => ⟨v6, fun c' => absurd c c', fun _ => ?_⟩, fun c => ⟨fun c2 => ?_, fun c2 => ⟨fun c3 => ⟨v6, fun _ => ?_, fun c' => absurd c' c⟩, fun c3 => ?_⟩⟩⟩
        · have w0 : wy w e s = 0 := by rw [c]; exact FW_diag (co_diag w) 12 _
          have hop : opv w r e (rlk w k) left m s = some (PP w r (rlk w k) left (m ||| 2 ^ s)).1 := if_pos c
          rw [z_sub (by omega), w0]
          refine rcu s (left - 0) (v + 0) (n + 0) T B F _ hs (by omega) (by omega) (by omega) hT hB hF (fun T' B' F' hT' hB' hF' => hx (T', B', F') ⟨hT', ?_, hF'⟩)
          rw [foB_y hop]
          rw [if_pos c, if_pos c, if_pos c]
          exact hB'
        · have hop : opv w r e (rlk w k) left m s = none := (if_neg c).trans (if_neg (by omega))
          exact hx (T, B, F) ⟨hT, by rw [foB_n hop]; exact hB, hF⟩
        · have hop : opv w r e (rlk w k) left m s = some ((PP w r (rlk w k) (left - 1) (m ||| 2 ^ s)).1 - 4096 - (wy w e s : Int)) := (if_neg c).trans (if_pos ⟨by omega, c3⟩)
          have := w660 c3
          rw [z_sub (by omega)]
          refine rcu s (left - 1) (v + 1) (n + wy w e s) T B F _ hs (by omega) (by omega) (by omega) hT hB hF (fun T' B' F' hT' hB' hF' => hx (T', B', F') ⟨hT', ?_, hF'⟩)
          rw [foB_y hop]
          rw [if_neg c, if_neg c, if_neg c]
          exact hB'
        · have hop : opv w r e (rlk w k) left m s = none := (if_neg c).trans (if_neg (fun z => c3 z.2))
          exact hx (T, B, F) ⟨hT, by rw [foB_n hop]; exact hB, hF⟩
      · obtain ⟨T, B, F⟩ := σ
        obtain ⟨hT, hB, hF⟩ := hP
        refine c_X11_tries_63 ?_
        dsimp only at hT hB hF ⊢
        rw [q456]
        refine br_t (nI_le (Nat.le_refl _) (by omega)) (h T B F hT ?_ hF)
        rw [cd_step o p2 hLk] at hB
        have : rlk w (k + 1) = e :: rlk w k := by
          show (if rdy w (eN w - (k + 1)) = true then (eN w - (k + 1)) :: rlk w k else rlk w k) = _
          rw [ee, if_pos er]
        rw [this]
        exact hB
    · rw [if_neg hr]
      have er : ¬ rdy w e = true := fun z => hr (of_decide_eq_true z)
      have hge : g e = po w e := hpo e (Nat.le_refl _)
      refine ⟨fun c => absurd rfl c, fun _ => ⟨(z_in (by omega) (by omega)).mpr (by omega), ?_⟩⟩
      rw [z_cl (show e < 2147483648 by omega), nI_add e 1, tM_63]
      refine ih (e := e + 1) (g := g) (m := m) (by omega) hl (by omega) (by omega) (fun x hx => ?_) hg (fun x hx => hpo x (by omega)) ?_ hB hF (fun T' B' F' hT' hB' hF' => h T' B' F' (fun x hx => hT' x (by omega)) ?_ hF')
      · by_cases q : x = e
        · subst q; rw [upd_eq, hge]
        · rw [upd_ne q]; exact hT x (by omega)
      · show (if rdy w e = true then _ else oe w r g e) = _
        rw [if_neg er]; exact hm
      · have : rlk w (k + 1) = rlk w k := by
          show (if rdy w (eN w - (k + 1)) = true then _ else _) = _
          rw [ee, if_neg er]
        rw [this]
        exact hB'
/-- the ready engines, and their best goals with so many moves -/
abbrev RLs (w : Nat → Int32) : List Nat := rlk w (eN w)
abbrev GLs (w : Nat → Int32) (n : Nat) : List Nat := (PP w (rcN w) (RLs w) n 0).2
theorem SO_0 (w : Nat → Int32) (r : Nat) (h8 : sN w ≤ 8) : SO w r (nI 0) = nI 0 := by
  refine b_ext (fun a ha => ?_)
  have : ¬ bt (SO w r (nI 0)) a = true := by
    rw [← tb_iff _ ha]
    unfold SO
    rw [o1_tb _ _ ha, cn_ex]
    rintro ⟨z, h1, h2⟩
    rw [Bool.and_eq_true, decide_eq_true_eq] at h2
    exact tb_0 (by omega) h2.1
  rw [show bt (nI 0) a = false from b_0 a]
  simpa using this
/-- what the reference has laid: cover, how many, minutes, where -/
theorem s_laysMoves {Q : Mem → Prop} {n : Nat} (hv : V (M.1 53) t) (hn : n ≤ 6) (h : ∀ T B F, FOk M F → F 28 = nI (cvM (M.1 53) (rcN (M.1 53)) (fk (GLs (M.1 53) n) 0)) → F 30 = nI (mns (M.1 53) (RLs (M.1 53)) (GLs (M.1 53) n)) → (∀ e, e < eN (M.1 53) → B e = nI (tf (RLs (M.1 53)) (GLs (M.1 53) n) (po (M.1 53)) e)) → Q (tM (lyM M (rcN (M.1 53))) T B F)) : exV (LY pl tl) (d + 10) 222 [.ref 52, .int (nI n)] M Q := by
  have n6 := hv.2.1.1.2
  have s8 := hv.1.1.2
  refine e_X11_laysMoves (s_ly (t := t) hv ?_)
  generalize hA : lyM M (rcN (M.1 53)) = A at h ⊢
  have a53 : A.1 53 = M.1 53 := by rw [← hA]; rfl
  have a52 : A.1 52 = M.1 52 := by rw [← hA]; rfl
  have a58 : ∀ a b, a < 12 → b < 12 → A.1 58 (12 * a + b) = nI (dist (M.1 53) a b) := by rw [← hA]; exact ly58 (M := M)
  have a59 : ∀ s, s < sN (M.1 53) → A.1 59 s = rM (M.1 53) (rcN (M.1 53)) s := by rw [← hA]; exact ly59 (M := M)
  generalize hw : M.1 53 = w at *
  have e0 : si A 52 28 (-1) = tM A (A.1 63) (A.1 64) (upd (A.1 52) 28 (-1)) := by
    rw [← tM_52, tM_id]
  rw [e0]
  obtain ⟨k, hk⟩ : ∃ k, k + eN w = 6 := ⟨6 - eN w, by omega⟩
  have ed : d + 9 = (d + k) + eN w + 3 := by omega
  rw [ed]
  refine s_tries (t := t) (d := d + k) (M := A) (w := w) (r := rcN w) a53 hv a58 a59 (eN w) (e := 0) (m := 0) (v := 0) (n := 0) (g := po w) (o := none) (by omega) hn (by omega) (by omega) (fun x hx => by omega) (fun x hx => (hv.2.1.2 x hx).1.2) (fun x _ => rfl) (SO_0 w _ s8).symm (upd_eq _ _ _) (fun j h1 h2 h3 => upd_ne h1) (fun T B F _ hB hF => ?_)
  obtain ⟨⟨f1, f2, f3, f4⟩, -⟩ := (show BOk (eN w) (some (cd w (rcN w) (rlk w (eN w)) n 0 0 0 (po w))) B F from hB)
  refine h T B F (fun j h1 h2 h3 => (hF j h1 h2 h3).trans (congrFun a52 j)) f1 ?_ f4
  rw [f3]
  show nI (0 + mns w (RLs w) (GLs w n)) = _
  rw [Nat.zero_add]
end S51
