/-! THE REFERENCE TRIES ALL MOVES -/
def rlk (w : Nat → Int32) : Nat → List Nat
  | 0 => []
  | k + 1 => if rdy w (eN w - (k + 1)) = true then (eN w - (k + 1)) :: rlk w k else rlk w k
theorem rlk_mem {w : Nat → Int32} : ∀ k, k ≤ eN w → ∀ e, e ∈ rlk w k → e < eN w ∧ eN w - k ≤ e
  | 0, _, e, h => by cases h
  | k + 1, hk, e, h => by
    have ih := rlk_mem (w := w) k (by omega) e
    unfold rlk at h
    by_cases q : rdy w (eN w - (k + 1)) = true
    · rw [if_pos q] at h
      rcases List.mem_cons.mp h with z | z
      · subst z; omega
      · have := ih z; omega
    · rw [if_neg q] at h
      have := ih h; omega
theorem rlk_po {w : Nat → Int32} {t : Nat} (hv : V w t) {k : Nat} (hk : k ≤ eN w) : ∀ e, e ∈ rlk w k → po w e < sN w := fun e he => (hv.2.1.2 e (rlk_mem k hk e he).1).1.2
theorem rlk_len (w : Nat → Int32) : ∀ k, (rlk w k).length ≤ k
  | 0 => Nat.le_refl _
  | k + 1 => by
    have := rlk_len w k
    unfold rlk
    split
    · show (rlk w k).length + 1 ≤ k + 1; omega
    · omega
/-- what the ready engines reach from where they are told to be -/
def oe (w : Nat → Int32) (r : Nat) (g : Nat → Nat) : Nat → Int32
  | 0 => nI 0
  | e + 1 => if rdy w e = true then oe w r g e ||| rM w r (g e) else oe w r g e
theorem oe_cg {w : Nat → Int32} {r : Nat} {g g' : Nat → Nat} : ∀ e, (∀ x, x < e → g x = g' x) → oe w r g e = oe w r g' e
  | 0, _ => rfl
  | e + 1, h => by
    unfold oe
    rw [oe_cg e (fun x hx => h x (by omega)), h e (by omega)]
theorem nI_or (a b : Nat) : nI a ||| nI b = nI (a ||| b) := by
  apply Int32.toBitVec_inj.mp
  rw [Int32.toBitVec_or]
  show BitVec.ofNat 32 a ||| BitVec.ofNat 32 b = BitVec.ofNat 32 (a ||| b)
  rw [BitVec.ofNat_or]
theorem or_b1 (m : Nat) {s : Nat} (hs : s < 8) : nI m ||| b1 s = nI (m ||| 2 ^ s) := by
  rw [show b1 s = nI (2 ^ s) from b1_pow _ (by omega), nI_or]
theorem cn_ex {c : Nat → Bool} : ∀ n, 0 < cn c n ↔ ∃ z, z < n ∧ c z = true
  | 0 => ⟨fun h => absurd h (by show ¬ 0 < 0; omega), fun ⟨z, h, _⟩ => by omega⟩
  | n + 1 => by
    have ih := cn_ex (c := c) n
    have e1 : cn c (n + 1) = if c n = true then cn c n + 1 else cn c n := rfl
    rw [e1]
    by_cases q : c n = true
    · rw [if_pos q]
      exact ⟨fun _ => ⟨n, by omega, q⟩, fun _ => by omega⟩
    · rw [if_neg q, ih]
      constructor
      · rintro ⟨z, h1, h2⟩
        exact ⟨z, by omega, h2⟩
      · rintro ⟨z, h1, h2⟩
        refine ⟨z, ?_, h2⟩
        by_cases e : z = n
        · subst e; exact absurd h2 q
        · omega
theorem SO_or {w : Nat → Int32} {r m s : Nat} (hs : s < sN w) (h8 : sN w ≤ 8) : SO w r (nI (m ||| 2 ^ s)) = SO w r (nI m) ||| rM w r s := by
  refine b_ext (fun a ha => ?_)
  rw [b_or]
  have key : ∀ x : Int32, bt (SO w r x) a = true ↔ ∃ z, z < sN w ∧ tb x z ∧ tb (rM w r z) a := fun x => by
    rw [← tb_iff _ ha]
    unfold SO
    rw [o1_tb _ _ ha, cn_ex]
    constructor
    · rintro ⟨z, h1, h2⟩
      rw [Bool.and_eq_true, decide_eq_true_eq, decide_eq_true_eq] at h2
      exact ⟨z, h1, h2⟩
    · rintro ⟨z, h1, h2⟩
      refine ⟨z, h1, ?_⟩
      rw [Bool.and_eq_true, decide_eq_true_eq, decide_eq_true_eq]
      exact h2
  rw [Bool.eq_iff_iff, Bool.or_eq_true, key, key, ← tb_iff _ ha, ← or_b1 m (by omega)]
  constructor
  · rintro ⟨z, h1, h2, h3⟩
    rw [tb_or _ _ (by omega)] at h2
    rcases h2 with h2 | h2
    · exact Or.inl ⟨z, h1, h2, h3⟩
    · rw [tb_b1 (by omega) (by omega)] at h2
      subst h2
      exact Or.inr h3
  · rintro (⟨z, h1, h2, h3⟩ | h)
    · exact ⟨z, h1, (tb_or _ _ (by omega)).mpr (Or.inl h2), h3⟩
    · exact ⟨s, hs, (tb_or _ _ (by omega)).mpr (Or.inr ((tb_b1 (by omega) (by omega)).mpr rfl)), h⟩
def tM (M : Mem) (T B F : Nat → Int32) : Mem := sa (sa (sa M 63 T) 64 B) 52 F
theorem tM_52 (M : Mem) (T B F : Nat → Int32) (k : Nat) (v : Int32) : si (tM M T B F) 52 k v = tM M T B (upd F k v) := by unfold tM; rw [sa_upd]
theorem tM_64 (M : Mem) (T B F : Nat → Int32) (k : Nat) (v : Int32) : si (tM M T B F) 64 k v = tM M T (upd B k v) F := by
  unfold tM
  rw [si_in (by omega)]
theorem tM_63 (M : Mem) (T B F : Nat → Int32) (k : Nat) (v : Int32) : si (tM M T B F) 63 k v = tM M (upd T k v) B F := by
  unfold tM
  rw [sa_comm (show (63 : Nat) ≠ 64 by omega), si_in (by omega), sa_comm (show (64 : Nat) ≠ 63 by omega)]
theorem tM_id (M : Mem) : tM M (M.1 63) (M.1 64) (M.1 52) = M := by
  unfold tM
  rw [sa_id, sa_id, sa_id]
/-- the best so far, as the reference keeps it -/
def BOk (N : Nat) (o : Option Cd) (B F : Nat → Int32) : Prop := match o with
  | none => F 28 = -1
  | some c => (F 28 = nI c.1 ∧ F 29 = nI c.2.1 ∧ F 30 = nI c.2.2.1 ∧ ∀ e, e < N → B e = nI (c.2.2.2 e)) ∧ c.1 ≤ 1188 ∧ c.2.1 ≤ 6 ∧ c.2.2.1 ≤ 3960
def FOk (M : Mem) (F : Nat → Int32) : Prop := ∀ j, j ≠ 28 → j ≠ 29 → j ≠ 30 → F j = M.1 52 j
section S50
variable {pl : Option Nat} {tl : List LC} {d : Nat} {M : Mem} {t : Nat}
theorem s_weighs {Q : Mem → Prop} {w : Nat → Int32} {r m v n : Nat} {g : Nat → Nat} {T B F : Nat → Int32} {o : Option Cd} (hw : M.1 53 = w) (hv : V w t) (h59 : ∀ s, s < sN w → M.1 59 s = rM w r s) (hT : ∀ x, x < eN w → T x = nI (g x)) (hg : ∀ x, x < eN w → g x < sN w) (hm : oe w r g (eN w) = SO w r (nI m)) (hv6 : v ≤ 6) (hn : n ≤ 3960) (hB : BOk (eN w) o B F) (hF : FOk M F) (h : ∀ B' F', BOk (eN w) (stp o (cvM w r m, v, n, g)) B' F' → FOk M F' → Q (tM M T B' F')) : exV (LY pl tl) (d + 2) 220 [.ref 52, .int (nI v), .int (nI n)] (tM M T B F) Q := by
  have n6 := hv.2.1.1.2
  have s8 := hv.1.1.2
  have q457 : ∀ T B F, (tM M T B F).1 53 457 = nI (eN w) := fun T B F => (congrFun hw 457).trans hv.2.1.1.1
  have q53 : ∀ T B F, (tM M T B F).1 53 = w := fun T B F => hw
  obtain ⟨ecv, lcv⟩ := cvM_ok hv.1 r m
  -- taking it over
  have take : vl (cvM w r m, v, n, g) = vl (cvM w r m, v, n, g) → (stp o (cvM w r m, v, n, g) = some (cvM w r m, v, n, g)) → fx (LY pl tl) (d + 1) m_X11_weighs (qV Q) (129, [some (.ref 52), none, none, none, none, some (.int (nI 0))], [], si (si (si (tM M T B F) 52 28 (nI (cvM w r m))) 52 29 (nI v)) 52 30 (nI n)) := by
    intro _ hst
    rw [tM_52, tM_52, tM_52]
    generalize hF' : upd (upd (upd F 28 (nI (cvM w r m))) 29 (nI v)) 30 (nI n) = F'
    have f28 : F' 28 = nI (cvM w r m) := by rw [← hF', upd_ne (by omega), upd_ne (by omega), upd_eq]
    have f29 : F' 29 = nI v := by rw [← hF', upd_ne (by omega), upd_eq]
    have f30 : F' 30 = nI n := by rw [← hF', upd_eq]
    have fO : FOk M F' := fun j h1 h2 h3 => by rw [← hF', upd_ne h3, upd_ne h2, upd_ne h1]; exact hF j h1 h2 h3
    have st := lp_0 (X := fx (LY pl tl) (d + 1) m_X11_weighs (qV Q)) (fun e => (129, [some (.ref 52), none, none, none, none, some (.int (nI e))], [], tM M T (pfx e T B) F')) (eN w) (fun e he hx => ?_) ?_
    · rw [pfx_0] at st; exact st
    · refine c_X11_weighs_129 ?_
      have q63 : (tM M T (pfx e T B) F').1 63 = T := rfl
      rw [q457, q63, z_cl (by omega), tM_64, pfx_s e T B rfl, nI_add e 1]
      have v6 := (z_in (n := e) (N := 6) (by omega) (by omega)).mpr (by omega)
      exact br_f (nI_ge he (by omega)) ⟨v6, v6, hx⟩
    · refine c_X11_weighs_129 ?_
      rw [q457]
      refine br_t (nI_le (Nat.le_refl _) (by omega)) (h _ _ ?_ fO)
      rw [hst]
      exact ⟨⟨f28, f29, f30, fun e he => by rw [pfx_lt he]; exact hT e he⟩, lcv, hv6, hn⟩
  have keep : stp o (cvM w r m, v, n, g) = o → Q (tM M T B F) := fun hst => h B F (by rw [hst]; exact hB) hF
  refine e_X11_weighs (lp_0 (X := fx (LY pl tl) (d + 1) m_X11_weighs (qV Q)) (fun e => (5, [some (.ref 52), some (.int (nI v)), some (.int (nI n)), some (.int (oe w r g e)), some (.int (nI e)), none], [], tM M T B F)) (eN w) (fun e he hx => ?_) ?_)
  · refine c_X11_weighs_5 ?_
    rw [q457]
    refine br_f (nI_ge he (by omega)) (s_isReady (by omega) ?_)
    rw [q53, nI_add e 1]
    by_cases hr : w (320 + e) = nI 0
    · rw [if_pos hr]
      have er : rdy w e = true := decide_eq_true hr
      refine ⟨fun c => absurd c (by decide), fun _ => ?_⟩
      have q63 : (tM M T B F).1 63 e = nI (g e) := hT e he
      have gl := hg e he
      have q59 : (tM M T B F).1 59 (g e) = rM w r (g e) := h59 _ gl
      rw [z_cl (by omega), q63, z_cl (by omega), q59]
      refine ⟨(z_in (by omega) (by omega)).mpr (by omega), (z_in (by omega) (by omega)).mpr (by omega), ?_⟩
      rw [show oe w r g (e + 1) = oe w r g e ||| rM w r (g e) from if_pos er] at hx
      exact hx
    · rw [if_neg hr]
      have er : ¬ rdy w e = true := fun z => hr (of_decide_eq_true z)
      refine ⟨fun _ => ?_, fun c => absurd rfl c⟩
      rw [or_0]
      rw [show oe w r g (e + 1) = oe w r g e from if_neg er] at hx
      exact hx
  · refine c_X11_weighs_5 ?_
    rw [q457]
    refine br_t (nI_le (Nat.le_refl _) (by omega)) (s_weightOf ?_)
    rw [q53, hm, show wS w (SO w r (nI m)) 12 = nI (cvM w r m) from ecv]
    have q28 : (tM M T B F).1 52 28 = F 28 := rfl
    have q29 : (tM M T B F).1 52 29 = F 29 := rfl
    have q30 : (tM M T B F).1 52 30 = F 30 := rfl
    rw [q28, q29, q30]
    cases o with
    | none => exact br_t hB (take rfl rfl)
    | some b =>
      obtain ⟨b0, b1, b2, b3⟩ := b
      obtain ⟨⟨f28, f29, f30, -⟩, l0, l1, l2⟩ := hB
      have l0 : b0 ≤ 1188 := l0
      have l1 : b1 ≤ 6 := l1
      have l2 : b2 ≤ 3960 := l2
      have f28 : F 28 = nI b0 := f28
      have f29 : F 29 = nI b1 := f29
      have f30 : F 30 = nI b2 := f30
      have tk : vl (b0, b1, b2, b3) < vl (cvM w r m, v, n, g) → stp (some (b0, b1, b2, b3)) (cvM w r m, v, n, g) = some (cvM w r m, v, n, g) := fun z => if_pos z
      have kp : ¬ vl (b0, b1, b2, b3) < vl (cvM w r m, v, n, g) → stp (some (b0, b1, b2, b3)) (cvM w r m, v, n, g) = some (b0, b1, b2, b3) := fun z => if_neg z
      unfold vl at tk kp
      dsimp only at tk kp
      rw [f28, f29, f30, z_lt (by omega) (by omega), z_eq (by omega) (by omega), z_lt (by omega) (by omega), z_eq (by omega) (by omega), z_lt (by omega) (by omega)]
      refine br_f (fun z => (z_m1 (by omega)).mp z) ⟨fun c1 => keep (kp (by omega)), fun c1 => ⟨fun c2 => take rfl (tk (by omega)), fun c2 => ⟨fun c3 => keep (kp (by omega)), fun c3 => ⟨fun c4 => take rfl (tk (by omega)), fun c4 => ⟨fun c5 => take rfl (tk (by omega)), fun c5 => keep (kp (by omega))⟩⟩⟩⟩⟩
end S50
