/-! ROWS OF STATIONS THAT NEVER FALL -/
def ix : List Nat → Nat → Nat
  | [], _ => 0
  | x :: _, 0 => x
  | _ :: r, j + 1 => ix r j
theorem ix_rep (x : Nat) : ∀ n j, j < n → ix (List.replicate n x) j = x
  | n + 1, 0, _ => rfl
  | n + 1, j + 1, h => ix_rep x n j (by omega)
/-- the next row -/
def nxL (s : Nat) : List Nat → Option (List Nat)
  | [] => none
  | x :: r => match nxL s r with
    | some r' => some (x :: r')
    | none => if x + 1 < s then some (List.replicate (r.length + 1) (x + 1)) else none
theorem nx_none {s : Nat} : ∀ l, nxL s l = none → ∀ j, j < l.length → ¬ ix l j + 1 < s
  | [], _, j, hj => by cases hj
  | x :: r, h, j, hj => by
    unfold nxL at h
    cases hr : nxL s r with
    | some r' => rw [hr] at h; cases h
    | none =>
      rw [hr] at h
      have h : (if x + 1 < s then some (List.replicate (r.length + 1) (x + 1)) else none) = none := h
      cases j with
      | zero =>
        show ¬ x + 1 < s
        intro q
        rw [if_pos q] at h
        cases h
      | succ j => exact nx_none r hr j (by have : (x :: r).length = r.length + 1 := rfl; omega)
theorem nx_some {s : Nat} : ∀ l l', nxL s l = some l' → l'.length = l.length ∧ ∃ i, i < l.length ∧ ix l i + 1 < s ∧ (∀ j, i < j → j < l.length → ¬ ix l j + 1 < s) ∧ ∀ j, j < l.length → ix l' j = if i ≤ j then ix l i + 1 else ix l j
  | [], l', h => by cases h
  | x :: r, l', h => by
    have hl : (x :: r).length = r.length + 1 := rfl
    unfold nxL at h
    cases hr : nxL s r with
    | some r' =>
      rw [hr] at h
      have h : some (x :: r') = some l' := h
      have h := Option.some.inj h
      subst h
      obtain ⟨h1, i, h2, h3, h4, h5⟩ := nx_some r r' hr
      refine ⟨by show r'.length + 1 = r.length + 1; omega, i + 1, by omega, h3, fun j hj hjl => ?_, fun j hjl => ?_⟩
      · obtain ⟨j', rfl⟩ : ∃ j', j = j' + 1 := ⟨j - 1, by omega⟩
        exact h4 j' (by omega) (by omega)
      · cases j with
        | zero => rw [if_neg (by omega)]; rfl
        | succ j =>
          have := h5 j (by omega)
          show ix r' j = if i + 1 ≤ j + 1 then ix r i + 1 else ix r j
          rw [this]
          by_cases q : i ≤ j
          · rw [if_pos q, if_pos (by omega)]
          · rw [if_neg q, if_neg (by omega)]
    | none =>
      rw [hr] at h
      have h : (if x + 1 < s then some (List.replicate (r.length + 1) (x + 1)) else none) = some l' := h
      by_cases q : x + 1 < s
      · rw [if_pos q] at h
        have h := Option.some.inj h
        subst h
        refine ⟨by rw [List.length_replicate]; rfl, 0, by omega, q, fun j hj hjl => ?_, fun j hjl => ?_⟩
        · obtain ⟨j', rfl⟩ : ∃ j', j = j' + 1 := ⟨j - 1, by omega⟩
          exact nx_none r hr j' (by omega)
        · rw [if_pos (by omega), ix_rep _ _ _ (by omega)]; rfl
      · rw [if_neg q] at h; cases h
theorem nx_at {s i : Nat} {l : List Nat} (hi : i < l.length) (h1 : ix l i + 1 < s) (h2 : ∀ j, i < j → j < l.length → ¬ ix l j + 1 < s) : ∃ l', nxL s l = some l' ∧ l'.length = l.length ∧ ∀ j, j < l.length → ix l' j = if i ≤ j then ix l i + 1 else ix l j := by
  cases h : nxL s l with
  | none => exact absurd h1 (nx_none l h i hi)
  | some l' =>
    obtain ⟨g1, i', g2, g3, g4, g5⟩ := nx_some l l' h
    have : i' = i := by
      rcases Nat.lt_trichotomy i' i with q | q | q
      · exact absurd h1 (g4 i q hi)
      · exact q
      · exact absurd g3 (h2 i' q g2)
    subst this
    exact ⟨l', rfl, g1, g5⟩
theorem nx_no {s : Nat} {l : List Nat} (h : ∀ j, j < l.length → ¬ ix l j + 1 < s) : nxL s l = none := by
  cases h' : nxL s l with
  | none => rfl
  | some l' =>
    obtain ⟨g1, i', g2, g3, g4, g5⟩ := nx_some l l' h'
    exact absurd g3 (h i' g2)
theorem nx_rng {s : Nat} {l l' : List Nat} (h : nxL s l = some l') (hr : ∀ j, j < l.length → ix l j < s) : ∀ j, j < l'.length → ix l' j < s := by
  obtain ⟨g1, i, g2, g3, g4, g5⟩ := nx_some l l' h
  intro j hj
  rw [g5 j (by omega)]
  split
  · exact g3
  · exact hr j (by omega)
/-- they come to an end -/
def ends (s : Nat) : Nat → List Nat → Bool
  | 0, _ => false
  | k + 1, l => match nxL s l with
    | none => true
    | some l' => ends s k l'
theorem ends_ok : ∀ n, n < 7 → ∀ s, s < 9 → s = 0 ∨ ends s 1999 (List.replicate n 0) = true := by decide +kernel
/-- the first greatest of them -/
def upL (val : List Nat → Int32) (l : List Nat) : Option (List Nat) → Option (List Nat)
  | none => some l
  | some b => if val b < val l then some l else some b
def skL (val : List Nat → Int32) (s : Nat) : Nat → Option (List Nat) → List Nat → Option (List Nat)
  | 0, o, _ => o
  | k + 1, o, l => match nxL s l with
    | none => upL val l o
    | some l' => skL val s k (upL val l o) l'
def mvL (val : List Nat → Int32) : Option (List Nat) → Int32
  | none => -1
  | some b => val b
theorem upL_cmp {val : List Nat → Int32} (hval : ∀ l, 0 ≤ val l) (l : List Nat) (o : Option (List Nat)) : (val l ≤ mvL val o → upL val l o = o) ∧ (¬ val l ≤ mvL val o → upL val l o = some l) := by
  cases o with
  | none =>
    refine ⟨fun h => ?_, fun _ => rfl⟩
    have h : val l ≤ -1 := h
    have h2 := hval l
    rw [Int32.le_iff_toInt_le] at h h2
    have e1 : (-1 : Int32).toInt = -1 := by decide
    have e0 : (0 : Int32).toInt = 0 := by decide
    omega
  | some b => exact ⟨fun h => if_neg (fun z => i_nle.mpr z h), fun h => if_pos (i_nle.mp h)⟩
theorem upL_some (val : List Nat → Int32) (l : List Nat) (o : Option (List Nat)) : ∃ b, upL val l o = some b := by
  cases o with
  | none => exact ⟨l, rfl⟩
  | some b => unfold upL; dsimp only; split <;> exact ⟨_, rfl⟩
theorem skL_some {val : List Nat → Int32} {s : Nat} : ∀ k b l, ∃ b', skL val s k (some b) l = some b'
  | 0, b, l => ⟨b, rfl⟩
  | k + 1, b, l => by
    unfold skL
    obtain ⟨b', hb⟩ := upL_some val l (some b)
    cases nxL s l with
    | none => exact ⟨b', hb⟩
    | some l' =>
      show ∃ b'', skL val s k (upL val l (some b)) l' = some b''
      rw [hb]
      exact skL_some k b' l'
theorem nI_m1 (i : Nat) : nI i + (-1) = nI i - nI 1 := by rw [Int32.sub_eq_add_neg]; rfl
/-- from i on, so many of them made one -/
def fR (i k : Nat) (v : Int32) (F : Nat → Int32) : Nat → Int32 := fun j => if i ≤ j ∧ j < i + k then v else F j
theorem fR_0 (i : Nat) (v : Int32) (F : Nat → Int32) : fR i 0 v F = F := funext fun j => if_neg (by omega)
theorem fR_s (i k : Nat) (v : Int32) (F : Nat → Int32) : upd (fR i k v F) (i + k) v = fR i (k + 1) v F := by
  funext j
  unfold upd fR
  by_cases q : j = i + k
  · rw [if_pos q, if_pos (by omega)]
  · rw [if_neg q]
    by_cases q2 : i ≤ j ∧ j < i + k
    · rw [if_pos q2, if_pos (by omega)]
    · rw [if_neg q2, if_neg (by omega)]
theorem fR_nx {l l' : List Nat} {F : Nat → Int32} {i : Nat} (hi : i < l.length) (hF : ∀ j, j < l.length → F j = nI (ix l j)) (g3 : ∀ j, j < l.length → ix l' j = if i ≤ j then ix l i + 1 else ix l j) : ∀ j, j < l.length → fR i (l.length - i) (nI (ix l i + 1)) F j = nI (ix l' j) := by
  intro j hj
  rw [g3 j hj]
  unfold fR
  by_cases q : i ≤ j
  · rw [if_pos ⟨q, by omega⟩, if_pos q]
  · rw [if_neg (by omega), if_neg q, hF j hj]
section S46
variable {pl : Option Nat} {tl : List LC} {d : Nat} {M : Mem} {t : Nat}
theorem s_nextRow {Q : Int32 → Mem → Prop} {l : List Nat} {F : Nat → Int32} {s : Nat} (hn : l.length ≤ 6) (hs : 1 ≤ s) (hs8 : s ≤ 8) (hF : ∀ j, j < l.length → F j = nI (ix l j)) (hr : ∀ j, j < l.length → ix l j < s) (h0 : nxL s l = none → Q (nI 0) (sa M 49 F)) (h1 : ∀ l' F', nxL s l = some l' → (∀ j, j < l.length → F' j = nI (ix l' j)) → Q (nI 1) (sa M 49 F')) : exI (LY pl tl) (d + 1) 62 [.ref 47, .int (nI l.length), .int (nI s)] (sa M 49 F) Q := by
  refine e_X0_nextRow ?_
  have key : ∀ i, i ≤ l.length → (∀ j, i ≤ j → j < l.length → ¬ ix l j + 1 < s) → fx (LY pl tl) d m_X0_nextRow (qI Q) (4, [some (.ref 47), some (.int (nI l.length)), some (.int (nI s)), some (.int (nI i - nI 1)), none, none], [], sa M 49 F) := by
    intro i
    induction i with
    | zero =>
      intro _ hm
      exact c_X0_nextRow_4 (br_t (by decide) (br_f (by decide) (h0 (nx_no (fun j hj => hm j (by omega) hj)))))
    | succ i ih =>
      intro hi hm
      refine c_X0_nextRow_4 ?_
      have e : nI (i + 1) - nI 1 = nI i := by rw [z_sub (by omega)]; rfl
      have v6 := (z_in (n := i) (N := 6) (by omega) (by omega)).mpr (by omega)
      have hri := hr i (by omega)
      rw [e, z_cl (by omega), sa_s, hF i (by omega), z_sub hs, z_lt (by omega) (by omega), nI_m1, nI_add]
      refine br_f (nI_pos (by omega)) ⟨v6, fun c => br_t (nI_pos' (by omega)) ⟨v6, ?_⟩, fun c => ih (by omega) (fun j h1 h2 => ?_)⟩
      · obtain ⟨l', g1, g2, g3⟩ := nx_at (s := s) (i := i) (l := l) (by omega) (by omega) (fun j hj hjl => hm j (by omega) hjl)
        have fin := lp_0 (X := fx (LY pl tl) d m_X0_nextRow (qI Q)) (fun k => (45, [some (.ref 47), some (.int (nI l.length)), none, none, some (.int (nI (ix l i + 1))), some (.int (nI (i + k)))], [], sa M 49 (fR i k (nI (ix l i + 1)) F))) (l.length - i) (fun k hk hx => ?_) ?_
        · rw [fR_0] at fin
          exact fin
        · refine c_X0_nextRow_45 ?_
          rw [z_cl (by omega), nI_add (i + k) 1, sa_upd, fR_s]
          exact br_f (nI_ge (by omega) (by omega)) ⟨(z_in (by omega) (by omega)).mpr (by omega), hx⟩
        · exact c_X0_nextRow_45 (br_t (nI_le (by omega) (by omega)) (h1 l' _ g1 (fR_nx (by omega) hF g3)))
      · by_cases q : j = i
        · subst q; omega
        · exact hm j (by omega) h2
  exact key l.length (Nat.le_refl _) (fun j h1 h2 => by omega)
theorem s_risesOn {Q : Int32 → Mem → Prop} {l : List Nat} {F : Nat → Int32} {s : Nat} (hn : l.length ≤ 6) (hs : 1 ≤ s) (hs8 : s ≤ 8) (hM : M.1 53 456 = nI s) (hF : ∀ j, j < l.length → F j = nI (ix l j)) (hr : ∀ j, j < l.length → ix l j < s) (h0 : nxL s l = none → Q (nI 0) (sa M 61 F)) (h1 : ∀ l' F', nxL s l = some l' → (∀ j, j < l.length → F' j = nI (ix l' j)) → Q (nI 1) (sa M 61 F')) : exI (LY pl tl) (d + 1) 216 [.ref 52, .int (nI l.length)] (sa M 61 F) Q := by
  refine e_X11_risesOn ?_
  have key : ∀ i, i ≤ l.length → (∀ j, i ≤ j → j < l.length → ¬ ix l j + 1 < s) → fx (LY pl tl) d m_X11_risesOn (qI Q) (4, [some (.ref 52), some (.int (nI l.length)), some (.int (nI i - nI 1)), none, none], [], sa M 61 F) := by
    intro i
    induction i with
    | zero =>
      intro _ hm
      exact c_X11_risesOn_4 (br_t (by decide) (br_f (by decide) (h0 (nx_no (fun j hj => hm j (by omega) hj)))))
    | succ i ih =>
      intro hi hm
      refine c_X11_risesOn_4 ?_
      have e : nI (i + 1) - nI 1 = nI i := by rw [z_sub (by omega)]; rfl
      have v6 := (z_in (n := i) (N := 6) (by omega) (by omega)).mpr (by omega)
      have hri := hr i (by omega)
      have q1 : (sa M 61 F).1 53 456 = nI s := hM
      rw [e, z_cl (by omega), sa_s, q1, hF i (by omega), z_sub hs, z_eq (by omega) (by omega), nI_m1, nI_add]
      refine br_f (nI_pos (by omega)) ⟨v6, fun c => br_t (nI_pos' (by omega)) ⟨v6, ?_⟩, fun c => ih (by omega) (fun j h1 h2 => ?_)⟩
      · obtain ⟨l', g1, g2, g3⟩ := nx_at (s := s) (i := i) (l := l) (by omega) (by omega) (fun j hj hjl => hm j (by omega) hjl)
        have fin := lp_0 (X := fx (LY pl tl) d m_X11_risesOn (qI Q)) (fun k => (51, [some (.ref 52), some (.int (nI l.length)), none, some (.int (nI (ix l i + 1))), some (.int (nI (i + k)))], [], sa M 61 (fR i k (nI (ix l i + 1)) F))) (l.length - i) (fun k hk hx => ?_) ?_
        · rw [fR_0] at fin
          exact fin
        · refine c_X11_risesOn_51 ?_
          rw [z_cl (by omega), nI_add (i + k) 1, sa_upd, fR_s]
          exact br_f (nI_ge (by omega) (by omega)) ⟨(z_in (by omega) (by omega)).mpr (by omega), hx⟩
        · exact c_X11_risesOn_51 (br_t (nI_le (by omega) (by omega)) (h1 l' _ g1 (fR_nx (by omega) hF g3)))
      · by_cases q : j = i
        · subst q; omega
        · exact hm j (by omega) h2
  exact key l.length (Nat.le_refl _) (fun j h1 h2 => by omega)
end S46
