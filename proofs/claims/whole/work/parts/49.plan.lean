/-! MOVES, AS NUMBERS: what is best for the ready engines, one after another -/
def bbI (v : Nat → Option Int) : Nat → Option (Nat × Int)
  | 0 => none
  | s + 1 => match v s with
    | none => bbI v s
    | some x => match bbI v s with
      | none => some (s, x)
      | some p => if p.2 < x then some (s, x) else some p
theorem bbI_n {v : Nat → Option Int} {s : Nat} (h : v s = none) : bbI v (s + 1) = bbI v s := by
  show (match v s with | none => bbI v s | some x => _) = _
  rw [h]
theorem bbI_0 {v : Nat → Option Int} {s : Nat} {x : Int} (h : v s = some x) (h0 : bbI v s = none) : bbI v (s + 1) = some (s, x) := by
  show (match v s with
    | none => bbI v s
    | some x => match bbI v s with
      | none => some (s, x)
      | some p => if p.2 < x then some (s, x) else some p) = _
  rw [h, h0]
theorem bbI_1 {v : Nat → Option Int} {s : Nat} {x : Int} {p : Nat × Int} (h : v s = some x) (h0 : bbI v s = some p) : bbI v (s + 1) = if p.2 < x then some (s, x) else some p := by
  show (match v s with
    | none => bbI v s
    | some x => match bbI v s with
      | none => some (s, x)
      | some p => if p.2 < x then some (s, x) else some p) = _
  rw [h, h0]
theorem bbI_cg {v v' : Nat → Option Int} : ∀ n, (∀ s, s < n → v s = v' s) → bbI v n = bbI v' n
  | 0, _ => rfl
  | n + 1, h => by
    have ih := bbI_cg n (fun s hs => h s (by omega))
    have e := h n (by omega)
    cases hv : v n with
    | none => rw [bbI_n hv, bbI_n (e.symm.trans hv), ih]
    | some x =>
      cases hb : bbI v n with
      | none => rw [bbI_0 hv hb, bbI_0 (e.symm.trans hv) (ih.symm.trans hb)]
      | some p => rw [bbI_1 hv hb, bbI_1 (e.symm.trans hv) (ih.symm.trans hb)]
theorem bbI_none {v : Nat → Option Int} : ∀ n, bbI v n = none → ∀ s, s < n → v s = none
  | 0, _, s, hs => by omega
  | n + 1, h, s, hs => by
    cases hv : v n with
    | none =>
      rw [bbI_n hv] at h
      by_cases e : s = n
      · subst e; exact hv
      · exact bbI_none n h s (by omega)
    | some x =>
      exfalso
      cases hb : bbI v n with
      | none => rw [bbI_0 hv hb] at h; cases h
      | some p => rw [bbI_1 hv hb] at h; split at h <;> cases h
theorem bbI_ok {v : Nat → Option Int} : ∀ n p, bbI v n = some p → p.1 < n ∧ v p.1 = some p.2 ∧ (∀ s, s < n → ∀ x, v s = some x → x ≤ p.2) ∧ ∀ s, s < p.1 → ∀ x, v s = some x → x < p.2
  | 0, p, h => by cases h
  | n + 1, p, h => by
    cases hv : v n with
    | none =>
      rw [bbI_n hv] at h
      obtain ⟨h1, h2, h3, h4⟩ := bbI_ok n p h
      refine ⟨by omega, h2, fun s hs x hx => ?_, h4⟩
      by_cases e : s = n
      · subst e; rw [hv] at hx; cases hx
      · exact h3 s (by omega) x hx
    | some x =>
      cases hb : bbI v n with
      | none =>
        rw [bbI_0 hv hb] at h
        have h := Option.some.inj h
        subst h
        have hn := bbI_none n hb
        refine ⟨by show n < n + 1; omega, hv, fun s hs y hy => ?_, fun s hs y hy => ?_⟩
        · by_cases e : s = n
          · subst e
            have := Option.some.inj (hy.symm.trans hv)
            show y ≤ x
            omega
          · rw [hn s (by omega)] at hy; cases hy
        · have hs : s < n := hs
          rw [hn s hs] at hy; cases hy
      | some q =>
        obtain ⟨h1, h2, h3, h4⟩ := bbI_ok n q hb
        rw [bbI_1 hv hb] at h
        by_cases c : q.2 < x
        · rw [if_pos c] at h
          have h := Option.some.inj h
          subst h
          refine ⟨by show n < n + 1; omega, hv, fun s hs y hy => ?_, fun s hs y hy => ?_⟩
          · show y ≤ x
            by_cases e : s = n
            · subst e
              have := Option.some.inj (hy.symm.trans hv)
              omega
            · have := h3 s (by omega) y hy
              omega
          · have hs : s < n := hs
            have := h3 s hs y hy
            show y < x
            omega
        · rw [if_neg c] at h
          have h := Option.some.inj h
          subst h
          refine ⟨by omega, h2, fun s hs y hy => ?_, h4⟩
          by_cases e : s = n
          · subst e
            have := Option.some.inj (hy.symm.trans hv)
            omega
          · exact h3 s (by omega) y hy
/-- cover, ways, what is best -/
def cvM (w : Nat → Int32) (r m : Nat) : Nat := tn (SCv w r m)
theorem cvM_ok {w : Nat → Int32} (hv : VL w) (r m : Nat) : SCv w r m = nI (cvM w r m) ∧ cvM w r m ≤ 1188 := by
  obtain ⟨k, hk, e⟩ := V_wS hv (SO w r (nI m))
  have e2 : SCv w r m = nI k := e
  unfold cvM
  rw [e2, tn_nI (by omega)]
  exact ⟨rfl, hk⟩
def wy (w : Nat → Int32) (e s : Nat) : Nat := dist w (sp w (po w e)) (sp w s)
def PP (w : Nat → Int32) (r : Nat) : List Nat → Nat → Nat → Int × List Nat
  | [], _, m => (32768 * (cvM w r m : Int), [])
  | e :: L, may, m => match bbI (fun s => if s = po w e then some (PP w r L may (m ||| 2 ^ s)).1 else if 0 < may ∧ wy w e s < 999 then some ((PP w r L (may - 1) (m ||| 2 ^ s)).1 - 4096 - (wy w e s : Int)) else none) (sN w) with
    | none => (0, [])
    | some p => (p.2, p.1 :: (PP w r L (if p.1 = po w e then may else may - 1) (m ||| 2 ^ p.1)).2)
def opv (w : Nat → Int32) (r e : Nat) (L : List Nat) (may m s : Nat) : Option Int := if s = po w e then some (PP w r L may (m ||| 2 ^ s)).1 else if 0 < may ∧ wy w e s < 999 then some ((PP w r L (may - 1) (m ||| 2 ^ s)).1 - 4096 - (wy w e s : Int)) else none
section PL
variable {w : Nat → Int32} {r : Nat}
theorem PP_c {e may m : Nat} {L : List Nat} {p : Nat × Int} (h : bbI (opv w r e L may m) (sN w) = some p) : PP w r (e :: L) may m = (p.2, p.1 :: (PP w r L (if p.1 = po w e then may else may - 1) (m ||| 2 ^ p.1)).2) := by
  show (match bbI (opv w r e L may m) (sN w) with
    | none => (0, [])
    | some p => (p.2, p.1 :: (PP w r L (if p.1 = po w e then may else may - 1) (m ||| 2 ^ p.1)).2)) = _
  rw [h]
theorem PP_some {e may m : Nat} {L : List Nat} (he : po w e < sN w) : ∃ p, bbI (opv w r e L may m) (sN w) = some p ∧ (PP w r L may (m ||| 2 ^ po w e)).1 ≤ p.2 := by
  have hs : opv w r e L may m (po w e) = some (PP w r L may (m ||| 2 ^ po w e)).1 := if_pos rfl
  cases h : bbI (opv w r e L may m) (sN w) with
  | none =>
    have := bbI_none _ h (po w e) he
    rw [hs] at this
    cases this
  | some p => exact ⟨p, rfl, (bbI_ok _ p h).2.2.1 _ he _ hs⟩
theorem PP_nn : ∀ (L : List Nat) (may m : Nat), (∀ e, e ∈ L → po w e < sN w) → 0 ≤ (PP w r L may m).1
  | [], _, m, _ => by show (0 : Int) ≤ 32768 * (cvM w r m : Int); omega
  | e :: L, may, m, h => by
    obtain ⟨p, hp, h1⟩ := PP_some (r := r) (L := L) (may := may) (m := m) (h e (List.mem_cons_self ..))
    have := PP_nn L may (m ||| 2 ^ po w e) (fun x hx => h x (List.mem_cons_of_mem _ hx))
    rw [PP_c hp]
    show 0 ≤ p.2
    omega
theorem PP_le (hv : VL w) : ∀ (L : List Nat) (may m : Nat), (PP w r L may m).1 ≤ 38928384
  | [], _, m => by
    have := (cvM_ok hv r m).2
    show 32768 * (cvM w r m : Int) ≤ _
    omega
  | e :: L, may, m => by
    cases h : bbI (opv w r e L may m) (sN w) with
    | none =>
      have : PP w r (e :: L) may m = (0, []) := by
        show (match bbI (opv w r e L may m) (sN w) with
          | none => (0, [])
          | some p => (p.2, p.1 :: (PP w r L (if p.1 = po w e then may else may - 1) (m ||| 2 ^ p.1)).2)) = _
        rw [h]
      rw [this]; show (0 : Int) ≤ _; omega
    | some p =>
      have h2 := (bbI_ok _ p h).2.1
      rw [PP_c h]
      show p.2 ≤ _
      unfold opv at h2
      split at h2
      · have := PP_le hv L may (m ||| 2 ^ p.1)
        have := Option.some.inj h2
        omega
      · split at h2
        · have := PP_le hv L (may - 1) (m ||| 2 ^ p.1)
          have := Option.some.inj h2
          omega
        · cases h2
theorem PP_cap : ∀ (L : List Nat) (may m : Nat), L.length ≤ may → PP w r L may m = PP w r L L.length m
  | [], _, _, _ => rfl
  | e :: L, may, m, h => by
    have hl : (e :: L).length = L.length + 1 := rfl
    have eo : ∀ s, opv w r e L may m s = opv w r e L (L.length + 1) m s := fun s => by
      unfold opv
      rw [PP_cap L may _ (by omega), PP_cap L (L.length + 1) _ (by omega), PP_cap L (may - 1) _ (by omega), show L.length + 1 - 1 = L.length by omega]
      by_cases q : s = po w e
      · rw [if_pos q, if_pos q]
      · rw [if_neg q, if_neg q]
        by_cases q2 : wy w e s < 999
        · rw [if_pos ⟨by omega, q2⟩, if_pos ⟨by omega, q2⟩]
        · rw [if_neg (fun z => q2 z.2), if_neg (fun z => q2 z.2)]
    have eb := bbI_cg (sN w) (fun s _ => eo s)
    rw [hl]
    cases hb : bbI (opv w r e L may m) (sN w) with
    | none =>
      show (match bbI (opv w r e L may m) (sN w) with
          | none => (0, [])
          | some p => (p.2, p.1 :: (PP w r L (if p.1 = po w e then may else may - 1) (m ||| 2 ^ p.1)).2)) = (match bbI (opv w r e L (L.length + 1) m) (sN w) with
          | none => (0, [])
          | some p => (p.2, p.1 :: (PP w r L (if p.1 = po w e then L.length + 1 else L.length + 1 - 1) (m ||| 2 ^ p.1)).2))
      rw [← eb, hb]
    | some p =>
      rw [PP_c hb, PP_c (eb.symm.trans hb)]
      have : PP w r L (if p.1 = po w e then may else may - 1) (m ||| 2 ^ p.1) = PP w r L (if p.1 = po w e then L.length + 1 else L.length + 1 - 1) (m ||| 2 ^ p.1) := by
        rw [PP_cap L (if p.1 = po w e then may else may - 1) _ (by split <;> omega), PP_cap L (if p.1 = po w e then L.length + 1 else L.length + 1 - 1) _ (by split <;> omega)]
      rw [this]
theorem PP_min (L : List Nat) (may m : Nat) : PP w r L may m = PP w r L (min may L.length) m := by
  by_cases h : L.length ≤ may
  · rw [show min may L.length = L.length by omega]; exact PP_cap L may m h
  · rw [show min may L.length = may by omega]
end PL
/-- what the goals make -/
def fk : List Nat → Nat → Nat
  | [], m => m
  | s :: gs, m => fk gs (m ||| 2 ^ s)
def mvd (w : Nat → Int32) : List Nat → List Nat → Nat
  | e :: L, s :: gs => (if s = po w e then 0 else 1) + mvd w L gs
  | _, _ => 0
def mns (w : Nat → Int32) : List Nat → List Nat → Nat
  | e :: L, s :: gs => (if s = po w e then 0 else wy w e s) + mns w L gs
  | _, _ => 0
def g2 (w : Nat → Int32) : List Nat → List Nat → Prop
  | [], [] => True
  | e :: L, s :: gs => (s < sN w ∧ (s = po w e ∨ wy w e s < 999)) ∧ g2 w L gs
  | _, _ => False
def tf : List Nat → List Nat → (Nat → Nat) → (Nat → Nat)
  | e :: L, s :: gs, g => tf L gs (fun x => if x = e then s else g x)
  | _, _, g => g
section PL2
variable {w : Nat → Int32} {r : Nat}
theorem PP_val : ∀ (L : List Nat) (may m : Nat), (∀ e, e ∈ L → po w e < sN w) → (PP w r L may m).1 = 32768 * (cvM w r (fk (PP w r L may m).2 m) : Int) - 4096 * (mvd w L (PP w r L may m).2 : Int) - (mns w L (PP w r L may m).2 : Int) ∧ g2 w L (PP w r L may m).2
  | [], may, m, _ => by
    refine ⟨?_, trivial⟩
    show (32768 * (cvM w r m : Int)) = 32768 * (cvM w r m : Int) - 4096 * ((0 : Nat) : Int) - ((0 : Nat) : Int)
    omega
  | e :: L, may, m, h => by
    obtain ⟨p, hp, -⟩ := PP_some (r := r) (L := L) (may := may) (m := m) (h e (List.mem_cons_self ..))
    obtain ⟨h1, h2, -, -⟩ := bbI_ok _ p hp
    have hL : ∀ x, x ∈ L → po w x < sN w := fun x hx => h x (List.mem_cons_of_mem _ hx)
    rw [PP_c hp]
    by_cases q : p.1 = po w e
    · obtain ⟨i1, i2⟩ := PP_val L may (m ||| 2 ^ p.1) hL
      have v : opv w r e L may m p.1 = some (PP w r L may (m ||| 2 ^ p.1)).1 := if_pos q
      have v := Option.some.inj (h2.symm.trans v)
      rw [if_pos q]
      refine ⟨?_, ⟨h1, Or.inl q⟩, i2⟩
      show p.2 = 32768 * (cvM w r (fk (PP w r L may (m ||| 2 ^ p.1)).2 (m ||| 2 ^ p.1)) : Int) - 4096 * (((if p.1 = po w e then 0 else 1) + mvd w L (PP w r L may (m ||| 2 ^ p.1)).2 : Nat) : Int) - (((if p.1 = po w e then 0 else wy w e p.1) + mns w L (PP w r L may (m ||| 2 ^ p.1)).2 : Nat) : Int)
      rw [if_pos q, if_pos q]
      omega
    · obtain ⟨i1, i2⟩ := PP_val L (may - 1) (m ||| 2 ^ p.1) hL
      have v : opv w r e L may m p.1 = if 0 < may ∧ wy w e p.1 < 999 then some ((PP w r L (may - 1) (m ||| 2 ^ p.1)).1 - 4096 - (wy w e p.1 : Int)) else none := if_neg q
      rw [h2] at v
      by_cases q2 : 0 < may ∧ wy w e p.1 < 999
      · rw [if_pos q2] at v
        have v := Option.some.inj v
        rw [if_neg q]
        refine ⟨?_, ⟨h1, Or.inr q2.2⟩, i2⟩
        show p.2 = 32768 * (cvM w r (fk (PP w r L (may - 1) (m ||| 2 ^ p.1)).2 (m ||| 2 ^ p.1)) : Int) - 4096 * (((if p.1 = po w e then 0 else 1) + mvd w L (PP w r L (may - 1) (m ||| 2 ^ p.1)).2 : Nat) : Int) - (((if p.1 = po w e then 0 else wy w e p.1) + mns w L (PP w r L (may - 1) (m ||| 2 ^ p.1)).2 : Nat) : Int)
        rw [if_neg q, if_neg q]
        omega
      · rw [if_neg q2] at v
        cases v
theorem mvd_le : ∀ (L gs : List Nat), mvd w L gs ≤ L.length
  | [], gs => by cases gs <;> exact Nat.le_refl _
  | e :: L, [] => Nat.zero_le _
  | e :: L, s :: gs => by
    have := mvd_le L gs
    show (if s = po w e then 0 else 1) + mvd w L gs ≤ L.length + 1
    split <;> omega
theorem mns_le (hv : VL w) : ∀ (L gs : List Nat), (∀ e, e ∈ L → po w e < sN w) → g2 w L gs → mns w L gs ≤ 660 * L.length
  | [], gs, _, _ => by cases gs <;> exact Nat.zero_le _
  | e :: L, [], _, _ => Nat.zero_le _
  | e :: L, s :: gs, h, g => by
    have i := mns_le hv L gs (fun x hx => h x (List.mem_cons_of_mem _ hx)) g.2
    have hw : wy w e s < 999 → wy w e s ≤ 660 := fun z => dist_660 hv.2.2.2.2.2.1 (hv.2.2.2.1 _ (h e (List.mem_cons_self ..))).2 (hv.2.2.2.1 _ g.1.1).2 z
    show (if s = po w e then 0 else wy w e s) + mns w L gs ≤ 660 * (L.length + 1)
    rcases g.1.2 with q | q
    · rw [if_pos q]; omega
    · have := hw q
      split <;> omega
theorem g2_len : ∀ (L gs : List Nat), g2 w L gs → gs.length = L.length
  | [], [], _ => rfl
  | [], _ :: _, h => h.elim
  | _ :: _, [], h => h.elim
  | e :: L, s :: gs, h => by show gs.length + 1 = L.length + 1; rw [g2_len L gs h.2]
end PL2
/-- one way to move: cover, how many, minutes, posts -/
abbrev Cd : Type := Nat × Nat × Nat × (Nat → Nat)
def vl (c : Cd) : Int := 32768 * (c.1 : Int) - 4096 * (c.2.1 : Int) - (c.2.2.1 : Int)
def stp (B : Option Cd) (c : Cd) : Option Cd := match B with
  | none => some c
  | some b => if vl b < vl c then some c else some b
def foB (v : Nat → Option Int) (c : Nat → Cd) (B : Option Cd) : Nat → Option Cd
  | 0 => B
  | s + 1 => match v s with
    | none => foB v c B s
    | some _ => stp (foB v c B s) (c s)
theorem foB_ok {v : Nat → Option Int} {c : Nat → Cd} {B : Option Cd} {K : Int} : ∀ n, (∀ s, s < n → ∀ x, v s = some x → vl (c s) = x - K) → foB v c B n = match bbI v n with
    | none => B
    | some p => stp B (c p.1)
  | 0, _ => rfl
  | n + 1, h => by
    have ih := foB_ok (B := B) n (fun s hs x hx => h s (by omega) x hx)
    cases hv : v n with
    | none =>
      rw [bbI_n hv, ← ih]
      show (match v n with | none => foB v c B n | some _ => stp (foB v c B n) (c n)) = _
      rw [hv]
    | some x =>
      have e : foB v c B (n + 1) = stp (foB v c B n) (c n) := by
        show (match v n with | none => foB v c B n | some _ => stp (foB v c B n) (c n)) = _
        rw [hv]
      have hx := h n (by omega) x hv
      rw [e, ih]
      cases hb : bbI v n with
      | none => rw [bbI_0 hv hb]
      | some p =>
        obtain ⟨h1, h2, h3, h4⟩ := bbI_ok n p hb
        have hp := h p.1 (by omega) p.2 h2
        rw [bbI_1 hv hb]
        show stp (stp B (c p.1)) (c n) = match (if p.2 < x then some (n, x) else some p) with
          | none => B
          | some p => stp B (c p.1)
        by_cases q : p.2 < x
        · rw [if_pos q]
          show stp (stp B (c p.1)) (c n) = stp B (c n)
          cases B with
          | none =>
            show (if vl (c p.1) < vl (c n) then some (c n) else some (c p.1)) = some (c n)
            rw [if_pos (by omega)]
          | some b =>
            show stp (if vl b < vl (c p.1) then some (c p.1) else some b) (c n) = (if vl b < vl (c n) then some (c n) else some b)
            by_cases z : vl b < vl (c p.1)
            · rw [if_pos z, if_pos (by omega)]
              show (if vl (c p.1) < vl (c n) then some (c n) else some (c p.1)) = some (c n)
              rw [if_pos (by omega)]
            · rw [if_neg z]; rfl
        · rw [if_neg q]
          show stp (stp B (c p.1)) (c n) = stp B (c p.1)
          cases B with
          | none =>
            show (if vl (c p.1) < vl (c n) then some (c n) else some (c p.1)) = some (c p.1)
            rw [if_neg (by omega)]
          | some b =>
            show stp (if vl b < vl (c p.1) then some (c p.1) else some b) (c n) = (if vl b < vl (c p.1) then some (c p.1) else some b)
            by_cases z : vl b < vl (c p.1)
            · rw [if_pos z]
              show (if vl (c p.1) < vl (c n) then some (c n) else some (c p.1)) = some (c p.1)
              rw [if_neg (by omega)]
            · rw [if_neg z]
              show (if vl b < vl (c n) then some (c n) else some b) = some b
              rw [if_neg (by omega)]
/-- the best from here -/
def cd (w : Nat → Int32) (r : Nat) (L : List Nat) (may m v n : Nat) (g : Nat → Nat) : Cd := (cvM w r (fk (PP w r L may m).2 m), v + mvd w L (PP w r L may m).2, n + mns w L (PP w r L may m).2, tf L (PP w r L may m).2 g)
theorem cd_c {w : Nat → Int32} {r e may m v n : Nat} {L : List Nat} {g : Nat → Nat} {p : Nat × Int} (h : bbI (opv w r e L may m) (sN w) = some p) : cd w r (e :: L) may m v n g = cd w r L (if p.1 = po w e then may else may - 1) (m ||| 2 ^ p.1) (v + (if p.1 = po w e then 0 else 1)) (n + (if p.1 = po w e then 0 else wy w e p.1)) (fun x => if x = e then p.1 else g x) := by
  unfold cd
  rw [PP_c h]
  refine Prod.ext rfl (Prod.ext ?_ (Prod.ext ?_ rfl))
  · show v + ((if p.1 = po w e then 0 else 1) + _) = v + (if p.1 = po w e then 0 else 1) + _
    omega
  · show n + ((if p.1 = po w e then 0 else wy w e p.1) + _) = n + (if p.1 = po w e then 0 else wy w e p.1) + _
    omega
theorem cd_vl {w : Nat → Int32} {r may m v n : Nat} {L : List Nat} {g : Nat → Nat} (h : ∀ e, e ∈ L → po w e < sN w) : vl (cd w r L may m v n g) = (PP w r L may m).1 - 4096 * (v : Int) - (n : Int) := by
  have := (PP_val (r := r) L may m h).1
  unfold vl cd
  dsimp only
  omega
/-- one step of the reference's search -/
theorem cd_step {w : Nat → Int32} {r e may m v n : Nat} {L : List Nat} {g : Nat → Nat} (B : Option Cd) (he : po w e < sN w) (hL : ∀ x, x ∈ L → po w x < sN w) : foB (opv w r e L may m) (fun s => cd w r L (if s = po w e then may else may - 1) (m ||| 2 ^ s) (v + (if s = po w e then 0 else 1)) (n + (if s = po w e then 0 else wy w e s)) (fun x => if x = e then s else g x)) B (sN w) = stp B (cd w r (e :: L) may m v n g) := by
  rw [foB_ok (K := 4096 * (v : Int) + (n : Int)) (sN w) (fun s hs x hx => ?_)]
  · obtain ⟨p, hp, -⟩ := PP_some (r := r) (L := L) (may := may) (m := m) he
    rw [hp, cd_c hp]
  · rw [cd_vl hL]
    unfold opv at hx
    by_cases q : s = po w e
    · rw [if_pos q] at hx
      have hx := Option.some.inj hx
      rw [if_pos q, if_pos q, if_pos q]
      omega
    · rw [if_neg q] at hx
      rw [if_neg q, if_neg q, if_neg q]
      by_cases q2 : 0 < may ∧ wy w e s < 999
      · rw [if_pos q2] at hx
        have hx := Option.some.inj hx
        omega
      · rw [if_neg q2] at hx; cases hx
