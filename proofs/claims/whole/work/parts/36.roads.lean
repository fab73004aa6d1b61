/-! THE ROADS, LAID: the class's table of a land is the reference's -/
def isP (l g : Nat → Nat) (k i j : Nat) : Prop := (i = l k ∧ j = g k) ∨ (i = g k ∧ j = l k)
theorem cI_hit {l g c : Nat → Nat} {o : Nat → Bool} {i j k : Nat} (ho : o k = true) (hp : isP l g k i j) : ∀ n, k < n → (∀ k', k' < n → isP l g k' i j → k' = k) → cI l g c o n i j = c k
  | 0, h, _ => absurd h (by omega)
  | n + 1, h, hu => by
    unfold cI
    by_cases q : k = n
    · subst q
      rw [if_pos ⟨ho, hp⟩]
    · rw [if_neg (fun z => q (hu n (by omega) z.2).symm)]
      exact cI_hit ho hp n (by omega) (fun k' hk' => hu k' (by omega))
theorem cI_miss {l g c : Nat → Nat} {o : Nat → Bool} {i j : Nat} : ∀ n, (∀ k, k < n → o k = true → ¬ isP l g k i j) → cI l g c o n i j = if i = j then 0 else 999
  | 0, _ => rfl
  | n + 1, hu => by
    unfold cI
    rw [if_neg (fun z => hu n (by omega) z.1 z.2)]
    exact cI_miss n (fun k hk => hu k (by omega))
/-- the roads of w, but for those that o leaves out -/
theorem cI_co {w : Nat → Int32} (hv : VL w) {o : Nat → Bool} (ho : ∀ k, k < rN w → o k = decide (sh w (lo w k) (hi w k) = 0)) {i j : Nat} (hi' : i < 12) (hj : j < 12) : cI (lo w) (hi w) (fun k => rd w (lo w k) (hi w k)) o (rN w) i j = co w i j := by
  obtain ⟨-, -, -, -, -, hr, t1, t2, t3, t4, t5⟩ := hv
  have sym : ∀ k, k < rN w → isP (lo w) (hi w) k i j → rd w (lo w k) (hi w k) = rd w i j ∧ sh w (lo w k) (hi w k) = sh w i j := fun k hk hp => by
    have h1 := t1 k hk
    rcases hp with ⟨e1, e2⟩ | ⟨e1, e2⟩
    · rw [e1, e2]; exact ⟨rfl, rfl⟩
    · rw [e1, e2]
      have := hr (lo w k) (hi w k) (by omega) (by omega)
      exact ⟨this.1.2.2, this.2.2.2⟩
  have uni : ∀ k k', k < rN w → k' < rN w → isP (lo w) (hi w) k i j → isP (lo w) (hi w) k' i j → k' = k := fun k k' hk hk' hp hp' => by
    have h1 := t1 k hk
    have h2 := t1 k' hk'
    refine t2 k' k hk' hk ?_ ?_ <;> (unfold isP at hp hp'; omega)
  unfold co
  by_cases e : i = j
  · rw [if_pos e, cI_miss, if_pos e]
    intro k hk _ hp
    have h1 := t1 k hk
    unfold isP at hp
    omega
  · rw [if_neg e]
    by_cases hpos : 0 < rd w i j
    · have ex : ∃ k, k < rN w ∧ isP (lo w) (hi w) k i j := by
        rcases Nat.lt_or_gt_of_ne e with q | q
        · obtain ⟨k, hk, a, b⟩ := t3 i j q hj hpos
          exact ⟨k, hk, Or.inl ⟨a.symm, b.symm⟩⟩
        · obtain ⟨k, hk, a, b⟩ := t3 j i q hi' (by rw [← (hr i j hi' hj).1.2.2]; exact hpos)
          exact ⟨k, hk, Or.inr ⟨b.symm, a.symm⟩⟩
      obtain ⟨k, hk, hp⟩ := ex
      have sy := sym k hk hp
      by_cases s0 : sh w i j = 0
      · rw [if_pos ⟨hpos, s0⟩, cI_hit (k := k) (by rw [ho k hk, sy.2]; exact decide_eq_true s0) hp _ hk (fun k' hk' hp' => uni k k' hk hk' hp hp')]
        exact sy.1
      · rw [if_neg (fun z => s0 z.2), cI_miss, if_neg e]
        intro k' hk' ho' hp'
        rw [ho k' hk', (sym k' hk' hp').2] at ho'
        exact s0 (of_decide_eq_true ho')
    · rw [if_neg (fun z => hpos z.1), cI_miss, if_neg e]
      intro k' hk' ho' hp'
      have := (t1 k' hk').2.2.2
      rw [(sym k' hk' hp').1] at this
      exact hpos this
theorem FWm_cg {c c' : Nat → Nat → Nat} (h : ∀ i j, i < 12 → j < 12 → c i j = c' i j) : ∀ k, k ≤ 12 → ∀ i j, i < 12 → j < 12 → FWm c k i j = FWm c' k i j
  | 0, _, i, j, hi, hj => h i j hi hj
  | k + 1, hk, i, j, hi, hj => by
    unfold FWm
    rw [FWm_cg h k (by omega) i j hi hj, FWm_cg h k (by omega) i k hi (by omega), FWm_cg h k (by omega) k j (by omega) hj]
theorem cI_dist {w : Nat → Int32} (hv : VL w) {o : Nat → Bool} (ho : ∀ k, k < rN w → o k = decide (sh w (lo w k) (hi w k) = 0)) {i j : Nat} (hi' : i < 12) (hj : j < 12) : FWm (cI (lo w) (hi w) (fun k => rd w (lo w k) (hi w k)) o (rN w)) 12 i j = dist w i j := FWm_cg (fun a b ha hb => cI_co hv ho ha hb) 12 (Nat.le_refl _) i j hi' hj
/-- a road shut or opened -/
def upS (w : Nat → Int32) (a b : Nat) (v : Int32) : Nat → Int32 := upd (upd w (156 + 12 * a + b) v) (156 + 12 * b + a) v
theorem upS_o {w : Nat → Int32} {a b j : Nat} {v : Int32} (ha : a < 12) (hb : b < 12) (hj : j < 156 ∨ 300 ≤ j) : upS w a b v j = w j := by
  unfold upS
  rw [upd_ne (by omega), upd_ne (by omega)]
theorem sh_upS {w : Nat → Int32} {a b i j s : Nat} (ha : a < 12) (hb : b < 12) (hi' : i < 12) (hj : j < 12) (hs : s ≤ 1) : sh (upS w a b (nI s)) i j = if (i = a ∧ j = b) ∨ (i = b ∧ j = a) then s else sh w i j := by
  unfold sh upS
  by_cases q : i = b ∧ j = a
  · rw [if_pos (Or.inr q), q.1, q.2, upd_eq, tn_nI (by omega)]
  · by_cases q' : i = a ∧ j = b
    · rw [if_pos (Or.inl q'), q'.1, q'.2, upd_ne (by omega), upd_eq, tn_nI (by omega)]
    · rw [if_neg (by omega), upd_ne (by omega), upd_ne (by omega)]
