/-! NO WAY IS LONGER THAN 660 -/
theorem FW_s (c : Nat → Nat → Nat) (k a b : Nat) : FWm c (k + 1) a b = min (FWm c k a b) (FWm c k a k + FWm c k k b) := rfl
theorem FW_tri {c : Nat → Nat → Nat} (h0 : ∀ a, c a a = 0) : ∀ n j, j < n → ∀ a b, FWm c n a b ≤ FWm c n a j + FWm c n j b
  | n + 1, j, hj, a, b => by
    have hd := FW_diag h0 n n
    rw [FW_s, FW_s, FW_s]
    by_cases e : j = n
    · subst e
      omega
    · have i1 := FW_tri h0 n j (by omega) a b
      have i2 := FW_tri h0 n j (by omega) a n
      have i3 := FW_tri h0 n j (by omega) n b
      omega
theorem FW_mono {c : Nat → Nat → Nat} {a b : Nat} : ∀ k n, FWm c (n + k) a b ≤ FWm c n a b
  | 0, n => Nat.le_refl _
  | k + 1, n => by
    have := FW_mono (c := c) (a := a) (b := b) k n
    rw [show n + (k + 1) = (n + k) + 1 by omega, FW_s]
    omega
theorem FW_pred {c : Nat → Nat → Nat} (h0 : ∀ a, c a a = 0) : ∀ k, k ≤ 12 → ∀ a b, a < 12 → b < 12 → FWm c k a b < 999 → a = b ∨ ∃ p, p < 12 ∧ p ≠ b ∧ FWm c 12 a p + c p b ≤ FWm c k a b
  | 0, _, a, b, ha, hb, h => by
    by_cases e : a = b
    · exact Or.inl e
    · refine Or.inr ⟨a, ha, e, ?_⟩
      rw [FW_diag h0 12 a]
      show 0 + c a b ≤ c a b
      omega
  | k + 1, hk, a, b, ha, hb, h => by
    rw [FW_s] at h ⊢
    by_cases q : FWm c k a b ≤ FWm c k a k + FWm c k k b
    · rcases FW_pred h0 k (by omega) a b ha hb (by omega) with e | ⟨p, h1, h2, h3⟩
      · exact Or.inl e
      · exact Or.inr ⟨p, h1, h2, by omega⟩
    · by_cases e : k = b
      · subst e
        have := FW_diag h0 k k
        omega
      · rcases FW_pred h0 k (by omega) k b (by omega) hb (by omega) with e2 | ⟨p, h1, h2, h3⟩
        · exact absurd e2 e
        · refine Or.inr ⟨p, h1, h2, ?_⟩
          have t := FW_tri h0 12 k (by omega) a p
          have m := FW_mono (c := c) (a := a) (b := k) (12 - k) k
          rw [show k + (12 - k) = 12 by omega] at m
          omega
theorem cn_lt {c c' : Nat → Bool} {p : Nat} (h : ∀ x, c x = true → c' x = true) (hp : c' p = true) (hn : c p = false) : ∀ n, cn c n + (if p < n then 1 else 0) ≤ cn c' n
  | 0 => by show 0 + _ ≤ 0; rw [if_neg (by omega)]; omega
  | n + 1 => by
    have ih := cn_lt h hp hn n
    have e1 : cn c (n + 1) = if c n = true then cn c n + 1 else cn c n := rfl
    have e2 : cn c' (n + 1) = if c' n = true then cn c' n + 1 else cn c' n := rfl
    rw [e1, e2]
    by_cases q : p = n
    · subst q
      rw [hn, hp, if_neg (by simp), if_pos rfl, if_pos (by omega)]
      rw [if_neg (by omega)] at ih
      omega
    · by_cases z : c n = true
      · rw [if_pos z, if_pos (h n z)]
        by_cases l : p < n
        · rw [if_pos l] at ih; rw [if_pos (by omega)]; omega
        · rw [if_neg l] at ih; rw [if_neg (by omega)]; omega
      · rw [if_neg z]
        have : (if p < n + 1 then 1 else 0) = (if p < n then 1 else 0) := by
          by_cases l : p < n
          · rw [if_pos l, if_pos (by omega)]
          · rw [if_neg l, if_neg (by omega)]
        rw [this]
        by_cases z2 : c' n = true
        · rw [if_pos z2]; exact Nat.le_succ_of_le ih
        · rw [if_neg z2]; exact ih
theorem dist_tri (w : Nat → Int32) {j : Nat} (hj : j < 12) (a b : Nat) : dist w a b ≤ dist w a j + dist w j b := FW_tri (co_diag w) 12 j hj a b
theorem dist_660 {w : Nat → Int32} (h : VRd w) {a b : Nat} (ha : a < 12) (hb : b < 12) (hd : dist w a b < 999) : dist w a b ≤ 660 := by
  have key : ∀ v b, b < 12 → dist w a b = v → v < 999 → v ≤ 60 * cn (fun x => decide (dist w a x < v)) 12 := by
    intro v
    induction v using Nat.strongRecOn with
    | ind v ih =>
      intro b hb e hv
      rcases FW_pred (co_diag w) 12 (by omega) a b ha hb (by show dist w a b < 999; omega) with q | ⟨p, h1, h2, h3⟩
      · subst q
        have : dist w a a = 0 := FW_diag (co_diag w) 12 a
        omega
      · have h3 : dist w a p + co w p b ≤ dist w a b := h3
        have hc : 1 ≤ co w p b ∧ (co w p b < 999 → co w p b ≤ 60) := by
          have := (h p b h1 hb).1.2.1
          unfold co
          rw [if_neg h2]
          split
          · next z => exact ⟨z.1, fun _ => this⟩
          · exact ⟨by omega, fun z => by omega⟩
        have i := ih (dist w a p) (by omega) p h1 rfl (by omega)
        have m := cn_lt (c := fun x => decide (dist w a x < dist w a p)) (c' := fun x => decide (dist w a x < v)) (p := p) (fun x hx => by rw [decide_eq_true_eq] at hx ⊢; omega) (decide_eq_true (by omega)) (decide_eq_false (by omega)) 12
        rw [if_pos h1] at m
        have t := dist_tri w h1 a b
        have l : dist w p b ≤ co w p b := FW_mono (c := co w) (a := p) (b := b) 12 0
        omega
  have k := key (dist w a b) b hb rfl hd
  have m := cn_lt (c := fun x => decide (dist w a x < dist w a b)) (c' := fun _ => true) (p := b) (fun _ _ => rfl) rfl (decide_eq_false (by omega)) 12
  rw [if_pos hb] at m
  have := cn_le (fun _ => true) 12
  omega
