/-! THE START: both are made; what holds between calls holds -/
def M0 : Mem := jn 52 MK_X10 MK_X11
theorem w0_z (j : Nat) (h : j ≠ 459 ∧ j ≠ 460 ∧ j ≠ 461 ∧ j ≠ 469) : M0.1 53 j = nI 0 := by
  show MK_X11.1 1 j = nI 0
  unfold MK_X11 si
  simp only [sa_s, upd]
  rw [if_neg h.2.2.2, if_neg h.2.2.1, if_neg h.2.1, if_neg h.1]
  rfl
theorem FW_0 (k a b : Nat) : FWm (fun a b => if a = b then 0 else 999) k a b = (if a = b then 0 else 999) := by
  induction k generalizing a b with
  | zero => rfl
  | succ k ih =>
    show min (FWm _ k a b) (FWm _ k a k + FWm _ k k b) = _
    rw [ih, ih, ih]
    by_cases h : a = b
    · rw [if_pos h]; exact Nat.zero_min _
    · rw [if_neg h]
      by_cases h1 : a = k
      · subst h1
        rw [if_pos rfl, if_neg h, Nat.zero_add, Nat.min_self]
      · rw [if_neg h1]
        exact Nat.min_eq_left (Nat.le_add_right _ _)
theorem tn_0 : tn (nI 0) = 0 := z_cl (by omega)
theorem Inv_0 : Inv 0 M0 := by
  have hz := w0_z
  have h456 : M0.1 53 456 = nI 0 := hz 456 (by omega)
  have h457 : M0.1 53 457 = nI 0 := hz 457 (by omega)
  have h458 : M0.1 53 458 = nI 0 := hz 458 (by omega)
  have h459 : M0.1 53 459 = nI 8 := rfl
  have h460 : M0.1 53 460 = nI 30 := rfl
  have h461 : M0.1 53 461 = nI 6 := rfl
  have h469 : M0.1 53 469 = nI 1 := rfl
  have h462 : M0.1 53 462 = nI 0 := hz 462 (by omega)
  have h468 : M0.1 53 468 = nI 0 := hz 468 (by omega)
  have c16 : M0.1 16 = fun _ => 0 := rfl
  have c17 : M0.1 17 = fun _ => 0 := rfl
  have c22 : M0.1 22 = wy0 12 := rfl
  have c24 : M0.1 24 = fun _ => 0 := rfl
  have c0 : M0.1 0 = fun _ => 0 := rfl
  have c1 : M0.1 1 = fun _ => 0 := rfl
  have c4 : M0.1 4 = fun _ => 0 := rfl
  have c52 : M0.1 52 = fun _ => 0 := rfl
  have d2 : M0.1 15 2 = nI 8 := rfl
  have d3 : M0.1 15 3 = nI 30 := rfl
  have d4 : M0.1 15 4 = nI 6 := rfl
  have d5 : M0.1 15 5 = nI 1 := rfl
  generalize M0 = M at *
  have eS : sN (M.1 53) = 0 := by unfold sN; rw [h456]; exact tn_0
  have eE : eN (M.1 53) = 0 := by unfold eN; rw [h457]; exact tn_0
  have eR : rN (M.1 53) = 0 := by unfold rN; rw [h458]; exact tn_0
  have eM : miN (M.1 53) = 0 := by unfold miN; rw [h462]; exact tn_0
  have eB : bN (M.1 53) = 0 := by unfold bN; rw [h468]; exact tn_0
  have eRc : rcN (M.1 53) = 8 := by unfold rcN; rw [h459]; exact z_cl (by omega)
  have eSv : svN (M.1 53) = 30 := by unfold svN; rw [h460]; exact z_cl (by omega)
  have eLm : lmN (M.1 53) = 6 := by unfold lmN; rw [h461]; exact z_cl (by omega)
  have erd : ∀ a b, a < 12 → b < 12 → rd (M.1 53) a b = 0 := fun a b ha hb => by unfold rd; rw [hz _ (by omega)]; exact tn_0
  have esh : ∀ a b, a < 12 → b < 12 → sh (M.1 53) a b = 0 := fun a b ha hb => by unfold sh; rw [hz _ (by omega)]; exact tn_0
  have ews : ∀ a, a < 12 → wt (M.1 53) a = 0 := fun a ha => by unfold wt; rw [hz _ (by omega)]; exact tn_0
  have edi : ∀ a b, a < 12 → b < 12 → dist (M.1 53) a b = if a = b then 0 else 999 := fun a b ha hb => by
    unfold dist
    rw [FW_congr (n := 12) (c' := fun a b => if a = b then 0 else 999) (fun x y hx hy => ?_) 12 (Nat.le_refl _) a b ha hb, FW_0]
    unfold co
    rw [erd x y hx hy, if_neg (show ¬ (0 < 0 ∧ _) from fun q => absurd q.1 (by omega))]
  refine ⟨⟨⟨⟨⟨by rw [eS]; exact h456, by rw [eS]; omega⟩, ⟨by rw [eR]; exact h458, by rw [eR]; omega⟩, fun a ha => ⟨by rw [ews a ha]; exact hz a (by omega), by rw [ews a ha]; omega⟩, fun s hs => by rw [eS] at hs; omega, fun s s' hs => by rw [eS] at hs; omega, fun a b ha hb => ⟨⟨by rw [erd a b ha hb]; exact hz _ (by omega), by rw [erd a b ha hb]; omega, by rw [erd a b ha hb, erd b a hb ha]⟩, by rw [esh a b ha hb]; exact hz _ (by omega), by rw [esh a b ha hb]; omega, by rw [esh a b ha hb, esh b a hb ha]⟩, ⟨fun k hk => by rw [eR] at hk; omega, fun k k' hk => by rw [eR] at hk; omega, fun a b hab hb q => by rw [erd a b (by omega) hb] at q; omega, fun a ha => erd a a ha ha, fun a b ha hb _ => esh a b ha hb⟩⟩, ⟨⟨by rw [eE]; exact h457, by rw [eE]; omega⟩, fun e he => by rw [eE] at he; omega⟩, ⟨⟨by rw [eRc]; exact h459, by rw [eRc]; omega, by rw [eRc]; omega⟩, ⟨by rw [eSv]; exact h460, by rw [eSv]; omega⟩, by rw [eLm]; exact h461, by rw [eLm]; omega⟩, ⟨⟨by rw [eM]; exact h462, by rw [eM]; omega⟩, ⟨by rw [eB]; exact h468, by rw [eB]; omega⟩, fun i hi => by rw [eB] at hi; omega, fun i j _ hj => by rw [eB] at hj; omega⟩⟩, ⟨⟨fun a ha => ?_, ?_, ?_, fun s hs => by rw [eS] at hs; omega, fun k hk => by rw [eR] at hk; omega, fun a c ha hc => ?_⟩, ⟨?_, fun e he => by rw [eE] at he; omega, ?_, ?_, ?_, ?_, ?_, ?_⟩, ⟨?_, ?_, ?_, ?_⟩, ⟨?_, fun j hj => by rw [eB] at hj; omega⟩⟩⟩, ⟨0, by omega, by rw [c1]; rfl, by rw [c52]; rfl, fun j hj => by omega⟩, ⟨0, by omega, by rw [c4]; rfl, by rw [c52]; rfl, fun j hj => by omega⟩, Or.inl ⟨by rw [c0]; rfl, by rw [c52]; rfl⟩, by omega⟩
  · show M.1 17 a = _
    rw [c17, hz a (by omega)]; rfl
  · show M.1 16 8 = _
    rw [c16, h456]; rfl
  · show M.1 16 7 = _
    rw [c16, h458]; rfl
  · show M.1 22 _ = _
    rw [c22, edi a c ha hc]
    unfold wy0
    rw [if_pos (by omega)]
    by_cases h : a = c
    · subst h
      rw [if_pos rfl, if_pos (by omega)]
    · rw [if_neg h, if_neg (by omega)]
  · show M.1 24 4 = _
    rw [c24, h457]; rfl
  · show M.1 24 6 = _
    rw [c24, h462]; rfl
  · show M.1 24 7 = _
    rw [c24, hz 463 (by omega)]; rfl
  · show M.1 24 8 = _
    rw [c24, hz 464 (by omega)]; rfl
  · show M.1 24 9 = _
    rw [c24, hz 465 (by omega)]; rfl
  · show M.1 24 10 = _
    rw [c24, hz 466 (by omega)]; rfl
  · show M.1 24 11 = _
    rw [c24, hz 467 (by omega)]; rfl
  · exact d2.trans h459.symm
  · exact d3.trans h460.symm
  · exact d4.trans h461.symm
  · exact d5.trans h469.symm
  · show M.1 24 5 = _
    rw [c24, eB]; rfl
