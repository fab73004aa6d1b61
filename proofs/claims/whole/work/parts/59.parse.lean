/-! THE TEXT OF A LAND: how it is read -/
abbrev Ps : Type := Nat × Option Nat × (Nat → Int32) × Int32
def sg (T : Nat → Int32) (n p : Nat) : Int32 := if p < n then T p else -1
def isDg (T : Nat → Int32) (n p : Nat) : Bool := decide (nI 48 ≤ sg T n p) && decide (sg T n p ≤ nI 57)
def dgt (T : Nat → Int32) (n p : Nat) : Nat := tn (sg T n p) - 48
def rfs (q : Nat) (s : Ps) : Ps := (s.1, (match s.2.1 with
  | none => some q
  | some x => some x), s.2.2)
def tks (T : Nat → Int32) (n c : Nat) (s : Ps) : Ps := match s.2.1 with
  | some _ => s
  | none => if sg T n s.1 = nI c then (s.1 + 1, s.2) else rfs s.1 s
def nmv (T : Nat → Int32) (n p : Nat) : Nat := if isDg T n (p + 1) = true then 10 * dgt T n p + dgt T n (p + 1) else dgt T n p
def nmq (T : Nat → Int32) (n p : Nat) : Nat := if isDg T n (p + 1) = true then p + 2 else p + 1
def nms (T : Nat → Int32) (n lo hi : Nat) (s : Ps) : Option Nat × Ps := match s.2.1 with
  | some _ => (none, s)
  | none => if isDg T n s.1 = true then (if lo ≤ nmv T n s.1 ∧ nmv T n s.1 ≤ hi then (some (nmv T n s.1), (nmq T n s.1, none, s.2.2)) else (none, (nmq T n s.1, some (nmq T n s.1 - 1), s.2.2))) else (none, rfs s.1 s)
theorem sg_lt {T : Nat → Int32} {n p c : Nat} (hc : c < 256) (h : sg T n p = nI c) : p < n := by
  unfold sg at h
  by_cases q : p < n
  · exact q
  · rw [if_neg q] at h
    exact ((z_m1' (by omega)).mp h).elim
theorem isDg_d {T : Nat → Int32} {n p : Nat} (h : isDg T n p = true) : p < n ∧ sg T n p = nI (48 + dgt T n p) ∧ dgt T n p ≤ 9 := by
  unfold isDg at h
  rw [Bool.and_eq_true, decide_eq_true_eq, decide_eq_true_eq] at h
  have hp : ¬ sg T n p < 0 := fun z => by
    have h1 := h.1
    rw [Int32.lt_iff_toInt_lt] at z
    rw [Int32.le_iff_toInt_le, nI_toInt (by omega)] at h1
    have e0 : (0 : Int32).toInt = 0 := by decide
    omega
  obtain ⟨j, hj, e⟩ := z_0 hp (by omega) h.2
  have h1 := h.1
  rw [e, z_le (by omega) (by omega)] at h1
  have ed : dgt T n p = j - 48 := by unfold dgt; rw [e, tn_nI (by omega)]
  refine ⟨?_, by rw [e, ed]; congr 1; omega, by omega⟩
  unfold sg at e
  by_cases q : p < n
  · exact q
  · rw [if_neg q] at e
    exact ((z_m1' (by omega)).mp e).elim
theorem nms_ok {T : Nat → Int32} {n lo hi : Nat} {s : Ps} (hp : s.1 ≤ n) : ((nms T n lo hi s).1 = none ∧ (∃ q, (nms T n lo hi s).2.2.1 = some q ∧ (s.2.1 = some q ∨ q ≤ n)) ∧ (nms T n lo hi s).2.1 ≤ n ∧ (nms T n lo hi s).2.2.2 = s.2.2) ∨ (∃ v, (nms T n lo hi s).1 = some v ∧ s.2.1 = none ∧ lo ≤ v ∧ v ≤ hi ∧ (nms T n lo hi s).2.2.1 = none ∧ s.1 < (nms T n lo hi s).2.1 ∧ (nms T n lo hi s).2.1 ≤ n ∧ (nms T n lo hi s).2.2.2 = s.2.2) := by
  unfold nms
  cases hf : s.2.1 with
  | some q => exact Or.inl ⟨rfl, ⟨q, hf, Or.inl rfl⟩, hp, rfl⟩
  | none =>
    dsimp only
    by_cases d1 : isDg T n s.1 = true
    · rw [if_pos d1]
      obtain ⟨a1, -, -⟩ := isDg_d d1
      have hq : nmq T n s.1 ≤ n ∧ s.1 < nmq T n s.1 := by
        unfold nmq
        by_cases d2 : isDg T n (s.1 + 1) = true
        · rw [if_pos d2]
          obtain ⟨b1, -, -⟩ := isDg_d d2
          omega
        · rw [if_neg d2]; omega
      by_cases r : lo ≤ nmv T n s.1 ∧ nmv T n s.1 ≤ hi
      · rw [if_pos r]
        exact Or.inr ⟨_, rfl, rfl, r.1, r.2, rfl, hq.2, hq.1, rfl⟩
      · rw [if_neg r]
        exact Or.inl ⟨rfl, ⟨_, rfl, Or.inr (by omega)⟩, hq.1, rfl⟩
    · rw [if_neg d1]
      refine Or.inl ⟨rfl, ⟨s.1, ?_, Or.inr hp⟩, hp, rfl⟩
      unfold rfs
      rw [hf]
theorem tks_ok {T : Nat → Int32} {n c : Nat} {s : Ps} (hc : c < 256) (hp : s.1 ≤ n) : ((∃ q, (tks T n c s).2.1 = some q ∧ (s.2.1 = some q ∨ q ≤ n)) ∧ (tks T n c s).1 ≤ n ∧ (tks T n c s).2.2 = s.2.2) ∨ ((tks T n c s).2.1 = none ∧ s.2.1 = none ∧ (tks T n c s).1 = s.1 + 1 ∧ s.1 + 1 ≤ n ∧ (tks T n c s).2.2 = s.2.2) := by
  unfold tks
  cases hf : s.2.1 with
  | some q => exact Or.inl ⟨⟨q, hf, Or.inl rfl⟩, hp, rfl⟩
  | none =>
    dsimp only
    by_cases d1 : sg T n s.1 = nI c
    · rw [if_pos d1]
      have := sg_lt hc d1
      exact Or.inr ⟨hf, rfl, rfl, by omega, rfl⟩
    · rw [if_neg d1]
      refine Or.inl ⟨⟨s.1, ?_, Or.inr hp⟩, hp, rfl⟩
      unfold rfs
      rw [hf]
/-- what is told goes into the row -/
def adR (u : Nat → Int32) (a b c : Nat) : Nat → Int32 := upd (upd (upd (upd u (12 + 12 * a + b) (nI c)) (12 + 12 * b + a) (nI c)) (326 + rN u) (nI (100 * min a b + max a b))) 458 (nI (rN u + 1))
def adS (u : Nat → Int32) (a : Nat) : Nat → Int32 := upd (upd u (300 + sN u) (nI a)) 456 (nI (sN u + 1))
def adE (u : Nat → Int32) (s : Nat) : Nat → Int32 := upd (upd u (308 + eN u) (nI s)) 457 (nI (eN u + 1))
def rdR (T : Nat → Int32) (n : Nat) (s : Ps) : Ps :=
  let x1 := nms T n 0 11 s
  let s2 := tks T n 45 x1.2
  let x3 := nms T n 0 11 s2
  let s4 := match x1.1, x3.1 with
    | some a, some b => if a = b ∨ 0 < rd x3.2.2.2.1 a b then rfs (x3.2.1 - 1) x3.2 else x3.2
    | _, _ => x3.2
  let s5 := tks T n 61 s4
  let x6 := nms T n 1 60 s5
  match x1.1, x3.1, x6.1 with
    | some a, some b, some c => (x6.2.1, none, adR x6.2.2.2.1 a b c, x6.2.2.2.2)
    | _, _, _ => x6.2
def rdW (T : Nat → Int32) (n : Nat) (s : Ps) : Ps :=
  let x1 := nms T n 0 11 s
  let s2 := match x1.1 with
    | some a => if tb x1.2.2.2.2 a then rfs (x1.2.1 - 1) x1.2 else x1.2
    | none => x1.2
  let s3 := tks T n 61 s2
  let x4 := nms T n 0 99 s3
  match x1.1, x4.1 with
    | some a, some c => (x4.2.1, none, upd x4.2.2.2.1 a (nI c), x4.2.2.2.2 ||| b1 a)
    | _, _ => x4.2
def isSt (u : Nat → Int32) (a : Nat) : Bool := decide (0 < cn (fun s => decide (u (300 + s) = nI a)) (sN u))
def stS (T : Nat → Int32) (n : Nat) : Nat → Ps → Ps
  | 0, s => s
  | k + 1, s => match (nms T n 0 11 (s.1 + 1, s.2)).1 with
    | none => (nms T n 0 11 (s.1 + 1, s.2)).2
    | some a => if isSt s.2.2.1 a = true then rfs ((nms T n 0 11 (s.1 + 1, s.2)).2.1 - 1) (nms T n 0 11 (s.1 + 1, s.2)).2 else if sg T n (nms T n 0 11 (s.1 + 1, s.2)).2.1 = nI 44 then stS T n k ((nms T n 0 11 (s.1 + 1, s.2)).2.1, none, adS s.2.2.1 a, s.2.2.2) else ((nms T n 0 11 (s.1 + 1, s.2)).2.1, none, adS s.2.2.1 a, s.2.2.2)
def stE (T : Nat → Int32) (n : Nat) : Nat → Ps → Ps
  | 0, s => s
  | k + 1, s => match (nms T n 0 (sN s.2.2.1 - 1) (s.1 + 1, s.2)).1 with
    | none => (nms T n 0 (sN s.2.2.1 - 1) (s.1 + 1, s.2)).2
    | some a => if sg T n (nms T n 0 (sN s.2.2.1 - 1) (s.1 + 1, s.2)).2.1 = nI 44 then stE T n k ((nms T n 0 (sN s.2.2.1 - 1) (s.1 + 1, s.2)).2.1, none, adE s.2.2.1 a, s.2.2.2) else ((nms T n 0 (sN s.2.2.1 - 1) (s.1 + 1, s.2)).2.1, none, adE s.2.2.1 a, s.2.2.2)
def rdL (T : Nat → Int32) (n : Nat) (s : Ps) : Ps :=
  if sg T n s.1 = nI 114 then rdR T n (s.1 + 1, s.2)
  else if sg T n s.1 = nI 119 then rdW T n (s.1 + 1, s.2)
  else if sg T n s.1 = nI 115 then (if 0 < sN s.2.2.1 then rfs s.1 s else stS T n 8 s)
  else if sg T n s.1 = nI 101 then (if sN s.2.2.1 = 0 ∨ 0 < eN s.2.2.1 then rfs s.1 s else stE T n 6 s)
  else rfs s.1 s
/-- the whole text, from a line on: how many lines, and what is told -/
def rdA (T : Nat → Int32) (n : Nat) : Nat → Nat → Ps → Nat × Ps
  | 0, l, s => (l, s)
  | k + 1, l, s => match (rdL T n s).2.1 with
    | some _ => (l + 1, rdL T n s)
    | none => if (rdL T n s).1 < n then (match (tks T n 59 (rdL T n s)).2.1 with
      | some _ => (l + 1, tks T n 59 (rdL T n s))
      | none => rdA T n k (l + 1) (tks T n 59 (rdL T n s))) else (l + 1, rdL T n s)
/-- what holds of a row that is told -/
def GU (u : Nat → Int32) : Prop := VL u ∧ ((u 457 = nI (eN u) ∧ eN u ≤ 6) ∧ ∀ e, e < eN u → u (308 + e) = nI (po u e) ∧ po u e < sN u) ∧ (∀ j, ((314 ≤ j ∧ j < 326) ∨ (392 ≤ j ∧ j < 456) ∨ (459 ≤ j ∧ j < 480) ∨ (156 ≤ j ∧ j < 300)) → u j = nI 0)
def PI (n : Nat) (s : Ps) : Prop := s.1 ≤ n ∧ GU s.2.2.1 ∧ (s.2.1 = none → 6 * rN s.2.2.1 ≤ s.1) ∧ ∀ q, s.2.1 = some q → q ≤ n
theorem GU_w {u : Nat → Int32} {a c : Nat} (h : GU u) (ha : a < 12) (hc : c ≤ 99) : GU (upd u a (nI c)) ∧ rN (upd u a (nI c)) = rN u ∧ sN (upd u a (nI c)) = sN u ∧ eN (upd u a (nI c)) = eN u := by
  obtain ⟨⟨v1, v2, v3, v4, v5, v6, v7⟩, h2, h3⟩ := h
  have ne : ∀ j, 12 ≤ j → upd u a (nI c) j = u j := fun j hj => upd_ne (by omega)
  have e1 : rN (upd u a (nI c)) = rN u := by unfold rN; rw [ne 458 (by omega)]
  have e2 : sN (upd u a (nI c)) = sN u := by unfold sN; rw [ne 456 (by omega)]
  have e3 : eN (upd u a (nI c)) = eN u := by unfold eN; rw [ne 457 (by omega)]
  have e4 : ∀ x y, rd (upd u a (nI c)) x y = rd u x y := fun x y => by unfold rd; rw [ne _ (by omega)]
  have e5 : ∀ x y, sh (upd u a (nI c)) x y = sh u x y := fun x y => by unfold sh; rw [ne _ (by omega)]
  have e6 : ∀ s, sp (upd u a (nI c)) s = sp u s := fun s => by unfold sp; rw [ne _ (by omega)]
  have e7 : ∀ e, po (upd u a (nI c)) e = po u e := fun s => by unfold po; rw [ne _ (by omega)]
  have e8 : ∀ k, lo (upd u a (nI c)) k = lo u k ∧ hi (upd u a (nI c)) k = hi u k := fun s => by unfold lo hi; rw [ne _ (by omega)]; exact ⟨rfl, rfl⟩
  refine ⟨⟨⟨?_, ?_, fun x hx => ?_, ?_, ?_, ?_, ?_⟩, ?_, fun j hj => by rw [ne j (by omega)]; exact h3 j hj⟩, e1, e2, e3⟩
  · rw [e2, ne _ (by omega)]; exact v1
  · rw [e1, ne _ (by omega)]; exact v2
  · unfold wt
    by_cases q : x = a
    · subst q; rw [upd_eq, tn_nI (by omega)]; exact ⟨rfl, hc⟩
    · rw [upd_ne q]; exact v3 x hx
  · rw [e2]; intro s hs; rw [e6, ne _ (by omega)]; exact v4 s hs
  · rw [e2]; intro s s' hs hs'; rw [e6, e6]; exact v5 s s' hs hs'
  · intro x y hx hy
    rw [e4, e4, e5, e5, ne _ (by omega), ne _ (by omega)]
    exact v6 x y hx hy
  · obtain ⟨t1, t2, t3, t4, t5⟩ := v7
    unfold VT
    rw [e1]
    refine ⟨fun k hk => ?_, fun k k' hk hk' => ?_, fun x y hxy hy => ?_, fun x hx => ?_, fun x y hx hy => ?_⟩
    · rw [(e8 k).1, (e8 k).2, e4, ne _ (by omega)]; exact t1 k hk
    · rw [(e8 k).1, (e8 k).2, (e8 k').1, (e8 k').2]; exact t2 k k' hk hk'
    · rw [e4]; intro z
      obtain ⟨k, k1, k2, k3⟩ := t3 x y hxy hy z
      exact ⟨k, k1, by rw [(e8 k).1]; exact k2, by rw [(e8 k).2]; exact k3⟩
    · rw [e4]; exact t4 x hx
    · rw [e4, e5]; exact t5 x y hx hy
  · rw [e3, e2, ne 457 (by omega)]
    refine ⟨h2.1, fun e he => ?_⟩
    rw [e7, ne _ (by omega)]; exact h2.2 e he
theorem GU_s {u : Nat → Int32} {a : Nat} (h : GU u) (ha : a < 12) (hs8 : sN u < 8) (he : eN u = 0) (hn : ∀ s, s < sN u → ¬ u (300 + s) = nI a) : GU (adS u a) ∧ rN (adS u a) = rN u ∧ sN (adS u a) = sN u + 1 ∧ eN (adS u a) = eN u := by
  obtain ⟨⟨v1, v2, v3, v4, v5, v6, v7⟩, h2, h3⟩ := h
  have ne : ∀ j, j ≠ 456 → (j < 300 ∨ 308 ≤ j) → adS u a j = u j := fun j h1 h2 => by unfold adS; rw [upd_ne h1, upd_ne (by omega)]
  have e2' : adS u a 456 = nI (sN u + 1) := upd_eq _ _ _
  have e1 : rN (adS u a) = rN u := by unfold rN; rw [ne 458 (by omega) (by omega)]
  have e2 : sN (adS u a) = sN u + 1 := by show tn (adS u a 456) = _; rw [e2', tn_nI (by omega)]
  have e3 : eN (adS u a) = eN u := by unfold eN; rw [ne 457 (by omega) (by omega)]
  have e4 : ∀ x y, x < 12 → y < 12 → rd (adS u a) x y = rd u x y := fun x y hx hy => by unfold rd; rw [ne _ (by omega) (by omega)]
  have e5 : ∀ x y, x < 12 → y < 12 → sh (adS u a) x y = sh u x y := fun x y hx hy => by unfold sh; rw [ne _ (by omega) (by omega)]
  have e6 : ∀ s, s < 8 → adS u a (300 + s) = if s = sN u then nI a else u (300 + s) := fun s hs => by
    unfold adS
    rw [upd_ne (by omega)]
    by_cases q : s = sN u
    · subst q; rw [upd_eq, if_pos rfl]
    · rw [upd_ne (by omega), if_neg q]
  have e8 : ∀ k, k < 66 → lo (adS u a) k = lo u k ∧ hi (adS u a) k = hi u k := fun k hk => by unfold lo hi; rw [ne _ (by omega) (by omega)]; exact ⟨rfl, rfl⟩
  have spn : ∀ s, s < 8 → sp (adS u a) s = if s = sN u then a else sp u s := fun s hs => by
    unfold sp
    rw [e6 s hs]
    by_cases q : s = sN u
    · rw [if_pos q, if_pos q, tn_nI (by omega)]
    · rw [if_neg q, if_neg q]
  refine ⟨⟨⟨?_, ?_, fun x hx => ?_, fun s hs => ?_, fun s s' hs hs' hq => ?_, ?_, ?_⟩, ?_, fun j hj => by rw [ne j (by omega) (by omega)]; exact h3 j hj⟩, e1, e2, e3⟩
  · rw [e2, e2']; exact ⟨rfl, by omega⟩
  · rw [e1, ne _ (by omega) (by omega)]; exact v2
  · unfold wt; rw [ne x (by omega) (by omega)]; exact v3 x hx
  · rw [e2] at hs
    rw [spn s (by omega), e6 s (by omega)]
    by_cases q : s = sN u
    · rw [if_pos q, if_pos q]; exact ⟨rfl, ha⟩
    · rw [if_neg q, if_neg q]; exact v4 s (by omega)
  · rw [e2] at hs hs'
    rw [spn s (by omega), spn s' (by omega)] at hq
    by_cases q : s = sN u
    · by_cases q' : s' = sN u
      · omega
      · rw [if_pos q, if_neg q'] at hq
        exact absurd (by rw [(v4 s' (by omega)).1, hq]) (hn s' (by omega))
    · by_cases q' : s' = sN u
      · rw [if_neg q, if_pos q'] at hq
        exact absurd (by rw [(v4 s (by omega)).1, hq]) (hn s (by omega))
      · rw [if_neg q, if_neg q'] at hq
        exact v5 s s' (by omega) (by omega) hq
  · intro x y hx hy
    rw [e4 x y hx hy, e4 y x hy hx, e5 x y hx hy, e5 y x hy hx, ne _ (by omega) (by omega), ne _ (by omega) (by omega)]
    exact v6 x y hx hy
  · obtain ⟨t1, t2, t3, t4, t5⟩ := v7
    have r66 := v2.2
    unfold VT
    rw [e1]
    refine ⟨fun k hk => ?_, fun k k' hk hk' => ?_, fun x y hxy hy => ?_, fun x hx => ?_, fun x y hx hy => ?_⟩
    · have z := t1 k hk
      rw [(e8 k (by omega)).1, (e8 k (by omega)).2, e4 _ _ (by omega) (by omega), ne _ (by omega) (by omega)]; exact z
    · rw [(e8 k (by omega)).1, (e8 k (by omega)).2, (e8 k' (by omega)).1, (e8 k' (by omega)).2]; exact t2 k k' hk hk'
    · rw [e4 x y (by omega) hy]; intro z
      obtain ⟨k, k1, k2, k3⟩ := t3 x y hxy hy z
      exact ⟨k, k1, by rw [(e8 k (by omega)).1]; exact k2, by rw [(e8 k (by omega)).2]; exact k3⟩
    · rw [e4 x x hx hx]; exact t4 x hx
    · rw [e4 x y hx hy, e5 x y hx hy]; exact t5 x y hx hy
  · rw [e3, ne 457 (by omega) (by omega)]
    refine ⟨h2.1, fun e he' => ?_⟩
    omega
theorem GU_e {u : Nat → Int32} {s : Nat} (h : GU u) (hs : s < sN u) (he6 : eN u < 6) : GU (adE u s) ∧ rN (adE u s) = rN u ∧ sN (adE u s) = sN u ∧ eN (adE u s) = eN u + 1 := by
  obtain ⟨hv, h2, h3⟩ := h
  have ne : ∀ j, j ≠ 457 → (j < 308 ∨ 314 ≤ j) → adE u s j = u j := fun j h1 h2 => by unfold adE; rw [upd_ne h1, upd_ne (by omega)]
  have e3' : adE u s 457 = nI (eN u + 1) := upd_eq _ _ _
  have e3 : eN (adE u s) = eN u + 1 := by show tn (adE u s 457) = _; rw [e3', tn_nI (by omega)]
  have cg := VL_cg (w := u) (w' := adE u s) (fun j hj => ne j (by omega) (by omega))
  have e6 : ∀ e, e < 6 → adE u s (308 + e) = if e = eN u then nI s else u (308 + e) := fun e he => by
    unfold adE
    rw [upd_ne (by omega)]
    by_cases q : e = eN u
    · subst q; rw [upd_eq, if_pos rfl]
    · rw [upd_ne (by omega), if_neg q]
  refine ⟨⟨cg.1.mpr hv, ⟨by rw [e3, e3']; exact ⟨rfl, by omega⟩, fun e he => ?_⟩, fun j hj => by rw [ne j (by omega) (by omega)]; exact h3 j hj⟩, cg.2.2.1, cg.2.1, e3⟩
  rw [e3] at he
  have s8 := hv.1.2
  have pe : po (adE u s) e = tn (adE u s (308 + e)) := rfl
  rw [pe, e6 e (by omega), cg.2.1]
  by_cases q : e = eN u
  · rw [if_pos q, tn_nI (by omega)]; exact ⟨rfl, hs⟩
  · rw [if_neg q]; exact h2.2 e (by omega)
