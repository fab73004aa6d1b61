/-! THE REFERENCE READS: engines, lines, the whole text -/
theorem stE_n {T : Nat → Int32} {n : Nat} : ∀ k (s : Ps), s.1 < n → GU s.2.2.1 → 0 < sN s.2.2.1 → eN s.2.2.1 + (k + 1) = 6 → (stE T n (k + 1) s).2.1 = none → sN (stE T n (k + 1) s).2.2.1 = sN s.2.2.1 ∧ 0 < eN (stE T n (k + 1) s).2.2.1 := by
  intro k
  induction k with
  | zero => ?_
  | succ k ih => ?_
  all_goals
    intro s hp hg h0 hk hf
    unfold stE at hf ⊢
    rcases nms_ok (T := T) (n := n) (lo := 0) (hi := sN s.2.2.1 - 1) (s := (s.1 + 1, s.2)) (by show s.1 + 1 ≤ n; omega) with ⟨a1, ⟨q, a2, -⟩, -⟩ | ⟨a, a1, -, -, a2, a3, a4, a5, a6⟩
    · rw [a1] at hf
      dsimp only at hf
      rw [a2] at hf; cases hf
    · rw [a1] at hf ⊢
      dsimp only at hf ⊢
      generalize nms T n 0 (sN s.2.2.1 - 1) (s.1 + 1, s.2) = x at *
      obtain ⟨g1, g2', g3, g4⟩ := GU_e hg (show a < sN s.2.2.1 by omega) (by omega)
      by_cases c : sg T n x.2.1 = nI 44
      · rw [if_pos c] at hf ⊢
        first
        | exact ⟨g3, by show 0 < eN (adE s.2.2.1 a); omega⟩
        | (have := ih (x.2.1, none, adE s.2.2.1 a, s.2.2.2) (sg_lt (by omega) c) g1 (by show 0 < sN (adE s.2.2.1 a); omega) (by show eN (adE s.2.2.1 a) + (k + 1) = 6; omega) hf
           exact ⟨this.1.trans g3, this.2⟩)
      · rw [if_neg c]
        exact ⟨g3, by show 0 < eN (adE s.2.2.1 a); omega⟩
/-- the flags tell whether stations, engines have been told -/
def FLg (M : Mem) (s : Ps) : Prop := s.2.1 = none → M.1 52 13 = nI (if sN s.2.2.1 = 0 then 0 else 1) ∧ M.1 52 14 = nI (if eN s.2.2.1 = 0 then 0 else 1)
def FrL (A B : Mem) : Prop := B.2 = A.2 ∧ (∀ c, c ≠ 52 → c ≠ 57 → B.1 c = A.1 c) ∧ ∀ j, j < 10 → B.1 52 j = A.1 52 j
theorem FrL.t {A B C : Mem} (h : FrL A B) (g : FrL B C) : FrL A C := ⟨g.1.trans h.1, fun c h1 h2 => (g.2.1 c h1 h2).trans (h.2.1 c h1 h2), fun j h1 => (g.2.2 j h1).trans (h.2.2 j h1)⟩
theorem FrM.l {A B : Mem} (h : FrM A B) : FrL A B := ⟨h.1, h.2.1, fun j hj => h.2.2 j (by omega) (by omega) (by omega)⟩
theorem FrL_52 (M : Mem) {k : Nat} (v : Int32) (hk : 10 ≤ k) : FrL M (si M 52 k v) := ⟨rfl, fun c h1 h2 => si_c h1, fun j h1 => by rw [si_s, upd_ne (by omega)]⟩
theorem MR_o {T : Nat → Int32} {n : Nat} {M : Mem} {s : Ps} {k : Nat} {v : Int32} (hk : k = 12 ∨ k = 13 ∨ k = 14) (h : MR T n M s) : MR T n (si M 52 k v) s := by
  obtain ⟨⟨h1, h2, h3⟩, h4, h5, h6⟩ := h
  exact ⟨⟨by rw [si_s, upd_ne (by omega)]; exact h1, by rw [si_s, upd_ne (by omega)]; exact h2, by rw [si_s, upd_ne (by omega)]; exact h3⟩, h4, by rw [si_s, upd_ne (by omega)]; exact h5, h6⟩
section S67
variable {pl : Option Nat} {tl : List LC} {d : Nat} {M : Mem} {t : Nat} {T : Nat → Int32} {n : Nat} {s : Ps}
theorem m_stE {Q : Mem → Prop} (hn : n ≤ 300) : ∀ k {M : Mem} {s : Ps}, MR T n M s → s.1 < n → s.2.1 = none → GU s.2.2.1 → 0 < sN s.2.2.1 → eN s.2.2.1 + (k + 1) = 6 → 6 * rN s.2.2.1 ≤ s.1 → (∀ M', MRl T n M' (stE T n (k + 1) s) → FrM M M' → Q M') → fx (LY pl tl) (d + 2) m_X11_readsEngines (qV Q) (28, [some (.ref 52), none], [], M) := by
  intro k
  induction k with
  | zero => ?_
  | succ k ih => ?_
  all_goals
    intro M s hc0 hp hf hg he hk hr h
    have s8 := hg.1.1.2
    refine c_X11_readsEngines_28 ?_
    have v456 : M.1 57 456 = nI (sN s.2.2.1) := by rw [hc0.2.1]; exact hg.1.1.1
    rw [hc0.1.1, nI_add, v456, z_sub (by omega)]
    have hc := MR_10 (p := s.1 + 1) hc0
    have f0 := FrM_52 M (k := 10) (nI (s.1 + 1)) (by omega)
    generalize si M 52 10 (nI (s.1 + 1)) = M0 at hc f0 ⊢
    have P1 : PI n (s.1 + 1, s.2) := ⟨by show s.1 + 1 ≤ n; omega, hg, fun _ => by show 6 * rN s.2.2.1 ≤ s.1 + 1; omega, fun q z => (by rw [show (s.1 + 1, s.2).2.1 = s.2.1 from rfl, hf] at z; cases z)⟩
    refine m_number hc P1 hn (by omega) (by omega) (fun M2 c2 f2 => ?_)
    have P2 : PI n (nms T n 0 (sN s.2.2.1 - 1) (s.1 + 1, s.2)).2 := PI_nms P1
    have n1 := nms_ok (T := T) (n := n) (lo := 0) (hi := sN s.2.2.1 - 1) (s := (s.1 + 1, s.2)) P1.1
    have F2 := f0.t f2
    unfold stE at h
    generalize nms T n 0 (sN s.2.2.1 - 1) (s.1 + 1, s.2) = x at *
    rw [c2.1.2.1, fvO_m1 (fun q z => by have := P2.2.2.2 q z; omega)]
    rcases n1 with ⟨w1, ⟨q, w2, -⟩, -⟩ | ⟨a, w1, w2, w3, w4, w5, w6, w7, w8⟩
    · rw [w1] at h
      refine ⟨fun z => ?_, fun _ => h M2 (Or.inl c2) F2⟩
      rw [w2] at z; cases z
    · rw [w1] at h ⊢
      dsimp only at h w6 w8
      have e22 : x.2.2.2 = s.2.2 := w8
      have sv : nvl 0 (some a) = nI a := rfl
      rw [sv]
      obtain ⟨g1, g2', g3, g4⟩ := GU_e hg (show a < sN s.2.2.1 by omega) (by omega)
      have u57 : M2.1 57 = s.2.2.1 := by rw [c2.2.1, e22]
      have u457 : s.2.2.1 457 = nI (eN s.2.2.1) := hg.2.1.1.1
      refine ⟨fun _ => ?_, fun z => absurd w5 z⟩
      rw [u57, u457, nI_add 308 _, z_cl (show 308 + eN s.2.2.1 < 2147483648 by omega)]
      have g0 : (si M2 57 (308 + eN s.2.2.1) (nI a)).1 57 457 = nI (eN s.2.2.1) := by rw [si_s, upd_ne (by omega), u57]; exact u457
      rw [g0, nI_add]
      have em : si (si M2 57 (308 + eN s.2.2.1) (nI a)) 57 457 (nI (eN s.2.2.1 + 1)) = sa M2 57 (adE s.2.2.1 a) := by
        unfold adE
        simp only [si_sa, sa_s, sa_sa, u57]
      rw [em]
      have c4 : MR T n (sa M2 57 (adE s.2.2.1 a)) (x.2.1, none, adE s.2.2.1 a, s.2.2.2) := by
        have := MR_57 (u := adE s.2.2.1 a) c2
        rw [w5, e22] at this
        exact this
      have F4 : FrM M (sa M2 57 (adE s.2.2.1 a)) := F2.t (FrM_sa _ _)
      generalize sa M2 57 (adE s.2.2.1 a) = M4 at c4 F4 ⊢
      refine ⟨(z_in (by omega) (by omega)).mpr (by omega), m_sees (s := (x.2.1, none, adE s.2.2.1 a, s.2.2.2)) hn (by show x.2.1 ≤ 302; omega) c4 ?_⟩
      have m4 : M4.1 52 11 = -1 := c4.1.2.1
      have k4 : M4.1 57 457 = nI (eN s.2.2.1 + 1) := by rw [c4.2.1]; show adE s.2.2.1 a 457 = _; rw [g1.2.1.1.1, g4]
      dsimp only
      rw [k4, z_eq (by omega) (by omega)]
      refine ⟨fun y => ⟨fun y2 => absurd m4 y2, fun _ => m_sees (s := (x.2.1, none, adE s.2.2.1 a, s.2.2.2)) hn (by show x.2.1 ≤ 302; omega) c4 ⟨fun y3 => absurd y3 y, fun _ => ?_⟩⟩, fun y => ⟨fun y2 => ⟨fun y3 => absurd m4 y3, fun _ => m_sees (s := (x.2.1, none, adE s.2.2.1 a, s.2.2.2)) hn (by show x.2.1 ≤ 302; omega) c4 ⟨fun y3 => ?_, fun y3 => absurd y y3⟩⟩, fun y2 => ?_⟩⟩
      · rw [if_neg y] at h
        exact h M4 (Or.inl c4) F4
      · rw [if_pos y] at h
        first
        | omega
        | exact ih c4 (sg_lt (by omega) y) rfl g1 (by show 0 < sN (adE s.2.2.1 a); omega) (by show eN (adE s.2.2.1 a) + (k + 1) = 6; omega) (by show 6 * rN (adE s.2.2.1 a) ≤ x.2.1; omega) (fun M' c' f' => h M' c' (F4.t f'))
      · first
        | omega
        | (rw [if_pos y] at h
           rw [c4.1.1]
           refine m_fault (s := (x.2.1, none, adE s.2.2.1 a, s.2.2.2)) (q := x.2.1) c4 (fun q z => by cases z) hn (fun M5 c5 f5 _ => ?_)
           have nm : ¬ M5.1 52 11 = -1 := fun y5 => (z_m1 (show x.2.1 < 2147483648 by omega)).mp (by rw [c5.1.2.1] at y5; exact y5)
           exact ⟨fun _ => h M5 (Or.inr ⟨rfl, y, c5⟩) (F4.t f5), fun y5 => absurd y5 nm⟩)
theorem m_readsLine {Q : Mem → Prop} (hc : MR T n M s) (hp : PI n s) (hn : n ≤ 300) (hf : s.2.1 = none) (hfl : FLg M s) (h : ∀ M', MRl T n M' (rdL T n s) → FLg M' (rdL T n s) → FrL M M' → M'.1 52 12 = M.1 52 12 + nI 1 → Q M') : exV (LY pl tl) (d + 4) 152 [.ref 52] M Q := by
  have p1 := hp.1
  have hr := hp.2.2.1 hf
  have s8 := hp.2.1.1.1.2
  have e6 := hp.2.1.2.1.1.2
  obtain ⟨fl1, fl2⟩ := hfl hf
  have fin : ∀ M', MRl T n M' (rdL T n s) → FLg M' (rdL T n s) → FrL M M' → M'.1 52 12 = M.1 52 12 → Q (si M' 52 12 (M'.1 52 12 + nI 1)) := fun M' c' fl' f' l' => h _ (by
      rcases c' with c' | ⟨c1, c2, c3⟩
      · exact Or.inl (MR_o (by omega) c')
      · exact Or.inr ⟨c1, c2, MR_o (by omega) c3⟩) (fun z => by
        obtain ⟨y1, y2⟩ := fl' z
        exact ⟨by rw [si_s, upd_ne (by omega)]; exact y1, by rw [si_s, upd_ne (by omega)]; exact y2⟩) (f'.t (FrL_52 _ _ (by omega))) (by rw [si_s, upd_eq, l'])
  have flt : ∀ M', MR T n M' (rdL T n s) → (rdL T n s) = rfs s.1 s → FrM M M' → Q (si M' 52 12 (M'.1 52 12 + nI 1)) := fun M' c' e f' => fin M' (Or.inl c') (fun z => by rw [e, rfs_n hf] at z; cases z) f'.l (f'.2.2 12 (by omega) (by omega) (by omega))
  refine e_X11_readsLine (m_sees hn (by omega) hc ⟨fun z => ?_, fun z => ?_, fun z => ?_, fun z => ?_, fun z => ?_, trivial⟩)
  · have eL : rdL T n s = rfs s.1 s := by
      unfold rdL
      rw [if_neg z.2.1, if_neg z.2.2.2.1, if_neg z.2.2.1, if_neg z.1]
    rw [hc.1.1]
    exact m_fault hc hp.2.2.2 hn (fun M' c' f' _ => flt M' (by rw [eL]; exact c') eL f')
  · have hlt := sg_lt (by omega) z
    have eL : rdL T n s = if sN s.2.2.1 = 0 ∨ 0 < eN s.2.2.1 then rfs s.1 s else stE T n 6 s := by
      unfold rdL
      rw [z, if_neg (by decide), if_neg (by decide), if_neg (by decide), if_pos rfl]
    refine e_X11_readsEngines ?_
    rw [fl1, fl2, hc.1.1, z_eq0 (by split <;> omega), z_eq0 (by split <;> omega)]
    have rf' : (sN s.2.2.1 = 0 ∨ 0 < eN s.2.2.1) → exV (LY pl tl) (d + 2) 144 [.ref 52, .int (nI s.1)] M (fun M1 => Q (si M1 52 12 (M1.1 52 12 + nI 1))) := fun y => m_fault hc hp.2.2.2 hn (fun M' c' f' _ => flt M' (by rw [eL, if_pos y]; exact c') (by rw [eL, if_pos y]) f')
    refine ⟨fun y => rf' (Or.inr ?_), fun y => ⟨fun y2 => ?_, fun y2 => rf' (Or.inl ?_)⟩⟩
    · split at y
      · exact absurd rfl y
      · omega
    · have z1 : ¬ (sN s.2.2.1 = 0 ∨ 0 < eN s.2.2.1) := by
        intro q
        rcases q with q | q
        · rw [if_pos q] at y2; exact y2 rfl
        · rw [if_neg (by omega)] at y; cases y
      rw [if_neg z1] at eL
      refine m_stE (d := d) hn 5 (MR_o (k := 14) (v := nI 1) (by omega) hc) hlt hf hp.2.1 (by omega) (by omega) hr (fun M' c' f' => fin M' (by rw [eL]; exact c') (fun q => ?_) ((FrL_52 M (k := 14) (nI 1) (by omega)).t f'.l) ?_)
      · rw [eL] at q ⊢
        obtain ⟨k1, k2⟩ := stE_n (T := T) 5 s hlt hp.2.1 (by omega) (by omega) q
        refine ⟨?_, ?_⟩
        · rw [f'.2.2 13 (by omega) (by omega) (by omega), si_s, upd_ne (by omega), fl1, k1]
        · rw [f'.2.2 14 (by omega) (by omega) (by omega), si_s, upd_eq, if_neg (by show ¬ eN (stE T n (5 + 1) s).2.2.1 = 0; omega)]
      · rw [f'.2.2 12 (by omega) (by omega) (by omega), si_s, upd_ne (by omega)]
    · split at y2
      · assumption
      · cases y2
  · have hlt := sg_lt (by omega) z
    have eL : rdL T n s = rdR T n (s.1 + 1, s.2) := by unfold rdL; rw [if_pos z]
    refine m_readsRoad hc ⟨by show s.1 + 1 ≤ n; omega, hp.2.1, fun _ => by show 6 * rN s.2.2.1 ≤ s.1 + 1; omega, hp.2.2.2⟩ hr hn (fun M' c' f' => fin M' (Or.inl (by rw [eL]; exact c')) (fun q => ?_) f'.l (f'.2.2 12 (by omega) (by omega) (by omega)))
    rw [eL] at q ⊢
    rw [f'.2.2 13 (by omega) (by omega) (by omega), f'.2.2 14 (by omega) (by omega) (by omega), fl1, fl2]
    rcases rdR_c (T := T) (n := n) (s := (s.1 + 1, s.2)) (by show s.1 + 1 ≤ n; omega) hf with ⟨⟨q', w, -⟩, -⟩ | ⟨a, b, c, p', e, h1, h2, h3, h4, h5, h6, h7, h8⟩
    · rw [w] at q; cases q
    · rw [e]
      dsimp only at h4 ⊢
      obtain ⟨g1, g2', g3, g4⟩ := GU_r hp.2.1 h1 h2 h3 h4 h5 h6 (by omega)
      rw [g3, g4]
      exact ⟨rfl, rfl⟩
  · have hlt := sg_lt (by omega) z
    have eL : rdL T n s = if 0 < sN s.2.2.1 then rfs s.1 s else stS T n 8 s := by
      unfold rdL
      rw [z, if_neg (by decide), if_neg (by decide), if_pos rfl]
    refine e_X11_readsStations ?_
    rw [fl1, hc.1.1, z_eq0 (by split <;> omega)]
    refine ⟨fun y => ?_, fun y => ?_⟩
    · have z1 : sN s.2.2.1 = 0 := by
        split at y
        · assumption
        · cases y
      rw [if_neg (by omega)] at eL
      have e0 := GU_SE hp.2.1 z1
      refine m_stS (d := d) hn 7 (MR_o (k := 13) (v := nI 1) (by omega) hc) hlt hf hp.2.1 e0 (by omega) hr (fun M' c' f' => fin M' (by rw [eL]; exact c') (fun q => ?_) ((FrL_52 M (k := 13) (nI 1) (by omega)).t f'.l) ?_)
      · rw [eL] at q ⊢
        obtain ⟨-, k1, k2⟩ := (stS_ok (T := T) (n := n) 8 s hlt hf hp.2.1 e0 (by omega) (by omega) hr).2 q
        refine ⟨?_, ?_⟩
        · rw [f'.2.2 13 (by omega) (by omega) (by omega), si_s, upd_eq, if_neg (by omega)]
        · rw [f'.2.2 14 (by omega) (by omega) (by omega), si_s, upd_ne (by omega), fl2, k2, e0]
      · rw [f'.2.2 12 (by omega) (by omega) (by omega), si_s, upd_ne (by omega)]
    · have zz : 0 < sN s.2.2.1 := by
        split at y
        · exact absurd rfl y
        · omega
      rw [if_pos zz] at eL
      exact m_fault hc hp.2.2.2 hn (fun M' c' f' _ => flt M' (by rw [eL]; exact c') eL f')
  · have hlt := sg_lt (by omega) z
    have eL : rdL T n s = rdW T n (s.1 + 1, s.2) := by unfold rdL; rw [z, if_neg (by decide), if_pos rfl]
    refine m_readsWeight hc ⟨by show s.1 + 1 ≤ n; omega, hp.2.1, fun _ => by show 6 * rN s.2.2.1 ≤ s.1 + 1; omega, hp.2.2.2⟩ hn (fun M' c' f' => fin M' (Or.inl (by rw [eL]; exact c')) (fun q => ?_) f'.l (f'.2.2 12 (by omega) (by omega) (by omega)))
    rw [eL] at q ⊢
    rw [f'.2.2 13 (by omega) (by omega) (by omega), f'.2.2 14 (by omega) (by omega) (by omega), fl1, fl2]
    rcases rdW_c (T := T) (n := n) (s := (s.1 + 1, s.2)) (by show s.1 + 1 ≤ n; omega) hf with ⟨⟨q', w, -⟩, -⟩ | ⟨a, c, p', e, h1, h2, h3, h4⟩
    · rw [w] at q; cases q
    · rw [e]
      dsimp only
      obtain ⟨g1, g2', g3, g4⟩ := GU_w hp.2.1 h1 h2
      rw [g3, g4]
      exact ⟨rfl, rfl⟩
end S67
