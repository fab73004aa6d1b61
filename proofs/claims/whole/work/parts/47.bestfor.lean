/-! bestFor -/
theorem sa_comm {M : Mem} {i j : Nat} (h : i ≠ j) (f g : Nat → Int32) : sa (sa M i f) j g = sa (sa M j g) i f := by
  unfold sa
  refine Prod.ext ?_ rfl
  funext a
  by_cases h1 : a = i
  · subst h1; simp [h]
  · by_cases h2 : a = j
    · subst h2; simp [h1]
    · simp [h1, h2]
theorem si_in {M : Mem} {i j k : Nat} (h : i ≠ j) (g f : Nat → Int32) (v : Int32) : si (sa (sa M i g) j f) i k v = sa (sa M i (upd g k v)) j f := by
  rw [si_sa, sa_comm h.symm, sa_sa, sa_n h, sa_s]
/-- the engines of a row that reach a node -/
def clL (w : Nat → Int32) (r : Nat) (l : List Nat) : Nat → Nat → Nat
  | 0, _ => 0
  | k + 1, a => clL w r l k a + bf (rM w r (ix l k)) a
theorem clL_le (w : Nat → Int32) (r : Nat) (l : List Nat) (a : Nat) : ∀ k, clL w r l k a ≤ k
  | 0 => Nat.le_refl _
  | k + 1 => by
    have := clL_le w r l a k
    have := bf_le (rM w r (ix l k)) a
    show clL w r l k a + bf (rM w r (ix l k)) a ≤ k + 1
    omega
def vlL (w : Nat → Int32) (r : Nat) (x : Int32) (l : List Nat) : Int32 := eS w x (clL w r l l.length) 12
theorem vlL_pos {w : Nat → Int32} {r p : Nat} (hp : p ≤ 1000) (hv : VL w) (l : List Nat) : 0 ≤ vlL w r (nI p) l := by
  obtain ⟨k, hk, e⟩ := eS_ok (c := clL w r l l.length) hp hv 12 (by omega)
  unfold vlL
  rw [e]
  exact nI_pos' (by omega)
def Gok (n : Nat) (G : Nat → Int32) (o : Option (List Nat)) : Prop := ∀ b, o = some b → b.length = n ∧ ∀ j, j < n → G j = nI (ix b j)
section S47
variable {pl : Option Nat} {tl : List LC} {d : Nat} {M : Mem} {t : Nat}
theorem s_fill_49 {Q : Mem → Prop} {v : Int32} (h : Q (sa M 49 (pfx 6 (fun _ => v) (M.1 49)))) : exV (LY pl tl) (d + 1) 1 [.ref 49, .int v] M Q := by
  refine e_J_fill_49 ?_
  have e0 : M = sa M 49 (pfx 0 (fun _ => v) (M.1 49)) := by rw [pfx_0, sa_id]
  have st := lp_0 (X := fx (LY pl tl) d m_J_fill (qV Q)) (fun i => (5, [some (.ref 49), some (.int v), some (.int (nI i)), some (.int (nI 6))], [], sa M 49 (pfx i (fun _ => v) (M.1 49)))) 6 (fun i hi hx => ?_) ?_
  · rw [← e0] at st; exact st
  · refine c_J_fill_49_5 (br_f (nI_ge hi (by omega)) ⟨(z_in (by omega) (by omega)).mpr hi, ?_⟩)
    rw [z_cl (by omega), sa_upd, pfx_s i (fun _ => v) (M.1 49) rfl, nI_add]
    exact hx
  · exact c_J_fill_49_5 (br_t (nI_le (Nat.le_refl _) (by omega)) h)
theorem s_seekBest {Q : Int32 → Mem → Prop} {w : Nat → Int32} {p r n : Nat} (hp : p ≤ 1000) (hv : V w t) (hr : RC 15 M w) (h50 : ∀ j, j ≤ 6 → M.1 50 j = bE (nI p) j) (h51 : ∀ s, s < sN w → M.2 51 s = lN (hxN (bf (rM w r s)) 12)) (hn1 : 1 ≤ n) (hn : n ≤ 6) (hs1 : 1 ≤ sN w) (h : ∀ F G b, skL (vlL w r (nI p)) (sN w) 1999 none (List.replicate n 0) = some b → b.length = n → (∀ j, j < n → G j = nI (ix b j)) → Q (vlL w r (nI p) b) (sa (sa M 48 G) 49 F)) : exI (LY pl tl) (d + 2) 61 [.ref 47, .ref 16, .int (nI n)] M Q := by
  have s8 := hv.1.1.2
  refine e_X0_seekBest_16 (s_fill_49 ?_)
  have en : (if nI 0 < (if nI 6 < nI n then nI 6 else nI n) then (if nI 6 < nI n then nI 6 else nI n) else nI 0) = nI n := by
    rw [if_neg (nI_nlt hn (by omega)), if_pos (nI_lt (by omega) (by omega))]
  rw [en]
  generalize hval : vlL w r (nI p) = val at h
  have vpos : ∀ l, 0 ≤ val l := fun l => by rw [← hval]; exact vlL_pos hp hv.1 l
  have key : ∀ k l o F G row, ends (sN w) k l = true → row + k ≤ 1999 → l.length = n → (∀ j, j < n → ix l j < sN w) → (∀ j, j < n → F j = nI (ix l j)) → Gok n G o → (∀ F' G' b, skL val (sN w) k o l = some b → b.length = n → (∀ j, j < n → G' j = nI (ix b j)) → Q (val b) (sa (sa M 48 G') 49 F')) → fx (LY pl tl) (d + 1) m_X0_seekBest (qI Q) (28, [some (.ref 47), some (.ref 16), none, some (.int (nI n)), some (.int (mvL val o)), some (.int (nI 1)), some (.int (nI row)), none, none, none], [], sa (sa M 48 G) 49 F) := by
    intro k
    induction k with
    | zero => intro l o F G row he; cases he
    | succ k ih =>
      intro l o F G row he hrow hl hrng hF hG hQ
      subst hl
      refine c_X0_seekBest_16_28 (br_f (by decide) (br_f (nI_ge (by omega) (by omega)) ?_))
      have z0 : lN 0 = lN (hxN (clL w r l 0) 12) := by rw [hx_cg (c := clL w r l 0) (c' := fun _ => 0) 12 (fun a ha => rfl)]; rfl
      rw [z0]
      refine lp_0 (X := fx (LY pl tl) (d + 1) m_X0_seekBest (qI Q)) (fun i => (47, [some (.ref 47), some (.ref 16), none, some (.int (nI l.length)), some (.int (mvL val o)), none, some (.int (nI row)), some (.long (lN (hxN (clL w r l i) 12))), none, some (.int (nI i))], [], sa (sa M 48 G) 49 F)) l.length (fun i hi hx => ?_) ?_
      · refine c_X0_seekBest_16_47 (br_f (nI_ge hi (by omega)) ⟨(z_in (by omega) (by omega)).mpr (by omega), ?_⟩)
        have hri := hrng i hi
        rw [z_cl (by omega), sa_s, hF i hi, nI_add i 1]
        refine s_hitsOf (by omega) ?_
        have e51 : (sa (sa M 48 G) 49 F).2 51 (ix l i) = lN (hxN (bf (rM w r (ix l i))) 12) := h51 _ hri
        rw [e51, lN_add, hx_add]
        exact hx
      · refine c_X0_seekBest_16_47 (br_t (nI_le (Nat.le_refl _) (by omega)) (s_expected (w := w) (x := nI p) (c := clL w r l l.length) (fun a ha => by have := clL_le w r l a l.length; omega) h50 hr.1.1 ?_))
        have hvl : eS w (nI p) (clL w r l l.length) 12 = val l := by rw [← hval]; rfl
        rw [hvl, nI_add row 1]
        obtain ⟨u1, u2⟩ := upL_cmp vpos l o
        -- what the next row does
        have nxt : ∀ (o' : Option (List Nat)) (G' : Nat → Int32), upL val l o = o' → Gok l.length G' o' → exI (LY pl tl) (d + 1) 62 [.ref 47, .int (nI l.length), .int (nI (sN w))] (sa (sa M 48 G') 49 F) (fun r2 M2 => fx (LY pl tl) (d + 1) m_X0_seekBest (qI Q) (28, [some (.ref 47), some (.ref 16), none, some (.int (nI l.length)), some (.int (mvL val o')), some (.int r2), some (.int (nI (row + 1))), none, none, none], [], M2)) := by
          intro o' G' ho' hG'
          refine s_nextRow hn hs1 s8 hF hrng (fun hno => ?_) (fun l' F' hsome hF' => ?_)
          · refine c_X0_seekBest_16_28 (br_t rfl ?_)
            obtain ⟨b, hb⟩ := upL_some val l o
            have eb : o' = some b := ho'.symm.trans hb
            obtain ⟨g1, g2⟩ := hG' b eb
            have := hQ F G' b (by unfold skL; rw [hno]; exact hb) g1 g2
            rw [eb]
            exact this
          · have g1 := (nx_some l l' hsome).1
            have he' : ends (sN w) k l' = true := by
              unfold ends at he
              rw [hsome] at he
              exact he
            refine ih l' o' F' G' (row + 1) he' (by omega) g1 (fun j hj => nx_rng hsome hrng j (by omega)) hF' hG' (fun F2 G2 b hb => hQ F2 G2 b ?_)
            unfold skL
            rw [hsome, ho']
            exact hb
        refine ⟨fun c => ?_, fun c => ?_⟩
        · have q1 : (sa (sa M 48 G) 49 F).1 16 8 = nI (sN w) := hr.1.2.1.trans hv.1.1.1
          rw [q1]
          exact nxt o G (u1 c) hG
        · have q1 : (sa (sa M 48 G) 49 F).1 16 8 = nI (sN w) := hr.1.2.1.trans hv.1.1.1
          have q2 : sa (sa (sa M 48 G) 49 F) 48 (va_cpy ((sa (sa M 48 G) 49 F).1 49) ((sa (sa M 48 G) 49 F).1 48) 0 0 6) = sa (sa M 48 (va_cpy F G 0 0 6)) 49 F := by
            rw [sa_comm (show (48 : Nat) ≠ 49 by omega) G F, sa_sa, sa_comm (show (49 : Nat) ≠ 48 by omega), sa_s, sa_n (show (49 : Nat) ≠ 48 by omega), sa_s]
          rw [q1, q2]
          refine nxt (some l) (va_cpy F G 0 0 6) (u2 c) (fun b hb => ?_)
          have hb := Option.some.inj hb
          subst hb
          refine ⟨rfl, fun j hj => ?_⟩
          unfold va_cpy
          rw [if_pos (by omega), show 0 + (j - 0) = j by omega, hF j hj]
  have e0 : sa M 49 (pfx 6 (fun _ => nI 0) (M.1 49)) = sa (sa M 48 (M.1 48)) 49 (pfx 6 (fun _ => nI 0) (M.1 49)) := by rw [sa_id]
  rw [e0]
  refine key 1999 (List.replicate n 0) none (pfx 6 (fun _ => nI 0) (M.1 49)) (M.1 48) 0 ?_ (by omega) (List.length_replicate) (fun j hj => by rw [ix_rep _ _ _ hj]; omega) (fun j hj => by rw [ix_rep _ _ _ hj, pfx_lt (by omega)]) (fun b hb => by cases hb) (fun F' G' b hb h1 h2 => h F' G' b hb h1 h2)
  rcases ends_ok n (by omega) (sN w) (by omega) with q | q
  · omega
  · exact q
theorem s_expTried {Q : Int32 → Mem → Prop} {w : Nat → Int32} {x : Int32} {r : Nat} {l : List Nat} {F : Nat → Int32} (hw : M.1 53 = w) (hv : V w t) (h59 : ∀ s, s < sN w → M.1 59 s = rM w r s) (h60 : ∀ j, j ≤ 6 → M.1 60 j = bE x j) (hn : l.length ≤ 6) (hF : ∀ j, j < l.length → F j = nI (ix l j)) (hrng : ∀ j, j < l.length → ix l j < sN w) (h : Q (vlL w r x l) (sa M 61 F)) : exI (LY pl tl) (d + 1) 215 [.ref 52, .int (nI l.length)] (sa M 61 F) Q := by
  have s8 := hv.1.1.2
  refine e_X11_expectedTried (lp_0 (X := fx (LY pl tl) d m_X11_expectedTried (qI Q)) (fun a => (4, [some (.ref 52), some (.int (nI l.length)), some (.int (eS w x (clL w r l l.length) a)), some (.int (nI a)), none, none], [], sa M 61 F)) 12 (fun a ha hx => ?_) ?_)
  · refine c_X11_expectedTried_4 (br_f (nI_ge ha (by omega)) ?_)
    refine lp_0 (X := fx (LY pl tl) d m_X11_expectedTried (qI Q)) (fun i => (16, [some (.ref 52), some (.int (nI l.length)), some (.int (eS w x (clL w r l l.length) a)), some (.int (nI a)), some (.int (nI (clL w r l i a))), some (.int (nI i))], [], sa M 61 F)) l.length (fun i hi hy => ?_) ?_
    · refine c_X11_expectedTried_16 (br_f (nI_ge hi (by omega)) ⟨(z_in (by omega) (by omega)).mpr (by omega), ?_⟩)
      have hri := hrng i hi
      have e59 : (sa M 61 F).1 59 (ix l i) = rM w r (ix l i) := h59 _ hri
      rw [z_cl (show i < 2147483648 by omega), sa_s, hF i hi, z_cl (show ix l i < 2147483648 by omega), e59, tb_v _ (by omega), nI_add, nI_add i 1]
      exact ⟨(z_in (by omega) (by omega)).mpr (by omega), hy⟩
    · have hc := clL_le w r l a l.length
      have e53 : (sa M 61 F).1 53 = w := hw
      have e60 : (sa M 61 F).1 60 (clL w r l l.length a) = bE x (clL w r l l.length a) := h60 _ (by omega)
      refine c_X11_expectedTried_16 (br_t (nI_le (Nat.le_refl _) (by omega)) ?_)
      rw [z_0add, z_cl (show a < 2147483648 by omega), z_cl (show clL w r l l.length a < 2147483648 by omega), e53, e60, nI_add a 1]
      exact ⟨(z_in (by omega) (by omega)).mpr (by omega), (z_in (by omega) (by omega)).mpr (by omega), hx⟩
  · exact c_X11_expectedTried_4 (br_t (nI_le (Nat.le_refl _) (by omega)) h)
/-- the row that is told -/
def bfR (w : Nat → Int32) (r : Nat) (x : Int32) (n : Nat) (b : List Nat) (j : Nat) : Int64 := if j < n then (nI (ix b j)).toInt64 else (eS w x (rf w r) 12).toInt64
theorem m_bestFor_n {Q : Int32 → Mem → Prop} {x : Int32} (hx : x < 0 ∨ ¬ x ≤ nI 1000) (h : Q (-1) (thr M)) : exI (LY pl tl) (d + 4) 217 [.ref 52, .int x] M Q := by
  refine e_X11_bestFor (s_inR (by omega) (by omega) (fun j h1 h2 e => ?_) (fun _ => ⟨fun c => absurd rfl c, fun _ => h⟩))
  subst e
  rcases hx with z | z
  · exact absurd z (nI_pos (by omega))
  · exact absurd (nI_le h2 (by omega)) z
theorem m_bestFor {Q : Int32 → Mem → Prop} {p : Nat} (hp : p ≤ 1000) (hv : V (M.1 53) t) (h0 : (sN (M.1 53) = 0 ∨ rdN (M.1 53) = 0) → Q (-2) (thr M)) (h : ∀ A b, 1 ≤ sN (M.1 53) → 1 ≤ rdN (M.1 53) → skL (vlL (M.1 53) (rcN (M.1 53)) (nI p)) (sN (M.1 53)) 1999 none (List.replicate (rdN (M.1 53)) 0) = some b → (∀ c, c < 58 → c ≠ 52 → A.1 c = M.1 c) → (∀ j, j ≠ 7 → A.1 52 j = M.1 52 j) → A.2 = M.2 → Q (vlL (M.1 53) (rcN (M.1 53)) (nI p) b) (rwM A (rdN (M.1 53) + 1) (bfR (M.1 53) (rcN (M.1 53)) (nI p) (rdN (M.1 53)) b))) : exI (LY pl tl) (d + 5) 217 [.ref 52, .int (nI p)] M Q := by
  have s8 := hv.1.1.2
  have n6 := hv.2.1.1.2
  have rd6 := rdN_le (M.1 53)
  refine e_X11_bestFor (s_inR (by omega) (by omega) (fun j h1 h2 e => ⟨fun _ => ?_, fun c => absurd c (by decide)⟩) (fun q => ?_))
  · refine s_readyMany (M := thr M) hv.2.1 ?_
    have q456 : (thr M).1 53 456 = nI (sN (M.1 53)) := hv.1.1.1
    have q53 : (thr M).1 53 = M.1 53 := rfl
    rw [q456, q53, z_eq0 (by omega), z_eq0 (by omega)]
    refine ⟨fun c => h0 (Or.inl c), fun c => ⟨fun c2 => ?_, fun c2 => h0 (Or.inr c2)⟩⟩
    refine s_ly (t := t) (M := thr M) hv (s_laysSure ?_)
    generalize hA : sa (lyM (thr M) (rcN ((thr M).1 53))) 60 (pfx 7 (bE (nI p)) ((lyM (thr M) (rcN ((thr M).1 53))).1 60)) = A
    have aC : ∀ c, c < 58 → c ≠ 52 → A.1 c = M.1 c := fun c hc h52 => by
      rw [← hA, sa_n (by omega)]
      unfold lyM
      rw [sa_n (by omega), sa_n (by omega)]
      exact si_c h52
    have a52 : ∀ j, j ≠ 7 → A.1 52 j = M.1 52 j := fun j hj => by
      rw [← hA]
      show (thr M).1 52 j = _
      unfold thr
      rw [si_s, upd_ne hj]
    have a2 : A.2 = M.2 := by rw [← hA]; rfl
    have a53 : A.1 53 = M.1 53 := aC 53 (by omega) (by omega)
    have a59 : ∀ s, s < sN (M.1 53) → A.1 59 s = rM (M.1 53) (rcN (M.1 53)) s := by rw [← hA]; exact ly59 (M := thr M)
    have a60 : ∀ j, j ≤ 6 → A.1 60 j = bE (nI p) j := fun j hj => by rw [← hA, sa_s, pfx_lt (by omega)]
    clear hA
    generalize hw : M.1 53 = w at *
    generalize hn' : rdN w = n at *
    generalize hval : vlL w (rcN w) (nI p) = val at h
    have vpos : ∀ l, 0 ≤ val l := fun l => by rw [← hval]; exact vlL_pos hp hv.1 l
    -- tried is laid
    have e0 : A = sa (sa A 62 (A.1 62)) 61 (pfx 0 (fun _ => nI 0) (A.1 61)) := by rw [sa_id, pfx_0, sa_id]
    rw [e0]
    -- behind the search
    have fin : ∀ F G b, skL val (sN w) 1999 none (List.replicate n 0) = some b → b.length = n → (∀ j, j < n → G j = nI (ix b j)) → fx (LY pl tl) (d + 4) m_X11_bestFor (qI Q) (144, [some (.ref 52), none, some (.int (nI n)), some (.int (val b)), none, some (.int (nI 0)), none], [], si (sa (sa A 62 G) 61 F) 52 6 (nI 0)) := by
      intro F G b hb hbl hG
      have hAF := h (sa (sa A 62 G) 61 F) b (by omega) (by omega) hb (fun c hc h52 => by rw [sa_n (by omega), sa_n (by omega)]; exact aC c hc h52) (fun j hj => by rw [sa_n (by omega), sa_n (by omega)]; exact a52 j hj) a2
      have f53 : (sa (sa A 62 G) 61 F).1 53 = w := a53
      have f59 : ∀ s, s < sN w → (sa (sa A 62 G) 61 F).1 59 s = rM w (rcN w) s := a59
      have f60 : ∀ j, j ≤ 6 → (sa (sa A 62 G) 61 F).1 60 j = bE (nI p) j := a60
      have f62 : (sa (sa A 62 G) 61 F).1 62 = G := by rw [sa_n (by omega), sa_s]
      generalize sa (sa A 62 G) 61 F = B at hAF f53 f59 f60 f62 ⊢
      rw [rwM_0 B (bfR w (rcN w) (nI p) n b)]
      refine lp_0 (X := fx (LY pl tl) (d + 4) m_X11_bestFor (qI Q)) (fun i => (144, [some (.ref 52), none, some (.int (nI n)), some (.int (val b)), none, some (.int (nI i)), none], [], rwM B i (bfR w (rcN w) (nI p) n b))) n (fun i hi hx => ?_) ?_
      · refine c_X11_bestFor_144 (br_f (nI_ge hi (by omega)) ⟨(z_in (by omega) (by omega)).mpr (by omega), ?_⟩)
        have g62 : (rwM B i (bfR w (rcN w) (nI p) n b)).1 62 i = nI (ix b i) := by show B.1 62 i = _; rw [f62]; exact hG i hi
        rw [z_cl (by omega), g62, nI_add i 1]
        refine s_mtell (i + 1) rfl (by omega) ?_ hx
        unfold bfR
        rw [if_pos hi]
      · refine c_X11_bestFor_144 (br_t (nI_le (Nat.le_refl _) (by omega)) (s_expNowM (t := t) (M := rwM B n (bfR w (rcN w) (nI p) n b)) (w := w) (x := nI p) (r := rcN w) f53 hv f59 f60 (s_mtell (n + 1) rfl (by omega) ?_ hAF)))
        unfold bfR
        rw [if_neg (by omega)]
    -- the search
    have key : ∀ k l o F G, ends (sN w) k l = true → l.length = n → (∀ j, j < n → ix l j < sN w) → (∀ j, j < n → F j = nI (ix l j)) → Gok n G o → (∀ F' G' b, skL val (sN w) k o l = some b → b.length = n → (∀ j, j < n → G' j = nI (ix b j)) → fx (LY pl tl) (d + 4) m_X11_bestFor (qI Q) (144, [some (.ref 52), none, some (.int (nI n)), some (.int (val b)), none, some (.int (nI 0)), none], [], si (sa (sa A 62 G') 61 F') 52 6 (nI 0))) → fx (LY pl tl) (d + 4) m_X11_bestFor (qI Q) (76, [some (.ref 52), none, some (.int (nI n)), some (.int (mvL val o)), some (.int (nI 1)), none, none], [], sa (sa A 62 G) 61 F) := by
      intro k
      induction k with
      | zero => intro l o F G he; cases he
      | succ k ih =>
        intro l o F G he hl hrng hF hG hQ
        subst hl
        have q53 : ∀ G F, (sa (sa A 62 G) 61 F).1 53 = w := fun G F => a53
        refine c_X11_bestFor_76 (br_f (by decide) (s_expTried (t := t) (M := sa A 62 G) (w := w) (x := nI p) (r := rcN w) a53 hv a59 a60 (by omega) hF hrng ?_))
        have hvl : vlL w (rcN w) (nI p) l = val l := by rw [← hval]
        rw [hvl]
        obtain ⟨u1, u2⟩ := upL_cmp vpos l o
        have nxt : ∀ (o' : Option (List Nat)) (G' : Nat → Int32), upL val l o = o' → Gok l.length G' o' → exI (LY pl tl) (d + 4) 216 [.ref 52, .int (nI l.length)] (sa (sa A 62 G') 61 F) (fun r2 M2 => fx (LY pl tl) (d + 4) m_X11_bestFor (qI Q) (76, [some (.ref 52), none, some (.int (nI l.length)), some (.int (mvL val o')), some (.int r2), none, none], [], M2)) := by
          intro o' G' ho' hG'
          refine s_risesOn (M := sa A 62 G') (s := sN w) (by omega) (by omega) s8 ((congrFun a53 456).trans hv.1.1.1) hF hrng (fun hno => ?_) (fun l' F' hsome hF' => ?_)
          · refine c_X11_bestFor_76 (br_t rfl ?_)
            obtain ⟨b, hb⟩ := upL_some val l o
            have eb : o' = some b := ho'.symm.trans hb
            obtain ⟨g1, g2⟩ := hG' b eb
            have := hQ F G' b (by unfold skL; rw [hno]; exact hb) g1 g2
            rw [eb]
            exact this
          · have g1 := (nx_some l l' hsome).1
            have he' : ends (sN w) k l' = true := by
              unfold ends at he
              rw [hsome] at he
              exact he
            refine ih l' o' F' G' he' g1 (fun j hj => nx_rng hsome hrng j (by omega)) hF' hG' (fun F2 G2 b hb => hQ F2 G2 b ?_)
            unfold skL
            rw [hsome, ho']
            exact hb
        refine ⟨fun c => nxt o G (u1 c) hG, fun c => ?_⟩
        have st := lp_0 (X := fx (LY pl tl) (d + 4) m_X11_bestFor (qI Q)) (fun i => (100, [some (.ref 52), none, some (.int (nI l.length)), some (.int (val l)), none, none, some (.int (nI i))], [], sa (sa A 62 (pfx i F G)) 61 F)) l.length (fun i hi hx => ?_) ?_
        · rw [pfx_0] at st
          exact st
        · refine c_X11_bestFor_100 (br_f (nI_ge hi (by omega)) ?_)
          have v6 := (z_in (n := i) (N := 6) (by omega) (by omega)).mpr (by omega)
          rw [z_cl (by omega), sa_s, si_in (by omega), pfx_s i F G rfl, nI_add i 1]
          exact ⟨v6, v6, hx⟩
        · refine c_X11_bestFor_100 (br_t (nI_le (Nat.le_refl _) (by omega)) (nxt (some l) (pfx l.length F G) (u2 c) (fun b hb => ?_)))
          have hb := Option.some.inj hb
          subst hb
          exact ⟨rfl, fun j hj => by rw [pfx_lt hj, hF j hj]⟩
    refine lp_0 (X := fx (LY pl tl) (d + 4) m_X11_bestFor (qI Q)) (fun i => (53, [some (.ref 52), none, some (.int (nI n)), some (.int (nI i)), none, none, none], [], sa (sa A 62 (A.1 62)) 61 (pfx i (fun _ => nI 0) (A.1 61)))) n (fun i hi hx => ?_) ?_
    · refine c_X11_bestFor_53 (br_f (nI_ge hi (by omega)) ⟨(z_in (by omega) (by omega)).mpr (by omega), ?_⟩)
      rw [z_cl (by omega), sa_upd, pfx_s i (fun _ => nI 0) (A.1 61) rfl, nI_add i 1]
      exact hx
    · refine c_X11_bestFor_53 (br_t (nI_le (Nat.le_refl _) (by omega)) ?_)
      refine key 1999 (List.replicate n 0) none _ _ ?_ (List.length_replicate) (fun j hj => by rw [ix_rep _ _ _ hj]; omega) (fun j hj => by rw [ix_rep _ _ _ hj, pfx_lt (by omega)]) (fun b hb => by cases hb) fin
      rcases ends_ok n (by omega) (sN w) (by omega) with q | q
      · omega
      · exact q
  · rcases q with z | z
    · exact absurd z (nI_pos (by omega))
    · exact absurd (nI_le hp (by omega)) z
theorem op_bestFor {x : Int32} (h : Inv t M) (ht : t < 512) : Op pl tl (d + 12) 35 [.ref 0, .int x] 217 [.ref 52, .int x] t M := by
  have hI := h.up (t' := t + 1) (by omega) (by omega)
  obtain ⟨⟨hv, hr⟩, -⟩ := h
  have s8 := hv.1.1.2
  have n6 := hv.2.1.1.2
  have rd6 := rdN_le (M.1 53)
  refine e_X10_bestFor ⟨fun c => m_bestFor_n (Or.inl c) ⟨rfl, hI⟩, fun c => ⟨fun c2 => s_readyBits hv hr (s_bitCount ?_ ?_), fun c2 => m_bestFor_n (Or.inr c2) ⟨rfl, hI⟩⟩⟩
  · have := (mkN_ok (rdy (M.1 53)) (eN (M.1 53)) (by omega)).1
    have := pow8 (n := eN (M.1 53)) (by omega)
    omega
  obtain ⟨p, hp, e⟩ := z_0 c (by omega) c2
  subst e
  have epc : pcn (mkN (rdy (M.1 53)) (eN (M.1 53))) = rdN (M.1 53) := (mkN_ok (rdy (M.1 53)) (eN (M.1 53)) (by omega)).2.2
  have q8 : M.1 16 8 = nI (sN (M.1 53)) := hr.1.2.1.trans hv.1.1.1
  rw [epc, q8, z_eq0 (by omega), z_eq0 (by omega)]
  refine ⟨fun c3 => m_bestFor (t := t) hp hv (fun _ => ⟨rfl, hI⟩) (fun _ _ z => by omega), fun c3 => ⟨fun c4 => s_lk hv hr (s_prepare ?_), fun c4 => m_bestFor (t := t) hp hv (fun _ => ⟨rfl, hI⟩) (fun _ _ _ z => by omega)⟩⟩
  have h50 : ∀ j, j ≤ 6 → (cpM (lkC M (M.1 53)) (nI p)).1 50 j = bE (nI p) j := fun j hj => pfx_lt (by omega)
  have h51 : ∀ s, s < sN (M.1 53) → (cpM (lkC M (M.1 53)) (nI p)).2 51 s = lN (hxN (bf (rM (M.1 53) (rcN (M.1 53)) s)) 12) := fun s hs => by
    refine (pfxL_lt (by omega)).trans ?_
    unfold hL
    have e : (lkC M (M.1 53)).1 44 s = rM (M.1 53) (rcN (M.1 53)) s := nA_at hs s8
    rw [e]
  refine s_seekBest (M := cpM (lkC M (M.1 53)) (nI p)) (w := M.1 53) (r := rcN (M.1 53)) (p := p) hp hv hr h50 h51 (by omega) (by omega) (by omega) (fun F G b hb hbl hG => s_clear (bfR (M.1 53) (rcN (M.1 53)) (nI p) (rdN (M.1 53)) b) ?_)
  generalize hB : sa (sa (cpM (lkC M (M.1 53)) (nI p)) 48 G) 49 F = B
  have bC : ∀ c, (c < 43 ∨ 51 < c) → B.1 c = M.1 c := fun c hc => by
    rw [← hB, sa_n (by omega), sa_n (by omega)]
    show (sa (lkC M (M.1 53)) 50 _).1 c = _
    rw [sa_n (by omega)]
    unfold lkC
    rw [sa_n (by omega)]
  have b2 : ∀ c, c ≠ 51 → B.2 c = M.2 c := fun c hc => by
    rw [← hB]
    show (sb (sa (lkC M (M.1 53)) 50 _) 51 _).2 c = _
    rw [sb_n hc]
    rfl
  have b50 : ∀ j, j ≤ 6 → B.1 50 j = bE (nI p) j := by rw [← hB]; exact h50
  have b51 : ∀ s, s < sN (M.1 53) → B.2 51 s = lN (hxN (bf (rM (M.1 53) (rcN (M.1 53)) s)) 12) := by rw [← hB]; exact h51
  have b48 : B.1 48 = G := by rw [← hB, sa_n (by omega), sa_s]
  have bR : RC 15 B (M.1 53) := RC_cells (fun c h1 h2 => bC c (by omega)) hr
  clear hB
  have st := lp_0 (X := fx (LY pl tl) (d + 11) m_X10_bestFor (qI (fun r M1 => exI (LY pl tl) (d + 12) 217 [.ref 52, .int (nI p)] M1 (fun r2 M2 => r2 = r ∧ Inv (t + 1) M2)))) (fun i => (90, [some (.ref 0), none, some (.int (nI (rdN (M.1 53)))), some (.int (vlL (M.1 53) (rcN (M.1 53)) (nI p) b)), some (.int (nI i))], [], rwC B i (bfR (M.1 53) (rcN (M.1 53)) (nI p) (rdN (M.1 53)) b))) (rdN (M.1 53)) (fun i hi hx => ?_) ?_
  · exact st
  · refine c_X10_bestFor_90 (br_f (nI_ge hi (by omega)) ⟨(z_in (by omega) (by omega)).mpr (by omega), ?_⟩)
    have g48 : (rwC B i (bfR (M.1 53) (rcN (M.1 53)) (nI p) (rdN (M.1 53)) b)).1 48 i = nI (ix b i) := by show B.1 48 i = _; rw [b48]; exact hG i hi
    rw [z_cl (by omega), g48, nI_add i 1]
    refine s_add (by omega) ?_ hx
    unfold bfR
    rw [if_pos hi]
  · refine c_X10_bestFor_90 (br_t (nI_le (Nat.le_refl _) (by omega)) (s_expNowC (t := t) (M := rwC B (rdN (M.1 53)) (bfR (M.1 53) (rcN (M.1 53)) (nI p) (rdN (M.1 53)) b)) (w := M.1 53) (x := nI p) (r := rcN (M.1 53)) hv bR b50 b51 (s_add (by omega) (by unfold bfR; rw [if_neg (by omega)]) ?_)))
    generalize hC : rwC B (rdN (M.1 53) + 1) (bfR (M.1 53) (rcN (M.1 53)) (nI p) (rdN (M.1 53)) b) = C
    have cC : ∀ c, c ≠ 1 → (c < 43 ∨ 51 < c) → C.1 c = M.1 c := fun c h1 h2 => by
      rw [← hC]
      show (si _ 1 1 _).1 c = _
      rw [si_c h1]
      exact bC c h2
    have c53 : C.1 53 = M.1 53 := cC 53 (by omega) (by omega)
    refine m_bestFor (t := t) (M := C) hp (by rw [c53]; exact hv) (fun z => by rw [c53] at z; omega) (fun A b' _ _ hb' aC a52 a2 => ?_)
    rw [c53] at hb' ⊢
    have eb : b = b' := Option.some.inj (hb.symm.trans hb')
    subst eb
    refine ⟨rfl, ?_⟩
    generalize hD : rwM A (rdN (M.1 53) + 1) (bfR (M.1 53) (rcN (M.1 53)) (nI p) (rdN (M.1 53)) b) = D
    have dC : ∀ c, c < 58 → c ≠ 52 → D.1 c = C.1 c := fun c h1 h2 => by
      rw [← hD]
      show (si _ 52 6 _).1 c = _
      rw [si_c h2]
      exact aC c h1 h2
    have d52 : ∀ j, j ≠ 6 → j ≠ 7 → D.1 52 j = M.1 52 j := fun j h1 h2 => by
      rw [← hD]
      show (si _ 52 6 _).1 52 j = _
      rw [si_s, upd_ne h1]
      show A.1 52 j = _
      rw [a52 j h2, cC 52 (by omega) (by omega)]
    refine Inv_step (A := M) (B := M) (w := M.1 53) hI (Fr15.rfl' M) hI.1.1 hI.1.2 ((dC 53 (by omega) (by omega)).trans c53) (fun i h1 h2 => (dC i (by omega) (by omega)).trans (cC i h1 (by omega))) ⟨d52 2 (by omega) (by omega), d52 4 (by omega) (by omega)⟩ ?_
    refine rows_ok (B := B) (C := A) (n := rdN (M.1 53) + 1) (g := bfR (M.1 53) (rcN (M.1 53)) (nI p) (rdN (M.1 53)) b) (g' := bfR (M.1 53) (rcN (M.1 53)) (nI p) (rdN (M.1 53)) b) (by omega) ?_ ?_ ?_ ?_ (fun j hj => rfl)
    · rw [dC 1 (by omega) (by omega), ← hC]; rfl
    · rw [← hD]; rfl
    · rw [← hD]
      show A.2 2 = _
      rw [a2, ← hC]
    · rw [← hD]
end S47
