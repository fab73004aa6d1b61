/-! THE CLASS'S PLANNER: how good it can become -/
def tri (r : Nat) : Nat := r * (r + 1) / 2
def ixT (rest may m : Nat) : Nat := (tri rest + may) * 256 + m
theorem tri_s : ∀ r, r < 6 → tri (r + 1) = tri r + r + 1 := by decide
theorem tri_lt : ∀ r, r ≤ 6 → ∀ r', r' < r → tri r' + r' < tri r := by decide
theorem tri_le : ∀ r, r ≤ 6 → tri r ≤ 21 := by decide
theorem pcn_or : ∀ m, m < 256 → ∀ s, s < 8 → pcn (m ||| 2 ^ s) ≤ pcn m + 1 := by decide +kernel
def Dr (L : List Nat) (rest : Nat) : List Nat := L.drop (L.length - rest)
theorem Dr_s {L : List Nat} {rest : Nat} (h : rest < L.length) : Dr L (rest + 1) = ix L (L.length - (rest + 1)) :: Dr L rest := by
  unfold Dr
  rw [ix_drop L _ (by omega), show L.length - (rest + 1) + 1 = L.length - rest by omega]
theorem Dr_len {L : List Nat} {rest : Nat} (h : rest ≤ L.length) : (Dr L rest).length = rest := by
  unfold Dr
  rw [List.length_drop]; omega
theorem Dr_po {w : Nat → Int32} {L : List Nat} (hL : ∀ e, e ∈ L → po w e < sN w) (rest : Nat) : ∀ e, e ∈ Dr L rest → po w e < sN w := fun e he => hL e (List.mem_of_mem_drop he)
def pT (w : Nat → Int32) (r : Nat) (L : List Nat) (rest may m : Nat) : Nat := (PP w r (Dr L rest) may m).1.toNat
def TabOk (w : Nat → Int32) (r : Nat) (L : List Nat) (F : Nat → Int32) (rest may : Nat) : Prop := ∀ m, m < 2 ^ sN w → pcn m + rest ≤ L.length → F (ixT rest may m) = nI (pT w r L rest may m)
theorem io_t {x : Int} (h1 : -2147483648 ≤ x) (h2 : x < 2147483648) : (Int32.ofInt x).toInt = x := Int32.toInt_ofInt_of_le h1 h2
theorem io_n {x : Int} (h1 : 0 ≤ x) (h2 : x < 2147483648) : nI x.toNat = Int32.ofInt x := by
  apply Int32.toInt_inj.mp
  rw [io_t (by omega) h2, nI_toInt (by omega)]
  omega
theorem io_s {a b : Nat} (ha : a < 1000000000) (hb : b < 1000000) : nI a - nI 4096 - nI b = Int32.ofInt ((a : Int) - 4096 - (b : Int)) := by
  apply Int32.toInt_inj.mp
  rw [io_t (by omega) (by omega), Int32.toInt_sub, ti_sub (by omega) (by omega), nI_toInt (by omega)]
  exact Int.bmod_eq_of_le (by omega) (by omega)
def enc : Option Int → Int32
  | none => nI 2147483648
  | some x => Int32.ofInt x
theorem enc_min : (nI 2147483648).toInt = -2147483648 := by decide
section S53
variable {d : Nat} {M : Mem} {t : Nat}
theorem s_indexOf {Q : Int32 → Mem → Prop} {rest may m : Nat} (h1 : rest ≤ 6) (h2 : may ≤ rest) (hm : m < 256) (h : Q (nI (ixT rest may m)) M) : exI LPl (d + 1) 94 [.int (nI rest), .int (nI may), .int (nI m)] M Q := by
  have t1 := tri_le rest h1
  have t2 : rest * (rest + 1) ≤ 6 * 7 := Nat.mul_le_mul h1 (by omega)
  refine e_X4_indexOf ?_
  have e : ((nI rest * (nI rest + nI 1) / nI 2 + nI may) * nI 256 + nI m) = nI (ixT rest may m) := by
    rw [nI_add rest 1, pk_mul, pk_div (by omega) (by omega) (by omega), nI_add, pk_mul, nI_add]
    rfl
  rw [e]
  unfold ixT at h ⊢
  exact br_f (nI_pos (by omega)) (br_f (nI_ge (by omega) (by omega)) h)
theorem ixT_lt {rest may m : Nat} (h1 : rest ≤ 6) (h2 : may ≤ rest) (hm : m < 256) : ixT rest may m < 7168 := by
  have t1 := tri_le rest h1
  unfold ixT
  omega
theorem s_wayTo {Q : Int32 → Mem → Prop} {w : Nat → Int32} {L : List Nat} {i s : Nat} (hG : GOk w L M) (hl : L.length ≤ 6) (s8 : sN w ≤ 8) (hi : i < L.length) (hs : s < sN w) (h : Q (nI (wy w (ix L i) s)) M) : exI LPl (d + 1) 95 [.ref 65, .int (nI i), .int (nI s)] M Q := by
  obtain ⟨g1, g2, g3⟩ := hG
  refine e_X4_wayTo ?_
  rw [g1, g2, pk_mul, nI_add, z_cl (by omega), (g3 i hi).2.2 s hs]
  exact br_f (nI_pos (by omega)) (br_f (nI_ge hi (by omega)) (br_f (nI_pos (by omega)) (br_t (nI_lt hs (by omega)) ⟨(z_in (by omega) (by omega)).mpr (by omega), h⟩)))
theorem s_worthOf {Q : Int32 → Mem → Prop} {w : Nat → Int32} {r : Nat} {L : List Nat} {rest may m s : Nat} (hv : VL w) (hL : ∀ e, e ∈ L → po w e < sN w) (hl : L.length ≤ 6) (hG : GOk w L M) (hr : rest < L.length) (hT : ∀ may', may' ≤ rest → TabOk w r L (M.1 70) rest may') (hmay : may ≤ rest + 1) (hm : m < 2 ^ sN w) (hpc : pcn m + (rest + 1) ≤ L.length) (hs : s < sN w) (h : Q (enc (opv w r (ix L (L.length - (rest + 1))) (Dr L rest) may m s)) M) : exI LPl (d + 2) 93 [.ref 65, .int (nI (rest + 1)), .int (nI may), .int (nI m), .int (nI s)] M Q := by
  have s8 := hv.1.2
  have p8 := pow8 s8
  obtain ⟨g1, g2, g3⟩ := id hG
  obtain ⟨b1', b2', b3'⟩ := g3 (L.length - (rest + 1)) (by omega)
  have pe := hL _ (ix_mem L (L.length - (rest + 1)) (by omega))
  generalize hE : ix L (L.length - (rest + 1)) = e at *
  have hn : m ||| 2 ^ s < 2 ^ sN w := Nat.or_lt_two_pow hm (Nat.pow_lt_pow_right (by decide) hs)
  have hpc' := pcn_or m (by omega) s (by omega)
  have lenD := Dr_len (L := L) (rest := rest) (by omega)
  have dpo := Dr_po hL rest
  have val : ∀ may', (0 ≤ (PP w r (Dr L rest) may' (m ||| 2 ^ s)).1) ∧ (PP w r (Dr L rest) may' (m ||| 2 ^ s)).1 ≤ 38928384 := fun may' => ⟨PP_nn _ _ _ dpo, PP_le hv _ _ _⟩
  have v6 := (z_in (n := L.length - (rest + 1)) (N := 6) (by omega) (by omega)).mpr (by omega)
  refine e_X4_worthOf ?_
  rw [g1, z_sub (show rest + 1 ≤ L.length by omega), z_cl (show L.length - (rest + 1) < 2147483648 by omega), b2', z_sub (show 1 ≤ rest + 1 by omega), show rest + 1 - 1 = rest by omega, nI_min may rest (by omega) (by omega), or_b1 m (by omega), z_eq (by omega) (by omega)]
  refine br_f (nI_pos (by omega)) (br_t (nI_lt (by omega) (by omega)) ⟨v6, fun c => ?_, fun c => ?_⟩)
  · have c' : ¬ s = po w e := fun z => c z.symm
    obtain ⟨y1, y2⟩ := hv.2.2.2.1 _ hs
    have wl : wy w e s ≤ 999 := dist_le hv.2.2.2.2.2.1 (hv.2.2.2.1 _ pe).2 y2
    refine s_wayTo hG hl s8 (by omega) hs ?_
    rw [hE, z_le0 (by omega), z_eq (by omega) (by omega)]
    refine ⟨fun c2 => ?_, fun c2 => ⟨fun c3 => ?_, fun c3 => ?_⟩⟩
    · have : opv w r e (Dr L rest) may m s = none := (if_neg c').trans (if_neg (by omega))
      rw [this] at h
      exact h
    · have ho : opv w r e (Dr L rest) may m s = some ((PP w r (Dr L rest) (may - 1) (m ||| 2 ^ s)).1 - 4096 - (wy w e s : Int)) := (if_neg c').trans (if_pos (by omega))
      rw [ho] at h
      rw [z_sub (by omega)]
      refine s_indexOf (by omega) (by omega) (by omega) ⟨(z_in (by have := ixT_lt (rest := rest) (may := may - 1) (m := m ||| 2 ^ s) (by omega) (by omega) (by omega); omega) (by omega)).mpr (ixT_lt (by omega) (by omega) (by omega)), ?_⟩
      rw [z_cl (by have := ixT_lt (rest := rest) (may := may - 1) (m := m ||| 2 ^ s) (by omega) (by omega) (by omega); omega), hT (may - 1) (by omega) _ hn (by omega)]
      have vv := val (may - 1)
      unfold pT
      rw [io_s (by omega) (by omega)]
      have e1 : (((PP w r (Dr L rest) (may - 1) (m ||| 2 ^ s)).1.toNat : Nat) : Int) = (PP w r (Dr L rest) (may - 1) (m ||| 2 ^ s)).1 := by omega
      rw [e1]
      exact h
    · have : opv w r e (Dr L rest) may m s = none := (if_neg c').trans (if_neg (by omega))
      rw [this] at h
      exact h
  · have ho : opv w r e (Dr L rest) may m s = some (PP w r (Dr L rest) may (m ||| 2 ^ s)).1 := if_pos c.symm
    rw [ho] at h
    refine s_indexOf (by omega) (by omega) (by omega) ⟨(z_in (by have := ixT_lt (rest := rest) (may := min may rest) (m := m ||| 2 ^ s) (by omega) (by omega) (by omega); omega) (by omega)).mpr (ixT_lt (by omega) (by omega) (by omega)), ?_⟩
    rw [z_cl (by have := ixT_lt (rest := rest) (may := min may rest) (m := m ||| 2 ^ s) (by omega) (by omega) (by omega); omega), hT (min may rest) (by omega) _ hn (by omega)]
    have vv := val may
    have e1 : PP w r (Dr L rest) may (m ||| 2 ^ s) = PP w r (Dr L rest) (min may rest) (m ||| 2 ^ s) := by
      rw [PP_min, lenD]
    unfold pT
    rw [← e1, io_n vv.1 (by omega)]
    exact h
/-- the best of the first stations, as the class keeps it -/
def encB : Option (Nat × Int) → Int32
  | none => nI 2147483648
  | some p => Int32.ofInt p.2
theorem encB_s {v : Nat → Option Int} {s : Nat} (hr : ∀ s x, v s = some x → -100000 ≤ x ∧ x ≤ 38928384) : (if encB (bbI v s) < enc (v s) then enc (v s) else encB (bbI v s)) = encB (bbI v (s + 1)) := by
  cases hv : v s with
  | none =>
    rw [bbI_n hv]
    refine if_neg (fun q => ?_)
    rw [Int32.lt_iff_toInt_lt] at q
    have : (enc none).toInt = -2147483648 := enc_min
    rw [this] at q
    have := Int32.le_toInt (encB (bbI v s))
    omega
  | some x =>
    have hx := hr s x hv
    cases hb : bbI v s with
    | none =>
      rw [bbI_0 hv hb]
      refine if_pos ?_
      rw [Int32.lt_iff_toInt_lt]
      show (nI 2147483648).toInt < (Int32.ofInt x).toInt
      rw [enc_min, io_t (by omega) (by omega)]
      omega
    | some p =>
      obtain ⟨h1, h2, -, -⟩ := bbI_ok s p hb
      have hp := hr p.1 p.2 h2
      rw [bbI_1 hv hb]
      show (if Int32.ofInt p.2 < Int32.ofInt x then Int32.ofInt x else Int32.ofInt p.2) = _
      have e : Int32.ofInt p.2 < Int32.ofInt x ↔ p.2 < x := by rw [Int32.lt_iff_toInt_lt, io_t (by omega) (by omega), io_t (by omega) (by omega)]
      by_cases q : p.2 < x
      · rw [if_pos (e.mpr q), if_pos q]; rfl
      · rw [if_neg (fun z => q (e.mp z)), if_neg q]; rfl
theorem opv_r {w : Nat → Int32} {r e may m s : Nat} {L : List Nat} {x : Int} (hv : VL w) (hL : ∀ e, e ∈ L → po w e < sN w) (he : po w e < sN w) (hs : s < sN w) (h : opv w r e L may m s = some x) : -100000 ≤ x ∧ x ≤ 38928384 := by
  have v1 := PP_nn (r := r) L may (m ||| 2 ^ s) hL
  have v2 := PP_le (r := r) hv L may (m ||| 2 ^ s)
  have v3 := PP_nn (r := r) L (may - 1) (m ||| 2 ^ s) hL
  have v4 := PP_le (r := r) hv L (may - 1) (m ||| 2 ^ s)
  unfold opv at h
  split at h
  · have := Option.some.inj h; omega
  · split at h
    · next q => have := Option.some.inj h; omega
    · cases h
theorem s_fillT {Q : Mem → Prop} {w : Nat → Int32} {r : Nat} {L : List Nat} {rest may : Nat} {F0 : Nat → Int32} (hv : VL w) (hL : ∀ e, e ∈ L → po w e < sN w) (hl : L.length ≤ 6) (hG : GOk w L M) (hr : rest < L.length) (hT : ∀ may', may' ≤ rest → TabOk w r L F0 rest may') (hmay : may ≤ rest + 1) (h : ∀ F, (∀ j, (j < (tri (rest + 1) + may) * 256 ∨ (tri (rest + 1) + may) * 256 + 256 ≤ j) → F j = F0 j) → TabOk w r L F (rest + 1) may → Q (sa M 70 F)) : exV LPl (d + 3) 92 [.ref 65, .int (nI (rest + 1)), .int (nI may)] (sa M 70 F0) Q := by
  have s8 := hv.1.2
  have p8 := pow8 s8
  have hpw : nI 1 <<< (nI (sN w) &&& 31) = nI (2 ^ sN w) := b1_pow _ (by omega)
  have tl := tri_lt (rest + 1) (by omega) rest (by omega)
  have q8 : ∀ F, (sa M 70 F).1 65 8 = nI (sN w) := fun F => hG.2.1
  have q3 : ∀ F, (sa M 70 F).1 65 3 = nI L.length := fun F => hG.1
  have qG : ∀ F, GOk w L (sa M 70 F) := fun F => hG
  have pe := hL _ (ix_mem L (L.length - (rest + 1)) (by omega))
  refine e_X4_fill (lp_p (σ := Nat → Int32) (X := fx LPl (d + 2) m_X4_fill (qV Q)) (fun m F => (2, [some (.ref 65), some (.int (nI (rest + 1))), some (.int (nI may)), some (.int (nI m)), none, none], [], sa M 70 F)) (fun m F => (∀ j, (j < (tri (rest + 1) + may) * 256 ∨ (tri (rest + 1) + may) * 256 + 256 ≤ j) → F j = F0 j) ∧ ∀ m', m' < m → pcn m' + (rest + 1) ≤ L.length → F (ixT (rest + 1) may m') = nI (pT w r L (rest + 1) may m')) (2 ^ sN w) (fun m F hm hP hx => ?_) (fun F hP => ?_) F0 ⟨fun _ _ => rfl, fun m' h' => by omega⟩)
  · obtain ⟨hF, hD⟩ := hP
    have h1 : pcn m ≤ 8 := cn_le _ _
    refine c_X4_fill_2 ?_
    rw [q8, hpw, nI_add m 1]
    refine br_f (nI_ge hm (by omega)) (s_bitCount (by omega) ?_)
    rw [q3, z_sub (by omega), z_lt (by omega) (by omega)]
    refine ⟨fun c => hx F ⟨hF, fun m' h' hp' => ?_⟩, fun c => ?_⟩
    · by_cases q : m' = m
      · subst q; omega
      · exact hD m' (by omega) hp'
    · have hT' : ∀ may', may' ≤ rest → TabOk w r L ((sa M 70 F).1 70) rest may' := fun may' hm' m' h1 h2 => by
        rw [sa_s, hF _ (Or.inl (by unfold ixT; omega))]
        exact hT may' hm' m' h1 h2
      refine lp_0 (X := fx LPl (d + 2) m_X4_fill (qV Q)) (fun s => (32, [some (.ref 65), some (.int (nI (rest + 1))), some (.int (nI may)), some (.int (nI m)), some (.int (encB (bbI (opv w r (ix L (L.length - (rest + 1))) (Dr L rest) may m) s))), some (.int (nI s))], [], sa M 70 F)) (sN w) (fun s hs hy => ?_) ?_
      · refine c_X4_fill_32 ?_
        rw [q8, nI_add s 1]
        refine br_f (nI_ge hs (by omega)) (s_worthOf hv hL hl (qG F) hr hT' hmay hm (by omega) hs ?_)
        have e : (if encB (bbI (opv w r (ix L (L.length - (rest + 1))) (Dr L rest) may m) s) < enc (opv w r (ix L (L.length - (rest + 1))) (Dr L rest) may m s) then enc (opv w r (ix L (L.length - (rest + 1))) (Dr L rest) may m s) else encB (bbI (opv w r (ix L (L.length - (rest + 1))) (Dr L rest) may m) s)) = encB (bbI (opv w r (ix L (L.length - (rest + 1))) (Dr L rest) may m) (s + 1)) := by
          have := encB_s (v := fun s => if s < sN w then opv w r (ix L (L.length - (rest + 1))) (Dr L rest) may m s else none) (s := s) (fun s x hx => by
            by_cases q : s < sN w
            · rw [if_pos q] at hx
              exact opv_r hv (Dr_po hL rest) pe q hx
            · rw [if_neg q] at hx; cases hx)
          rw [bbI_cg (v := fun s => if s < sN w then opv w r (ix L (L.length - (rest + 1))) (Dr L rest) may m s else none) (v' := opv w r (ix L (L.length - (rest + 1))) (Dr L rest) may m) s (fun s' hs' => if_pos (by omega)), bbI_cg (v := fun s => if s < sN w then opv w r (ix L (L.length - (rest + 1))) (Dr L rest) may m s else none) (v' := opv w r (ix L (L.length - (rest + 1))) (Dr L rest) may m) (s + 1) (fun s' hs' => if_pos (by omega)), if_pos hs] at this
          exact this
        rw [e]
        exact hy
      · refine c_X4_fill_32 ?_
        rw [q8]
        obtain ⟨p, hp, hge⟩ := PP_some (r := r) (L := Dr L rest) (may := may) (m := m) pe
        have hil := ixT_lt (rest := rest + 1) (may := may) (m := m) (by omega) hmay (by omega)
        refine br_t (nI_le (Nat.le_refl _) (by omega)) (s_indexOf (by omega) hmay (by omega) ⟨(z_in (by omega) (by omega)).mpr hil, ?_⟩)
        rw [z_cl (by omega), sa_upd, hp, nI_add m 1]
        have ev : encB (some p) = nI (pT w r L (rest + 1) may m) := by
          have e1 : (PP w r (Dr L (rest + 1)) may m).1 = p.2 := by rw [Dr_s hr, PP_c hp]
          have n0 := PP_nn (r := r) (Dr L (rest + 1)) may m (Dr_po hL (rest + 1))
          have n1 := PP_le (r := r) hv (Dr L (rest + 1)) may m
          unfold pT
          rw [e1] at n0 n1 ⊢
          rw [io_n n0 (by omega)]
          rfl
        refine hx _ ⟨fun j hj => ?_, fun m' h' hp' => ?_⟩
        · rw [upd_ne (by unfold ixT; omega)]; exact hF j hj
        · by_cases q : m' = m
          · subst q; rw [upd_eq, ev]
          · rw [upd_ne (by unfold ixT; omega)]; exact hD m' (by omega) hp'
  · refine c_X4_fill_2 ?_
    rw [q8, hpw]
    exact br_t (nI_le (Nat.le_refl _) (by omega)) (h F hP.1 (fun m h1 h2 => hP.2 m h1 h2))
end S53
