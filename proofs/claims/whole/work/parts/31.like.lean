/-! what some voices say of a word; classes; greatest common divisors -/
def selP (V : Nat) (set : Int32) (i : Nat) : Prop := ¬ ((set >>> (nI (i % V) &&& 31)) &&& 1) = 0
def sayP (V : Nat) (set : Int32) (lt : Nat → Int32) (n m w q : Nat) : Prop := (∀ i, i < n → selP V set i → cntN (selP V set) i < m ∧ lt (10 * q + cntN (selP V set) i) = lt (10 * w + i)) ∧ cntN (selP V set) n = m
def b_X2_isSaidBy (s : St) (x1 x2 x3 : Int32) : Prop := sayP (Int32.toNatClampNeg (s.1 8 1)) x2 (s.1 5) (Int32.toNatClampNeg (s.1 6 (Int32.toNatClampNeg x1))) (Int32.toNatClampNeg (s.1 6 (Int32.toNatClampNeg x3))) (Int32.toNatClampNeg x1) (Int32.toNatClampNeg x3)
def ok_X2_isSaidBy (s : St) (x1 _x2 x3 : Int32) : Prop := wlR s 4 ∧ chR s 8 ∧ (∃ w, w < Int32.toNatClampNeg (s.1 4 3) ∧ x1 = nI w) ∧ ∃ q, q < Int32.toNatClampNeg (s.1 4 3) ∧ x3 = nI q
theorem p_X2_isSaidBy {l : Launch} {G : Geo} {d : Nat} (x1 x2 x3 : Int32) (s : St) {Q : Int32 → St → Prop} (hok : ok_X2_isSaidBy s x1 x2 x3) (h : Q (bI (b_X2_isSaidBy s x1 x2 x3)) s) : DoesI l G (d + 2) 28 [.ref 45, .int x1, .int x2, .int x3] s Q := by
  obtain ⟨hW, hC, ⟨w, hw, rfl⟩, q, hq, rfl⟩ := hok
  obtain ⟨⟨V, v1, v5, hV⟩, -⟩ := id hC
  obtain ⟨ez, hz⟩ := siz4 hW
  obtain ⟨e1, h1⟩ := len4 hW w
  obtain ⟨e2, h2⟩ := len4 hW q
  unfold b_X2_isSaidBy at h
  rw [hV, nnum (by omega), nnum (by omega), nnum (by omega)] at h
  have loop : ∀ m i, i + m = Int32.toNatClampNeg (s.1 6 w) → (∀ j, j < i → selP V x2 j → cntN (selP V x2) j < Int32.toNatClampNeg (s.1 6 q) ∧ s.1 5 (10 * q + cntN (selP V x2) j) = s.1 5 (10 * w + j)) → AtA l G (d + 2) sX2_isSaidBy 6 [.ref 45, .int (nI w), .int x2, .int (nI q), .int (nI (cntN (selP V x2) i)), .int (nI i)] [] s (pI Q) := by
    intro m
    induction m with
    | zero =>
      intro i hi hp
      have : i = Int32.toNatClampNeg (s.1 6 w) := by omega
      subst this
      have hc := cnt_le (selP V x2) (Int32.toNatClampNeg (s.1 6 w))
      refine r_X2_isSaidBy_6 _ _ _ _ _ s ⟨ok_len (Or.inl rfl) hW _, fun z => ?_, fun _ => ⟨ok_len (Or.inl rfl) hW _, fun z => ?_, fun z => ?_⟩⟩
      · rw [v_len4 hW hw, ← e1] at z
        exact (Int32.lt_irrefl z).elim
      · rw [v_len4 hW hq, e2, neq (by omega) (by omega)] at z
        rw [bI_1 ⟨hp, z⟩] at h
        exact h
      · rw [v_len4 hW hq, e2, neq (by omega) (by omega)] at z
        rw [bI_0 (fun k => z k.2)] at h
        exact h
    | succ m ih =>
      intro i hi hp
      have hc := cnt_le (selP V x2) i
      have hl : v_X9_letterOf s 4 (nI w) (nI i) = s.1 5 (10 * w + i) := v_let4 hW hw (by omega)
      refine r_X2_isSaidBy_6 _ _ _ _ _ s ⟨ok_len (Or.inl rfl) hW _, fun _ => ⟨ok_vc hC _, fun z => ?_, fun z => ⟨ok_let (Or.inl rfl) hW _ _, ok_let (Or.inl rfl) hW _ _, fun z2 => ?_, fun z2 => ?_⟩⟩, fun z => ?_⟩
      · rw [v_vc hV v1 v5 (by omega)] at z
        have hns : ¬ selP V x2 i := fun k => k z
        have := ih (i + 1) (by omega) (lt_s hp (fun k => absurd k hns))
        rw [cnt_f hns] at this
        rw [nI_1]
        exact this
      · rw [v_vc hV v1 v5 (by omega)] at z
        have hns : selP V x2 i := z
        rw [hl] at z2
        have hlt : cntN (selP V x2) i < Int32.toNatClampNeg (s.1 6 q) := Classical.byContradiction fun k => by
          rw [v_let4o hW hq (by omega) (by omega), (let4 hW (10 * w + i)).1] at z2
          have h9 := (let4 hW (10 * w + i)).2
          have : (nI (Int32.toNatClampNeg (s.1 5 (10 * w + i)))).toInt = (-1 : Int32).toInt := by rw [z2]
          rw [nI_i (by omega)] at this
          have q9 : (-1 : Int32).toInt = -1 := rfl
          omega
        rw [v_let4 hW hq hlt] at z2
        have := ih (i + 1) (by omega) (lt_s hp (fun _ => ⟨hlt, z2.symm⟩))
        rw [cnt_t hns] at this
        rw [nI_1, nI_1]
        exact this
      · rw [v_vc hV v1 v5 (by omega)] at z
        have hns : selP V x2 i := z
        rw [bI_0 (fun k => by
          obtain ⟨k1, k2⟩ := k.1 i (by omega) hns
          rw [hl, v_let4 hW hq k1] at z2
          exact z2 k2.symm)] at h
        exact h
      · rw [v_len4 hW hw, e1, nlt (by omega) (by omega)] at z
        omega
  exact r_X2_isSaidBy _ _ _ s (loop _ 0 (Nat.zero_add _) (fun j hj => absurd hj (Nat.not_lt_zero j)))
/-- the least k of k0 .. for which P holds, or -1 -/
noncomputable def findF (P : Nat → Prop) : Nat → Nat → Int32
  | 0, _ => -1
  | m + 1, k => iC (P k) (nI k) (findF P m (k + 1))
theorem findF_congr {P P' : Nat → Prop} : ∀ m k, (∀ j, k ≤ j → j < k + m → (P j ↔ P' j)) → findF P m k = findF P' m k
  | 0, _, _ => rfl
  | m + 1, k, h => by
    show iC (P k) (nI k) (findF P m (k + 1)) = iC (P' k) (nI k) (findF P' m (k + 1))
    rw [findF_congr m (k + 1) (fun j h1 h2 => h j (by omega) (by omega)), propext (h k (Nat.le_refl k) (by omega))]
theorem findF_or {P : Nat → Prop} : ∀ m k, findF P m k = -1 ∨ ∃ j, k ≤ j ∧ j < k + m ∧ findF P m k = nI j
  | 0, _ => Or.inl rfl
  | m + 1, k => by
    show iC (P k) (nI k) (findF P m (k + 1)) = -1 ∨ ∃ j, k ≤ j ∧ j < k + (m + 1) ∧ iC (P k) (nI k) (findF P m (k + 1)) = nI j
    by_cases h : P k
    · exact Or.inr ⟨k, Nat.le_refl k, by omega, by rw [iC_t h]⟩
    · rw [iC_f h]
      rcases findF_or (P := P) m (k + 1) with e | ⟨j, h1, h2, e⟩
      · exact Or.inl e
      · exact Or.inr ⟨j, by omega, by omega, e⟩
noncomputable def v_X11_wordBy (s : St) (x1 x2 : Int32) : Int32 := findF (fun q => sayP (Int32.toNatClampNeg (s.1 51 0)) x2 (s.1 55) (Int32.toNatClampNeg (s.1 54 (Int32.toNatClampNeg x1))) (Int32.toNatClampNeg (s.1 54 q)) (Int32.toNatClampNeg x1) q) (Int32.toNatClampNeg (s.1 51 4)) 0
def ok_X11_wordBy (s : St) (x1 _x2 : Int32) : Prop := mdR s ∧ ∃ w, w < Int32.toNatClampNeg (s.1 51 4) ∧ x1 = nI w
theorem p_X11_wordBy {l : Launch} {G : Geo} {d : Nat} (x1 x2 : Int32) (s : St) {Q : Int32 → St → Prop} (hok : ok_X11_wordBy s x1 x2) (h : Q (v_X11_wordBy s x1 x2) s) : DoesI l G (d + 2) 174 [.ref 51, .int x1, .int x2] s Q := by
  obtain ⟨⟨m1, m2, m3, m4, -, -, ⟨V, v1, v5, hV⟩, -⟩, w, hw, rfl⟩ := hok
  obtain ⟨ez, hz⟩ := rg_num m1 (by decide)
  obtain ⟨e1, h1⟩ := rg_num (m2 w) (by decide)
  have i12 : vp_in (nI w) (alen 54) := vin (show w < 12 by omega) (by decide)
  have hne : ¬ s.1 51 0 = 0 := by
    rw [hV, l0, neq (by omega) (by omega)]
    omega
  unfold v_X11_wordBy at h
  rw [hV, nnum (by omega), nnum (by omega)] at h
  have inner : ∀ q, q < Int32.toNatClampNeg (s.1 51 4) → (sayP V x2 (s.1 55) (Int32.toNatClampNeg (s.1 54 w)) (Int32.toNatClampNeg (s.1 54 q)) w q → Q (nI q) s) → (¬ sayP V x2 (s.1 55) (Int32.toNatClampNeg (s.1 54 w)) (Int32.toNatClampNeg (s.1 54 q)) w q → AtA l G (d + 2) sX11_wordBy 2 [.ref 51, .int (nI w), .int x2, .int (nI (q + 1)), .null, .null, .null] [] s (pI Q)) → ∀ m i, i + m = Int32.toNatClampNeg (s.1 54 w) → ∀ b : Int32, (b = 1 ∧ (∀ j, j < i → selP V x2 j → cntN (selP V x2) j < Int32.toNatClampNeg (s.1 54 q) ∧ s.1 55 (10 * q + cntN (selP V x2) j) = s.1 55 (10 * w + j))) ∨ (b = 0 ∧ ¬ sayP V x2 (s.1 55) (Int32.toNatClampNeg (s.1 54 w)) (Int32.toNatClampNeg (s.1 54 q)) w q) → AtA l G (d + 2) sX11_wordBy 19 [.ref 51, .int (nI w), .int x2, .int (nI q), .int (nI (cntN (selP V x2) i)), .int b, .int (nI i)] [] s (pI Q) := by
    intro q hq kt kf m
    obtain ⟨e2, h2⟩ := rg_num (m2 q) (by decide)
    have iq : vp_in (nI q) (alen 54) := vin (show q < 12 by omega) (by decide)
    induction m with
    | zero =>
      intro i hi b hb
      have : i = Int32.toNatClampNeg (s.1 54 w) := by omega
      subst this
      have hc := cnt_le (selP V x2) (Int32.toNatClampNeg (s.1 54 w))
      refine r_X11_wordBy_19 _ _ _ _ _ _ s ⟨i12, fun z => ?_, fun _ => ⟨fun z => ?_, fun z => ⟨iq, fun z2 => ?_, fun z2 => ?_⟩⟩⟩
      · rw [nnum (show w < 2 ^ 31 by omega), ← e1] at z
        exact (Int32.lt_irrefl z).elim
      · rw [nI_1]
        rcases hb with ⟨rfl, -⟩ | ⟨-, hn⟩
        · exact absurd z (by decide)
        · exact kf hn
      · rw [nnum (by omega), e2, neq (by omega) (by omega)] at z2
        rcases hb with ⟨-, hp⟩ | ⟨rfl, -⟩
        · exact kt ⟨hp, z2⟩
        · exact absurd rfl z
      · rw [nnum (by omega), e2, neq (by omega) (by omega)] at z2
        rw [nI_1]
        exact kf (fun k => z2 k.2)
    | succ m ih =>
      intro i hi b hb
      have hc := cnt_le (selP V x2) i
      have er : (nI i - nI i / s.1 51 0 * s.1 51 0 : Int32) = nI (i % V) := by rw [hV, pk_rem (by omega) (by omega) (by omega)]
      have eqn : (10 * nI q + nI (cntN (selP V x2) i) : Int32) = nI (10 * q + cntN (selP V x2) i) := by rw [show (10 : Int32) = nI 10 from rfl, pk_mul, nI_add]
      have ewn : (10 * nI w + nI i : Int32) = nI (10 * w + i) := by rw [show (10 : Int32) = nI 10 from rfl, pk_mul, nI_add]
      have hsel : b_X11_has s x2 (nI i - nI i / s.1 51 0 * s.1 51 0) ↔ selP V x2 i := by
        rw [er, hasb]
        exact Iff.rfl
      refine r_X11_wordBy_19 _ _ _ _ _ _ s ⟨i12, fun _ => ⟨hne, fun z => ?_, fun z => ⟨fun z1 => ?_, fun z1 => ⟨iq, fun z2 => ⟨?_, ?_, fun z3 => ?_, fun z3 => ?_⟩, fun z2 => ?_⟩⟩⟩, fun z => ?_⟩
      · have hns : ¬ selP V x2 i := fun k => z (hsel.mpr k)
        have := ih (i + 1) (by omega) b (hb.imp (fun k => ⟨k.1, lt_s k.2 (fun k2 => absurd k2 hns)⟩) id)
        rw [cnt_f hns] at this
        rw [nI_1]
        exact this
      · have hns := hsel.mp z
        have := ih (i + 1) (by omega) 0 (Or.inr ⟨rfl, hb.elim (fun k => absurd (k.1.symm.trans z1) (by decide)) (fun k => k.2)⟩)
        rw [cnt_t hns] at this
        rw [nI_1, nI_1]
        exact this
      · rw [nnum (by omega), e2, nlt (by omega) (by omega)] at z2
        rw [eqn]
        exact vin (show _ < 120 by omega) (by decide)
      · rw [ewn]
        exact vin (show _ < 120 by omega) (by decide)
      · have hns := hsel.mp z
        rw [nnum (by omega), e2, nlt (by omega) (by omega)] at z2
        rw [eqn, ewn, nnum (by omega), nnum (by omega)] at z3
        have hp := hb.resolve_right (fun k => z1 k.1)
        have := ih (i + 1) (by omega) 1 (Or.inl ⟨rfl, lt_s hp.2 (fun _ => ⟨z2, z3⟩)⟩)
        rw [cnt_t hns] at this
        rw [nI_1, nI_1]
        exact this
      · have hns := hsel.mp z
        rw [eqn, ewn, nnum (by omega), nnum (by omega)] at z3
        have := ih (i + 1) (by omega) 0 (Or.inr ⟨rfl, fun k => z3 (k.1 i (by omega) hns).2⟩)
        rw [cnt_t hns] at this
        rw [nI_1, nI_1]
        exact this
      · have hns := hsel.mp z
        rw [nnum (by omega), e2, nlt (by omega) (by omega)] at z2
        have := ih (i + 1) (by omega) 0 (Or.inr ⟨rfl, fun k => z2 (k.1 i (by omega) hns).1⟩)
        rw [cnt_t hns] at this
        rw [nI_1, nI_1]
        exact this
      · rw [nnum (by omega), e1, nlt (by omega) (by omega)] at z
        omega
  have outer : ∀ m q, q + m = Int32.toNatClampNeg (s.1 51 4) → Q (findF (fun q => sayP V x2 (s.1 55) (Int32.toNatClampNeg (s.1 54 w)) (Int32.toNatClampNeg (s.1 54 q)) w q) m q) s → AtA l G (d + 2) sX11_wordBy 2 [.ref 51, .int (nI w), .int x2, .int (nI q), .null, .null, .null] [] s (pI Q) := by
    intro m
    induction m with
    | zero =>
      intro q hq h
      refine r_X11_wordBy_2 _ _ _ s ⟨fun z => ?_, fun _ => h⟩
      rw [ez, nlt (by omega) (by omega)] at z
      omega
    | succ m ih =>
      intro q hq h
      refine r_X11_wordBy_2 _ _ _ s ⟨fun _ => ?_, fun z => ?_⟩
      · have h : Q (iC (sayP V x2 (s.1 55) (Int32.toNatClampNeg (s.1 54 w)) (Int32.toNatClampNeg (s.1 54 q)) w q) (nI q) (findF (fun q => sayP V x2 (s.1 55) (Int32.toNatClampNeg (s.1 54 w)) (Int32.toNatClampNeg (s.1 54 q)) w q) m (q + 1))) s := h
        exact inner q (by omega) (fun k => by rw [iC_t k] at h; exact h) (fun k => ih (q + 1) (by omega) (by rw [iC_f k] at h; exact h)) _ 0 (Nat.zero_add _) 1 (Or.inl ⟨rfl, fun j hj => absurd hj (Nat.not_lt_zero j)⟩)
      · rw [ez, nlt (by omega) (by omega)] at z
        omega
  exact r_X11_wordBy _ _ s (outer _ 0 (Nat.zero_add _) h)
