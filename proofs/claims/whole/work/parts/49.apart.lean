/-! words apart, on both sides; bits counted by the reference -/
def apP (V : Nat) (lt sz : Nat → Int32) (a b : Nat) : Prop := sz a = sz b → ∀ v, v < V → ∃ i, i < Int32.toNatClampNeg (sz a) ∧ ¬ i % V = v ∧ ¬ lt (10 * a + i) = lt (10 * b + i)
def b_X11_areApart (s : St) (x1 x2 : Int32) : Prop := apP (Int32.toNatClampNeg (s.1 51 0)) (s.1 55) (s.1 54) (Int32.toNatClampNeg x1) (Int32.toNatClampNeg x2)
def ok_X11_areApart (s : St) (x1 x2 : Int32) : Prop := mdR s ∧ ∃ a b, a < Int32.toNatClampNeg (s.1 51 4) ∧ b < Int32.toNatClampNeg (s.1 51 4) ∧ x1 = nI a ∧ x2 = nI b
theorem p_X11_areApart {l : Launch} {G : Geo} {d : Nat} (x1 x2 : Int32) (s : St) {Q : Int32 → St → Prop} (hok : ok_X11_areApart s x1 x2) (h : Q (bI (b_X11_areApart s x1 x2)) s) : DoesI l G (d + 1) 183 [.ref 51, .int x1, .int x2] s Q := by
  obtain ⟨⟨m1, m2, m3, m4, -, -, ⟨V, v1, v5, hV⟩, -⟩, a, b, ha, hb, rfl, rfl⟩ := hok
  obtain ⟨ez, hz⟩ := rg_num m1 (by decide)
  obtain ⟨e1, h1⟩ := rg_num (m2 a) (by decide)
  have ia : vp_in (nI a) (alen 54) := vin (show a < 12 by omega) (by decide)
  have ib : vp_in (nI b) (alen 54) := vin (show b < 12 by omega) (by decide)
  have hne : ¬ s.1 51 0 = 0 := by
    rw [hV, l0, neq (by omega) (by omega)]
    omega
  unfold b_X11_areApart at h
  rw [hV, nnum (by omega), nnum (by omega), nnum (by omega)] at h
  have fin : ∀ c : Int32, (c = 1 ∧ apP V (s.1 55) (s.1 54) a b) ∨ (c = 0 ∧ ¬ apP V (s.1 55) (s.1 54) a b) → narrow .boolean (.int c) = .int c ∧ Q c s := by
    intro c hc
    rcases hc with ⟨rfl, q⟩ | ⟨rfl, q⟩
    · rw [bI_1 q] at h
      exact ⟨rfl, h⟩
    · rw [bI_0 q] at h
      exact ⟨rfl, h⟩
  have inner : ∀ v c, v < V → (∀ c' : Int32, (c' = 1 ∧ c = 1 ∧ ∃ i, i < Int32.toNatClampNeg (s.1 54 a) ∧ ¬ i % V = v ∧ ¬ s.1 55 (10 * a + i) = s.1 55 (10 * b + i)) ∨ (c' = 0 ∧ (c = 0 ∨ ¬ ∃ i, i < Int32.toNatClampNeg (s.1 54 a) ∧ ¬ i % V = v ∧ ¬ s.1 55 (10 * a + i) = s.1 55 (10 * b + i))) → AtA l G (d + 1) sX11_areApart 22 [.ref 51, .int (nI a), .int (nI b), .int c', .int (nI (v + 1)), .null, .null] [] s (pI Q)) → (c = 0 ∨ c = 1) → ∀ m i, i + m = Int32.toNatClampNeg (s.1 54 a) → ∀ u : Int32, (u = 1 ∧ ∃ j, j < Int32.toNatClampNeg (s.1 54 a) ∧ ¬ j % V = v ∧ ¬ s.1 55 (10 * a + j) = s.1 55 (10 * b + j)) ∨ (u = 0 ∧ ∀ j, j < i → ¬ (¬ j % V = v ∧ ¬ s.1 55 (10 * a + j) = s.1 55 (10 * b + j))) → AtA l G (d + 1) sX11_areApart 37 [.ref 51, .int (nI a), .int (nI b), .int c, .int (nI v), .int u, .int (nI i)] [] s (pI Q) := by
    intro v c hv kk hc m
    induction m with
    | zero =>
      intro i hi u hu
      have : i = Int32.toNatClampNeg (s.1 54 a) := by omega
      subst this
      refine r_X11_areApart_37 _ _ _ _ _ _ s ⟨ia, fun z => ?_, fun _ => ⟨fun z => ?_, fun z => ⟨fun z2 => ?_, fun z2 => ?_⟩⟩⟩
      · rw [nnum (show a < 2 ^ 31 by omega), ← e1] at z
        exact (Int32.lt_irrefl z).elim
      · rw [nI_1]
        exact kk 0 (Or.inr ⟨rfl, Or.inl z⟩)
      · rw [nI_1]
        refine kk 0 (Or.inr ⟨rfl, Or.inr ?_⟩)
        rintro ⟨j, j1, j2⟩
        rcases hu with ⟨e, -⟩ | ⟨-, hu⟩
        · rw [e] at z2
          exact absurd z2 (by decide)
        · exact hu j j1 j2
      · rw [nI_1]
        refine kk 1 (Or.inl ⟨rfl, hc.resolve_left z, ?_⟩)
        rcases hu with ⟨-, hu⟩ | ⟨e, -⟩
        · exact hu
        · exact absurd e z2
    | succ m ih =>
      intro i hi u hu
      have er : (nI i - nI i / s.1 51 0 * s.1 51 0 : Int32) = nI (i % V) := by rw [hV, pk_rem (by omega) (by omega) (by omega)]
      have hm : i % V < V := Nat.mod_lt _ (by omega)
      have ea : (10 * nI a + nI i : Int32) = nI (10 * a + i) := by rw [show (10 : Int32) = nI 10 from rfl, pk_mul, nI_add]
      have eb : (10 * nI b + nI i : Int32) = nI (10 * b + i) := by rw [show (10 : Int32) = nI 10 from rfl, pk_mul, nI_add]
      refine r_X11_areApart_37 _ _ _ _ _ _ s ⟨ia, fun _ => ⟨fun z => ⟨hne, fun z2 => ?_, fun z2 => ⟨?_, ?_, fun z3 => ?_, fun z3 => ?_⟩⟩, fun z => ?_⟩, fun z => ?_⟩
      · rw [er, neq (by omega) (by omega)] at z2
        rw [nI_1]
        have hu' := hu.resolve_left (fun q => by rw [q.1] at z; exact absurd z (by decide))
        exact ih (i + 1) (by omega) 0 (Or.inr ⟨rfl, lt_s hu'.2 (fun q => q.1 z2)⟩)
      · rw [ea]
        exact vin (show _ < 120 by omega) (by decide)
      · rw [eb]
        exact vin (show _ < 120 by omega) (by decide)
      · rw [ea, eb, nnum (by omega), nnum (by omega)] at z3
        rw [nI_1]
        have hu' := hu.resolve_left (fun q => by rw [q.1] at z; exact absurd z (by decide))
        exact ih (i + 1) (by omega) 0 (Or.inr ⟨rfl, lt_s hu'.2 (fun q => q.2 z3)⟩)
      · rw [er, neq (by omega) (by omega)] at z2
        rw [ea, eb, nnum (by omega), nnum (by omega)] at z3
        rw [nI_1]
        exact ih (i + 1) (by omega) 1 (Or.inl ⟨rfl, i, by omega, z2, z3⟩)
      · rw [nI_1]
        exact ih (i + 1) (by omega) 1 (Or.inl ⟨rfl, (hu.resolve_right (fun q => z q.1)).2⟩)
      · rw [nnum (show a < 2 ^ 31 by omega), e1, nlt (by omega) (by omega)] at z
        omega
  have outer : s.1 54 a = s.1 54 b → ∀ m v, v + m = V → ∀ c : Int32, (c = 1 ∧ ∀ u, u < v → ∃ i, i < Int32.toNatClampNeg (s.1 54 a) ∧ ¬ i % V = u ∧ ¬ s.1 55 (10 * a + i) = s.1 55 (10 * b + i)) ∨ (c = 0 ∧ ¬ apP V (s.1 55) (s.1 54) a b) → AtA l G (d + 1) sX11_areApart 22 [.ref 51, .int (nI a), .int (nI b), .int c, .int (nI v), .null, .null] [] s (pI Q) := by
    intro hab m
    induction m with
    | zero =>
      intro v hv c hc
      have : v = V := by omega
      subst this
      refine r_X11_areApart_22 _ _ _ _ s ⟨fun z => ?_, fun _ => fin c (hc.imp (fun q => ⟨q.1, fun _ => q.2⟩) id)⟩
      rw [hV] at z
      exact (Int32.lt_irrefl z).elim
    | succ m ih =>
      intro v hv c hc
      refine r_X11_areApart_22 _ _ _ _ s ⟨fun _ => ?_, fun z => ?_⟩
      · refine inner v c (by omega) (fun c' hc' => ih (v + 1) (by omega) c' ?_) (hc.elim (fun q => Or.inr q.1) (fun q => Or.inl q.1)) _ 0 (Nat.zero_add _) 0 (Or.inr ⟨rfl, fun j hj => absurd hj (Nat.not_lt_zero j)⟩)
        rcases hc' with ⟨r1, r2, r3⟩ | ⟨r1, r2⟩
        · refine Or.inl ⟨r1, lt_s (hc.resolve_right (fun q => by rw [q.1] at r2; exact absurd r2 (by decide))).2 r3⟩
        · refine Or.inr ⟨r1, ?_⟩
          rcases r2 with r2 | r2
          · exact (hc.resolve_left (fun q => by rw [q.1] at r2; exact absurd r2 (by decide))).2
          · exact fun q => r2 (q hab v (by omega))
      · rw [hV, nlt (by omega) (by omega)] at z
        omega
  refine r_X11_areApart _ _ s ⟨ia, ib, fun z => ?_, fun z => ?_⟩
  · rw [nnum (by omega), nnum (by omega)] at z
    exact outer z V 0 (Nat.zero_add _) 1 (Or.inl ⟨rfl, fun u hu => absurd hu (Nat.not_lt_zero u)⟩)
  · rw [nnum (by omega), nnum (by omega)] at z
    rw [bI_1 (show apP V (s.1 55) (s.1 54) a b from fun q => absurd q z)] at h
    exact h
noncomputable def v_X11_bits (_s : St) (x1 : Int32) : Int32 := nI (pcN (Int32.toNatClampNeg x1))
def ok_X11_bits (_s : St) (x1 : Int32) : Prop := ∃ m, m < 4096 ∧ x1 = nI m
theorem bit1 {m k : Nat} (hk : k < 32) : ((nI m >>> (nI k &&& 31)) &&& 1) = nI (if m.testBit k = true then 1 else 0) := by
  refine b_ext fun i hi => ?_
  rw [b_and, b_1]
  by_cases h0 : i = 0
  · subst h0
    rw [b_sshr k hk _ (by decide), Nat.add_zero, if_pos hk, btn m hk, btn _ (by decide)]
    cases m.testBit k <;> rfl
  · rw [btn _ hi]
    have e : (if m.testBit k = true then 1 else 0).testBit i = false := by
      split
      · exact tb_hi (k := 1) (by decide) (by omega)
      · exact Nat.zero_testBit i
    rw [e]
    simp [h0]
theorem p_X11_bits {l : Launch} {G : Geo} {d : Nat} (x1 : Int32) (s : St) {Q : Int32 → St → Prop} (hok : ok_X11_bits s x1) (h : Q (v_X11_bits s x1) s) : DoesI l G (d + 1) 184 [.int x1] s Q := by
  obtain ⟨x, hx, rfl⟩ := hok
  unfold v_X11_bits pcN at h
  rw [nnum (by omega)] at h
  have loop : ∀ m k, k + m = 12 → AtA l G (d + 1) sX11_bits 4 [.int (nI x), .int (nI (cntN (fun i => x.testBit i = true) k)), .int (nI k)] [] s (pI Q) := by
    intro m
    induction m with
    | zero =>
      intro k hk
      have : k = 12 := by omega
      subst this
      exact r_X11_bits_4 _ _ _ s ⟨fun z => (Int32.lt_irrefl z).elim, fun _ => h⟩
    | succ m ih =>
      intro k hk
      have ihh := ih (k + 1) (by omega)
      refine r_X11_bits_4 _ _ _ s ⟨fun _ => ?_, fun z => ?_⟩
      · rw [bit1 (by omega), nI_add, nI_1]
        by_cases c : x.testBit k = true
        · rw [cnt_t (P := fun i => x.testBit i = true) c] at ihh
          rw [if_pos c]
          exact ihh
        · rw [cnt_f (P := fun i => x.testBit i = true) c] at ihh
          rw [if_neg c]
          exact ihh
      · rw [show (12 : Int32) = nI 12 from rfl, nlt (by omega) (by omega)] at z
        omega
  exact r_X11_bits _ s (loop 12 0 rfl)
