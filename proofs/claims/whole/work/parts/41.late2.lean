/-! rows of late voices, counted; the least -/
def prodN (f : Nat → Nat) : Nat → Nat
  | 0 => 1
  | n + 1 => prodN f n * f n
noncomputable def v_X6_countLateRows (s : St) (o : Nat) (x2 : Int32) : Int32 := nI (prodN (fun v => cntN (fun late => hlP (s.1 25) (s.1 (o + 1)) (Int32.toNatClampNeg (s.1 o 1)) (Int32.toNatClampNeg x2) v late) 4) (Int32.toNatClampNeg x2))
def ok_X6_countLateRows (s : St) (o : Nat) (x2 : Int32) : Prop := o = 18 ∧ lcO s ∧ ∃ V, 1 ≤ V ∧ V ≤ 5 ∧ x2 = nI V
theorem hl_iff {s : St} {V v late : Nat} (v5 : V ≤ 5) (hv : v < V) (hl : late ≤ 3) : b_X6_isHeardLate s 18 (nI V) (nI v) (nI late) ↔ hlP (s.1 25) (s.1 19) (Int32.toNatClampNeg (s.1 18 1)) V v late := by
  unfold b_X6_isHeardLate
  rw [nnum (by omega), nnum (by omega), nnum (by omega)]
theorem p_X6_countLateRows {l : Launch} {G : Geo} {d : Nat} (o : Nat) (x2 : Int32) (ho : o = 18 ∨ o = 20 ∨ o = 22) (s : St) {Q : Int32 → St → Prop} (hok : ok_X6_countLateRows s o x2) (h : Q (v_X6_countLateRows s o x2) s) : DoesI l G (d + 3) 79 [.ref o, .ref 24, .int x2] s Q := by
  obtain ⟨rfl, hL, V, v1, v5, rfl⟩ := hok
  unfold v_X6_countLateRows at h
  rw [nnum (by omega)] at h
  have inner : ∀ v p, v < V → AtA l G (d + 3) sX6_countLateRows 5 [.ref 18, .ref 24, .int (nI V), .int (nI (p * cntN (fun late => hlP (s.1 25) (s.1 19) (Int32.toNatClampNeg (s.1 18 1)) V v late) 4)), .int (nI (v + 1)), .null, .null] [] s (pI Q) → ∀ m k, k + m = 4 → AtA l G (d + 3) sX6_countLateRows 17 [.ref 18, .ref 24, .int (nI V), .int (nI p), .int (nI v), .int (nI (cntN (fun late => hlP (s.1 25) (s.1 19) (Int32.toNatClampNeg (s.1 18 1)) V v late) k)), .int (nI k)] [] s (pI Q) := by
    intro v p hv kk m
    induction m with
    | zero =>
      intro k hk
      have : k = 4 := by omega
      subst this
      refine r_X6_countLateRows_17 18 _ _ _ _ _ (Or.inl rfl) s ⟨fun _ => ?_, fun z => absurd (by decide) z⟩
      rw [pk_mul, nI_1]
      exact kk
    | succ m ih =>
      intro k hk
      have ihh := ih (k + 1) (by omega)
      have h1 := hl_iff (s := s) v5 hv (show k ≤ 3 by omega)
      refine r_X6_countLateRows_17 18 _ _ _ _ _ (Or.inl rfl) s ⟨fun z => ?_, fun _ => ⟨⟨rfl, hL, V, v, k, v1, v5, hv, by omega, rfl, rfl, rfl⟩, fun z => ?_, fun z => ?_⟩⟩
      · rw [show (3 : Int32) = nI 3 from rfl, nlt (by omega) (by omega)] at z
        omega
      · rw [cnt_f (P := fun late => hlP (s.1 25) (s.1 19) (Int32.toNatClampNeg (s.1 18 1)) V v late) (fun q => z (h1.mpr q))] at ihh
        rw [nI_1]
        exact ihh
      · rw [cnt_t (P := fun late => hlP (s.1 25) (s.1 19) (Int32.toNatClampNeg (s.1 18 1)) V v late) (h1.mp z)] at ihh
        rw [nI_1, nI_1]
        exact ihh
  have outer : ∀ m v, v + m = V → AtA l G (d + 3) sX6_countLateRows 5 [.ref 18, .ref 24, .int (nI V), .int (nI (prodN (fun v => cntN (fun late => hlP (s.1 25) (s.1 19) (Int32.toNatClampNeg (s.1 18 1)) V v late) 4) v)), .int (nI v), .null, .null] [] s (pI Q) := by
    intro m
    induction m with
    | zero =>
      intro v hv
      have : v = V := by omega
      subst this
      exact r_X6_countLateRows_5 18 _ _ _ (Or.inl rfl) s ⟨fun z => (Int32.lt_irrefl z).elim, fun _ => h⟩
    | succ m ih =>
      intro v hv
      refine r_X6_countLateRows_5 18 _ _ _ (Or.inl rfl) s ⟨fun _ => inner v _ (by omega) (ih (v + 1) (by omega)) 4 0 rfl, fun z => ?_⟩
      rw [nlt (by omega) (by omega)] at z
      omega
  exact r_X6_countLateRows 18 _ (Or.inl rfl) s (outer V 0 (Nat.zero_add _))
noncomputable def v_X6_leastLate (s : St) (o : Nat) (x2 x3 : Int32) : Int32 := findF (fun late => hlP (s.1 25) (s.1 (o + 1)) (Int32.toNatClampNeg (s.1 o 1)) (Int32.toNatClampNeg x2) (Int32.toNatClampNeg x3) late) 4 0
def ok_X6_leastLate (s : St) (o : Nat) (x2 x3 : Int32) : Prop := o = 18 ∧ lcO s ∧ ∃ V v, 1 ≤ V ∧ V ≤ 5 ∧ v < V ∧ x2 = nI V ∧ x3 = nI v
theorem p_X6_leastLate {l : Launch} {G : Geo} {d : Nat} (o : Nat) (x2 x3 : Int32) (ho : o = 18 ∨ o = 20 ∨ o = 22) (s : St) {Q : Int32 → St → Prop} (hok : ok_X6_leastLate s o x2 x3) (h : Q (v_X6_leastLate s o x2 x3) s) : DoesI l G (d + 3) 81 [.ref o, .ref 24, .int x2, .int x3] s Q := by
  obtain ⟨rfl, hL, V, v, v1, v5, hv, rfl, rfl⟩ := hok
  unfold v_X6_leastLate at h
  rw [nnum (by omega), nnum (by omega)] at h
  have loop : ∀ m k, k + m = 4 → Q (findF (fun late => hlP (s.1 25) (s.1 19) (Int32.toNatClampNeg (s.1 18 1)) V v late) m k) s → AtA l G (d + 3) sX6_leastLate 3 [.ref 18, .ref 24, .int (nI V), .int (nI v), .int (nI k)] [] s (pI Q) := by
    intro m
    induction m with
    | zero =>
      intro k hk h
      have : k = 4 := by omega
      subst this
      exact r_X6_leastLate_3 18 _ _ _ (Or.inl rfl) s ⟨fun _ => h, fun z => absurd (by decide) z⟩
    | succ m ih =>
      intro k hk h
      have h : Q (iC (hlP (s.1 25) (s.1 19) (Int32.toNatClampNeg (s.1 18 1)) V v k) (nI k) (findF (fun late => hlP (s.1 25) (s.1 19) (Int32.toNatClampNeg (s.1 18 1)) V v late) m (k + 1))) s := h
      have h1 := hl_iff (s := s) v5 hv (show k ≤ 3 by omega)
      refine r_X6_leastLate_3 18 _ _ _ (Or.inl rfl) s ⟨fun z => ?_, fun _ => ⟨⟨rfl, hL, V, v, k, v1, v5, hv, by omega, rfl, rfl, rfl⟩, fun z => ?_, fun z => ?_⟩⟩
      · rw [show (3 : Int32) = nI 3 from rfl, nlt (by omega) (by omega)] at z
        omega
      · rw [iC_f (fun q => z (h1.mpr q))] at h
        rw [nI_1]
        exact ih (k + 1) (by omega) h
      · rw [iC_t (h1.mp z)] at h
        exact h
  exact r_X6_leastLate 18 _ _ (Or.inl rfl) s (loop 4 0 rfl h)
