/-! the least row -/
noncomputable def lrF (L : Nat → Int32) : Nat → Nat → Nat → Int32
  | 0, _, acc => nI acc
  | m + 1, v, acc => iC (L v = -1) (-1) (lrF L m (v + 1) (4 * acc + Int32.toNatClampNeg (L v)))
noncomputable def v_X6_firstLateRow (s : St) (o : Nat) (x2 : Int32) : Int32 := lrF (fun v => findF (fun late => hlP (s.1 25) (s.1 (o + 1)) (Int32.toNatClampNeg (s.1 o 1)) (Int32.toNatClampNeg x2) v late) 4 0) (Int32.toNatClampNeg x2) 0 0
def ok_X6_firstLateRow (s : St) (o : Nat) (x2 : Int32) : Prop := o = 18 ∧ lcO s ∧ ∃ V, 1 ≤ V ∧ V ≤ 5 ∧ x2 = nI V
theorem p_X6_firstLateRow {l : Launch} {G : Geo} {d : Nat} (o : Nat) (x2 : Int32) (ho : o = 18 ∨ o = 20 ∨ o = 22) (s : St) {Q : Int32 → St → Prop} (hok : ok_X6_firstLateRow s o x2) (h : Q (v_X6_firstLateRow s o x2) s) : DoesI l G (d + 4) 80 [.ref o, .ref 24, .int x2] s Q := by
  obtain ⟨rfl, hL, V, v1, v5, rfl⟩ := hok
  unfold v_X6_firstLateRow at h
  rw [nnum (by omega)] at h
  have loop : ∀ m v acc, v + m = V → Q (lrF (fun v => findF (fun late => hlP (s.1 25) (s.1 19) (Int32.toNatClampNeg (s.1 18 1)) V v late) 4 0) m v acc) s → AtA l G (d + 4) sX6_firstLateRow 5 [.ref 18, .ref 24, .int (nI V), .int (nI acc), .int (nI v), .null] [] s (pI Q) := by
    intro m
    induction m with
    | zero =>
      intro v acc hv h
      have : v = V := by omega
      subst this
      exact r_X6_firstLateRow_5 18 _ _ _ (Or.inl rfl) s ⟨fun z => (Int32.lt_irrefl z).elim, fun _ => h⟩
    | succ m ih =>
      intro v acc hv h
      have h : Q (iC (findF (fun late => hlP (s.1 25) (s.1 19) (Int32.toNatClampNeg (s.1 18 1)) V v late) 4 0 = -1) (-1) (lrF (fun v => findF (fun late => hlP (s.1 25) (s.1 19) (Int32.toNatClampNeg (s.1 18 1)) V v late) 4 0) m (v + 1) (4 * acc + Int32.toNatClampNeg (findF (fun late => hlP (s.1 25) (s.1 19) (Int32.toNatClampNeg (s.1 18 1)) V v late) 4 0)))) s := h
      have e1 : v_X6_leastLate s 18 (nI V) (nI v) = findF (fun late => hlP (s.1 25) (s.1 19) (Int32.toNatClampNeg (s.1 18 1)) V v late) 4 0 := by
        unfold v_X6_leastLate
        rw [nnum (by omega), nnum (by omega)]
      refine r_X6_firstLateRow_5 18 _ _ _ (Or.inl rfl) s ⟨fun _ => ⟨⟨rfl, hL, V, v, v1, v5, by omega, rfl, rfl⟩, fun z => ?_, fun z => ?_⟩, fun z => ?_⟩
      · rw [e1] at z
        rw [iC_t z] at h
        exact h
      · rw [e1] at z ⊢
        rw [iC_f z] at h
        rcases findF_or (P := fun late => hlP (s.1 25) (s.1 19) (Int32.toNatClampNeg (s.1 18 1)) V v late) 4 0 with e | ⟨j, -, hj, e⟩
        · exact absurd e z
        · rw [e, nnum (by omega)] at h
          rw [e, show (4 : Int32) = nI 4 from rfl, pk_mul, nI_add, nI_1]
          exact ih (v + 1) _ (by omega) h
      · rw [nlt (by omega) (by omega)] at z
        omega
  exact r_X6_firstLateRow 18 _ (Or.inl rfl) s (loop V 0 0 (Nat.zero_add _) h)
