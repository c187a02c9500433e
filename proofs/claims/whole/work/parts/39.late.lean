/-! who came late, voice by voice -/
def hlP (snd ls : Nat → Int32) (T V v late : Nat) : Prop := ∀ i, i < T → i % V = v → snd i = (if i / V < late then 0 else ls i)
def b_X6_isHeardLate (s : St) (o : Nat) (x2 x3 x4 : Int32) : Prop := hlP (s.1 25) (s.1 (o + 1)) (Int32.toNatClampNeg (s.1 o 1)) (Int32.toNatClampNeg x2) (Int32.toNatClampNeg x3) (Int32.toNatClampNeg x4)
def lcO (s : St) : Prop := rwR s ∧ s.1 24 1 = s.1 18 1
def ok_X6_isHeardLate (s : St) (o : Nat) (x2 x3 x4 : Int32) : Prop := o = 18 ∧ lcO s ∧ ∃ V v late, 1 ≤ V ∧ V ≤ 5 ∧ v < V ∧ late ≤ 3 ∧ x2 = nI V ∧ x3 = nI v ∧ x4 = nI late
theorem div_add {V i n : Nat} (h1 : 1 ≤ V) (h5 : V ≤ 5) (hi : i / V = n) : (i + V) / V = n + 1 := by
  rw [Nat.add_div_right i (by omega), hi]
theorem p_X6_isHeardLate {l : Launch} {G : Geo} {d : Nat} (o : Nat) (x2 x3 x4 : Int32) (ho : o = 18 ∨ o = 20 ∨ o = 22) (s : St) {Q : Int32 → St → Prop} (hok : ok_X6_isHeardLate s o x2 x3 x4) (h : Q (bI (b_X6_isHeardLate s o x2 x3 x4)) s) : DoesI l G (d + 2) 82 [.ref o, .ref 24, .int x2, .int x3, .int x4] s Q := by
  obtain ⟨rfl, ⟨hR, hT⟩, V, v, late, v1, v5, hv, hl3, rfl, rfl, rfl⟩ := hok
  obtain ⟨er, hr⟩ := rg_num hR.1 (by decide)
  obtain ⟨T, eT⟩ : ∃ T, T = Int32.toNatClampNeg (s.1 24 1) := ⟨_, rfl⟩
  have e1 : s.1 18 1 = nI T := by rw [← hT, eT]; exact er
  unfold b_X6_isHeardLate at h
  rw [e1, nnum (by omega), nnum (by omega), nnum (by omega), nnum (by omega)] at h
  have h : Q (bI (hlP (s.1 25) (s.1 19) T V v late)) s := h
  have okl : ∀ i : Nat, ok_X6_letterAt s 18 (nI i) := by
    intro i q1 q2
    obtain ⟨k, -, hk, e⟩ := of_lt q1 q2 (n := 60) (by rw [e1]; exact rg_mk (by omega)) (by decide)
    rw [e]
    exact vin hk (by decide)
  have loop : ∀ m i n, T ≤ i + m → i ≤ 70 → i % V = v → i / V = n → (∀ j, j < i → j < T → j % V = v → s.1 25 j = (if j / V < late then 0 else s.1 19 j)) → AtA l G (d + 2) sX6_isHeardLate 6 [.ref 18, .ref 24, .int (nI V), .int (nI v), .int (nI late), .int (nI n), .int (nI i), .null] [] s (pI Q) := by
    intro m
    induction m with
    | zero =>
      intro i n hi hi2 hm hn hp
      refine r_X6_isHeardLate_6 18 _ _ _ _ _ (Or.inl rfl) s ⟨fun z => ?_, fun _ => ?_⟩
      · rw [e1, nlt (by omega) (by omega)] at z
        omega
      · rw [bI_1 (show hlP (s.1 25) (s.1 19) T V v late from fun j j1 j2 => hp j (by omega) j1 j2)] at h
        exact h
    | succ m ih =>
      intro i n hi hi2 hm hn hp
      have hni : n ≤ i := by rw [← hn]; exact Nat.div_le_self _ _
      by_cases hlt : i < T
      · have next : s.1 25 i = (if i / V < late then 0 else s.1 19 i) → AtA l G (d + 2) sX6_isHeardLate 6 [.ref 18, .ref 24, .int (nI V), .int (nI v), .int (nI late), .int (nI n + 1), .int (nI i + nI V), .null] [] s (pI Q) := by
          intro q
          rw [nI_1, nI_add]
          refine ih (i + V) (n + 1) (by omega) (by omega) (mod_add v1 v5 hm) (div_add v1 v5 hn) (fun j j1 j2 j3 => ?_)
          by_cases c1 : j < i
          · exact hp j c1 j2 j3
          · by_cases c2 : j = i
            · subst c2
              exact q
            · exact absurd (by rw [show i + (j - i) = j by omega]; exact j3) (mod_gap (r := j - i) v1 v5 hm (by omega) (by omega))
        have bad : ¬ s.1 25 i = (if i / V < late then 0 else s.1 19 i) → Q 0 s := by
          intro q
          rw [bI_0 (fun k => q (k i hlt hm))] at h
          exact h
        have hv1 : v_X7_at s (nI i) = s.1 25 i := v_row hR (by omega)
        have hv2 : v_X6_letterAt s 18 (nI i) = s.1 19 i := by
          unfold v_X6_letterAt
          rw [iC_f (nneg i (by omega)), e1, iC_t ((nlt (by omega) (by omega)).mpr hlt), nnum (by omega)]
        refine r_X6_isHeardLate_6 18 _ _ _ _ _ (Or.inl rfl) s ⟨fun _ => ⟨fun _ => ⟨fun z2 => ⟨ok_row hR _, fun z3 => ?_, fun z3 => ?_⟩, fun z2 => ⟨okl i, ok_row hR _, fun z3 => ?_, fun z3 => ?_⟩⟩, fun z => ?_⟩, fun z => ?_⟩
        · rw [nlt (by omega) (by omega), ← hn] at z2
          exact next (by rw [if_pos z2, ← hv1]; exact z3)
        · rw [nlt (by omega) (by omega), ← hn] at z2
          exact bad (by rw [if_pos z2, ← hv1]; exact z3)
        · rw [nlt (by omega) (by omega), ← hn] at z2
          exact next (by rw [if_neg z2, ← hv1, ← hv2]; exact z3)
        · rw [nlt (by omega) (by omega), ← hn] at z2
          exact bad (by rw [if_neg z2, ← hv1, ← hv2]; exact z3)
        · rw [e1, nlt (by omega) (by omega)] at z
          omega
        · rw [e1, nlt (by omega) (by omega)] at z
          omega
      · refine r_X6_isHeardLate_6 18 _ _ _ _ _ (Or.inl rfl) s ⟨fun z => ?_, fun _ => ?_⟩
        · rw [e1, nlt (by omega) (by omega)] at z
          omega
        · rw [bI_1 (show hlP (s.1 25) (s.1 19) T V v late from fun j j1 j2 => hp j (by omega) j1 j2)] at h
          exact h
  refine r_X6_isHeardLate 18 _ _ _ (Or.inl rfl) s ?_
  exact loop 70 v 0 (by omega) (by omega) (Nat.mod_eq_of_lt hv) (Nat.div_eq_of_lt hv) (fun j j1 _ j3 => by
    rw [Nat.mod_eq_of_lt (by omega)] at j3
    omega)
