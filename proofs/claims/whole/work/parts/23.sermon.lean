/-! the sermon's letters; counts -/
def smR (s : St) : Prop := rg (s.1 51 23) 6 ∧ (∀ k, k < Int32.toNatClampNeg (s.1 51 23) → ∃ w, w < 12 ∧ s.1 60 k = nI w) ∧ (∀ w, rg (s.1 54 w) 10)
theorem ri_sm {s : St} (h : RI s) : smR s := by
  obtain ⟨-, -, ⟨w1, w2, w3, w4, w5, w6, w7, w8, w9, w10⟩, -, ⟨m1, m2, -⟩, -⟩ := h
  refine ⟨m1, fun k hk => ?_, by rw [w9]; exact w2⟩
  obtain ⟨w, hw, e⟩ := m2 k hk
  have := (rg_num w1 (by decide)).2
  exact ⟨w, by omega, e⟩
noncomputable def v_X11_lettersOf (s : St) : Int32 := nI (totF (s.1 54) (s.1 60) (Int32.toNatClampNeg (s.1 51 23)))
def ok_X11_lettersOf (s : St) : Prop := smR s
theorem p_X11_lettersOf {l : Launch} {G : Geo} {d : Nat} (s : St) {Q : Int32 → St → Prop} (hok : ok_X11_lettersOf s) (h : Q (v_X11_lettersOf s) s) : DoesI l G (d + 1) 151 [.ref 51] s Q := by
  obtain ⟨h1, h2, h3⟩ := hok
  obtain ⟨e1, b1⟩ := rg_num h1 (by decide)
  have loop : ∀ m k, k + m = Int32.toNatClampNeg (s.1 51 23) → AtA l G (d + 1) sX11_lettersOf 4 [.ref 51, .int (nI (totF (s.1 54) (s.1 60) k)), .int (nI k)] [] s (pI Q) := by
    intro m
    induction m with
    | zero =>
      intro k hk
      refine r_X11_lettersOf_4 _ _ s ⟨fun z => ?_, fun _ => ?_⟩
      · rw [e1, nlt (by omega) (by omega)] at z
        omega
      · have : k = Int32.toNatClampNeg (s.1 51 23) := by omega
        rw [this]
        exact h
    | succ m ih =>
      intro k hk
      obtain ⟨w, hw, ew⟩ := h2 k (by omega)
      obtain ⟨e2, b2⟩ := rg_num (h3 w) (by decide)
      refine r_X11_lettersOf_4 _ _ s ⟨fun _ => ⟨vin (show k < 6 by omega) (by decide), ?_, ?_⟩, fun z => ?_⟩
      · rw [nnum (by omega), ew]
        exact vin (show w < 12 by omega) (by decide)
      · rw [nnum (by omega), ew, nnum (by omega), nI_1, e2, nI_add]
        have e3 : totF (s.1 54) (s.1 60) k + Int32.toNatClampNeg (s.1 54 w) = totF (s.1 54) (s.1 60) (k + 1) := by
          show _ = sumN _ k + Int32.toNatClampNeg (s.1 54 (Int32.toNatClampNeg (s.1 60 k)))
          rw [ew, nnum (by omega)]
          rfl
        rw [e3]
        exact ih (k + 1) (by omega)
      · rw [e1, nlt (by omega) (by omega)] at z
        omega
  exact r_X11_lettersOf s (loop _ 0 (Nat.zero_add _))
noncomputable def v_X11_letterAt (s : St) (x1 : Int32) : Int32 := latF (s.1 54) (s.1 55) (s.1 60) (Int32.toNatClampNeg (s.1 51 23)) 0 (Int32.toNatClampNeg x1)
def ok_X11_letterAt (s : St) (x1 : Int32) : Prop := smR s ∧ rg x1 100
theorem p_X11_letterAt {l : Launch} {G : Geo} {d : Nat} (x1 : Int32) (s : St) {Q : Int32 → St → Prop} (hok : ok_X11_letterAt s x1) (h : Q (v_X11_letterAt s x1) s) : DoesI l G (d + 1) 152 [.ref 51, .int x1] s Q := by
  obtain ⟨⟨h1, h2, h3⟩, i, hi, rfl⟩ := hok
  obtain ⟨e1, b1⟩ := rg_num h1 (by decide)
  have loop : ∀ m k i, k + m = Int32.toNatClampNeg (s.1 51 23) → i ≤ 100 → ∀ x1, Q (latF (s.1 54) (s.1 55) (s.1 60) m k i) s → AtA l G (d + 1) sX11_letterAt 4 [.ref 51, .int x1, .int (nI i), .int (nI k), .null] [] s (pI Q) := by
    intro m
    induction m with
    | zero =>
      intro k i hk hi x1 h
      refine r_X11_letterAt_4 _ _ _ s ⟨fun z => ?_, fun _ => h⟩
      rw [e1, nlt (by omega) (by omega)] at z
      omega
    | succ m ih =>
      intro k i hk hi x1 h
      obtain ⟨w, hw, ew⟩ := h2 k (by omega)
      obtain ⟨e2, b2⟩ := rg_num (h3 w) (by decide)
      have hwin : vp_in (s.1 60 (Int32.toNatClampNeg (nI k))) (alen 54) := by
        rw [nnum (by omega), ew]
        exact vin (show w < 12 by omega) (by decide)
      unfold latF at h
      rw [ew, nnum (by omega)] at h
      refine r_X11_letterAt_4 _ _ _ s ⟨fun _ => ⟨vin (show k < 6 by omega) (by decide), hwin, fun z => ?_, fun z => ⟨hwin, ?_⟩⟩, fun z => ?_⟩
      · rw [nnum (by omega), ew, nnum (by omega), e2, nlt (by omega) (by omega)] at z
        rw [nnum (by omega), ew, show (10 : Int32) = nI 10 from rfl, pk_mul, nI_add, nnum (by omega)]
        rw [if_pos z] at h
        exact ⟨vin (show 10 * w + i < 120 by omega) (by decide), h⟩
      · rw [nnum (by omega), ew, nnum (by omega), e2, nlt (by omega) (by omega)] at z
        rw [if_neg z] at h
        rw [nnum (by omega), ew, nnum (by omega), e2, pk_sub (by omega), nI_1]
        exact ih (k + 1) _ (by omega) (by omega) _ h
      · rw [e1, nlt (by omega) (by omega)] at z
        omega
  unfold v_X11_letterAt at h
  rw [nnum (by omega)] at h
  exact r_X11_letterAt _ s (loop _ 0 i (Nat.zero_add _) hi _ h)
/-! counting -/
noncomputable def cntN (P : Nat → Prop) : Nat → Nat
  | 0 => 0
  | n + 1 => cntN P n + iC (P n) 1 0
theorem cnt_t {P : Nat → Prop} {n : Nat} (h : P n) : cntN P (n + 1) = cntN P n + 1 := by
  show cntN P n + iC (P n) 1 0 = _
  rw [iC_t h]
theorem cnt_f {P : Nat → Prop} {n : Nat} (h : ¬ P n) : cntN P (n + 1) = cntN P n := by
  show cntN P n + iC (P n) 1 0 = _
  rw [iC_f h]
  rfl
theorem cnt_le (P : Nat → Prop) : ∀ n, cntN P n ≤ n
  | 0 => Nat.le_refl 0
  | n + 1 => by
    have := cnt_le P n
    by_cases h : P n
    · rw [cnt_t h]; omega
    · rw [cnt_f h]; omega
theorem cnt_skip {P : Nat → Prop} {a : Nat} : ∀ m, (∀ j, a ≤ j → j < a + m → ¬ P j) → cntN P (a + m) = cntN P a
  | 0, _ => rfl
  | m + 1, h => by
    show cntN P (a + m + 1) = _
    rw [cnt_f (h (a + m) (by omega) (by omega))]
    exact cnt_skip m (fun j h1 h2 => h j h1 (by omega))
theorem cnt_congr {P P' : Nat → Prop} : ∀ n, (∀ j, j < n → (P j ↔ P' j)) → cntN P n = cntN P' n
  | 0, _ => rfl
  | n + 1, h => by
    have ih := cnt_congr n (fun j hj => h j (by omega))
    by_cases hp : P n
    · rw [cnt_t hp, cnt_t ((h n (by omega)).mp hp), ih]
    · rw [cnt_f hp, cnt_f (fun q => hp ((h n (by omega)).mpr q)), ih]
/-! who speaks, and is heard -/
theorem v_vc {s : St} {i V : Nat} (hV : s.1 8 1 = nI V) (h1 : 1 ≤ V) (h2 : V ≤ 5) (hi : i < 2 ^ 31) : v_X0_voiceOf s 8 (nI i) = nI (i % V) := by
  unfold v_X0_voiceOf
  rw [hV, iC_f (by rw [l1, nlt (by omega) (by omega)]; omega), pk_rem hi (by omega) (by omega)]
theorem ok_vc {s : St} (h : chR s 8) (x : Int32) : ok_X0_voiceOf s 8 x := by
  obtain ⟨⟨V, h1, h2, e⟩, -⟩ := h
  intro _
  rw [e, l0, neq (by omega) (by omega)]
  omega
theorem ok_late {s : St} (h : chR s 8) (x : Int32) : ok_X0_lateOf s 8 x := by
  obtain ⟨⟨V, h1, h2, e⟩, -⟩ := h
  intro h3 h4
  obtain ⟨k, -, hk, rfl⟩ := of_lt h3 h4 (n := 5) (by rw [e]; exact rg_mk h2) (by decide)
  exact vin hk (by decide)
theorem ok_sd {s : St} (h : chR s 8) (x : Int32) : ok_X0_isSaid s 8 x := by
  have h0 := h
  obtain ⟨⟨V, h1, h2, e⟩, -⟩ := h0
  have hne : ¬ s.1 8 1 = 0 := by
    rw [e, l0, neq (by omega) (by omega)]
    omega
  exact fun _ => ⟨hne, hne, ok_late h _⟩
noncomputable def v_X6_lettersHeard (s : St) (o : Nat) : Int32 := nI (cntN (fun i => b_X0_isSaid s 8 (nI i)) (Int32.toNatClampNeg (s.1 o 4)))
def ok_X6_lettersHeard (s : St) (o : Nat) : Prop := chR s 8 ∧ rg (s.1 o 4) 60
theorem p_X6_lettersHeard {l : Launch} {G : Geo} {d : Nat} (o : Nat) (ho : o = 18 ∨ o = 20 ∨ o = 22) (s : St) {Q : Int32 → St → Prop} (hok : ok_X6_lettersHeard s o) (h : Q (v_X6_lettersHeard s o) s) : DoesI l G (d + 3) 77 [.ref o, .ref 8] s Q := by
  obtain ⟨hC, hg⟩ := hok
  obtain ⟨e1, b1⟩ := rg_num hg (by decide)
  have loop : ∀ m i, i + m = Int32.toNatClampNeg (s.1 o 4) → AtA l G (d + 3) sX6_lettersHeard 4 [.ref o, .ref 8, .int (nI (cntN (fun i => b_X0_isSaid s 8 (nI i)) i)), .int (nI i)] [] s (pI Q) := by
    intro m
    induction m with
    | zero =>
      intro i hi
      refine r_X6_lettersHeard_4 _ _ _ ho s ⟨fun z => ?_, fun _ => ?_⟩
      · rw [e1, nlt (by omega) (by omega)] at z
        omega
      · have : i = Int32.toNatClampNeg (s.1 o 4) := by omega
        rw [this]
        exact h
    | succ m ih =>
      intro i hi
      refine r_X6_lettersHeard_4 _ _ _ ho s ⟨fun _ => ⟨ok_sd hC _, fun z => ?_, fun z => ?_⟩, fun z => ?_⟩
      · have := ih (i + 1) (by omega)
        rw [cnt_f (P := fun i => b_X0_isSaid s 8 (nI i)) z] at this
        rw [nI_1]
        exact this
      · have := ih (i + 1) (by omega)
        rw [cnt_t (P := fun i => b_X0_isSaid s 8 (nI i)) z] at this
        rw [nI_1, nI_1]
        exact this
      · rw [e1, nlt (by omega) (by omega)] at z
        omega
  exact r_X6_lettersHeard _ ho s (loop _ 0 (Nat.zero_add _))
noncomputable def v_X6_lettersSaidBy (s : St) (o : Nat) (x1 : Int32) : Int32 := nI (cntN (fun i => v_X0_voiceOf s 8 (nI i) = x1 ∧ b_X0_isSaid s 8 (nI i)) (Int32.toNatClampNeg (s.1 o 4)))
def ok_X6_lettersSaidBy (s : St) (o : Nat) (_x1 : Int32) : Prop := chR s 8 ∧ rg (s.1 o 4) 60
theorem p_X6_lettersSaidBy {l : Launch} {G : Geo} {d : Nat} (o : Nat) (x1 : Int32) (ho : o = 18 ∨ o = 20 ∨ o = 22) (s : St) {Q : Int32 → St → Prop} (hok : ok_X6_lettersSaidBy s o x1) (h : Q (v_X6_lettersSaidBy s o x1) s) : DoesI l G (d + 3) 78 [.ref o, .int x1, .ref 8] s Q := by
  obtain ⟨hC, hg⟩ := hok
  obtain ⟨e1, b1⟩ := rg_num hg (by decide)
  have loop : ∀ m i, i + m = Int32.toNatClampNeg (s.1 o 4) → AtA l G (d + 3) sX6_lettersSaidBy 5 [.ref o, .int x1, .ref 8, .int (nI (cntN (fun i => v_X0_voiceOf s 8 (nI i) = x1 ∧ b_X0_isSaid s 8 (nI i)) i)), .int (nI i)] [] s (pI Q) := by
    intro m
    induction m with
    | zero =>
      intro i hi
      refine r_X6_lettersSaidBy_5 _ _ _ _ ho s ⟨fun z => ?_, fun _ => ?_⟩
      · rw [e1, nlt (by omega) (by omega)] at z
        omega
      · have : i = Int32.toNatClampNeg (s.1 o 4) := by omega
        rw [this]
        exact h
    | succ m ih =>
      intro i hi
      have ihh := ih (i + 1) (by omega)
      refine r_X6_lettersSaidBy_5 _ _ _ _ ho s ⟨fun _ => ⟨ok_vc hC _, fun z1 => ⟨ok_sd hC _, fun z => ?_, fun z => ?_⟩, fun z1 => ?_⟩, fun z => ?_⟩
      · rw [cnt_f (P := fun i => v_X0_voiceOf s 8 (nI i) = x1 ∧ b_X0_isSaid s 8 (nI i)) (fun q => z q.2)] at ihh
        rw [nI_1]
        exact ihh
      · rw [cnt_t (P := fun i => v_X0_voiceOf s 8 (nI i) = x1 ∧ b_X0_isSaid s 8 (nI i)) ⟨z1, z⟩] at ihh
        rw [nI_1, nI_1]
        exact ihh
      · rw [cnt_f (P := fun i => v_X0_voiceOf s 8 (nI i) = x1 ∧ b_X0_isSaid s 8 (nI i)) (fun q => z1 q.1)] at ihh
        rw [nI_1]
        exact ihh
      · rw [e1, nlt (by omega) (by omega)] at z
        omega
  exact r_X6_lettersSaidBy _ _ ho s (loop _ 0 (Nat.zero_add _))
