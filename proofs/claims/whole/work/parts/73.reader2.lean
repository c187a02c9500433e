/-! the class's reader: its lines -/
theorem dr_len {s : St} {D : Dr} (hD : drX s = D) : s.1 15 1 = dV D ∧ s.1 15 2 = dA D ∧ s.1 15 3 = dH D ∧ tr 5 (s.1 16) = dT D ∧ s.1 11 3 = dN D ∧ s.1 11 4 = dF D ∧ tr 120 (s.1 12) = dL D ∧ tr 12 (s.1 13) = dZ D ∧ tr 12 (s.1 14) = dS D := by
  subst hD
  exact ⟨rfl, rfl, rfl, rfl, rfl, rfl, rfl, rfl, rfl⟩
theorem dr_mk {s : St} {D : Dr} (h : s.1 15 1 = dV D ∧ s.1 15 2 = dA D ∧ s.1 15 3 = dH D ∧ tr 5 (s.1 16) = dT D ∧ s.1 11 3 = dN D ∧ s.1 11 4 = dF D ∧ tr 120 (s.1 12) = dL D ∧ tr 12 (s.1 13) = dZ D ∧ tr 12 (s.1 14) = dS D) : drX s = D := by
  obtain ⟨h1, h2, h3, h4, h5, h6, h7, h8, h9⟩ := h
  unfold drX
  rw [h1, h2, h3, h4, h5, h6, h7, h8, h9]
  rfl
def spl (c : Nat → Nat) (D : Dr) (b m w : Nat) : Prop := Int32.toNatClampNeg (dZ D w) = m ∧ ∀ i, i < m → dL D (10 * w + i) = nI (c (b + i) - 96)
theorem p_spelt {l : Launch} {G : Geo} {d : Nat} {c : Nat → Nat} {n b e w : Nat} {D : Dr} (s : St) {Q : Int32 → St → Prop} (hT : tx s c n) (hD : drX s = D) (hW : wfD D) (hw : w < Int32.toNatClampNeg (dN D)) (hbe : b ≤ e) (hen : e ≤ n) (hlt : ∀ j, b ≤ j → j < e → 97 ≤ c j) (h : Q (bI (spl c D b (e - b) w)) s) : DoesI l G (d + 2) 102 [.ref 11, .int (nI w), .ref 1, .int (nI b), .int (nI e)] s Q := by
  have h200 := hT.2.1
  obtain ⟨-, -, -, -, q5, -, q7, q8, -⟩ := dr_len hD
  obtain ⟨eN, hN⟩ := rg_num hW.2.2.1 (by decide)
  obtain ⟨eZ, hZ⟩ := rg_num (hW.2.2.2.1 w) (by decide)
  have z1 : s.1 13 w = dZ D w := by rw [← q8, tr_in (by omega)]
  have okl : ok_X9_lengthOf s 11 (nI w) := fun _ _ => vin (show w < 12 by omega) (by decide)
  have vl : v_X9_lengthOf s 11 (nI w) = dZ D w := by
    unfold v_X9_lengthOf
    rw [iC_f (nneg w (by omega)), iC_t (by rw [q5, eN, nlt (by omega) (by omega)]; exact hw), nnum (by omega)]
    exact z1
  have loop : ∀ m k, k + m = e - b → Int32.toNatClampNeg (dZ D w) = e - b → (∀ i, i < k → dL D (10 * w + i) = nI (c (b + i) - 96)) → AtA l G (d + 2) sX9_isSpelt 17 [.ref 11, .int (nI w), .ref 1, .int (nI b), .int (nI e), .int (nI k)] [] s (pI Q) := by
    intro m
    induction m with
    | zero =>
      intro k hk hz hi
      refine r_X9_isSpelt_17 11 _ _ _ _ (by decide) s ⟨fun z => ?_, fun _ => ?_⟩
      · rw [pk_sub hbe, nlt (by omega) (by omega)] at z
        omega
      · rw [bI_1 ⟨hz, fun i hi2 => hi i (by omega)⟩] at h
        exact h
    | succ m ih =>
      intro k hk hz hi
      have okt : ok_X9_letterOf s 11 (nI w) (nI k) := by
        intro _ _ _
        refine ⟨vin (show w < 12 by omega) (by decide), fun _ => ?_⟩
        rw [show (10 : Int32) = nI 10 from rfl, pk_mul, nI_add]
        exact vin (show w * 10 + k < 120 by omega) (by decide)
      have vt : v_X9_letterOf s 11 (nI w) (nI k) = dL D (10 * w + k) := by
        unfold v_X9_letterOf
        rw [iC_f (nneg w (by omega)), iC_t (by rw [q5, eN, nlt (by omega) (by omega)]; exact hw), iC_f (nneg k (by omega)), nnum (by omega)]
        have : s.1 (11 + 2) w = dZ D w := z1
        rw [this, eZ, iC_t ((nlt (by omega) (by omega)).mpr (by omega)), show (10 : Int32) = nI 10 from rfl, pk_mul, nI_add, nnum (by omega), Nat.mul_comm w 10, ← q7, tr_in (by omega)]
      have hc := (hT.2.2 (b + k)).2
      have hc2 := hlt (b + k) (by omega) (by omega)
      refine r_X9_isSpelt_17 11 _ _ _ _ (by decide) s ⟨fun _ => ⟨okt, tx_ok hT _, ?_⟩, fun z => ?_⟩
      · rw [vt, nI_add, tx_at hT (by omega), show (97 : Int32) = nI 97 from rfl, pk_sub hc2, nI_1, show c (b + k) - 97 + 1 = c (b + k) - 96 by omega]
        refine ⟨fun z => ?_, fun z => ?_⟩
        · rw [nI_1]
          refine ih (k + 1) (by omega) hz (fun i hi2 => ?_)
          by_cases e : i = k
          · rw [e, z]
          · exact hi i (by omega)
        · rw [bI_0 (fun y => z (y.2 k (by omega)))] at h
          exact h
      · rw [pk_sub hbe, nlt (by omega) (by omega)] at z
        omega
  refine r_X9_isSpelt 11 _ _ _ (by decide) s ⟨okl, fun z => ?_, fun z => ?_⟩
  · rw [vl, eZ, pk_sub hbe, neq (by omega) (by omega)] at z
    exact loop _ 0 (Nat.zero_add _) z (fun i hi => absurd hi (Nat.not_lt_zero i))
  · rw [vl, eZ, pk_sub hbe, neq (by omega) (by omega)] at z
    rw [bI_0 (fun y => z y.1)] at h
    exact h
theorem p_toldX {l : Launch} {G : Geo} {d : Nat} {c : Nat → Nat} {n b e : Nat} {D : Dr} (s : St) {Q : Int32 → St → Prop} (hT : tx s c n) (hD : drX s = D) (hW : wfD D) (hbe : b ≤ e) (hen : e ≤ n) (hlt : ∀ j, b ≤ j → j < e → 97 ≤ c j) (h : Q (bI (toldD c D b (e - b))) s) : DoesI l G (d + 3) 101 [.ref 11, .ref 1, .int (nI b), .int (nI e)] s Q := by
  obtain ⟨-, -, -, -, q5, -⟩ := dr_len hD
  obtain ⟨eN, hN⟩ := rg_num hW.2.2.1 (by decide)
  have loop : ∀ m k, k + m = Int32.toNatClampNeg (dN D) → (∀ w, w < k → ¬ spl c D b (e - b) w) → AtA l G (d + 3) sX9_isTold 3 [.ref 11, .ref 1, .int (nI b), .int (nI e), .int (nI k)] [] s (pI Q) := by
    intro m
    induction m with
    | zero =>
      intro k hk hn
      refine r_X9_isTold_3 11 _ _ _ (by decide) s ⟨fun z => ?_, fun _ => ?_⟩
      · rw [q5, eN, nlt (by omega) (by omega)] at z
        omega
      · rw [bI_0 (fun y => by
          obtain ⟨w, w1, w2⟩ := y
          exact hn w (by omega) w2)] at h
        exact h
    | succ m ih =>
      intro k hk hn
      refine r_X9_isTold_3 11 _ _ _ (by decide) s ⟨fun _ => ?_, fun z => ?_⟩
      · refine p_spelt s hT hD hW (show k < Int32.toNatClampNeg (dN D) by omega) hbe hen hlt ⟨fun z => ?_, fun z => ?_⟩
        · rw [nI_1]
          refine ih (k + 1) (by omega) (fun w hw => ?_)
          by_cases e : w = k
          · rw [e]
            exact bI_n z
          · exact hn w (by omega)
        · rw [bI_1 (show toldD c D b (e - b) from ⟨k, by omega, bI_p z⟩)] at h
          exact h
      · rw [q5, eN, nlt (by omega) (by omega)] at z
        omega
  exact r_X9_isTold 11 _ _ (by decide) s (loop _ 0 (Nat.zero_add _) (fun w hw => absurd hw (Nat.not_lt_zero w)))
/-- cells of the draft and of the reader alone may change -/
def cfr (s t : St) : Prop := t.2 = s.2 ∧ ∀ q, (q < 11 ∨ 17 < q) → t.1 q = s.1 q
theorem cfr_r (s : St) : cfr s s := ⟨rfl, fun _ _ => rfl⟩
theorem cfr_t {s t u : St} (h1 : cfr s t) (h2 : cfr t u) : cfr s u := ⟨h2.1.trans h1.1, fun q hq => (h2.2 q hq).trans (h1.2 q hq)⟩
theorem cfr_p {s t : St} {q k : Nat} {v : Int32} (h : cfr s t) (h1 : 11 ≤ q) (h2 : q ≤ 17) : cfr s (sput t q k v) := ⟨h.1, fun r hr => by rw [sp_f (by omega)]; exact h.2 r hr⟩
theorem cfr_a {s t : St} {q : Nat} {f : Nat → Int32} (h : cfr s t) (h1 : 11 ≤ q) (h2 : q ≤ 17) : cfr s (sarr t q f) := ⟨h.1, fun r hr => by rw [sa_q (by omega)]; exact h.2 r hr⟩
theorem cfr_adv {c : Nat → Nat} {n p : Nat} {s t : St} (h : cfr s t) : cfr s (adv c n t p) := cfr_p (cfr_p h (by decide) (by decide)) (by decide) (by decide)
theorem cfr_tx {c : Nat → Nat} {n : Nat} {s t : St} (h : cfr s t) (hT : tx s c n) : tx t c n := by
  unfold tx
  rw [h.2 1 (by omega), h.2 2 (by omega)]
  exact hT
theorem p_appX {l : Launch} {G : Geo} {d : Nat} {c : Nat → Nat} {n b e a : Nat} {D : Dr} (s : St) {Q : St → Prop} (hT : tx s c n) (hD : drX s = D) (hW : wfD D) (h12 : Int32.toNatClampNeg (dN D) < 12) (hbe : b < e) (h10 : e ≤ b + 10) (hen : e ≤ n) (hlt : ∀ j, b ≤ j → j < e → 97 ≤ c j) (hl : lrow c n b = e - b) (h : ∀ t, cfr s t → t.1 17 = s.1 17 → drX t = app c n D 1 a b → Q t) : DoesV l G (d + 2) 103 [.ref 11, .int (nI a), .ref 1, .int (nI b), .int (nI e)] s Q := by
  have h200 := hT.2.1
  obtain ⟨q1, q2, q3, q4, q5, q6, q7, q8, q9⟩ := dr_len hD
  obtain ⟨eN, hN⟩ := rg_num hW.2.2.1 (by decide)
  have q5' : s.1 11 3 = nI (Int32.toNatClampNeg (dN D)) := by rw [q5]; exact eN
  generalize hNN : Int32.toNatClampNeg (dN D) = N at *
  have loop : ∀ m k, k + m = e - b → AtA l G (d + 2) sX9_append 32 [.ref 11, .int (nI a), .ref 1, .int (nI b), .int (nI e), .int (nI (e - b)), .int (nI k)] [] (sarr s 12 (rowW (s.1 12) (10 * N) k (fun i => nI (c (b + i) - 96)))) (pV Q) := by
    intro m
    induction m with
    | zero =>
      intro k hk
      have hk2 : k = e - b := by omega
      subst hk2
      have e3 : (sarr s 12 (rowW (s.1 12) (10 * N) (e - b) (fun i => nI (c (b + i) - 96)))).1 11 3 = nI N := q5'
      have e4 : (sput (sarr s 12 (rowW (s.1 12) (10 * N) (e - b) (fun i => nI (c (b + i) - 96)))) 13 N (nI (e - b))).1 11 3 = nI N := q5'
      refine r_X9_append_32 11 _ _ _ _ _ (by decide) _ ⟨fun z => ?_, fun _ => ?_⟩
      · rw [nlt (by omega) (by omega)] at z
        omega
      · rw [e3, nnum (by omega)]
        show vp_in (nI N) 12 ∧ vp_in ((sput (sarr s 12 (rowW (s.1 12) (10 * N) (e - b) (fun i => nI (c (b + i) - 96)))) 13 N (nI (e - b))).1 11 3) 12 ∧ Q (sput (sput (sput (sarr s 12 (rowW (s.1 12) (10 * N) (e - b) (fun i => nI (c (b + i) - 96)))) 13 N (nI (e - b))) 14 (Int32.toNatClampNeg ((sput (sarr s 12 (rowW (s.1 12) (10 * N) (e - b) (fun i => nI (c (b + i) - 96)))) 13 N (nI (e - b))).1 11 3)) (nI a)) 11 3 (s.1 11 3 + 1))
        rw [e4, q5', nI_1, nnum (by omega)]
        refine ⟨vin h12 (by decide), vin h12 (by decide), h _ (cfr_p (cfr_p (cfr_p (cfr_a (cfr_r s) (by decide) (by decide)) (by decide) (by decide)) (by decide) (by decide)) (by decide) (by decide)) rfl (dr_mk ?_)⟩
        refine ⟨q1, q2, q3, q4, ?_, q6, ?_, ?_, ?_⟩
        · show nI (N + 1) = nI (Int32.toNatClampNeg (dN D) + 1)
          rw [hNN]
        · show tr 120 (rowW (s.1 12) (10 * N) (e - b) (fun i => nI (c (b + i) - 96))) = rowW (dL D) (10 * Int32.toNatClampNeg (dN D)) (lrow c n b) (fun i => nI (c (b + i) - 96))
          rw [tr_rowW (by omega), q7, hNN, hl]
        · show tr 12 ((sput s 13 N (nI (e - b))).1 13) = upd (dZ D) (Int32.toNatClampNeg (dN D)) (nI (lrow c n b))
          rw [← upd_put, tr_upd (by omega), q8, hNN, hl]
        · show tr 12 ((sput s 14 N (nI a)).1 14) = upd (dS D) (Int32.toNatClampNeg (dN D)) (nI a)
          rw [← upd_put, tr_upd (by omega), q9, hNN]
    | succ m ih =>
      intro k hk
      have hc := (hT.2.2 (b + k)).2
      have hc2 := hlt (b + k) (by omega) (by omega)
      have e3 : (sarr s 12 (rowW (s.1 12) (10 * N) k (fun i => nI (c (b + i) - 96)))).1 11 3 = nI N := q5'
      have hT2 : tx (sarr s 12 (rowW (s.1 12) (10 * N) k (fun i => nI (c (b + i) - 96)))) c n := hT
      refine r_X9_append_32 11 _ _ _ _ _ (by decide) _ ⟨fun _ => ⟨tx_ok hT2 _, ?_⟩, fun z => ?_⟩
      · rw [e3, show (10 : Int32) = nI 10 from rfl, pk_mul, nI_add, nnum (by omega)]
        refine ⟨vin (show N * 10 + k < 120 by omega) (by decide), ?_⟩
        rw [nI_add, tx_at hT2 (by omega), show (97 : Int32) = nI 97 from rfl, pk_sub hc2, nI_1, nI_1, show c (b + k) - 97 + 1 = c (b + k) - 96 by omega, Nat.mul_comm N 10, sp_sa]
        have := ih (k + 1) (by omega)
        rw [← rowW_s] at this
        exact this
      · rw [nlt (by omega) (by omega)] at z
        omega
  refine r_X9_append 11 _ _ _ (by decide) s ⟨fun _ => ⟨fun z => ?_, fun _ => ⟨fun z => ?_, fun _ => ?_⟩⟩, fun z => ?_⟩
  · rw [pk_sub (by omega), l1, nlt (by omega) (by omega)] at z
    omega
  · rw [pk_sub (by omega), show (10 : Int32) = nI 10 from rfl, nlt (by omega) (by omega)] at z
    omega
  · have := loop _ 0 (Nat.zero_add _)
    rw [rowW_0, sa_id] at this
    rw [pk_sub (by omega)]
    exact this
  · rw [q5', show (12 : Int32) = nI 12 from rfl, nlt (by omega) (by omega)] at z
    omega
theorem p_beginX {l : Launch} {G : Geo} {d : Nat} {c : Nat → Nat} {n a : Nat} {D : Dr} (s : St) {Q : St → Prop} (hD : drX s = D) (h1 : 1 ≤ a) (h5 : a ≤ 5) (h : ∀ t, cfr s t → t.1 17 = s.1 17 → drX t = app c n D 0 a 0 → Q t) : DoesV l G (d + 1) 1 [.ref 15, .int (nI a)] s Q := by
  obtain ⟨q1, q2, q3, q4, q5, q6, q7, q8, q9⟩ := dr_len hD
  have loop : ∀ m k, k + m = 5 → AtA l G (d + 1) sX0_beginAnew 25 [.ref 15, .int (nI a), .int (nI k)] [] (sarr (sput (sput (sput s 15 1 (nI a)) 15 2 0) 15 3 0) 16 (rowW (s.1 16) 0 k (fun _ => 0))) (pV Q) := by
    intro m
    induction m with
    | zero =>
      intro k hk
      have : k = 5 := by omega
      subst this
      refine r_X0_beginAnew_25 15 _ _ (by decide) _ ⟨fun z => ?_, fun _ => ?_⟩
      · exact absurd z (by decide)
      · refine h _ (cfr_a (cfr_p (cfr_p (cfr_p (cfr_r s) (by decide) (by decide)) (by decide) (by decide)) (by decide) (by decide)) (by decide) (by decide)) rfl (dr_mk ⟨rfl, rfl, rfl, ?_, q5, q6, q7, q8, q9⟩)
        show tr 5 (rowW (s.1 16) 0 5 (fun _ => 0)) = fun _ => 0
        funext j
        unfold tr rowW
        by_cases hj : j < 5
        · rw [if_pos hj, if_pos (by omega)]
        · rw [if_neg hj]
    | succ m ih =>
      intro k hk
      refine r_X0_beginAnew_25 15 _ _ (by decide) _ ⟨fun _ => ⟨vin (show k < 5 by omega) (by decide), ?_⟩, fun z => ?_⟩
      · rw [nnum (by omega), nI_1]
        have := ih (k + 1) (by omega)
        rw [← rowW_s, Nat.zero_add, ← sp_sa] at this
        exact this
      · rw [show (5 : Int32) = nI 5 from rfl, nlt (by omega) (by omega)] at z
        omega
  refine r_X0_beginAnew 15 _ (by decide) s ?_
  have ev : (if (1 : Int32) < (if (5 : Int32) < nI a then 5 else nI a) then (if (5 : Int32) < nI a then 5 else nI a) else 1) = nI a := (by decide +kernel : ∀ a : Nat, a < 6 → 1 ≤ a → (if (1 : Int32) < (if (5 : Int32) < nI a then 5 else nI a) then (if (5 : Int32) < nI a then 5 else nI a) else 1) = nI a) a (by omega) h1
  rw [ev]
  have := loop 5 0 rfl
  rw [rowW_0] at this
  have e2 : sarr (sput (sput (sput s 15 1 (nI a)) 15 2 0) 15 3 0) 16 (s.1 16) = sput (sput (sput s 15 1 (nI a)) 15 2 0) 15 3 0 := sa_id (sput (sput (sput s 15 1 (nI a)) 15 2 0) 15 3 0) 16
  rw [e2] at this
  exact this
