/-! the greatest list in which any one may be missing -/
noncomputable def mkM (P : Nat → Prop) : Nat → Nat
  | 0 => 0
  | n + 1 => iC (P n) (2 ^ n + mkM P n) (mkM P n)
theorem mkM_t {P : Nat → Prop} {n : Nat} (h : P n) : mkM P (n + 1) = 2 ^ n + mkM P n := iC_t h
theorem mkM_f {P : Nat → Prop} {n : Nat} (h : ¬ P n) : mkM P (n + 1) = mkM P n := iC_f h
theorem mkM_lt (P : Nat → Prop) : ∀ n, mkM P n < 2 ^ n
  | 0 => Nat.one_pos
  | n + 1 => by
    have := mkM_lt P n
    rw [Nat.pow_succ]
    by_cases h : P n
    · rw [mkM_t h]; omega
    · rw [mkM_f h]; omega
theorem mkM_tb (P : Nat → Prop) : ∀ n i, (mkM P n).testBit i = true ↔ i < n ∧ P i
  | 0, i => by
    show (0 : Nat).testBit i = true ↔ _
    rw [Nat.zero_testBit]
    exact ⟨fun q => absurd q (by decide), fun q => absurd q.1 (Nat.not_lt_zero i)⟩
  | n + 1, i => by
    have ih := mkM_tb P n i
    by_cases h : P n
    · rw [mkM_t h, tb_add (mkM_lt P n), Bool.or_eq_true, decide_eq_true_eq, ih]
      constructor
      · rintro (rfl | q)
        · exact ⟨by omega, h⟩
        · exact ⟨by omega, q.2⟩
      · rintro ⟨q1, q2⟩
        by_cases e : i = n
        · exact Or.inl e
        · exact Or.inr ⟨by omega, q2⟩
    · rw [mkM_f h, ih]
      constructor
      · exact fun q => ⟨by omega, q.2⟩
      · rintro ⟨q1, q2⟩
        by_cases e : i = n
        · subst e; exact absurd q2 h
        · exact ⟨by omega, q2⟩
theorem cnt_le1 {P : Nat → Prop} {v : Nat} : ∀ n, (∀ j, j < n → P j → j = v) → cntN P n ≤ 1
  | 0, _ => by show 0 ≤ 1; omega
  | n + 1, h => by
    by_cases c : P n
    · rw [cnt_t c]
      have hv := h n (by omega) c
      have : cntN P n = 0 := by
        have := cnt_skip (P := P) (a := 0) n (fun j _ hj q => by have := h j (by omega) q; omega)
        rw [Nat.zero_add] at this
        exact this
      omega
    · rw [cnt_f c]
      exact cnt_le1 n (fun j hj => h j (by omega))
theorem cnt_ge2 {P : Nat → Prop} {n j k : Nat} (hj : j < n) (hk : k < n) (hjk : j ≠ k) (pj : P j) (pk : P k) : 2 ≤ cntN P n := by
  have h1 := cnt_one (P := P) (P' := fun i => P i ∧ i ≠ j) n hj (fun i hi => ⟨fun q => ⟨q, hi⟩, fun q => q.1⟩) pj (fun q => q.2 rfl)
  have h2 := cnt_pos (P := fun i => P i ∧ i ≠ j) hk ⟨pk, fun q => hjk q.symm⟩
  omega
theorem ap_sym {V : Nat} {lt sz : Nat → Int32} {a b : Nat} (h : apP V lt sz a b) : apP V lt sz b a := fun q v hv => by
  obtain ⟨i, h1, h2, h3⟩ := h q.symm v hv
  exact ⟨i, by rw [q]; exact h1, h2, fun z => h3 z.symm⟩
theorem clash_iff {s : St} (hW : wlR s 4) {V a b : Nat} (hV : s.1 8 1 = nI V) (v1 : 1 ≤ V) (v5 : V ≤ 5) (ha : a < Int32.toNatClampNeg (s.1 4 3)) (hb : b < Int32.toNatClampNeg (s.1 4 3)) : b_X2_isClash s (nI a) (nI b) ↔ ¬ apP V (s.1 5) (s.1 6) a b := by
  obtain ⟨ez, hz⟩ := siz4 hW
  unfold b_X2_isClash apP
  rw [v_len4 hW ha, v_len4 hW hb]
  by_cases c : s.1 6 a = s.1 6 b
  · rw [iP_t c]
    have e1 : v_X2_voicesThatDiffer s (nI a) (nI b) = nI (mkM (fun v => ∃ i, i < Int32.toNatClampNeg (s.1 6 a) ∧ i % V = v ∧ ¬ s.1 5 (10 * a + i) = s.1 5 (10 * b + i)) 5) := by
      unfold v_X2_voicesThatDiffer
      rw [hV, nnum (by omega), nnum (by omega), nnum (by omega)]
      refine b_ext fun v hv => ?_
      rw [btn _ hv]
      have h1 := difM_bit (lt := s.1 5) (a := a) (b := b) v1 v5 hv (Int32.toNatClampNeg (s.1 6 a))
      have h2 := mkM_tb (fun v => ∃ i, i < Int32.toNatClampNeg (s.1 6 a) ∧ i % V = v ∧ ¬ s.1 5 (10 * a + i) = s.1 5 (10 * b + i)) 5 v
      refine Bool.eq_iff_iff.mpr (h1.trans (Iff.trans ⟨fun q => ⟨?_, q⟩, fun q => q.2⟩ h2.symm))
      obtain ⟨i, -, q, -⟩ := q
      have := Nat.mod_lt i (show V > 0 by omega)
      omega
    have hm := mkM_lt (fun v => ∃ i, i < Int32.toNatClampNeg (s.1 6 a) ∧ i % V = v ∧ ¬ s.1 5 (10 * a + i) = s.1 5 (10 * b + i)) 5
    have hp := pc_le (mkM (fun v => ∃ i, i < Int32.toNatClampNeg (s.1 6 a) ∧ i % V = v ∧ ¬ s.1 5 (10 * a + i) = s.1 5 (10 * b + i)) 5)
    have htb := mkM_tb (fun v => ∃ i, i < Int32.toNatClampNeg (s.1 6 a) ∧ i % V = v ∧ ¬ s.1 5 (10 * a + i) = s.1 5 (10 * b + i)) 5
    rw [e1, bc_eq (by omega)]
    generalize mkM (fun v => ∃ i, i < Int32.toNatClampNeg (s.1 6 a) ∧ i % V = v ∧ ¬ s.1 5 (10 * a + i) = s.1 5 (10 * b + i)) 5 = m at hm hp htb
    have e2 : (1 < nI (pcN m)) ↔ 1 < pcN m := by rw [l1, nlt (by omega) (by omega)]
    by_cases k : 1 < pcN m
    · rw [iP_t (e2.mpr k)]
      refine ⟨fun q => q.elim, fun q => q fun _ v hv => ?_⟩
      refine Classical.byContradiction fun z => ?_
      have : pcN m ≤ 1 := cnt_le1 (v := v) 12 (fun j hj q => Classical.byContradiction fun z2 => z (by
        obtain ⟨-, i, h1, h2, h3⟩ := (htb j).mp q
        exact ⟨i, h1, fun z3 => z2 (h2.symm.trans z3), h3⟩))
      omega
    · rw [iP_f (fun q => k (e2.mp q))]
      refine ⟨fun _ q => ?_, fun _ => trivial⟩
      obtain ⟨i, i1, i2, i3⟩ := q c 0 (by omega)
      have hi := Nat.mod_lt i (show V > 0 by omega)
      obtain ⟨j, j1, j2, j3⟩ := q c (i % V) hi
      have hj := Nat.mod_lt j (show V > 0 by omega)
      have : 2 ≤ pcN m := cnt_ge2 (n := 12) (j := i % V) (k := j % V) (by omega) (by omega) (fun z => j2 z.symm) ((htb _).mpr ⟨by omega, i, i1, rfl, i3⟩) ((htb _).mpr ⟨by omega, j, j1, rfl, j3⟩)
      omega
  · rw [iP_f c]
    exact ⟨fun q => q.elim, fun q => q (fun z => absurd z c)⟩
theorem ok_clash {s : St} (hW : wlR s 4) (hC : chR s 8) {a b : Nat} (ha : a < Int32.toNatClampNeg (s.1 4 3)) (hb : b < Int32.toNatClampNeg (s.1 4 3)) : ok_X2_isClash s (nI a) (nI b) :=
  ⟨ok_len (Or.inl rfl) hW _, ok_len (Or.inl rfl) hW _, fun q => ⟨hW, hC, a, b, ha, hb, rfl, rfl, by rw [v_len4 hW ha, v_len4 hW hb] at q; exact q⟩⟩
/-- the words that clash with word a -/
noncomputable def cmN (V : Nat) (lt sz : Nat → Int32) (N a : Nat) : Nat := mkM (fun b => a < N ∧ a ≠ b ∧ ¬ apP V lt sz a b) N
theorem cm_sym {V : Nat} {lt sz : Nat → Int32} {N : Nat} (a b : Nat) : (cmN V lt sz N a).testBit b = (cmN V lt sz N b).testBit a := by
  refine Bool.eq_iff_iff.mpr ?_
  unfold cmN
  rw [mkM_tb, mkM_tb]
  exact ⟨fun q => ⟨q.2.1, q.1, fun z => q.2.2.1 z.symm, fun z => q.2.2.2 (ap_sym z)⟩, fun q => ⟨q.2.1, q.1, fun z => q.2.2.1 z.symm, fun z => q.2.2.2 (ap_sym z)⟩⟩
theorem p_gb {l : Launch} {G : Geo} {d : Nat} {s : St} (hW : wlR s 4) (hC : chR s 8) {V : Nat} (hV : s.1 8 1 = nI V) (v1 : 1 ≤ V) (v5 : V ≤ 5) {Q : Int32 → St → Prop} (hQ : ∀ F r, Best (cmN V (s.1 5) (s.1 6) (Int32.toNatClampNeg (s.1 4 3))) (2 ^ Int32.toNatClampNeg (s.1 4 3) - 1) r → r < 4096 → Q (nI r) (sarr s 46 F)) : DoesI l G (d + 15) 36 [.ref 45] s Q := by
  obtain ⟨ez, hz⟩ := siz4 hW
  generalize hN : Int32.toNatClampNeg (s.1 4 3) = N at ez hz hQ
  have h2N := p2k hz
  have inner : ∀ a, a < N → (∀ F : Nat → Int32, (∀ j, j < a + 1 → F j = nI (cmN V (s.1 5) (s.1 6) N j)) → AtA l G (d + 15) sX2_greatestBearing 2 [.ref 45, .int (nI (a + 1)), .null] [] (sarr s 46 F) (pI Q)) → ∀ m b, b + m = N → ∀ F : Nat → Int32, (∀ j, j < a → F j = nI (cmN V (s.1 5) (s.1 6) N j)) → F a = nI (mkM (fun b => a < N ∧ a ≠ b ∧ ¬ apP V (s.1 5) (s.1 6) a b) b) → AtA l G (d + 15) sX2_greatestBearing 22 [.ref 45, .int (nI a), .int (nI b)] [] (sarr s 46 F) (pI Q) := by
    intro a ha out m
    induction m with
    | zero =>
      intro b hb F hF hFa
      have : b = N := by omega
      subst this
      refine r_X2_greatestBearing_22 _ _ _ ⟨fun z => ?_, fun _ => ?_⟩
      · have z : nI b < s.1 4 3 := z
        rw [ez] at z
        exact (Int32.lt_irrefl z).elim
      · rw [nI_1]
        exact out F (fun j hj => by
          by_cases e : j = a
          · subst e; exact hFa
          · exact hF j (by omega))
    | succ m ih =>
      intro b hb F hF hFa
      have ihb := ih (b + 1) (by omega)
      refine r_X2_greatestBearing_22 _ _ _ ⟨fun _ => ⟨fun z => ?_, fun z => ⟨ok_clash (s := sarr s 46 F) hW hC (by show a < Int32.toNatClampNeg (s.1 4 3); omega) (by show b < Int32.toNatClampNeg (s.1 4 3); omega), fun z2 => ?_, fun z2 => ?_⟩⟩, fun z => ?_⟩
      · rw [neq (by omega) (by omega)] at z
        rw [nI_1]
        exact ihb F hF (by rw [hFa, mkM_f (fun q => q.2.1 z)])
      · rw [clash_iff (s := sarr s 46 F) hW hV v1 v5 (by show a < Int32.toNatClampNeg (s.1 4 3); omega) (by show b < Int32.toNatClampNeg (s.1 4 3); omega)] at z2
        rw [nI_1]
        exact ihb F hF (by rw [hFa, mkM_f (fun q => z2 q.2.2)])
      · rw [clash_iff (s := sarr s 46 F) hW hV v1 v5 (by show a < Int32.toNatClampNeg (s.1 4 3); omega) (by show b < Int32.toNatClampNeg (s.1 4 3); omega)] at z2
        rw [neq (by omega) (by omega)] at z
        have ia : vp_in (nI a) (alen 46) := vin (show a < 12 by omega) (by decide)
        refine ⟨ia, ia, ?_⟩
        rw [nI_1, nnum (by omega), sp_sa, sa_s, hFa, nn_1 (by omega), nn_or, Nat.or_comm, or_add (mkM_lt _ b)]
        refine ihb _ (fun j hj => ?_) ?_
        · unfold upd
          rw [if_neg (by omega)]
          exact hF j hj
        · unfold upd
          rw [if_pos rfl, mkM_t ⟨ha, z, z2⟩]
      · have z : ¬ nI b < s.1 4 3 := z
        rw [ez, nlt (by omega) (by omega)] at z
        omega
  have outer : ∀ m a, a + m = N → ∀ F : Nat → Int32, (∀ j, j < a → F j = nI (cmN V (s.1 5) (s.1 6) N j)) → AtA l G (d + 15) sX2_greatestBearing 2 [.ref 45, .int (nI a), .null] [] (sarr s 46 F) (pI Q) := by
    intro m
    induction m with
    | zero =>
      intro a ha F hF
      have : a = N := by omega
      subst this
      refine r_X2_greatestBearing_2 _ _ ⟨fun z => ?_, fun _ => ?_⟩
      · have z : nI a < s.1 4 3 := z
        rw [ez] at z
        exact (Int32.lt_irrefl z).elim
      · show DoesI l G (d + 14) 38 [.ref 46, .int (((1 : Int32) <<< (s.1 4 3 &&& 31)) - 1), .int (s.1 4 3 - 1)] (sarr s 46 F) _
        rw [ez, nn_1 (by omega), show 2 ^ a = (2 ^ a - 1) + 1 by have := Nat.two_pow_pos a; omega, nI_pred, show d + 14 = (d + 12 - a) + a + 2 by omega]
        refine gw (N := a) hz (cm := cmN V (s.1 5) (s.1 6) a) (fun j hj => ⟨by rw [sa_s]; exact hF j hj, ?_⟩) cm_sym a (Nat.le_refl a) _ (by have := Nat.two_pow_pos a; omega) _ _ (fun r h1 h2 => hQ F r ?_ (by omega))
        · have := mkM_lt (fun b => j < a ∧ j ≠ b ∧ ¬ apP V (s.1 5) (s.1 6) j b) a
          unfold cmN
          omega
        · exact h1
    | succ m ih =>
      intro a ha F hF
      refine r_X2_greatestBearing_2 _ _ ⟨fun _ => ⟨vin (show a < 12 by omega) (by decide), ?_⟩, fun z => ?_⟩
      · rw [nnum (by omega), sp_sa]
        refine inner a (by omega) (fun F' hF' => ih (a + 1) (by omega) F' hF') N 0 (Nat.zero_add _) _ (fun j hj => ?_) ?_
        · unfold upd
          rw [if_neg (by omega)]
          exact hF j hj
        · unfold upd
          rw [if_pos rfl]
          rfl
      · have z : ¬ nI a < s.1 4 3 := z
        rw [ez, nlt (by omega) (by omega)] at z
        omega
  have := outer N 0 (Nat.zero_add _) (s.1 46) (fun j hj => absurd hj (Nat.not_lt_zero j))
  rw [sa_id] at this
  exact r_X2_greatestBearing s this
