/-! seats by the reference; the equality -/
theorem p_lay {l : Launch} {G : Geo} {d : Nat} {s : St} {V c : Nat} (hV : s.1 51 0 = nI V) (h1 : 1 ≤ V) (h5 : V ≤ 5) (hc : c < 3125) {Q : Int32 → St → Prop} (hQ : ∀ F, (∀ t, t < V → F t = nI (c / V ^ (V - 1 - t) % V)) → Q (bI (valB V 0 (digR V V c) = true)) (sarr s 66 F)) : DoesI l G (d + 1) 180 [.ref 51, .int (nI c)] s Q := by
  have h32 : 2 ^ V ≤ 32 := Nat.pow_le_pow_right (by decide) h5
  have h2 : 2 ≤ 2 ^ V := two_le h1
  have loop : ∀ k j, k + j = V → ∀ F : Nat → Int32, (∀ i, i < j → F (V - 1 - i) = nI (c / V ^ i % V)) → AtA l G (d + 1) sX11_laySeats 12 [.ref 51, .int (nI c), .int (nI (c / V ^ j)), .int (nI (metN V c j)), .int (nI k + (-1))] [] (sarr s 66 F) (pI Q) := by
    intro k
    induction k with
    | zero =>
      intro j hj F hF
      have : j = V := by omega
      subst this
      have hq := hQ F (fun t ht => by
        have := hF (j - 1 - t) (by omega)
        rw [show j - 1 - (j - 1 - t) = t by omega] at this
        exact this)
      have e : ((1 : Int32) <<< ((sarr s 66 F).1 51 0 &&& 31)) - 1 = nI (2 ^ j - 1) := by
        show ((1 : Int32) <<< (s.1 51 0 &&& 31)) - 1 = _
        rw [hV, nn_1 (by omega), show 2 ^ j = (2 ^ j - 1) + 1 by omega, nI_pred]
        rfl
      have hml := met_lt (c := c) h1 j
      refine r_X11_laySeats_12 _ _ _ _ _ ⟨fun _ => ?_, fun z => absurd (by decide) z⟩
      rw [e, neq (by omega) (by omega), propext (met_iff h5 hc)]
      refine ⟨fun z => ?_, fun z => ?_⟩
      · rw [bI_1 z] at hq
        exact hq
      · rw [bI_0 z] at hq
        exact hq
    | succ k ih =>
      intro j hj F hF
      rw [pk_m1]
      have hne : ¬ s.1 51 0 = 0 := by
        rw [hV, l0, neq (by omega) (by omega)]
        omega
      have hdl : c / V ^ j ≤ c := Nat.div_le_self _ _
      have hm := Nat.mod_lt (c / V ^ j) (show V > 0 by omega)
      have er : (nI (c / V ^ j) - nI (c / V ^ j) / (sarr s 66 F).1 51 0 * (sarr s 66 F).1 51 0 : Int32) = nI (c / V ^ j % V) := by
        show nI (c / V ^ j) - nI (c / V ^ j) / s.1 51 0 * s.1 51 0 = _
        rw [hV, pk_rem (by omega) (by omega) (by omega)]
      refine r_X11_laySeats_12 _ _ _ _ _ ⟨fun z => absurd z (nneg k (by omega)), fun _ => ⟨hne, vin (show k < 5 by omega) (by decide), hne, vin (show k < 5 by omega) (by decide), ?_⟩⟩
      rw [er, nnum (by omega), sp_sa]
      have ed : nI (c / V ^ j) / (sarr s 66 (upd F k (nI (c / V ^ j % V)))).1 51 0 = nI (c / V ^ (j + 1)) := by
        show nI (c / V ^ j) / s.1 51 0 = _
        rw [hV, pk_div (by omega) (by omega) (by omega), Nat.div_div_eq_div_mul, Nat.pow_succ]
      have em : (nI (metN V c j) ||| ((1 : Int32) <<< ((sarr s 66 (upd F k (nI (c / V ^ j % V)))).1 66 k &&& 31))) = nI (metN V c (j + 1)) := by
        rw [sa_s, pk_us, nn_1 (by omega), nn_or]
        rfl
      rw [ed, em]
      refine ih (j + 1) (by omega) _ (fun i hi => ?_)
      by_cases e : i = j
      · subst e
        rw [show V - 1 - i = k by omega]
        exact pk_us
      · rw [pk_un (by omega)]
        exact hF i (by omega)
  have h0 := loop V 0 (by omega) (s.1 66) (fun i hi => absurd hi (Nat.not_lt_zero i))
  rw [sa_id] at h0
  refine r_X11_laySeats _ s ?_
  rw [hV, Int32.sub_eq_add_neg]
  rw [Nat.pow_zero, Nat.div_one] at h0
  exact h0
theorem p_spt {l : Launch} {G : Geo} {d : Nat} {s : St} {V : Nat} (hM : mdR s) (hV : s.1 51 0 = nI V) (h1 : 1 ≤ V) (h5 : V ≤ 5) {σ : Nat → Nat} (hσ : ∀ t, t < V → s.1 66 t = nI (σ t)) {Q : Int32 → St → Prop} (hQ : Q (nI (sumN (fun w => cntN (fun i => b_X11_has s (s.1 51 1) (nI (σ (i % V))) ∨ (b_X11_has s (s.1 51 2) (nI (σ (i % V))) ∧ i / V % 2 = 1)) (Int32.toNatClampNeg (s.1 54 w))) (Int32.toNatClampNeg (s.1 51 4)))) s) : DoesI l G (d + 2) 181 [.ref 51] s Q := by
  obtain ⟨ez, hz⟩ := rg_num hM.1 (by decide)
  have hne : ¬ s.1 51 0 = 0 := by
    rw [hV, l0, neq (by omega) (by omega)]
    omega
  have inner : ∀ w, w < Int32.toNatClampNeg (s.1 51 4) → ∀ a : Nat, (AtA l G (d + 2) sX11_spoilt 4 [.ref 51, .int (nI (a + cntN (fun i => b_X11_has s (s.1 51 1) (nI (σ (i % V))) ∨ (b_X11_has s (s.1 51 2) (nI (σ (i % V))) ∧ i / V % 2 = 1)) (Int32.toNatClampNeg (s.1 54 w)))), .int (nI (w + 1)), .null, .null] [] s (pI Q)) → ∀ m i, i + m = Int32.toNatClampNeg (s.1 54 w) → AtA l G (d + 2) sX11_spoilt 14 [.ref 51, .int (nI (a + cntN (fun i => b_X11_has s (s.1 51 1) (nI (σ (i % V))) ∨ (b_X11_has s (s.1 51 2) (nI (σ (i % V))) ∧ i / V % 2 = 1)) i)), .int (nI w), .int (nI i), .null] [] s (pI Q) := by
    intro w hw a out m
    obtain ⟨ew, hwl⟩ := rg_num (hM.2.1 w) (by decide)
    induction m with
    | zero =>
      intro i hi
      have : i = Int32.toNatClampNeg (s.1 54 w) := by omega
      subst this
      refine r_X11_spoilt_14 _ _ _ s ⟨vin (show w < 12 by omega) (by decide), fun z => ?_, fun _ => by rw [nI_1]; exact out⟩
      rw [nnum (show w < 2 ^ 31 by omega), ← ew] at z
      exact (Int32.lt_irrefl z).elim
    | succ m ih =>
      intro i hi
      have ihh := ih (i + 1) (by omega)
      have hm := Nat.mod_lt i (show V > 0 by omega)
      have er : (nI i - nI i / s.1 51 0 * s.1 51 0 : Int32) = nI (i % V) := by rw [hV, pk_rem (by omega) (by omega) (by omega)]
      have ed : (nI i / s.1 51 0 - nI i / s.1 51 0 / 2 * 2 : Int32) = nI (i / V % 2) := by
        have : i / V ≤ i := Nat.div_le_self _ _
        rw [hV, pk_div (by omega) (by omega) (by omega), show (2 : Int32) = nI 2 from rfl, pk_rem (by omega) (by omega) (by omega)]
      have eo : (nI (i / V % 2) = 1) ↔ i / V % 2 = 1 := by rw [l1, neq (by omega) (by omega)]
      have no : ¬ (b_X11_has s (s.1 51 1) (nI (σ (i % V))) ∨ (b_X11_has s (s.1 51 2) (nI (σ (i % V))) ∧ i / V % 2 = 1)) → AtA l G (d + 2) sX11_spoilt 14 [.ref 51, .int (nI (a + cntN (fun i => b_X11_has s (s.1 51 1) (nI (σ (i % V))) ∨ (b_X11_has s (s.1 51 2) (nI (σ (i % V))) ∧ i / V % 2 = 1)) i) + 0), .int (nI w), .int (nI i + 1), .null] [] s (pI Q) := by
        intro q
        rw [cnt_f (P := fun i => b_X11_has s (s.1 51 1) (nI (σ (i % V))) ∨ (b_X11_has s (s.1 51 2) (nI (σ (i % V))) ∧ i / V % 2 = 1)) q] at ihh
        rw [l0, nI_add, nI_1]
        exact ihh
      have yes : (b_X11_has s (s.1 51 1) (nI (σ (i % V))) ∨ (b_X11_has s (s.1 51 2) (nI (σ (i % V))) ∧ i / V % 2 = 1)) → AtA l G (d + 2) sX11_spoilt 14 [.ref 51, .int (nI (a + cntN (fun i => b_X11_has s (s.1 51 1) (nI (σ (i % V))) ∨ (b_X11_has s (s.1 51 2) (nI (σ (i % V))) ∧ i / V % 2 = 1)) i) + 1), .int (nI w), .int (nI i + 1), .null] [] s (pI Q) := by
        intro q
        rw [cnt_t (P := fun i => b_X11_has s (s.1 51 1) (nI (σ (i % V))) ∨ (b_X11_has s (s.1 51 2) (nI (σ (i % V))) ∧ i / V % 2 = 1)) q] at ihh
        rw [nI_1, nI_1]
        exact ihh
      refine r_X11_spoilt_14 _ _ _ s ⟨vin (show w < 12 by omega) (by decide), fun _ => ⟨hne, ?_⟩, fun z => ?_⟩
      · rw [er, ed, nnum (by omega), hσ _ hm, eo]
        exact ⟨vin (show i % V < 5 by omega) (by decide), fun z => ⟨fun z2 => no (fun q => q.elim z (fun q => z2 q.1)), fun z2 => ⟨hne, fun z3 => yes (Or.inr ⟨z2, z3⟩), fun z3 => no (fun q => q.elim z (fun q => z3 q.2))⟩⟩, fun z => yes (Or.inl z)⟩
      · rw [nnum (show w < 2 ^ 31 by omega), ew, nlt (by omega) (by omega)] at z
        omega
  have outer : ∀ m w, w + m = Int32.toNatClampNeg (s.1 51 4) → AtA l G (d + 2) sX11_spoilt 4 [.ref 51, .int (nI (sumN (fun w => cntN (fun i => b_X11_has s (s.1 51 1) (nI (σ (i % V))) ∨ (b_X11_has s (s.1 51 2) (nI (σ (i % V))) ∧ i / V % 2 = 1)) (Int32.toNatClampNeg (s.1 54 w))) w)), .int (nI w), .null, .null] [] s (pI Q) := by
    intro m
    induction m with
    | zero =>
      intro w hw
      have : w = Int32.toNatClampNeg (s.1 51 4) := by omega
      subst this
      refine r_X11_spoilt_4 _ _ s ⟨fun z => ?_, fun _ => hQ⟩
      rw [← ez] at z
      exact (Int32.lt_irrefl z).elim
    | succ m ih =>
      intro w hw
      refine r_X11_spoilt_4 _ _ s ⟨fun _ => inner w (by omega) _ (ih (w + 1) (by omega)) _ 0 (Nat.zero_add _), fun z => ?_⟩
      rw [ez, nlt (by omega) (by omega)] at z
      omega
  exact r_X11_spoilt s (outer _ 0 (Nat.zero_add _))
/-- best among the codes -/
def BestC (V : Nat) (cost : Nat → Nat) (n b : Nat) : Prop := b < n ∧ valB V 0 (digR V V b) = true ∧ ∀ c, c < n → valB V 0 (digR V V c) = true → cost b ≤ cost c ∧ (cost c = cost b → b ≤ c)
theorem p_mse {l : Launch} {G : Geo} {d : Nat} {s : St} {V : Nat} {x1 : Int32} (hM : mdR s) (hV : s.1 51 0 = nI V) (h1 : 1 ≤ V) (h5 : V ≤ 5) {cost : Nat → Nat} (hcl : ∀ c, cost c < 2 ^ 31) (hcost : ∀ c, cost c = sumN (fun w => cntN (fun i => b_X11_has s (s.1 51 1) (nI (c / V ^ (V - 1 - i % V) % V)) ∨ (b_X11_has s (s.1 51 2) (nI (c / V ^ (V - 1 - i % V) % V)) ∧ i / V % 2 = 1)) (Int32.toNatClampNeg (s.1 54 w))) (Int32.toNatClampNeg (s.1 51 4))) (hx : ¬ x1 < -1) {Q : Int32 → St → Prop} (hQ : ∀ F b, BestC V cost (V ^ V) b → Q (iC (x1 = -1) (nI (cost b)) (iC (x1 < nI V) (nI (b / V ^ (V - 1 - Int32.toNatClampNeg x1) % V)) (-1))) (sarr s 66 F)) : DoesI l G (d + 3) 182 [.ref 51, .int x1] s Q := by
  obtain ⟨pt1, pt2⟩ := pow_tab V (by omega)
  obtain ⟨sr1, sr2⟩ := some_row V (by omega)
  rw [if_neg (show ¬ V = 0 by omega), Nat.add_zero] at sr2
  have search : ∀ m c, c + m = V ^ V → ∀ (F : Nat → Int32) (x y : Int32), ((x = -1 ∧ ∀ c', c' < c → ¬ valB V 0 (digR V V c') = true) ∨ ∃ b, x = nI b ∧ y = nI (cost b) ∧ BestC V cost c b) → AtA l G (d + 3) sX11_seats 41 [.ref 51, .int x1, .int (nI (V ^ V)), .int x, .int y, .int (nI c), .null, .null] [] (sarr s 66 F) (pI Q) := by
    intro m
    induction m with
    | zero =>
      intro c hc F x y hx2
      have : c = V ^ V := by omega
      subst this
      rcases hx2 with ⟨-, q⟩ | ⟨b, rfl, rfl, hb⟩
      · exact absurd sr1 (q _ sr2)
      · refine r_X11_seats_41 _ _ _ _ _ _ ⟨fun z => (Int32.lt_irrefl z).elim, fun _ => ⟨fun z => ?_, fun z => ?_⟩⟩
        · have := hQ F b hb
          rw [iC_t z] at this
          exact this
        · have hb1 := hb.1
          refine p_lay (s := sarr s 66 F) (V := V) (c := b) hV h1 h5 (by omega) (fun F' hF' => ?_)
          rw [bI_1 hb.2.1, sa_sa]
          have hq := hQ F' b hb
          rw [iC_f z] at hq
          refine ⟨fun z2 => absurd z2 (by decide), fun _ => ?_⟩
          show (x1 < s.1 51 0 → _) ∧ (¬ x1 < s.1 51 0 → _)
          rw [hV]
          refine ⟨fun z2 => ?_, fun z2 => ?_⟩
          · have h0 : ¬ x1 < 0 := fun q => by
              rw [i_lt] at q hx
              have q1 : (0 : Int32).toInt = 0 := rfl
              have q2 : (-1 : Int32).toInt = -1 := rfl
              refine z ?_
              rw [i_eq]
              omega
            obtain ⟨t, ht, rfl⟩ := nI_of h0
            rw [nlt ht (by omega)] at z2
            rw [iC_t ((nlt ht (by omega)).mpr z2), nnum ht] at hq
            refine ⟨vin (show t < 5 by omega) (by decide), ?_⟩
            rw [nnum ht, sa_s, hF' t z2]
            exact hq
          · rw [iC_f z2] at hq
            exact hq
    | succ m ih =>
      intro c hc F x y hx2
      refine r_X11_seats_41 _ _ _ _ _ _ ⟨fun _ => ?_, fun z => ?_⟩
      · refine p_lay (s := sarr s 66 F) (d := d + 1) (V := V) (c := c) hV h1 h5 (by omega) (fun F' hF' => ?_)
        rw [sa_sa]
        refine ⟨fun z => ?_, fun z => ?_⟩
        · rw [nI_1]
          refine ih (c + 1) (by omega) F' x y (hx2.imp (fun q => ⟨q.1, lt_s q.2 (bI_n z)⟩) (fun ⟨b, q1, q2, q3, q4, q5⟩ => ⟨b, q1, q2, by omega, q4, fun c' hc' hv => ?_⟩))
          by_cases e : c' = c
          · subst e; exact absurd hv (bI_n z)
          · exact q5 c' (by omega) hv
        · have hval := bI_p z
          refine p_spt (s := sarr s 66 F') (d := d) hM hV h1 h5 (σ := fun t => c / V ^ (V - 1 - t) % V) (fun t ht => by rw [sa_s]; exact hF' t ht) ?_
          have ec : (sumN (fun w => cntN (fun i => b_X11_has (sarr s 66 F') ((sarr s 66 F').1 51 1) (nI ((fun t => c / V ^ (V - 1 - t) % V) (i % V))) ∨ (b_X11_has (sarr s 66 F') ((sarr s 66 F').1 51 2) (nI ((fun t => c / V ^ (V - 1 - t) % V) (i % V))) ∧ i / V % 2 = 1)) (Int32.toNatClampNeg ((sarr s 66 F').1 54 w))) (Int32.toNatClampNeg ((sarr s 66 F').1 51 4))) = cost c := (hcost c).symm
          rw [ec, nI_1]
          have new : (∀ c', c' < c → valB V 0 (digR V V c') = true → cost c < cost c') → BestC V cost (c + 1) c := fun q => ⟨by omega, hval, fun c' hc' hv => by
            by_cases e : c' = c
            · subst e; exact ⟨Nat.le_refl _, fun _ => Nat.le_refl _⟩
            · have := q c' (by omega) hv
              exact ⟨by omega, fun q => by omega⟩⟩
          rcases hx2 with ⟨rfl, q⟩ | ⟨b, rfl, rfl, q3, q4, q5⟩
          · exact ⟨fun _ => ih (c + 1) (by omega) F' _ _ (Or.inr ⟨c, rfl, rfl, new (fun c' hc' hv => absurd hv (q c' hc'))⟩), fun z2 => absurd rfl z2⟩
          · refine ⟨fun z2 => absurd z2 (nI_m1 (by omega)), fun _ => ?_⟩
            rw [nlt (hcl _) (hcl _)]
            refine ⟨fun z2 => ih (c + 1) (by omega) F' _ _ (Or.inr ⟨c, rfl, rfl, new (fun c' hc' hv => by have := (q5 c' hc' hv).1; omega)⟩), fun z2 => ih (c + 1) (by omega) F' _ _ (Or.inr ⟨b, rfl, rfl, by omega, q4, fun c' hc' hv => ?_⟩)⟩
            by_cases e : c' = c
            · subst e; exact ⟨by omega, fun q => by omega⟩
            · exact q5 c' (by omega) hv
      · rw [nlt (by omega) (by omega)] at z
        omega
  have pw : ∀ m k, k + m = V → AtA l G (d + 3) sX11_seats 12 [.ref 51, .int x1, .int (nI (V ^ k)), .int (nI k), .null, .null, .null, .null] [] s (pI Q) := by
    intro m
    induction m with
    | zero =>
      intro k hk
      have : k = V := by omega
      subst this
      refine r_X11_seats_12 _ _ _ s ⟨fun z => ?_, fun _ => ?_⟩
      · rw [hV] at z
        exact (Int32.lt_irrefl z).elim
      · have := search (k ^ k) 0 (Nat.zero_add _) (s.1 66) (-1) 0 (Or.inl ⟨rfl, fun c' hc' => absurd hc' (Nat.not_lt_zero _)⟩)
        rw [sa_id] at this
        exact this
    | succ m ih =>
      intro k hk
      refine r_X11_seats_12 _ _ _ s ⟨fun _ => ?_, fun z => ?_⟩
      · rw [hV, pk_mul, nI_1, ← Nat.pow_succ]
        exact ih (k + 1) (by omega)
      · rw [hV, nlt (by omega) (by omega)] at z
        omega
  exact r_X11_seats _ s ⟨fun z => absurd z hx, fun _ => pw V 0 (Nat.zero_add _)⟩
