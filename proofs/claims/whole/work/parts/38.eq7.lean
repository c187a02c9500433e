/-! equal answers: twins -/
theorem frT_congr {H H' : Nat → Prop} {f f' : Nat → Int32} : ∀ m k, (∀ j, k ≤ j → j < k + m → (H j ↔ H' j) ∧ (H j → f j = f' j)) → frT H f m k = frT H' f' m k
  | 0, _, _ => rfl
  | m + 1, k, h => by
    have h0 := h k (Nat.le_refl k) (by omega)
    have ih := frT_congr m (k + 1) (fun j h1 h2 => h j (by omega) (by omega))
    show iC (H k) (f k) (frT H f m (k + 1)) = iC (H' k) (f' k) (frT H' f' m (k + 1))
    by_cases c : H k
    · rw [iC_t c, iC_t (h0.1.mp c), h0.2 c]
    · rw [iC_f c, iC_f (fun q => c (h0.1.mpr q)), ih]
theorem eq_twins {l : Launch} {G : Geo} {s : St} (h : RI s) (x1 x2 : Int32) : Eqv l G 122 176 [.int x1, .int x2] s := by
  have hW := ri_wl h
  have hC := ri_ch h
  obtain ⟨ez, hz⟩ := siz4 hW
  obtain ⟨-, ⟨⟨V, v1, v5, hV⟩, -, c3, -⟩, ⟨-, -, -, -, -, w6, w7, w8, w9, w10⟩, -⟩ := id h
  have hV' : s.1 51 0 = nI V := c3.trans hV
  have eW : s.1 51 4 = nI (Int32.toNatClampNeg (s.1 4 3)) := w6.trans ez
  have two : ∀ x : Int32, b_X11_in s x 0 1 ↔ x = 0 ∨ x = 1 := by
    intro x
    constructor
    · intro q
      rw [in_iff] at q
      obtain ⟨k, hk, rfl⟩ := nI_of q.1
      have := q.2
      rw [l1, nlt (by omega) (by omega)] at this
      rcases (show k = 0 ∨ k = 1 by omega) with rfl | rfl
      · exact Or.inl rfl
      · exact Or.inr rfl
    · rintro (rfl | rfl) <;> exact in_iff.mpr (by decide)
  refine p_X10_twins _ _ s (fun _ => ⟨fun _ => ⟨fun _ => ⟨hW, hC⟩, fun _ => ⟨hW, hC⟩⟩, fun _ _ => ⟨fun _ => ⟨hW, hC⟩, fun _ => ⟨hW, hC⟩⟩⟩) ?_
  unfold v_X10_twins
  by_cases hnv : ¬ ∃ v, v < V ∧ x1 = nI v
  · rw [iC_f (fun q => hnv ((hasv_iff hV v5).mp q))]
    exact r_X11_twins _ _ s ⟨fun _ => ⟨rfl, h⟩, fun q => absurd ((isv_iff hV' v5).mp q) hnv⟩
  obtain ⟨v, hv, rfl⟩ := Classical.not_not.mp hnv
  clear hnv
  rw [iC_t ((hasv_iff hV v5).mpr ⟨v, hv, rfl⟩)]
  obtain ⟨M, hM⟩ : ∃ M, M = (((1 : Int32) <<< ((s.1 51 0) &&& 31)) - 1) &&& (((1 : Int32) <<< (nI v &&& 31)) ^^^ (-1)) := ⟨_, rfl⟩
  have etw : ∀ w, v_X2_twinOf s (nI v) (nI w) = iC (v_X11_wordBy s (nI w) M = nI w) (-1) (v_X11_wordBy s (nI w) M) := by
    intro w
    unfold v_X2_twinOf
    rw [all_eq h, ← hM, by_eq h]
  have hH : ∀ w, (¬ v_X2_twinOf s (nI v) (nI w) = -1) ↔ (¬ v_X11_wordBy s (nI w) M = -1 ∧ ¬ v_X11_wordBy s (nI w) M = nI w) := by
    intro w
    rw [etw]
    by_cases c : v_X11_wordBy s (nI w) M = nI w
    · rw [iC_t c]
      exact ⟨fun q => absurd rfl q, fun q => absurd c q.2⟩
    · rw [iC_f c]
      exact ⟨fun q => ⟨q, c⟩, fun q => q.1⟩
  have hval : ∀ w, (¬ v_X2_twinOf s (nI v) (nI w) = -1) → 20 * nI w + v_X2_twinOf s (nI v) (nI w) = 20 * nI w + v_X11_wordBy s (nI w) M := by
    intro w q
    rw [etw, iC_f ((hH w).mp q).2]
  have ecnt : v_X2_countTwins s (nI v) = nI (cntN (fun w => ¬ v_X11_wordBy s (nI w) M = -1 ∧ ¬ v_X11_wordBy s (nI w) M = nI w) (Int32.toNatClampNeg (s.1 4 3))) := by
    unfold v_X2_countTwins
    rw [cnt_congr _ (fun w _ => hH w)]
  have efst : v_X2_firstTwins s (nI v) = frT (fun w => ¬ v_X11_wordBy s (nI w) M = -1 ∧ ¬ v_X11_wordBy s (nI w) M = nI w) (fun w => 20 * nI w + v_X11_wordBy s (nI w) M) (Int32.toNatClampNeg (s.1 4 3)) 0 := by
    unfold v_X2_firstTwins
    exact frT_congr _ _ (fun w _ _ => ⟨hH w, hval w⟩)
  rw [ecnt, efst]
  have loop : ∀ (Q : Int32 → St → Prop) m a first, a + m = Int32.toNatClampNeg (s.1 4 3) → (x2 = 0 → Q (nI (cntN (fun w => ¬ v_X11_wordBy s (nI w) M = -1 ∧ ¬ v_X11_wordBy s (nI w) M = nI w) (Int32.toNatClampNeg (s.1 4 3)))) s) → (¬ x2 = 0 → Q (iC (cntN (fun w => ¬ v_X11_wordBy s (nI w) M = -1 ∧ ¬ v_X11_wordBy s (nI w) M = nI w) a = 0) (frT (fun w => ¬ v_X11_wordBy s (nI w) M = -1 ∧ ¬ v_X11_wordBy s (nI w) M = nI w) (fun w => 20 * nI w + v_X11_wordBy s (nI w) M) m a) first) s) → (cntN (fun w => ¬ v_X11_wordBy s (nI w) M = -1 ∧ ¬ v_X11_wordBy s (nI w) M = nI w) a = 0 → first = -1) → AtA l G 20 sX11_twins 31 [.ref 51, .int (nI v), .int x2, .int (nI (cntN (fun w => ¬ v_X11_wordBy s (nI w) M = -1 ∧ ¬ v_X11_wordBy s (nI w) M = nI w) a)), .int first, .int (nI a), .null] [] s (pI Q) := by
    intro Q m
    induction m with
    | zero =>
      intro a first ha k0 k1 hf
      have : a = Int32.toNatClampNeg (s.1 4 3) := by omega
      subst this
      refine r_X11_twins_31 _ _ _ _ _ s ⟨fun z => ?_, fun _ => ⟨k0, fun z => ?_⟩⟩
      · rw [eW] at z
        exact (Int32.lt_irrefl z).elim
      · have := k1 z
        by_cases c : cntN (fun w => ¬ v_X11_wordBy s (nI w) M = -1 ∧ ¬ v_X11_wordBy s (nI w) M = nI w) (Int32.toNatClampNeg (s.1 4 3)) = 0
        · rw [iC_t c] at this
          rw [hf c]
          exact this
        · rw [iC_f c] at this
          exact this
    | succ m ih =>
      intro a first ha k0 k1 hf
      have hcl := cnt_le (fun w => ¬ v_X11_wordBy s (nI w) M = -1 ∧ ¬ v_X11_wordBy s (nI w) M = nI w) a
      have hokw : ok_X11_wordBy s (nI a) M := ⟨ri_md h, a, by rw [w6]; omega, rfl⟩
      have miss : (¬ (¬ v_X11_wordBy s (nI a) M = -1 ∧ ¬ v_X11_wordBy s (nI a) M = nI a)) → AtA l G 20 sX11_twins 31 [.ref 51, .int (nI v), .int x2, .int (nI (cntN (fun w => ¬ v_X11_wordBy s (nI w) M = -1 ∧ ¬ v_X11_wordBy s (nI w) M = nI w) a)), .int first, .int (nI a + 1), .null] [] s (pI Q) := by
        intro hn
        have e1 := cnt_f (P := fun w => ¬ v_X11_wordBy s (nI w) M = -1 ∧ ¬ v_X11_wordBy s (nI w) M = nI w) hn
        have := ih (a + 1) first (by omega) k0 (fun z => by
          rw [e1]
          have := k1 z
          unfold frT at this
          rw [iC_f (P := ¬ v_X11_wordBy s (nI a) M = -1 ∧ ¬ v_X11_wordBy s (nI a) M = nI a) hn] at this
          exact this) (by rw [e1]; exact hf)
        rw [e1] at this
        rw [nI_1]
        exact this
      refine r_X11_twins_31 _ _ _ _ _ s ⟨fun _ => ?_, fun z => ?_⟩
      · rw [← hM]
        refine ⟨hokw, fun z => miss (fun q => q.1 z), fun z => ⟨fun z2 => miss (fun q => q.2 z2), fun z2 => ?_⟩⟩
        have e1 := cnt_t (P := fun w => ¬ v_X11_wordBy s (nI w) M = -1 ∧ ¬ v_X11_wordBy s (nI w) M = nI w) ⟨z, z2⟩
        refine ⟨fun z3 => ?_, fun z3 => ?_⟩
        · rw [l0, neq (by omega) (by omega)] at z3
          have := ih (a + 1) (20 * nI a + v_X11_wordBy s (nI a) M) (by omega) k0 (fun k => by
            rw [e1, iC_f (by omega)]
            have := k1 k
            unfold frT at this
            rw [iC_t z3, iC_t (P := ¬ v_X11_wordBy s (nI a) M = -1 ∧ ¬ v_X11_wordBy s (nI a) M = nI a) ⟨z, z2⟩] at this
            exact this) (by rw [e1]; intro k; omega)
          rw [e1] at this
          rw [nI_1, nI_1]
          exact this
        · rw [l0, neq (by omega) (by omega)] at z3
          have := ih (a + 1) first (by omega) k0 (fun k => by
            rw [e1, iC_f (by omega)]
            have := k1 k
            rw [iC_f z3] at this
            exact this) (by rw [e1]; intro k; omega)
          rw [e1] at this
          rw [nI_1, nI_1]
          exact this
      · rw [eW, nlt (by omega) (by omega)] at z
        omega
  refine r_X11_twins _ _ s ⟨fun q => absurd ((isv_iff hV' v5).mpr ⟨v, hv, rfl⟩) q, fun _ => ⟨fun z => ⟨?_, h⟩, fun z => ?_⟩⟩
  · rw [iC_f (fun q => z ((two x2).mpr (Or.inl q))), iC_f (fun q => z ((two x2).mpr (Or.inr q)))]
  · refine loop _ _ 0 (-1) (Nat.zero_add _) (fun k => ⟨?_, h⟩) (fun k => ⟨?_, h⟩) (fun _ => rfl)
    · rw [iC_t k, iC_t k]
    · rw [iC_f k, iC_t (((two x2).mp z).resolve_left k), iC_f k]
      exact (iC_t rfl).symm
