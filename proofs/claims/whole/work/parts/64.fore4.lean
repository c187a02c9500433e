/-! readings by the class: what is asked of the table -/
def EndW (g : Gr) (u p w : Nat) : Prop := Cho g (Rch g u p) p w ∧ 0 < Cw g (5 - u) (p + gz g w) (gs g w)
theorem wb_pos {s s' : St} (h : RI s) (he : Env3 s s') {u p w a : Nat} (hu : u < 6) (hp : p < gn (grX s)) (hw : w < gN (grX s)) (hf : gf (grX s) w p) (ha : a < 4) (hr : Rch (grX s) u p a) (hm : ga (grX s) a w) : ok_X1_waysBehind s' (nI u) (nI p) (nI w) ∧ (0 < v_X1_waysBehind s' (nI u) (nI p) (nI w) ↔ 0 < Cw (grX s) (5 - u) (p + gz (grX s) w) (gs (grX s) w)) := by
  obtain ⟨o1, o2⟩ := wb_v h he.1 (by omega) hp hw hf ha hr hm (fun _ => he.2 (u + 1) (by omega))
  have := Cw_lt (g := grX s) (gx_ok h).1 (k := 5 - u) (p := p + gz (grX s) w) (a := gs (grX s) w) (by omega)
  exact ⟨o1, by rw [o2, iC_t hu, l0, nlt (by omega) (by omega)]⟩
theorem p_we {l : Launch} {G : Geo} {d : Nat} {s s' : St} (h : RI s) (he : Env3 s s') {u p : Nat} (hu : u < 6) (hp : p < gn (grX s)) {Q : Int32 → St → Prop} (hQ : Q (nI (mkM (EndW (grX s) u p) (gN (grX s)))) s') : DoesI l G (d + 3) 24 [.ref 26, .int (nI u), .int (nI p)] s' Q := by
  obtain ⟨g1, g2, g3, g4, g5⟩ := gx_ok h
  refine r_X1_wordsThatEndWell _ _ _ (p_ca h he.1.1 he.1.2 (by omega) (by omega) ?_)
  have hml : mkM (Cho (grX s) (Rch (grX s) u p) p) (gN (grX s)) < 4096 := mk_lt g1
  have fin : ∀ k, (∀ i, k ≤ i → i < gN (grX s) → ¬ Cho (grX s) (Rch (grX s) u p) p i) → Q (nI (mkM (fun w => w < k ∧ EndW (grX s) u p w) (gN (grX s)))) s' := by
    intro k hk
    rw [mkM_congr (P' := EndW (grX s) u p) (fun w hw => ⟨fun q => q.2, fun q => ⟨Classical.byContradiction fun z => hk w (by omega) hw q.1, q⟩⟩)]
    exact hQ
  have loop : ∀ m k, k + m = 12 → AtA l G (d + 3) sX1_wordsThatEndWell 13 [.ref 26, .int (nI u), .int (nI p), .int (nI (mkM (Cho (grX s) (Rch (grX s) u p) p) (gN (grX s)))), .int (nI (mkM (fun w => w < k ∧ EndW (grX s) u p w) (gN (grX s)))), .int (nI k)] [] s' (pI Q) := by
    intro m
    induction m with
    | zero =>
      intro k hk
      have : k = 12 := by omega
      subst this
      have f := fin 12 (fun i h1 h2 => absurd h2 (by omega))
      exact r_X1_wordsThatEndWell_13 _ _ _ _ _ _ ⟨fun _ => f, fun _ => ⟨fun z => (Int32.lt_irrefl z).elim, fun _ => f⟩⟩
    | succ m ih =>
      intro k hk
      have ihh := ih (k + 1) (by omega)
      have same : ¬ EndW (grX s) u p k → AtA l G (d + 3) sX1_wordsThatEndWell 13 [.ref 26, .int (nI u), .int (nI p), .int (nI (mkM (Cho (grX s) (Rch (grX s) u p) p) (gN (grX s)))), .int (nI (mkM (fun w => w < k ∧ EndW (grX s) u p w) (gN (grX s)))), .int (nI k + 1)] [] s' (pI Q) := by
        intro q
        rw [nI_1]
        rw [mkM_congr (P := fun w => w < k + 1 ∧ EndW (grX s) u p w) (P' := fun w => w < k ∧ EndW (grX s) u p w) (fun w _ => ⟨fun z => ⟨Classical.byContradiction fun z2 => by
          have : w = k := by omega
          subst this
          exact q z.2, z.2⟩, fun z => ⟨by omega, z.2⟩⟩)] at ihh
        exact ihh
      refine r_X1_wordsThatEndWell_13 _ _ _ _ _ _ ⟨fun z => ?_, fun z => ?_⟩
      · rw [shr0 hml (by omega)] at z
        exact fin k (mk_end z)
      · have hkN : k < gN (grX s) := Classical.byContradiction fun q => z ((shr0 hml (by omega)).mpr (by
          have h1 := mkM_lt (Cho (grX s) (Rch (grX s) u p) p) (gN (grX s))
          have h2 : 2 ^ gN (grX s) ≤ 2 ^ k := Nat.pow_le_pow_right (by decide) (by omega)
          omega))
        refine ⟨fun _ => ⟨fun z2 => same (fun q => (mk_bt hkN (by omega)).mp z2 q.1), fun z2 => ?_⟩, fun z2 => ?_⟩
        · have hc : Cho (grX s) (Rch (grX s) u p) p k := Classical.byContradiction fun z3 => z2 ((mk_bt hkN (by omega)).mpr z3)
          obtain ⟨⟨a, a1, a2, a3⟩, a4⟩ := id hc
          obtain ⟨o1, o2⟩ := wb_pos h he hu hp hkN a4 a1 a2 a3
          refine ⟨o1, ?_⟩
          rw [o2]
          refine ⟨fun z3 => ?_, fun z3 => same (fun q => z3 q.2)⟩
          rw [nn_1 (by omega), nn_or, mk_bit hkN, nI_1]
          rw [mkM_congr (P := fun w => w < k + 1 ∧ EndW (grX s) u p w) (P' := fun w => (w < k ∧ EndW (grX s) u p w) ∨ w = k) (fun w _ => ⟨fun z => by
            by_cases e : w = k
            · exact Or.inr e
            · exact Or.inl ⟨by omega, z.2⟩, fun z => z.elim (fun z => ⟨by omega, z.2⟩) (fun z => by subst z; exact ⟨by omega, hc, z3⟩)⟩)] at ihh
          exact ihh
        · rw [show (12 : Int32) = nI 12 from rfl, nlt (by omega) (by omega)] at z2
          omega
  have := loop 12 0 rfl
  rw [mkM_0 (P := fun w => w < 0 ∧ EndW (grX s) u p w) (fun w _ q => Nat.not_lt_zero w q.1)] at this
  exact this
theorem p_wa {l : Launch} {G : Geo} {d : Nat} {s s' : St} (h : RI s) (he : Env3 s s') {Q : Int32 → St → Prop} (hQ : Q (nI (mkM (Wany (grX s)) (gN (grX s)))) s') : DoesI l G (d + 4) 23 [.ref 26] s' Q := by
  obtain ⟨g1, g2, g3, g4, g5⟩ := gx_ok h
  have inner : ∀ u, u < 6 → (AtA l G (d + 4) sX1_wordsInAny 4 [.ref 26, .int (nI (mkM (fun w => ∃ u' p', p' < gn (grX s) ∧ u' < u + 1 ∧ EndW (grX s) u' p' w) (gN (grX s)))), .int (nI (u + 1)), .null] [] s' (pI Q)) → ∀ m p, p + m = gn (grX s) → AtA l G (d + 4) sX1_wordsInAny 12 [.ref 26, .int (nI (mkM (fun w => ∃ u' p', p' < gn (grX s) ∧ (u' < u ∨ (u' = u ∧ p' < p)) ∧ EndW (grX s) u' p' w) (gN (grX s)))), .int (nI u), .int (nI p)] [] s' (pI Q) := by
    intro u hu out m
    induction m with
    | zero =>
      intro p hp
      have : p = gn (grX s) := by omega
      subst this
      refine r_X1_wordsInAny_12 _ _ _ _ ⟨fun z => ?_, fun _ => ?_⟩
      · rw [he.1.1.2.1] at z
        exact (Int32.lt_irrefl z).elim
      · rw [nI_1, mkM_congr (P' := fun w => ∃ u' p', p' < gn (grX s) ∧ u' < u + 1 ∧ EndW (grX s) u' p' w) (fun w _ => ⟨fun ⟨u', p', q1, q2, q3⟩ => ⟨u', p', q1, by omega, q3⟩, fun ⟨u', p', q1, q2, q3⟩ => ⟨u', p', q1, by omega, q3⟩⟩)]
        exact out
    | succ m ih =>
      intro p hp
      refine r_X1_wordsInAny_12 _ _ _ _ ⟨fun _ => p_we h he hu (by omega) ?_, fun z => ?_⟩
      · have ihh := ih (p + 1) (by omega)
        rw [nn_or, mk_or, nI_1]
        rw [mkM_congr (P' := fun w => (∃ u' p', p' < gn (grX s) ∧ (u' < u ∨ (u' = u ∧ p' < p)) ∧ EndW (grX s) u' p' w) ∨ EndW (grX s) u p w) (fun w _ => ⟨fun ⟨u', p', q1, q2, q3⟩ => by
          by_cases e : u' = u ∧ p' = p
          · obtain ⟨rfl, rfl⟩ := e
            exact Or.inr q3
          · exact Or.inl ⟨u', p', q1, by omega, q3⟩, fun q => q.elim (fun ⟨u', p', q1, q2, q3⟩ => ⟨u', p', q1, by omega, q3⟩) (fun q => ⟨u, p, by omega, by omega, q⟩)⟩)] at ihh
        exact ihh
      · rw [he.1.1.2.1, nlt (by omega) (by omega)] at z
        omega
  have outer : ∀ m u, u + m = 6 → AtA l G (d + 4) sX1_wordsInAny 4 [.ref 26, .int (nI (mkM (fun w => ∃ u' p', p' < gn (grX s) ∧ u' < u ∧ EndW (grX s) u' p' w) (gN (grX s)))), .int (nI u), .null] [] s' (pI Q) := by
    intro m
    induction m with
    | zero =>
      intro u hu
      have : u = 6 := by omega
      subst this
      refine r_X1_wordsInAny_4 _ _ _ ⟨fun z => (Int32.lt_irrefl z).elim, fun _ => ?_⟩
      rw [mkM_congr (P' := Wany (grX s)) (fun w _ => ⟨fun ⟨u, p, q1, q2, q3⟩ => ⟨u, p, q2, q1, q3.1.1, q3.1.2, q3.2⟩, fun ⟨u, p, q1, q2, q3, q4, q5⟩ => ⟨u, p, q2, q1, ⟨q3, q4⟩, q5⟩⟩)]
      exact hQ
    | succ m ih =>
      intro u hu
      refine r_X1_wordsInAny_4 _ _ _ ⟨fun _ => ?_, fun z => ?_⟩
      · have := inner u (by omega) (ih (u + 1) (by omega)) _ 0 (Nat.zero_add _)
        rw [mkM_congr (P' := fun w => ∃ u' p', p' < gn (grX s) ∧ u' < u ∧ EndW (grX s) u' p' w) (fun w _ => ⟨fun ⟨u', p', q1, q2, q3⟩ => ⟨u', p', q1, by omega, q3⟩, fun ⟨u', p', q1, q2, q3⟩ => ⟨u', p', q1, by omega, q3⟩⟩)] at this
        exact this
      · rw [show (6 : Int32) = nI 6 from rfl, nlt (by omega) (by omega)] at z
        omega
  have := outer 6 0 rfl
  rw [mkM_0 (fun w _ ⟨u', p', q1, q2, q3⟩ => Nat.not_lt_zero _ q2)] at this
  exact r_X1_wordsInAny _ this
theorem nx_iff {g : Gr} {u p a w : Nat} : NxC g u p a w ↔ (gf g w p ∧ ga g a w) ∧ 0 < Cw g (5 - u) (p + gz g w) (gs g w) := by
  unfold NxC
  constructor
  · rintro ⟨q1, q2⟩
    have hf : gf g w p := Classical.byContradiction fun z => by
      rw [Rw_f z] at q2
      exact absurd q2 (by decide)
    rw [Rw_t hf] at q2
    exact ⟨⟨hf, q1⟩, q2⟩
  · rintro ⟨⟨q1, q2⟩, q3⟩
    exact ⟨q2, by rw [Rw_t q1]; exact q3⟩
theorem p_le {l : Launch} {G : Geo} {d : Nat} {s s' : St} (h : RI s) (he : Env3 s s') {u p a : Nat} (hu : u < 6) (hp : p < gn (grX s)) (ha : a < 4) (hr : Rch (grX s) u p a) {Q : Int32 → St → Prop} (hQ : Q (findF (NxC (grX s) u p a) (gN (grX s)) 0) s') : DoesI l G (d + 3) 26 [.ref 26, .int (nI u), .int (nI p), .int (nI a)] s' Q := by
  obtain ⟨g1, g2, g3, g4, g5⟩ := gx_ok h
  have hml : mkM (fun w => gf (grX s) w p ∧ ga (grX s) a w) (gN (grX s)) < 4096 := mk_lt g1
  refine r_X1_leastThatEndsWell _ _ _ _ ⟨vin (show p < 61 by omega) (by decide), vin (show a < 4 by omega) (by decide), ?_⟩
  rw [nnum (by omega), nnum (by omega), he.1.1.2.2.1 p (by omega), he.1.1.2.2.2 a ha, nn_and, mk_and]
  have none : ∀ k, (∀ j, j < k → ¬ NxC (grX s) u p a j) → (∀ i, k ≤ i → i < gN (grX s) → ¬ (gf (grX s) i p ∧ ga (grX s) a i)) → Q (-1) s' := by
    intro k h1 h2
    rw [findF_eq (r := -1) (Or.inl ⟨rfl, fun c hc q => by
      by_cases e : c < k
      · exact h1 c e q
      · exact h2 c (by omega) hc (nx_iff.mp q).1⟩)] at hQ
    exact hQ
  have loop : ∀ m k, k + m = 12 → (∀ j, j < k → ¬ NxC (grX s) u p a j) → AtA l G (d + 3) sX1_leastThatEndsWell 18 [.ref 26, .int (nI u), .int (nI p), .int (nI a), .int (nI (mkM (fun w => gf (grX s) w p ∧ ga (grX s) a w) (gN (grX s)))), .int (nI k)] [] s' (pI Q) := by
    intro m
    induction m with
    | zero =>
      intro k hk hn
      have : k = 12 := by omega
      subst this
      have f := none 12 hn (fun i h1 h2 => absurd h2 (by omega))
      exact r_X1_leastThatEndsWell_18 _ _ _ _ _ _ ⟨fun _ => f, fun _ => ⟨fun z => (Int32.lt_irrefl z).elim, fun _ => f⟩⟩
    | succ m ih =>
      intro k hk hn
      refine r_X1_leastThatEndsWell_18 _ _ _ _ _ _ ⟨fun z => ?_, fun z => ?_⟩
      · rw [shr0 hml (by omega)] at z
        exact none k hn (mk_end z)
      · have hkN : k < gN (grX s) := Classical.byContradiction fun q => z ((shr0 hml (by omega)).mpr (by
          have h1 := mkM_lt (fun w => gf (grX s) w p ∧ ga (grX s) a w) (gN (grX s))
          have h2 : 2 ^ gN (grX s) ≤ 2 ^ k := Nat.pow_le_pow_right (by decide) (by omega)
          omega))
        refine ⟨fun _ => ⟨fun z2 => ?_, fun z2 => ?_⟩, fun z2 => ?_⟩
        · rw [nI_1]
          exact ih (k + 1) (by omega) (lt_s hn (fun q => (mk_bt hkN (by omega)).mp z2 (nx_iff.mp q).1))
        · have hc : gf (grX s) k p ∧ ga (grX s) a k := Classical.byContradiction fun z3 => z2 ((mk_bt hkN (by omega)).mpr z3)
          obtain ⟨o1, o2⟩ := wb_pos h he hu hp hkN hc.1 ha hr hc.2
          refine ⟨o1, ?_⟩
          rw [o2, nI_1]
          refine ⟨fun z3 => ?_, fun z3 => ih (k + 1) (by omega) (lt_s hn (fun q => z3 (nx_iff.mp q).2))⟩
          rw [findF_eq (r := nI k) (Or.inr ⟨k, hkN, nx_iff.mpr ⟨hc, z3⟩, hn, rfl⟩)] at hQ
          exact hQ
        · rw [show (12 : Int32) = nI 12 from rfl, nlt (by omega) (by omega)] at z2
          omega
  exact loop 12 0 rfl (fun j hj => absurd hj (Nat.not_lt_zero j))
theorem p_wf {l : Launch} {G : Geo} {d : Nat} {s s' : St} (h : RI s) (he : Env3 s s') {i : Nat} (hi : i < 6) {Q : Int32 → St → Prop} (hQ : Q (FR (grX s) i 6 0 0 3) s') : DoesI l G (d + 4) 25 [.ref 26, .int (nI i)] s' Q := by
  have hW := ri_wl h
  obtain ⟨g1, g2, g3, g4, g5⟩ := gx_ok h
  have loop : ∀ m u p a, u + m = 6 → p ≤ gn (grX s) → a < 4 → Rch (grX s) u p a → Q (FR (grX s) i m u p a) s' → AtA l G (d + 4) sX1_wordOfFirst 7 [.ref 26, .int (nI i), .int (nI p), .int (nI a), .int (nI u), .null] [] s' (pI Q) := by
    intro m
    induction m with
    | zero =>
      intro u p a hu hp ha hr hq
      have : u = 6 := by omega
      subst this
      exact r_X1_wordOfFirst_7 _ _ _ _ _ ⟨fun z => (Int32.lt_irrefl z).elim, fun _ => hq⟩
    | succ m ih =>
      intro u p a hu hp ha hr hq
      have hq : Q (iC (p < gn (grX s)) (iC (findF (NxC (grX s) u p a) (gN (grX s)) 0 = -1) (-1) (iC (u = i) (findF (NxC (grX s) u p a) (gN (grX s)) 0) (FR (grX s) i m (u + 1) (p + gz (grX s) (Int32.toNatClampNeg (findF (NxC (grX s) u p a) (gN (grX s)) 0))) (gs (grX s) (Int32.toNatClampNeg (findF (NxC (grX s) u p a) (gN (grX s)) 0)))))) (-1)) s' := hq
      refine r_X1_wordOfFirst_7 _ _ _ _ _ ⟨fun _ => ?_, fun z => ?_⟩
      · rw [he.1.1.2.1, nlt (by omega) (by omega)]
        refine ⟨fun z => ?_, fun z => ?_⟩
        · rw [iC_t z] at hq
          refine p_le h he (by omega) z ha hr ⟨fun z2 => ?_, fun z2 => ?_⟩
          · rw [iC_t z2] at hq
            rw [z2]
            exact hq
          · rw [iC_f z2] at hq
            rw [neq (by omega) (by omega)]
            refine ⟨fun z3 => ?_, fun z3 => ?_⟩
            · rw [iC_t z3] at hq
              exact hq
            · rw [iC_f z3] at hq
              have hl := findF_least (C := NxC (grX s) u p a) (gN (grX s)) 0 (fun j hj => absurd hj (Nat.not_lt_zero j))
              rw [Nat.zero_add] at hl
              rcases hl with ⟨q, -⟩ | ⟨c, c1, c2, c3, c4⟩
              · exact absurd q z2
              · obtain ⟨⟨d1, d2⟩, d3⟩ := nx_iff.mp c2
                rw [c4, nnum (by omega)] at hq
                rw [c4]
                obtain ⟨o1, o2⟩ := sm_len he.1.1.1 hW c1
                obtain ⟨o3, o4⟩ := sm_sort he.1.1.1 hW c1
                refine ⟨o1, o3, ?_⟩
                rw [o2, o4, nI_add, nI_1]
                exact ih (u + 1) _ _ (by omega) (g4 c p d1) (by have := (g3 c c1).2.2; omega) ⟨p, c, a, z, c1, ha, hr, d1, d2, rfl, rfl⟩ hq
        · rw [iC_f z] at hq
          exact hq
      · rw [show (6 : Int32) = nI 6 from rfl, nlt (by omega) (by omega)] at z
        omega
  exact r_X1_wordOfFirst _ _ (loop 6 0 0 3 rfl (Nat.zero_le _) (by decide) ⟨rfl, rfl⟩ hQ)
theorem tot_v {s s' : St} (h : RI s) (he : Env3 s s') : ok_X1_total s' ∧ v_X1_total s' = nI (iC (gn (grX s) = 0) 0 (Cw (grX s) 6 0 3)) := by
  obtain ⟨g1, g2, g3, g4, g5⟩ := gx_ok h
  have e0 : (s'.1 26 6 = 0) ↔ gn (grX s) = 0 := by rw [he.1.1.2.1, l0, neq (by omega) (by omega)]
  refine ⟨fun _ => ⟨vin (k := 0) (show 0 < 7 by decide) (by decide), vin (k := 3) (show 3 < 244 by decide) (by decide)⟩, ?_⟩
  unfold v_X1_total
  by_cases c : gn (grX s) = 0
  · rw [iC_t (e0.mpr c), iC_t c]
    rfl
  · rw [iC_f (fun q => c (e0.mp q)), iC_f c]
    exact he.2 0 (by decide) 0 3 (Nat.zero_le _) (by decide) ⟨rfl, rfl⟩
