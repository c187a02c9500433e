/-! readings by the class: what is reached -/
theorem mk_tb_eq {m m' : Nat} (h : ∀ i, m.testBit i = true ↔ m'.testBit i = true) : m = m' := Nat.eq_of_testBit_eq fun i => Bool.eq_iff_iff.mpr (h i)
theorem mkM_congr {P P' : Nat → Prop} {n : Nat} (h : ∀ i, i < n → (P i ↔ P' i)) : mkM P n = mkM P' n := mk_tb_eq fun i => by
  rw [mkM_tb, mkM_tb]
  exact ⟨fun q => ⟨q.1, (h i q.1).mp q.2⟩, fun q => ⟨q.1, (h i q.1).mpr q.2⟩⟩
theorem mk_or {P P' : Nat → Prop} {n : Nat} : mkM P n ||| mkM P' n = mkM (fun i => P i ∨ P' i) n := mk_tb_eq fun i => by
  rw [Nat.testBit_or, Bool.or_eq_true, mkM_tb, mkM_tb, mkM_tb]
  exact ⟨fun q => q.elim (fun q => ⟨q.1, Or.inl q.2⟩) (fun q => ⟨q.1, Or.inr q.2⟩), fun q => q.2.elim (fun z => Or.inl ⟨q.1, z⟩) (fun z => Or.inr ⟨q.1, z⟩)⟩
theorem mk_and {P P' : Nat → Prop} {n : Nat} : mkM P n &&& mkM P' n = mkM (fun i => P i ∧ P' i) n := mk_tb_eq fun i => by
  rw [Nat.testBit_and, Bool.and_eq_true, mkM_tb, mkM_tb, mkM_tb]
  exact ⟨fun q => ⟨q.1.1, q.1.2, q.2.2⟩, fun q => ⟨⟨q.1, q.2.1⟩, q.1, q.2.2⟩⟩
theorem mk_bit {P : Nat → Prop} {n k : Nat} (hk : k < n) : mkM P n ||| 2 ^ k = mkM (fun i => P i ∨ i = k) n := mk_tb_eq fun i => by
  rw [Nat.testBit_or, Bool.or_eq_true, mkM_tb, mkM_tb, Nat.testBit_two_pow, decide_eq_true_eq]
  exact ⟨fun q => q.elim (fun q => ⟨q.1, Or.inl q.2⟩) (fun q => ⟨by omega, Or.inr q.symm⟩), fun q => q.2.elim (fun z => Or.inl ⟨q.1, z⟩) (fun z => Or.inr z.symm)⟩
theorem mkM_0 {P : Nat → Prop} {n : Nat} (h : ∀ i, i < n → ¬ P i) : mkM P n = 0 := mk_tb_eq fun i => by
  rw [mkM_tb, Nat.zero_testBit]
  exact ⟨fun q => absurd q.2 (h i q.1), fun q => absurd q (by decide)⟩
theorem mkM_z {P : Nat → Prop} {n : Nat} (h : mkM P n = 0) : ∀ i, i < n → ¬ P i := fun i hi q => by
  have : (mkM P n).testBit i = true := (mkM_tb P n i).mpr ⟨hi, q⟩
  rw [h, Nat.zero_testBit] at this
  exact absurd this (by decide)
theorem mk_bt {P : Nat → Prop} {n i : Nat} (hi : i < n) (h32 : n ≤ 31) : ((nI (mkM P n) >>> (nI i &&& 31)) &&& 1) = 0 ↔ ¬ P i := by
  rw [bit0 (by omega), btn _ (by omega)]
  constructor
  · intro q z
    rw [(mkM_tb P n i).mpr ⟨hi, z⟩] at q
    exact absurd q (by decide)
  · intro q
    cases c : (mkM P n).testBit i with
    | false => rfl
    | true => exact absurd ((mkM_tb P n i).mp c).2 q
theorem mk_lt {P : Nat → Prop} {n : Nat} (hn : n ≤ 12) : mkM P n < 4096 := by
  have := mkM_lt P n
  have := p2k hn
  omega
theorem shr0 {m k : Nat} (hm : m < 4096) (hk : k < 32) : (nI m >>> (nI k &&& 31)) = 0 ↔ m < 2 ^ k := by
  rw [pk_shrN (by omega) _ k (s_l k hk), l0, neq (Nat.lt_of_le_of_lt (Nat.div_le_self _ _) (by omega)) (by omega), Nat.div_eq_zero_iff_lt (Nat.two_pow_pos k)]
/-- from bit k on nothing is left -/
theorem mk_end {P : Nat → Prop} {n k : Nat} (h : mkM P n < 2 ^ k) : ∀ i, k ≤ i → i < n → ¬ P i := fun i hi hn q => by
  have : (mkM P n).testBit i = true := (mkM_tb P n i).mpr ⟨hn, q⟩
  rw [tb_hi h hi] at this
  exact absurd this (by decide)
def EnvF (s s' : St) : Prop := Sm s s' ∧ s'.1 26 6 = nI (gn (grX s)) ∧ FitOK (grX s) s' (gn (grX s) + 1) ∧ FolOK (grX s) s' 4
theorem env_put {s s' : St} (h : EnvF s s') {q k : Nat} {v : Int32} (h1 : 30 ≤ q) (h2 : q ≤ 44) : EnvF s (sput s' q k v) := ⟨sm_put h.1 (by omega) h2, by rw [sp_q (by omega)]; exact h.2.1, fun p hp => by rw [sp_q (by omega)]; exact h.2.2.1 p hp, fun p hp => by rw [sp_q (by omega)]; exact h.2.2.2 p hp⟩
def Row (n : Nat) (s' : St) (R : Nat → Nat → Nat → Prop) : Prop := ∀ u p, u ≤ 6 → p ≤ n → s'.1 (30 + u) p = nI (mkM (R u p) 4)
theorem row_congr {n : Nat} {s' : St} {R R' : Nat → Nat → Nat → Prop} (h : Row n s' R) (he : ∀ u p a, u ≤ 6 → p ≤ n → a < 4 → (R u p a ↔ R' u p a)) : Row n s' R' := fun u p hu hp => by rw [h u p hu hp, mkM_congr (fun a ha => he u p a hu hp ha)]
theorem row_put {n : Nat} {s' : St} {R : Nat → Nat → Nat → Prop} (h : Row n s' R) {u1 p1 a1 : Nat} (hu : u1 ≤ 6) (hp : p1 ≤ n) (ha : a1 < 4) : Row n (sput s' (30 + u1) p1 (s'.1 (30 + u1) p1 ||| ((1 : Int32) <<< (nI a1 &&& 31)))) (fun u p a => R u p a ∨ (u = u1 ∧ p = p1 ∧ a = a1)) := by
  intro u p hu' hp'
  by_cases e : u = u1
  · subst e
    by_cases e2 : p = p1
    · subst e2
      rw [sp_s, h u p hu hp, nn_1 (by omega), nn_or, mk_bit ha]
      exact congrArg nI (mkM_congr (fun a _ => ⟨fun q => q.imp id (fun q => ⟨rfl, rfl, q⟩), fun q => q.imp id (fun q => q.2.2)⟩))
    · rw [sp_k e2, h u p hu' hp']
      exact congrArg nI (mkM_congr (fun a _ => ⟨Or.inl, fun q => q.elim id (fun q => absurd q.2.1 e2)⟩))
  · rw [sp_q (by omega), h u p hu' hp']
    exact congrArg nI (mkM_congr (fun a _ => ⟨Or.inl, fun q => q.elim id (fun q => absurd q.1 e)⟩))
theorem alen30 {u : Nat} (h : u ≤ 6) : alen (30 + u) = 61 := by
  rcases (show u = 0 ∨ u = 1 ∨ u = 2 ∨ u = 3 ∨ u = 4 ∨ u = 5 ∨ u = 6 by omega) with rfl | rfl | rfl | rfl | rfl | rfl | rfl <;> rfl
theorem alen38 {u : Nat} (h : u ≤ 6) : alen (38 + u) = 244 := by
  rcases (show u = 0 ∨ u = 1 ∨ u = 2 ∨ u = 3 ∨ u = 4 ∨ u = 5 ∨ u = 6 by omega) with rfl | rfl | rfl | rfl | rfl | rfl | rfl <;> rfl
theorem isr_iff {s' : St} {n u p a : Nat} {R : Nat → Nat → Nat → Prop} (h : Row n s' R) (hu : u ≤ 6) (hn : n ≤ 60) (hp : p ≤ n) (ha : a < 4) : ok_X1_isReached s' (nI u) (nI p) (nI a) ∧ (b_X1_isReached s' (nI u) (nI p) (nI a) ↔ R u p a) := by
  constructor
  · refine ⟨vin (show u < 7 by omega) (by decide), ?_⟩
    rw [nnum (by omega), alen30 hu]
    exact vin (by omega) (by decide)
  · unfold b_X1_isReached
    rw [nnum (by omega), nnum (by omega), h u p hu hp, propext (mk_bt (P := R u p) ha (by decide))]
    by_cases c : R u p a
    · rw [iP_f (fun q => q c)]
      exact ⟨fun _ => c, fun _ => trivial⟩
    · rw [iP_t c]
      exact ⟨fun q => q.elim, fun q => c q⟩
/-- words that can come behind what is reached -/
def Cho (g : Gr) (R : Nat → Prop) (p w : Nat) : Prop := (∃ a, a < 4 ∧ R a ∧ ga g a w) ∧ gf g w p
theorem p_ca {l : Launch} {G : Geo} {d : Nat} {s s' : St} (h : RI s) (he : EnvF s s') {R : Nat → Nat → Nat → Prop} (hR : Row (gn (grX s)) s' R) {u p : Nat} (hu : u ≤ 6) (hp : p ≤ gn (grX s)) {Q : Int32 → St → Prop} (hQ : Q (nI (mkM (Cho (grX s) (R u p) p) (gN (grX s)))) s') : DoesI l G (d + 2) 17 [.ref 26, .int (nI u), .int (nI p)] s' Q := by
  obtain ⟨g1, g2, g3, g4, g5⟩ := gx_ok h
  have loop : ∀ m k, k + m = 4 → AtA l G (d + 2) sX1_choicesAt 18 [.ref 26, .int (nI u), .int (nI p), .int (nI (mkM (fun w => ∃ a, a < k ∧ R u p a ∧ ga (grX s) a w) (gN (grX s)))), .int (nI k)] [] s' (pI Q) := by
    intro m
    induction m with
    | zero =>
      intro k hk
      have : k = 4 := by omega
      subst this
      refine r_X1_choicesAt_18 _ _ _ _ _ ⟨fun z => (Int32.lt_irrefl z).elim, fun _ => ⟨vin (show p < 61 by omega) (by decide), ?_⟩⟩
      rw [nnum (by omega), he.2.2.1 p (by omega), nn_and, mk_and]
      exact hQ
    | succ m ih =>
      intro k hk
      obtain ⟨o1, o2⟩ := isr_iff hR hu g2 hp (show k < 4 by omega)
      refine r_X1_choicesAt_18 _ _ _ _ _ ⟨fun _ => ⟨o1, fun z => ?_, fun z => ⟨vin (show k < 4 by omega) (by decide), ?_⟩⟩, fun z => ?_⟩
      · have := ih (k + 1) (by omega)
        rw [nI_1]
        rw [mkM_congr (P' := fun w => ∃ a, a < k ∧ R u p a ∧ ga (grX s) a w) (fun w _ => ⟨fun ⟨a, q1, q2, q3⟩ => ⟨a, Classical.byContradiction fun q4 => by
            have : a = k := by omega
            subst this
            exact z (o2.mpr q2), q2, q3⟩, fun ⟨a, q1, q2, q3⟩ => ⟨a, by omega, q2, q3⟩⟩)] at this
        exact this
      · have := ih (k + 1) (by omega)
        rw [nnum (by omega), nI_1, he.2.2.2 k (by omega), nn_or, mk_or]
        rw [mkM_congr (P' := fun w => (∃ a, a < k ∧ R u p a ∧ ga (grX s) a w) ∨ ga (grX s) k w) (fun w _ => ⟨fun ⟨a, q1, q2, q3⟩ => by
            by_cases e : a = k
            · subst e; exact Or.inr q3
            · exact Or.inl ⟨a, by omega, q2, q3⟩, fun q => q.elim (fun ⟨a, q1, q2, q3⟩ => ⟨a, by omega, q2, q3⟩) (fun q => ⟨k, by omega, o2.mp z, q⟩)⟩)] at this
        exact this
      · rw [show (4 : Int32) = nI 4 from rfl, nlt (by omega) (by omega)] at z
        omega
  have e1 : alen (30 + Int32.toNatClampNeg (nI u)) = 61 := by rw [nnum (by omega), alen30 hu]
  refine r_X1_choicesAt _ _ _ ⟨vin (show u < 7 by omega) (by decide), by rw [e1]; exact vin (show p < 61 by omega) (by decide), fun z => ?_, fun _ => ?_⟩
  · rw [nnum (by omega), nnum (by omega), hR u p hu hp, l0, neq (by have := mkM_lt (R u p) 4; omega) (by omega)] at z
    rw [mkM_0 (P := Cho (grX s) (R u p) p) (fun w _ q => by
      obtain ⟨⟨a, q1, q2, -⟩, -⟩ := q
      exact mkM_z z a q1 q2)] at hQ
    exact hQ
  · have := loop 4 0 rfl
    rw [mkM_0 (fun w _ ⟨a, q, _⟩ => Nat.not_lt_zero a q)] at this
    exact this
theorem p_sf {l : Launch} {G : Geo} {d : Nat} {s s' : St} (h : RI s) (he : EnvF s s') {R : Nat → Nat → Nat → Prop} (hR : Row (gn (grX s)) s' R) {u p : Nat} (hu : u < 6) (hp : p < gn (grX s)) {Q : St → Prop} (hQ : ∀ s'', EnvF s s'' → Row (gn (grX s)) s'' (fun u' p' a => R u' p' a ∨ (u' = u + 1 ∧ ∃ w, w < gN (grX s) ∧ Cho (grX s) (R u p) p w ∧ p' = p + gz (grX s) w ∧ a = gs (grX s) w)) → Q s'') : DoesV l G (d + 3) 16 [.ref 26, .int (nI u), .int (nI p)] s' Q := by
  have hW := ri_wl h
  obtain ⟨g1, g2, g3, g4, g5⟩ := gx_ok h
  refine r_X1_stepFrom _ _ _ (p_ca h he hR (by omega) (by omega) ?_)
  have hml : mkM (Cho (grX s) (R u p) p) (gN (grX s)) < 4096 := mk_lt g1
  have fin : ∀ k s'', EnvF s s'' → Row (gn (grX s)) s'' (fun u' p' a => R u' p' a ∨ (u' = u + 1 ∧ ∃ w, w < k ∧ w < gN (grX s) ∧ Cho (grX s) (R u p) p w ∧ p' = p + gz (grX s) w ∧ a = gs (grX s) w)) → (∀ i, k ≤ i → i < gN (grX s) → ¬ Cho (grX s) (R u p) p i) → Q s'' := fun k s'' he2 hr hn => hQ s'' he2 (row_congr hr (fun u' p' a _ _ _ => ⟨fun q => q.imp id (fun ⟨q1, w, q2, q3, q4⟩ => ⟨q1, w, q3, q4⟩), fun q => q.imp id (fun ⟨q1, w, q3, q4⟩ => ⟨q1, w, Classical.byContradiction fun z => hn w (by omega) q3 q4.1, q3, q4⟩)⟩))
  have loop : ∀ m k, k + m = 12 → ∀ s'', EnvF s s'' → Row (gn (grX s)) s'' (fun u' p' a => R u' p' a ∨ (u' = u + 1 ∧ ∃ w, w < k ∧ w < gN (grX s) ∧ Cho (grX s) (R u p) p w ∧ p' = p + gz (grX s) w ∧ a = gs (grX s) w)) → AtA l G (d + 3) sX1_stepFrom 10 [.ref 26, .int (nI u), .int (nI p), .int (nI (mkM (Cho (grX s) (R u p) p) (gN (grX s)))), .int (nI k), .null] [] s'' (pV Q) := by
    intro m
    induction m with
    | zero =>
      intro k hk s'' he2 hr
      have : k = 12 := by omega
      subst this
      have f := fin 12 s'' he2 hr (fun i h1 h2 => absurd h2 (by omega))
      exact r_X1_stepFrom_10 _ _ _ _ _ ⟨fun _ => f, fun _ => ⟨fun z => (Int32.lt_irrefl z).elim, fun _ => f⟩⟩
    | succ m ih =>
      intro k hk s'' he2 hr
      refine r_X1_stepFrom_10 _ _ _ _ _ ⟨fun z => ?_, fun z => ⟨fun _ => ⟨fun z2 => ?_, fun z2 => ?_⟩, fun z2 => ?_⟩⟩
      · rw [shr0 hml (by omega)] at z
        exact fin k s'' he2 hr (mk_end z)
      · rw [nI_1]
        refine ih (k + 1) (by omega) s'' he2 (row_congr hr (fun u' p' a _ _ _ => ⟨fun q => q.imp id (fun ⟨q1, w, q2, q3⟩ => ⟨q1, w, by omega, q3⟩), fun q => q.imp id (fun ⟨q1, w, q2, q3, q4⟩ => ⟨q1, w, Classical.byContradiction fun z3 => ?_, q3, q4⟩)⟩))
        have : w = k := by omega
        subst this
        exact (mk_bt q3 (by omega)).mp z2 q4.1
      · by_cases hkN : k < gN (grX s)
        · have hc : Cho (grX s) (R u p) p k := Classical.byContradiction fun z3 => z2 ((mk_bt hkN (by omega)).mpr z3)
          have hnx := g4 k p hc.2
          obtain ⟨o1, o2⟩ := sm_len he2.1 hW hkN
          obtain ⟨o3, o4⟩ := sm_sort he2.1 hW hkN
          have hs2 := (g3 k hkN).2.2
          have e1 : alen (30 + Int32.toNatClampNeg (nI (u + 1))) = 61 := by rw [nnum (by omega), alen30 (by omega)]
          have ipn : vp_in (nI (p + gz (grX s) k)) (alen (30 + Int32.toNatClampNeg (nI (u + 1)))) := by
            rw [e1]
            exact vin (by omega) (by decide)
          refine ⟨o1, ?_⟩
          rw [o2, nI_add, he2.2.1, nlt (by omega) (by omega), o4, nI_1, nI_1]
          refine ⟨fun z3 => absurd z3 (by omega), fun _ => ⟨vin (show u + 1 < 7 by omega) (by decide), ipn, o3, ipn, ?_⟩⟩
          rw [nnum (by omega), nnum (by omega)]
          refine ih (k + 1) (by omega) _ (env_put he2 (by omega) (by omega)) (row_congr (row_put hr (u1 := u + 1) (p1 := p + gz (grX s) k) (a1 := gs (grX s) k) (by omega) hnx (by omega)) (fun u' p' a _ _ _ => ⟨fun q => ?_, fun q => ?_⟩))
          · rcases q with (q | ⟨q1, w, q2, q3⟩) | ⟨q1, q2, q3⟩
            · exact Or.inl q
            · exact Or.inr ⟨q1, w, by omega, q3⟩
            · exact Or.inr ⟨q1, k, by omega, hkN, hc, q2, q3⟩
          · rcases q with q | ⟨q1, w, q2, q3, q4, q5, q6⟩
            · exact Or.inl (Or.inl q)
            · by_cases e : w = k
              · subst e; exact Or.inr ⟨q1, q5, q6⟩
              · exact Or.inl (Or.inr ⟨q1, w, by omega, q3, q4, q5, q6⟩)
        · exfalso
          refine z ((shr0 hml (by omega)).mpr ?_)
          have h1 := mkM_lt (Cho (grX s) (R u p) p) (gN (grX s))
          have h2 : 2 ^ gN (grX s) ≤ 2 ^ k := Nat.pow_le_pow_right (by decide) (by omega)
          omega
      · rw [show (12 : Int32) = nI 12 from rfl, nlt (by omega) (by omega)] at z2
        omega
  exact loop 12 0 rfl s' he (row_congr hR (fun u' p' a _ _ _ => ⟨Or.inl, fun q => q.elim id (fun ⟨_, w, q, _⟩ => absurd q (Nat.not_lt_zero w))⟩))
