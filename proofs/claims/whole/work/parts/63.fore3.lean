/-! readings by the class: the whole table -/
def RchB (g : Gr) (u pb p' s : Nat) : Prop := ∃ p w a, p < pb ∧ w < gN g ∧ a < 4 ∧ Rch g u p a ∧ gf g w p ∧ ga g a w ∧ p' = p + gz g w ∧ s = gs g w
def RP (g : Gr) (u p u' p' a : Nat) : Prop := (u' ≤ u ∧ Rch g u' p' a) ∨ (u' = u + 1 ∧ RchB g u p p' a)
theorem p_fr {l : Launch} {G : Geo} {d : Nat} {s s0 : St} (h : RI s) (he : EnvF s s0) {Q : St → Prop} (hQ : ∀ s', EnvF s s' → Row (gn (grX s)) s' (Rch (grX s)) → Q s') : DoesV l G (d + 4) 15 [.ref 26] s0 Q := by
  obtain ⟨g1, g2, g3, g4, g5⟩ := gx_ok h
  have inner : ∀ u, u < 6 → (∀ s', EnvF s s' → Row (gn (grX s)) s' (RP (grX s) (u + 1) 0) → AtA l G (d + 4) sX1_findReached 51 [.ref 26, .int (nI (u + 1)), .null] [] s' (pV Q)) → ∀ m p, p + m = gn (grX s) → ∀ s', EnvF s s' → Row (gn (grX s)) s' (RP (grX s) u p) → AtA l G (d + 4) sX1_findReached 59 [.ref 26, .int (nI u), .int (nI p)] [] s' (pV Q) := by
    intro u hu out m
    induction m with
    | zero =>
      intro p hp s' he hr
      have : p = gn (grX s) := by omega
      subst this
      refine r_X1_findReached_59 _ _ _ ⟨fun z => ?_, fun _ => ?_⟩
      · rw [he.2.1] at z
        exact (Int32.lt_irrefl z).elim
      · rw [nI_1]
        refine out s' he (row_congr hr (fun u' p' a _ _ _ => ⟨fun q => ?_, fun q => ?_⟩))
        · rcases q with ⟨q1, q2⟩ | ⟨q1, q2⟩
          · exact Or.inl ⟨by omega, q2⟩
          · refine Or.inl ⟨by omega, ?_⟩
            rw [q1]
            exact q2
        · rcases q with ⟨q1, q2⟩ | ⟨q1, w, w2, w3, q2, _⟩
          · by_cases e : u' = u + 1
            · rw [e] at q2
              exact Or.inr ⟨e, q2⟩
            · exact Or.inl ⟨by omega, q2⟩
          · exact absurd q2 (Nat.not_lt_zero _)
    | succ m ih =>
      intro p hp s' he hr
      refine r_X1_findReached_59 _ _ _ ⟨fun _ => p_sf h he hr hu (by omega) (fun s'' he2 hr2 => ?_), fun z => ?_⟩
      · rw [nI_1]
        refine ih (p + 1) (by omega) s'' he2 (row_congr hr2 (fun u' p' a _ _ _ => ⟨fun q => ?_, fun q => ?_⟩))
        · rcases q with (q | ⟨q1, p0, w, a0, q2, q3⟩) | ⟨q1, w, q2, ⟨⟨a0, q3, q4, q5⟩, q6⟩, q7, q8⟩
          · exact Or.inl q
          · exact Or.inr ⟨q1, p0, w, a0, by omega, q3⟩
          · refine Or.inr ⟨q1, p, w, a0, by omega, q2, q3, ?_, q6, q5, q7, q8⟩
            exact q4.elim (fun q => q.2) (fun q => absurd q.1 (by omega))
        · rcases q with q | ⟨q1, p0, w, a0, q2, q3, q4, q5, q6, q7, q8, q9⟩
          · exact Or.inl (Or.inl q)
          · by_cases e : p0 = p
            · subst e
              exact Or.inr ⟨q1, w, q3, ⟨⟨a0, q4, Or.inl ⟨by omega, q5⟩, q7⟩, q6⟩, q8, q9⟩
            · exact Or.inl (Or.inr ⟨q1, p0, w, a0, by omega, q3, q4, q5, q6, q7, q8, q9⟩)
      · rw [he.2.1, nlt (by omega) (by omega)] at z
        omega
  have outer : ∀ m u, u + m = 6 → ∀ s', EnvF s s' → Row (gn (grX s)) s' (RP (grX s) u 0) → AtA l G (d + 4) sX1_findReached 51 [.ref 26, .int (nI u), .null] [] s' (pV Q) := by
    intro m
    induction m with
    | zero =>
      intro u hu s' he hr
      have : u = 6 := by omega
      subst this
      refine r_X1_findReached_51 _ _ ⟨fun z => (Int32.lt_irrefl z).elim, fun _ => hQ s' he (row_congr hr (fun u' p' a hu' _ _ => ⟨fun q => q.elim (fun q => q.2) (fun q => absurd q.1 (by omega)), fun q => Or.inl ⟨hu', q⟩⟩))⟩
    | succ m ih =>
      intro u hu s' he hr
      refine r_X1_findReached_51 _ _ ⟨fun _ => inner u (by omega) (ih (u + 1) (by omega)) _ 0 (Nat.zero_add _) s' he hr, fun z => ?_⟩
      rw [show (6 : Int32) = nI 6 from rfl, nlt (by omega) (by omega)] at z
      omega
  have zin : ∀ u, u ≤ 6 → (∀ s', EnvF s s' → (∀ u' p', u' < u + 1 → p' ≤ gn (grX s) → s'.1 (30 + u') p' = 0) → AtA l G (d + 4) sX1_findReached 2 [.ref 26, .int (nI (u + 1)), .null] [] s' (pV Q)) → ∀ m p, p + m = gn (grX s) + 1 → ∀ s', EnvF s s' → (∀ u' p', u' < u → p' ≤ gn (grX s) → s'.1 (30 + u') p' = 0) → (∀ p', p' < p → s'.1 (30 + u) p' = 0) → AtA l G (d + 4) sX1_findReached 10 [.ref 26, .int (nI u), .int (nI p)] [] s' (pV Q) := by
    intro u hu out m
    induction m with
    | zero =>
      intro p hp s' he h1 h2
      have : p = gn (grX s) + 1 := by omega
      subst this
      refine r_X1_findReached_10 _ _ _ ⟨fun _ => ?_, fun z => ?_⟩
      · rw [nI_1]
        refine out s' he (fun u' p' q1 q2 => ?_)
        by_cases e : u' = u
        · rw [e]; exact h2 p' (by omega)
        · exact h1 u' p' (by omega) q2
      · rw [he.2.1, nlt (by omega) (by omega)] at z
        omega
    | succ m ih =>
      intro p hp s' he h1 h2
      refine r_X1_findReached_10 _ _ _ ⟨fun z => ?_, fun _ => ⟨vin (show u < 7 by omega) (by decide), ?_, ?_⟩⟩
      · rw [he.2.1, nlt (by omega) (by omega)] at z
        omega
      · rw [nnum (by omega), alen30 hu]
        exact vin (by omega) (by decide)
      · rw [nnum (by omega), nnum (by omega), nI_1]
        refine ih (p + 1) (by omega) _ (env_put he (by omega) (by omega)) (fun u' p' q1 q2 => ?_) (fun p' q1 => ?_)
        · rw [sp_q (by omega)]; exact h1 u' p' q1 q2
        · by_cases e : p' = p
          · rw [e, sp_s]
          · rw [sp_k e]; exact h2 p' (by omega)
  have zout : ∀ m u, u + m = 7 → ∀ s', EnvF s s' → (∀ u' p', u' < u → p' ≤ gn (grX s) → s'.1 (30 + u') p' = 0) → AtA l G (d + 4) sX1_findReached 2 [.ref 26, .int (nI u), .null] [] s' (pV Q) := by
    intro m
    induction m with
    | zero =>
      intro u hu s' he h1
      have : u = 7 := by omega
      subst this
      refine r_X1_findReached_2 _ _ ⟨fun _ => ⟨vin (k := 0) (show 0 < 7 by decide) (by decide), vin (k := 0) (show 0 < 61 by decide) (by decide), ?_⟩, fun z => absurd (by decide) z⟩
      refine outer 6 0 rfl _ (env_put he (by decide) (by decide)) (fun u' p' hu' hp' => ?_)
      by_cases e : u' = 0 ∧ p' = 0
      · obtain ⟨rfl, rfl⟩ := e
        show (sput s' 30 0 8).1 30 0 = _
        rw [sp_s]
        have e8 : mkM (RP (grX s) 0 0 0 0) 4 = 8 := by
          have hno : ∀ a, a ≠ 3 → ¬ RP (grX s) 0 0 0 0 a := fun a ha q => q.elim (fun q => ha q.2.2) (fun q => absurd q.1 (by decide))
          rw [mkM_t (Or.inl ⟨Nat.le_refl 0, rfl, rfl⟩), mkM_f (hno 2 (by decide)), mkM_f (hno 1 (by decide)), mkM_f (hno 0 (by decide))]
          rfl
        rw [e8]
        rfl
      · rw [mkM_0 (fun a _ q => ?_)]
        · have : (sput s' (30 + Int32.toNatClampNeg 0) (Int32.toNatClampNeg 0) 8).1 (30 + u') p' = s'.1 (30 + u') p' := by
            show (sput s' 30 0 8).1 (30 + u') p' = s'.1 (30 + u') p'
            by_cases e1 : u' = 0
            · exact sp_k (fun q => e ⟨e1, q⟩)
            · exact sp_q (by omega)
          rw [this]
          exact h1 u' p' (by omega) hp'
        · rcases q with ⟨q1, q2⟩ | ⟨-, w, w2, w3, q2, _⟩
          · have : u' = 0 := by omega
            rw [this] at q2
            exact e ⟨this, q2.1⟩
          · exact absurd q2 (Nat.not_lt_zero _)
    | succ m ih =>
      intro u hu s' he h1
      refine r_X1_findReached_2 _ _ ⟨fun z => ?_, fun _ => zin u (by omega) (ih (u + 1) (by omega)) _ 0 (Nat.zero_add _) s' he h1 (fun p' q => absurd q (Nat.not_lt_zero _))⟩
      rw [show (6 : Int32) = nI 6 from rfl, nlt (by omega) (by omega)] at z
      omega
  exact r_X1_findReached s0 (zout 7 0 rfl s0 he (fun u' p' q => absurd q (Nat.not_lt_zero _)))
/-- the ways behind u words, where they are reached -/
def WayOK (g : Gr) (s' : St) (u : Nat) : Prop := ∀ p a, p ≤ gn g → a < 4 → Rch g u p a → s'.1 (38 + u) (4 * p + a) = nI (Cw g (6 - u) p a)
def Env2 (s s' : St) : Prop := EnvF s s' ∧ Row (gn (grX s)) s' (Rch (grX s))
theorem env2_put {s s' : St} (h : Env2 s s') {q k : Nat} {v : Int32} (h1 : 38 ≤ q) (h2 : q ≤ 44) : Env2 s (sput s' q k v) := ⟨env_put h.1 (by omega) h2, fun u p hu hp => by rw [sp_q (by omega)]; exact h.2 u p hu hp⟩
theorem wb_v {s s' : St} (h : RI s) (he : Env2 s s') {u p w a : Nat} (hu : u ≤ 6) (hp : p < gn (grX s)) (hw : w < gN (grX s)) (hf : gf (grX s) w p) (ha : a < 4) (hr : Rch (grX s) u p a) (hm : ga (grX s) a w) (hy : u < 6 → WayOK (grX s) s' (u + 1)) : ok_X1_waysBehind s' (nI u) (nI p) (nI w) ∧ v_X1_waysBehind s' (nI u) (nI p) (nI w) = nI (iC (u < 6) (Cw (grX s) (5 - u) (p + gz (grX s) w) (gs (grX s) w)) 0) := by
  have hW := ri_wl h
  obtain ⟨g1, g2, g3, g4, g5⟩ := gx_ok h
  obtain ⟨o1, o2⟩ := sm_len he.1.1 hW hw
  obtain ⟨o3, o4⟩ := sm_sort he.1.1 hW hw
  have hnx := g4 w p hf
  have hs2 := (g3 w hw).2.2
  have e6 : (nI u < 6) ↔ u < 6 := by rw [show (6 : Int32) = nI 6 from rfl, nlt (by omega) (by omega)]
  have ei : ((4 : Int32) * nI (p + gz (grX s) w) + nI (gs (grX s) w)) = nI (4 * (p + gz (grX s) w) + gs (grX s) w) := by rw [show (4 : Int32) = nI 4 from rfl, pk_mul, nI_add]
  constructor
  · refine ⟨o1, fun q1 q2 => ?_⟩
    rw [e6] at q1
    rw [o2, o4, nI_1, nI_add, nnum (by omega), alen38 (by omega), ei]
    exact ⟨vin (show u + 1 < 7 by omega) (by decide), o3, vin (by omega) (by decide)⟩
  · unfold v_X1_waysBehind
    by_cases c : u < 6
    · rw [iC_t (e6.mpr c), iC_t c, o2, o4, nI_add, he.1.2.1, iC_f (by rw [nlt (by omega) (by omega)]; omega), nI_1, nnum (by omega), ei, nnum (by omega), hy c _ _ (by omega) (by omega) ⟨p, w, a, hp, hw, ha, hr, hf, hm, rfl, rfl⟩, show 6 - (u + 1) = 5 - u by omega]
    · rw [iC_f (fun q => c (e6.mp q)), iC_f c]
      rfl
theorem p_sw {l : Launch} {G : Geo} {d : Nat} {s s' : St} (h : RI s) (he : Env2 s s') {u p a : Nat} (hu : u ≤ 6) (hp : p ≤ gn (grX s)) (ha : a < 4) (hr : Rch (grX s) u p a) (hy : u < 6 → WayOK (grX s) s' (u + 1)) {Q : Int32 → St → Prop} (hQ : Q (nI (Cw (grX s) (6 - u) p a)) s') : DoesI l G (d + 3) 20 [.ref 26, .int (nI u), .int (nI p), .int (nI a)] s' Q := by
  obtain ⟨g1, g2, g3, g4, g5⟩ := gx_ok h
  refine r_X1_sumOfWays _ _ _ _ ⟨fun z => ?_, fun z => ⟨vin (show p < 61 by omega) (by decide), vin (show a < 4 by omega) (by decide), ?_⟩⟩
  · rw [he.1.2.1, neq (by omega) (by omega)] at z
    rw [z, Cw_n] at hQ
    exact hQ
  · rw [he.1.2.1, neq (by omega) (by omega)] at z
    rw [nnum (by omega), nnum (by omega), he.1.2.2.1 p (by omega), he.1.2.2.2 a ha, nn_and, mk_and]
    have hml : mkM (fun w => gf (grX s) w p ∧ ga (grX s) a w) (gN (grX s)) < 4096 := mk_lt g1
    have hcw : Cw (grX s) (6 - u) p a = sumN (fun w => iC (gf (grX s) w p ∧ ga (grX s) a w) (iC (u < 6) (Cw (grX s) (5 - u) (p + gz (grX s) w) (gs (grX s) w)) 0) 0) (gN (grX s)) := by
      by_cases c : u < 6
      · rw [show 6 - u = (5 - u) + 1 by omega, Cw_s z]
        refine sumN_congr _ (fun w _ => ?_)
        rw [iC_t c]
      · rw [show 6 - u = 0 by omega, Cw_0 z]
        have : ∀ n, sumN (fun w => iC (gf (grX s) w p ∧ ga (grX s) a w) (iC (u < 6) (Cw (grX s) (5 - u) (p + gz (grX s) w) (gs (grX s) w)) 0) 0) n = 0 := by
          intro n
          induction n with
          | zero => rfl
          | succ n ih =>
            show sumN _ n + iC (gf (grX s) n p ∧ ga (grX s) a n) (iC (u < 6) (Cw (grX s) (5 - u) (p + gz (grX s) n) (gs (grX s) n)) 0) 0 = 0
            rw [ih, iC_f c]
            by_cases e : gf (grX s) n p ∧ ga (grX s) a n
            · rw [iC_t e]
            · rw [iC_f e]
        exact (this _).symm
    rw [hcw] at hQ
    have rest : ∀ k, (∀ i, k ≤ i → i < gN (grX s) → ¬ (gf (grX s) i p ∧ ga (grX s) a i)) → ∀ n, k + n = gN (grX s) → sumN (fun w => iC (gf (grX s) w p ∧ ga (grX s) a w) (iC (u < 6) (Cw (grX s) (5 - u) (p + gz (grX s) w) (gs (grX s) w)) 0) 0) k = sumN (fun w => iC (gf (grX s) w p ∧ ga (grX s) a w) (iC (u < 6) (Cw (grX s) (5 - u) (p + gz (grX s) w) (gs (grX s) w)) 0) 0) (gN (grX s)) := by
      intro k hk n hn
      have : ∀ m, k + m ≤ gN (grX s) → sumN (fun w => iC (gf (grX s) w p ∧ ga (grX s) a w) (iC (u < 6) (Cw (grX s) (5 - u) (p + gz (grX s) w) (gs (grX s) w)) 0) 0) (k + m) = sumN (fun w => iC (gf (grX s) w p ∧ ga (grX s) a w) (iC (u < 6) (Cw (grX s) (5 - u) (p + gz (grX s) w) (gs (grX s) w)) 0) 0) k := by
        intro m
        induction m with
        | zero => intro _; rfl
        | succ m ih =>
          intro hm
          show sumN _ (k + m) + iC (gf (grX s) (k + m) p ∧ ga (grX s) a (k + m)) _ 0 = _
          rw [ih (by omega), iC_f (hk (k + m) (by omega) (by omega))]
          rfl
      rw [← hn]
      exact (this n (by omega)).symm
    have loop : ∀ m k, k + m = 12 → AtA l G (d + 3) sX1_sumOfWays 31 [.ref 26, .int (nI u), .int (nI p), .int (nI a), .int (nI (mkM (fun w => gf (grX s) w p ∧ ga (grX s) a w) (gN (grX s)))), .int (nI (sumN (fun w => iC (gf (grX s) w p ∧ ga (grX s) a w) (iC (u < 6) (Cw (grX s) (5 - u) (p + gz (grX s) w) (gs (grX s) w)) 0) 0) (min k (gN (grX s))))), .int (nI k)] [] s' (pI Q) := by
      intro m
      induction m with
      | zero =>
        intro k hk
        have : k = 12 := by omega
        subst this
        rw [show min 12 (gN (grX s)) = gN (grX s) by omega]
        exact r_X1_sumOfWays_31 _ _ _ _ _ _ _ ⟨fun _ => hQ, fun _ => ⟨fun z => (Int32.lt_irrefl z).elim, fun _ => hQ⟩⟩
      | succ m ih =>
        intro k hk
        have ihh := ih (k + 1) (by omega)
        refine r_X1_sumOfWays_31 _ _ _ _ _ _ _ ⟨fun z => ?_, fun z => ?_⟩
        · rw [shr0 hml (by omega)] at z
          by_cases hkN : k ≤ gN (grX s)
          · rw [show min k (gN (grX s)) = k by omega, rest k (mk_end z) (gN (grX s) - k) (by omega)]
            exact hQ
          · rw [show min k (gN (grX s)) = gN (grX s) by omega]
            exact hQ
        · have hkN : k < gN (grX s) := Classical.byContradiction fun q => z ((shr0 hml (by omega)).mpr (by
            have h1 := mkM_lt (fun w => gf (grX s) w p ∧ ga (grX s) a w) (gN (grX s))
            have h2 : 2 ^ gN (grX s) ≤ 2 ^ k := Nat.pow_le_pow_right (by decide) (by omega)
            omega))
          rw [show min (k + 1) (gN (grX s)) = k + 1 by omega] at ihh
          rw [show min k (gN (grX s)) = k by omega]
          refine ⟨fun _ => ⟨fun z2 => ?_, fun z2 => ?_⟩, fun z2 => ?_⟩
          · have hno := (mk_bt hkN (by omega)).mp z2
            have e1 : sumN (fun w => iC (gf (grX s) w p ∧ ga (grX s) a w) (iC (u < 6) (Cw (grX s) (5 - u) (p + gz (grX s) w) (gs (grX s) w)) 0) 0) (k + 1) = sumN (fun w => iC (gf (grX s) w p ∧ ga (grX s) a w) (iC (u < 6) (Cw (grX s) (5 - u) (p + gz (grX s) w) (gs (grX s) w)) 0) 0) k := by
              show sumN _ k + iC (gf (grX s) k p ∧ ga (grX s) a k) _ 0 = _
              rw [iC_f hno]
              rfl
            rw [e1] at ihh
            rw [nI_1]
            exact ihh
          · have hc : gf (grX s) k p ∧ ga (grX s) a k := Classical.byContradiction fun z3 => z2 ((mk_bt hkN (by omega)).mpr z3)
            obtain ⟨o1, o2⟩ := wb_v h he hu (by omega) hkN hc.1 ha hr hc.2 hy
            have e1 : sumN (fun w => iC (gf (grX s) w p ∧ ga (grX s) a w) (iC (u < 6) (Cw (grX s) (5 - u) (p + gz (grX s) w) (gs (grX s) w)) 0) 0) (k + 1) = sumN (fun w => iC (gf (grX s) w p ∧ ga (grX s) a w) (iC (u < 6) (Cw (grX s) (5 - u) (p + gz (grX s) w) (gs (grX s) w)) 0) 0) k + iC (u < 6) (Cw (grX s) (5 - u) (p + gz (grX s) k) (gs (grX s) k)) 0 := by
              show sumN _ k + iC (gf (grX s) k p ∧ ga (grX s) a k) _ 0 = _
              rw [iC_t hc]
            rw [e1] at ihh
            refine ⟨o1, ?_⟩
            rw [o2, nI_add, nI_1]
            exact ihh
          · rw [show (12 : Int32) = nI 12 from rfl, nlt (by omega) (by omega)] at z2
            omega
    have := loop 12 0 rfl
    rw [Nat.zero_min] at this
    exact this
theorem p_fw {l : Launch} {G : Geo} {d : Nat} {s s0 : St} (h : RI s) (he : Env2 s s0) {u : Nat} (hu : u ≤ 6) (hy : ∀ v, u < v → v ≤ 6 → WayOK (grX s) s0 v) {Q : St → Prop} (hQ : ∀ s', Env2 s s' → (∀ v, u ≤ v → v ≤ 6 → WayOK (grX s) s' v) → Q s') : DoesV l G (d + 4) 19 [.ref 26, .int (nI u)] s0 Q := by
  obtain ⟨g1, g2, g3, g4, g5⟩ := gx_ok h
  have inner : ∀ p, p ≤ gn (grX s) → (∀ s', Env2 s s' → (∀ v, u < v → v ≤ 6 → WayOK (grX s) s' v) → (∀ p' a, p' < p + 1 → a < 4 → Rch (grX s) u p' a → s'.1 (38 + u) (4 * p' + a) = nI (Cw (grX s) (6 - u) p' a)) → AtA l G (d + 4) sX1_findWays 2 [.ref 26, .int (nI u), .int (nI (p + 1)), .null] [] s' (pV Q)) → ∀ m a, a + m = 4 → ∀ s', Env2 s s' → (∀ v, u < v → v ≤ 6 → WayOK (grX s) s' v) → (∀ p' a, p' < p → a < 4 → Rch (grX s) u p' a → s'.1 (38 + u) (4 * p' + a) = nI (Cw (grX s) (6 - u) p' a)) → (∀ a', a' < a → Rch (grX s) u p a' → s'.1 (38 + u) (4 * p + a') = nI (Cw (grX s) (6 - u) p a')) → AtA l G (d + 4) sX1_findWays 26 [.ref 26, .int (nI u), .int (nI p), .int (nI a)] [] s' (pV Q) := by
    intro p hp out m
    induction m with
    | zero =>
      intro a ha s' he hv h1 h2
      have : a = 4 := by omega
      subst this
      refine r_X1_findWays_26 _ _ _ _ ⟨fun z => (Int32.lt_irrefl z).elim, fun _ => ?_⟩
      rw [nI_1]
      refine out s' he hv (fun p' a q1 q2 q3 => ?_)
      by_cases e : p' = p
      · subst e; exact h2 a q2 q3
      · exact h1 p' a (by omega) q2 q3
    | succ m ih =>
      intro a ha s' he hv h1 h2
      obtain ⟨o1, o2⟩ := isr_iff he.2 hu g2 hp (show a < 4 by omega)
      refine r_X1_findWays_26 _ _ _ _ ⟨fun _ => ⟨o1, fun z => ?_, fun z => ⟨vin (show u < 7 by omega) (by decide), ?_⟩⟩, fun z => ?_⟩
      · rw [nI_1]
        refine ih (a + 1) (by omega) s' he hv h1 (fun a' q1 q2 => ?_)
        by_cases e : a' = a
        · subst e; exact absurd (o2.mpr q2) z
        · exact h2 a' (by omega) q2
      · refine p_sw h he hu hp (by omega) (o2.mp z) (fun q => hv (u + 1) (by omega) (by omega)) ?_
        have ei : ((4 : Int32) * nI p + nI a) = nI (4 * p + a) := by rw [show (4 : Int32) = nI 4 from rfl, pk_mul, nI_add]
        rw [ei, nnum (by omega), nnum (by omega), alen38 hu, nI_1]
        refine ⟨vin (by omega) (by decide), ih (a + 1) (by omega) _ (env2_put he (by omega) (by omega)) (fun v q1 q2 p' a' q3 q4 q5 => ?_) (fun p' a' q1 q2 q3 => ?_) (fun a' q1 q2 => ?_)⟩
        · rw [sp_q (by omega)]; exact hv v q1 q2 p' a' q3 q4 q5
        · rw [sp_k (by omega)]; exact h1 p' a' q1 q2 q3
        · by_cases e : a' = a
          · subst e; rw [sp_s]
          · rw [sp_k (by omega)]; exact h2 a' (by omega) q2
      · rw [show (4 : Int32) = nI 4 from rfl, nlt (by omega) (by omega)] at z
        omega
  have outer : ∀ m p, p + m = gn (grX s) + 1 → ∀ s', Env2 s s' → (∀ v, u < v → v ≤ 6 → WayOK (grX s) s' v) → (∀ p' a, p' < p → a < 4 → Rch (grX s) u p' a → s'.1 (38 + u) (4 * p' + a) = nI (Cw (grX s) (6 - u) p' a)) → AtA l G (d + 4) sX1_findWays 2 [.ref 26, .int (nI u), .int (nI p), .null] [] s' (pV Q) := by
    intro m
    induction m with
    | zero =>
      intro p hp s' he hv h1
      have : p = gn (grX s) + 1 := by omega
      subst this
      refine r_X1_findWays_2 _ _ _ ⟨fun _ => hQ s' he (fun v q1 q2 => ?_), fun z => ?_⟩
      · by_cases e : v = u
        · subst e; exact fun p' a q3 q4 q5 => h1 p' a (by omega) q4 q5
        · exact hv v (by omega) q2
      · rw [he.1.2.1, nlt (by omega) (by omega)] at z
        omega
    | succ m ih =>
      intro p hp s' he hv h1
      refine r_X1_findWays_2 _ _ _ ⟨fun z => ?_, fun _ => ⟨vin (show u < 7 by omega) (by decide), ?_, fun z => ?_, fun z => inner p (by omega) (ih (p + 1) (by omega)) 4 0 rfl s' he hv h1 (fun a' q => absurd q (Nat.not_lt_zero a'))⟩⟩
      · rw [he.1.2.1, nlt (by omega) (by omega)] at z
        omega
      · rw [nnum (by omega), alen30 hu]
        exact vin (by omega) (by decide)
      · rw [nnum (by omega), nnum (by omega), he.2 u p hu (by omega), l0, neq (by have := mkM_lt (Rch (grX s) u p) 4; omega) (by omega)] at z
        rw [nI_1]
        refine ih (p + 1) (by omega) s' he hv (fun p' a q1 q2 q3 => ?_)
        by_cases e : p' = p
        · subst e; exact absurd q3 (mkM_z z a q2)
        · exact h1 p' a (by omega) q2 q3
  exact r_X1_findWays _ s0 (outer _ 0 (Nat.zero_add _) s0 he hy (fun p' a q => absurd q (Nat.not_lt_zero p')))
def Env3 (s s' : St) : Prop := Env2 s s' ∧ ∀ v, v ≤ 6 → WayOK (grX s) s' v
theorem p_pr {l : Launch} {G : Geo} {d : Nat} {s : St} (h : RI s) {Q : St → Prop} (hQ : ∀ s', Env3 s s' → Q s') : DoesV l G (d + 5) 13 [.ref 26] s Q := by
  have loop : ∀ k, k ≤ 7 → ∀ s', Env2 s s' → (∀ v, k ≤ v → v ≤ 6 → WayOK (grX s) s' v) → AtA l G (d + 5) sX1_prepare 22 [.ref 26, .int (nI k + (-1))] [] s' (pV Q) := by
    intro k
    induction k with
    | zero =>
      intro _ s' he hv
      exact r_X1_prepare_22 _ _ ⟨fun _ => hQ s' ⟨he, fun v q => hv v (Nat.zero_le v) q⟩, fun z => absurd (by decide) z⟩
    | succ k ih =>
      intro hk s' he hv
      rw [pk_m1]
      refine r_X1_prepare_22 _ _ ⟨fun z => absurd z (nneg k (by omega)), fun _ => p_fw h he (by omega) (fun v q1 q2 => hv v (by omega) q2) (fun s'' he2 hv2 => ih (by omega) s'' he2 hv2)⟩
  have en : v_X7_length s = nI (gn (grX s)) := (rg_num (ri_rw h).1 (by decide)).1
  refine r_X1_prepare s ?_
  rw [en]
  refine p_fc (d := d + 1) h (fun s' a b c e => ?_) (sm_put (sm_r s) (by decide) (by decide)) (sp_s _ _ _ _)
  exact p_fr h ⟨a, b, c, e⟩ (fun s'' he hr => loop 7 (Nat.le_refl 7) s'' ⟨he, hr⟩ (fun v q1 q2 => absurd q1 (by omega)))
