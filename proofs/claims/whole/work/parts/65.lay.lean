/-! readings by the reference: its table -/
noncomputable def grM (t : St) : Gr := (Int32.toNatClampNeg (t.1 51 4), Int32.toNatClampNeg (t.1 51 26), fun w => Int32.toNatClampNeg (t.1 54 w), fun w => Int32.toNatClampNeg (t.1 53 w), fun w p => fitP (t.1 61) (Int32.toNatClampNeg (t.1 51 26)) (t.1 55) (Int32.toNatClampNeg (t.1 54 w)) w p, fun a w => a = 3 ∨ ¬ (((t.1 51 8) >>> (nI (3 * a + Int32.toNatClampNeg (t.1 53 w)) &&& 31)) &&& 1) = 0)
theorem gm_eq {t : St} (h : RI t) : grM t = grX t := by
  obtain ⟨-, -, ⟨-, -, -, -, -, w6, w7, w8, w9, w10⟩, ⟨-, -, s3, s4⟩, -⟩ := h
  unfold grM grX
  rw [w6, w7, w8, w9, w10, s3, s4]
theorem gm_ok {t : St} (h : RI t) : gOK (grM t) := by
  rw [gm_eq h]
  exact gx_ok h
def ixN (l p w : Nat) : Nat := (l * 61 + p) * 12 + w
theorem wat {t : St} {l p w : Nat} : v_X11_waysAt t (nI l) (nI p) (nI w) = nI (ixN l p w) := by
  unfold v_X11_waysAt ixN
  rw [show (61 : Int32) = nI 61 from rfl, show (12 : Int32) = nI 12 from rfl, pk_mul, nI_add, pk_mul, nI_add]
theorem ix_lt {l p w : Nat} (hl : l ≤ 6) (hp : p < 61) (hw : w < 12) : ixN l p w < 5124 := by
  unfold ixN
  omega
theorem ix_inj {l p w l' p' w' : Nat} (hp : p < 61) (hw : w < 12) (hp' : p' < 61) (hw' : w' < 12) (h : ixN l p w = ixN l' p' w') : l = l' ∧ p = p' ∧ w = w' := by
  unfold ixN at h
  omega
theorem m_may {t : St} (hM : mdR t) {a q : Nat} (ha : a < Int32.toNatClampNeg (t.1 51 4)) (hq : q < Int32.toNatClampNeg (t.1 51 4)) : ok_X11_mayFollow t (nI a) (nI q) ∧ (b_X11_mayFollow t (nI a) (nI q) ↔ ga (grM t) (gs (grM t) a) q) := by
  obtain ⟨ez, hz⟩ := rg_num hM.1 (by decide)
  obtain ⟨e1, h1⟩ := rg_num (hM.2.2.1 a) (by decide)
  obtain ⟨e2, h2⟩ := rg_num (hM.2.2.1 q) (by decide)
  refine ⟨⟨vin (show a < 12 by omega) (by decide), vin (show q < 12 by omega) (by decide)⟩, ?_⟩
  unfold b_X11_mayFollow
  rw [nnum (by omega), nnum (by omega), hasb, e1, e2, show (3 : Int32) = nI 3 from rfl, pk_mul, nI_add]
  exact ⟨fun q => Or.inr q, fun q => q.elim (fun z => by
    have z : Int32.toNatClampNeg (t.1 53 a) = 3 := z
    omega) id⟩
theorem m_fit {t : St} (hM : mdR t) {w p : Nat} (hw : w < Int32.toNatClampNeg (t.1 51 4)) (hp : p ≤ Int32.toNatClampNeg (t.1 51 26)) : ok_X11_doesFit t (nI w) (nI p) ∧ (b_X11_doesFit t (nI w) (nI p) ↔ gf (grM t) w p) := by
  obtain ⟨ez, hz⟩ := rg_num hM.1 (by decide)
  obtain ⟨en, hn⟩ := rg_num hM.2.2.2.2.1 (by decide)
  refine ⟨⟨hM, ⟨w, hw, rfl⟩, p, hp, rfl⟩, ?_⟩
  unfold b_X11_doesFit
  rw [nnum (by omega), nnum (by omega)]
  exact Iff.rfl
def XOK (g : Gr) (X : Nat → Int32) (l p w : Nat) : Prop := ∀ l' p' w', 1 ≤ l' → p' < gn g → w' < gN g → (l' < l ∨ (l' = l ∧ (p' < p ∨ (p' = p ∧ w' < w)))) → X (ixN l' p' w') = nI (Rw g (l' - 1) p' w')
theorem p_lw {l : Launch} {G : Geo} {d : Nat} {t : St} (h : RI t) {Q : St → Prop} (hQ : ∀ X, XOK (grM t) X 7 0 0 → Q (sarr t 64 X)) : DoesV l G (d + 3) 168 [.ref 51] t Q := by
  have hM := ri_md h
  obtain ⟨g1, g2, g3, g4, g5⟩ := gm_ok h
  have ez : t.1 51 4 = nI (gN (grM t)) := (rg_num hM.1 (by decide)).1
  have en : t.1 51 26 = nI (gn (grM t)) := (rg_num hM.2.2.2.2.1 (by decide)).1
  have words : ∀ k p, 1 ≤ k → k ≤ 6 → p < gn (grM t) → (∀ X, XOK (grM t) X k (p + 1) 0 → AtA l G (d + 3) sX11_layWays 10 [.ref 51, .int (nI k), .int (nI (p + 1)), .null, .null, .null, .null] [] (sarr t 64 X) (pV Q)) → ∀ m w, w + m = gN (grM t) → ∀ X, XOK (grM t) X k p w → AtA l G (d + 3) sX11_layWays 20 [.ref 51, .int (nI k), .int (nI p), .int (nI w), .null, .null, .null] [] (sarr t 64 X) (pV Q) := by
    intro k p hk1 hk6 hp out m
    induction m with
    | zero =>
      intro w hw X hX
      have : w = gN (grM t) := by omega
      subst this
      refine r_X11_layWays_20 _ _ _ _ ⟨fun z => ?_, fun _ => ?_⟩
      · have z : nI (gN (grM t)) < t.1 51 4 := z
        rw [ez] at z
        exact (Int32.lt_irrefl z).elim
      · rw [nI_1]
        exact out X (fun l' p' w' q1 q2 q3 q4 => hX l' p' w' q1 q2 q3 (by omega))
    | succ m ih =>
      intro w hw X hX
      obtain ⟨z1, z2, z3⟩ := g3 w (by omega)
      have ew : t.1 54 w = nI (gz (grM t) w) := (rg_num (hM.2.1 w) (by decide)).1
      have nxt : ∀ v : Nat, v = Rw (grM t) (k - 1) p w → vp_in (v_X11_waysAt (sarr t 64 X) (nI k) (nI p) (nI w)) (alen 64) ∧ AtA l G (d + 3) sX11_layWays 20 [.ref 51, .int (nI k), .int (nI p), .int (nI w + 1), .null, .null, .null] [] (sput (sarr t 64 X) 64 (Int32.toNatClampNeg (v_X11_waysAt (sarr t 64 X) (nI k) (nI p) (nI w))) (nI v)) (pV Q) := by
        intro v hv
        have hix := ix_lt hk6 (show p < 61 by omega) (show w < 12 by omega)
        rw [wat, nnum (by omega), nI_1, sp_sa]
        refine ⟨vin (show ixN k p w < 5124 from hix) (by decide), ih (w + 1) (by omega) _ (fun l' p' w' q1 q2 q3 q4 => ?_)⟩
        by_cases e : l' = k ∧ p' = p ∧ w' = w
        · obtain ⟨rfl, rfl, rfl⟩ := e
          rw [pk_us, hv]
        · rw [pk_un (fun q => e (ix_inj (by omega) (by omega) (by omega) (by omega) q))]
          exact hX l' p' w' q1 q2 q3 (by omega)
      have sums : gf (grM t) w p → ∀ m q, q + m = gN (grM t) → ∀ v : Nat, ((p + gz (grM t) w = gn (grM t) ∧ v = 1) ∨ (p + gz (grM t) w < gn (grM t) ∧ k = 1 ∧ v = 0) ∨ (p + gz (grM t) w < gn (grM t) ∧ 1 < k ∧ v = sumN (fun q => iC (ga (grM t) (gs (grM t) w) q) (Rw (grM t) (k - 2) (p + gz (grM t) w) q) 0) q)) → AtA l G (d + 3) sX11_layWays 69 [.ref 51, .int (nI k), .int (nI p), .int (nI w), .int (nI (p + gz (grM t) w)), .int (nI v), .int (nI q)] [] (sarr t 64 X) (pV Q) := by
        intro hf m2
        have hnx := g4 w p hf
        have f1 : p + gz (grM t) w = gn (grM t) → 1 = Rw (grM t) (k - 1) p w := fun q => by rw [Rw_t hf, q, Cw_n]
        have f2 : p + gz (grM t) w < gn (grM t) → k = 1 → 0 = Rw (grM t) (k - 1) p w := fun q q2 => by rw [Rw_t hf, q2, Cw_0 (by omega)]
        have f3 : p + gz (grM t) w < gn (grM t) → 1 < k → sumN (fun q => iC (ga (grM t) (gs (grM t) w) q) (Rw (grM t) (k - 2) (p + gz (grM t) w) q) 0) (gN (grM t)) = Rw (grM t) (k - 1) p w := fun q q2 => by rw [Rw_t hf, show k - 1 = (k - 2) + 1 by omega, Cw_R (by omega)]
        induction m2 with
        | zero =>
          intro q hq v hv
          have : q = gN (grM t) := by omega
          subst this
          refine r_X11_layWays_69 _ _ _ _ _ _ _ ⟨fun z => ?_, fun _ => nxt v ?_⟩
          · have z : nI (gN (grM t)) < t.1 51 4 := z
            rw [ez] at z
            exact (Int32.lt_irrefl z).elim
          · rcases hv with ⟨a, rfl⟩ | ⟨a, b, rfl⟩ | ⟨a, b, rfl⟩
            · exact f1 a
            · exact f2 a b
            · exact f3 a b
        | succ m2 ih2 =>
          intro q hq v hv
          refine r_X11_layWays_69 _ _ _ _ _ _ _ ⟨fun _ => ?_, fun z => ?_⟩
          · show (nI (p + gz (grM t) w) < t.1 51 26 → _) ∧ (¬ nI (p + gz (grM t) w) < t.1 51 26 → _)
            rw [en, nlt (by omega) (by omega), l1, nlt (by omega) (by omega)]
            refine ⟨fun a => ⟨fun b => ?_, fun b => nxt v ?_⟩, fun a => nxt v ?_⟩
            · obtain ⟨o1, o2⟩ := m_may (t := sarr t 64 X) hM (a := w) (q := q) (by show w < gN (grM t); omega) (by show q < gN (grM t); omega)
              have o2 : b_X11_mayFollow (sarr t 64 X) (nI w) (nI q) ↔ ga (grM t) (gs (grM t) w) q := o2
              have hv3 : v = sumN (fun q => iC (ga (grM t) (gs (grM t) w) q) (Rw (grM t) (k - 2) (p + gz (grM t) w) q) 0) q := by
                rcases hv with ⟨c, -⟩ | ⟨-, c, -⟩ | ⟨-, -, c⟩
                · omega
                · omega
                · exact c
              refine ⟨o1, fun c => ?_, fun c => ?_⟩
              · rw [← l1, nI_1, l0, nI_add]
                refine ih2 (q + 1) (by omega) _ (Or.inr (Or.inr ⟨a, b, ?_⟩))
                show v + 0 = sumN _ q + iC (ga (grM t) (gs (grM t) w) q) _ 0
                rw [iC_f (fun z => c (o2.mpr z)), hv3]
              · rw [← l1, show (nI k - 1 : Int32) = nI (k - 1) by rw [show k = (k - 1) + 1 by omega, nI_pred]; rfl, wat]
                have hix := ix_lt (show k - 1 ≤ 6 by omega) (show p + gz (grM t) w < 61 by omega) (show q < 12 by omega)
                refine ⟨vin (show ixN (k - 1) (p + gz (grM t) w) q < 5124 from hix) (by decide), ?_⟩
                rw [nnum (by omega), sa_s, hX (k - 1) (p + gz (grM t) w) q (by omega) a (by omega) (by omega), nI_1, nI_add]
                refine ih2 (q + 1) (by omega) _ (Or.inr (Or.inr ⟨a, b, ?_⟩))
                show v + Rw (grM t) (k - 1 - 1) (p + gz (grM t) w) q = sumN _ q + iC (ga (grM t) (gs (grM t) w) q) _ 0
                rw [iC_t (o2.mp c), hv3, show k - 1 - 1 = k - 2 by omega]
            · rcases hv with ⟨c, -⟩ | ⟨c1, c2, rfl⟩ | ⟨-, c, -⟩
              · omega
              · exact f2 c1 c2
              · omega
            · rcases hv with ⟨c, rfl⟩ | ⟨c1, c2, rfl⟩ | ⟨c, -, -⟩
              · exact f1 c
              · omega
              · omega
          · have z : ¬ nI q < t.1 51 4 := z
            rw [ez, nlt (by omega) (by omega)] at z
            omega
      obtain ⟨o1, o2⟩ := m_fit (t := sarr t 64 X) hM (w := w) (p := p) (by show w < gN (grM t); omega) (by show p ≤ gn (grM t); omega)
      have o2 : b_X11_doesFit (sarr t 64 X) (nI w) (nI p) ↔ gf (grM t) w p := o2
      refine r_X11_layWays_20 _ _ _ _ ⟨fun _ => ⟨vin (show w < 12 by omega) (by decide), o1, fun z => ?_, fun z => ?_⟩, fun z => ?_⟩
      · exact nxt 0 (by rw [Rw_f (fun q => z (o2.mpr q))])
      · have hf := o2.mp z
        have hnx := g4 w p hf
        rw [nnum (by omega)]
        show (nI p + t.1 54 w = t.1 51 26 → AtA l G (d + 3) sX11_layWays 69 [.ref 51, .int (nI k), .int (nI p), .int (nI w), .int (nI p + t.1 54 w), .int 1, .int 0] [] (sarr t 64 X) (pV Q)) ∧ (¬ nI p + t.1 54 w = t.1 51 26 → AtA l G (d + 3) sX11_layWays 69 [.ref 51, .int (nI k), .int (nI p), .int (nI w), .int (nI p + t.1 54 w), .int 0, .int 0] [] (sarr t 64 X) (pV Q))
        rw [ew, nI_add, en, neq (by omega) (by omega)]
        refine ⟨fun a => sums hf _ 0 (Nat.zero_add _) 1 (Or.inl ⟨a, rfl⟩), fun a => sums hf _ 0 (Nat.zero_add _) 0 (Or.inr ?_)⟩
        by_cases c : k = 1
        · exact Or.inl ⟨by omega, c, rfl⟩
        · exact Or.inr ⟨by omega, by omega, rfl⟩
      · have z : ¬ nI w < t.1 51 4 := z
        rw [ez, nlt (by omega) (by omega)] at z
        omega
  have places : ∀ k, 1 ≤ k → k ≤ 6 → (∀ X, XOK (grM t) X (k + 1) 0 0 → AtA l G (d + 3) sX11_layWays 2 [.ref 51, .int (nI (k + 1)), .null, .null, .null, .null, .null] [] (sarr t 64 X) (pV Q)) → ∀ m p, p + m = gn (grM t) → ∀ X, XOK (grM t) X k p 0 → AtA l G (d + 3) sX11_layWays 10 [.ref 51, .int (nI k), .int (nI p), .null, .null, .null, .null] [] (sarr t 64 X) (pV Q) := by
    intro k hk1 hk6 out m
    induction m with
    | zero =>
      intro p hp X hX
      have : p = gn (grM t) := by omega
      subst this
      refine r_X11_layWays_10 _ _ _ ⟨fun z => ?_, fun _ => ?_⟩
      · have z : nI (gn (grM t)) < t.1 51 26 := z
        rw [en] at z
        exact (Int32.lt_irrefl z).elim
      · rw [nI_1]
        exact out X (fun l' p' w' q1 q2 q3 q4 => hX l' p' w' q1 q2 q3 (by omega))
    | succ m ih =>
      intro p hp X hX
      refine r_X11_layWays_10 _ _ _ ⟨fun _ => words k p hk1 hk6 (by omega) (ih (p + 1) (by omega)) _ 0 (Nat.zero_add _) X hX, fun z => ?_⟩
      have z : ¬ nI p < t.1 51 26 := z
      rw [en, nlt (by omega) (by omega)] at z
      omega
  have lefts : ∀ m k, k + m = 7 → 1 ≤ k → ∀ X, XOK (grM t) X k 0 0 → AtA l G (d + 3) sX11_layWays 2 [.ref 51, .int (nI k), .null, .null, .null, .null, .null] [] (sarr t 64 X) (pV Q) := by
    intro m
    induction m with
    | zero =>
      intro k hk _ X hX
      have : k = 7 := by omega
      subst this
      exact r_X11_layWays_2 _ _ ⟨fun _ => hQ X hX, fun z => absurd (by decide) z⟩
    | succ m ih =>
      intro k hk hk1 X hX
      refine r_X11_layWays_2 _ _ ⟨fun z => ?_, fun _ => places k hk1 (by omega) (ih (k + 1) (by omega) (by omega)) _ 0 (Nat.zero_add _) X hX⟩
      rw [show (6 : Int32) = nI 6 from rfl, nlt (by omega) (by omega)] at z
      omega
  have := lefts 6 1 rfl (Nat.le_refl 1) (t.1 64) (fun l' p' w' q1 q2 q3 q4 => absurd q4 (by omega))
  rw [sa_id] at this
  exact r_X11_layWays t this
