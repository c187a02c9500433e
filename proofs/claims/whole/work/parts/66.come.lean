/-! readings by the reference: what is asked of its table -/
theorem p_rm {l : Launch} {G : Geo} {d : Nat} {t : St} (h : RI t) {X : Nat → Int32} (hX : XOK (grM t) X 7 0 0) {Q : Int32 → St → Prop} (hQ : Q (nI (iC (gn (grM t) = 0) 0 (Cw (grM t) 6 0 3))) (sarr t 64 X)) : DoesI l G (d + 2) 169 [.ref 51] (sarr t 64 X) Q := by
  have hM := ri_md h
  obtain ⟨g1, g2, g3, g4, g5⟩ := gm_ok h
  have ez : t.1 51 4 = nI (gN (grM t)) := (rg_num hM.1 (by decide)).1
  have en : t.1 51 26 = nI (gn (grM t)) := (rg_num hM.2.2.2.2.1 (by decide)).1
  by_cases c : gn (grM t) = 0
  · rw [iC_t c] at hQ
    refine r_X11_readingMany _ (r_X11_readingMany_4 _ _ _ ⟨fun _ => ⟨fun z => ?_, fun _ => hQ⟩, fun _ => hQ⟩)
    have z : 0 < t.1 51 26 := z
    rw [en, c] at z
    exact absurd z (by decide)
  · rw [iC_f c, Cw_R (fun q => c q.symm)] at hQ
    have loop : ∀ m w, w + m = gN (grM t) → AtA l G (d + 2) sX11_readingMany 4 [.ref 51, .int (nI (sumN (fun w => iC (ga (grM t) 3 w) (Rw (grM t) 5 0 w) 0) w)), .int (nI w)] [] (sarr t 64 X) (pI Q) := by
      intro m
      induction m with
      | zero =>
        intro w hw
        have : w = gN (grM t) := by omega
        subst this
        refine r_X11_readingMany_4 _ _ _ ⟨fun z => ?_, fun _ => hQ⟩
        have z : nI (gN (grM t)) < t.1 51 4 := z
        rw [ez] at z
        exact (Int32.lt_irrefl z).elim
      | succ m ih =>
        intro w hw
        refine r_X11_readingMany_4 _ _ _ ⟨fun _ => ⟨fun _ => ?_, fun z => ?_⟩, fun z => ?_⟩
        · have e6 : v_X11_waysAt (sarr t 64 X) 6 0 (nI w) = nI (ixN 6 0 w) := wat (l := 6) (p := 0)
          have hix := ix_lt (show 6 ≤ 6 by omega) (show 0 < 61 by omega) (show w < 12 by omega)
          rw [e6, nnum (by omega)]
          refine ⟨vin (show ixN 6 0 w < 5124 from hix) (by decide), ?_⟩
          rw [sa_s, hX 6 0 w (by omega) (by omega) (by omega) (by omega), nI_add, nI_1]
          have ihh := ih (w + 1) (by omega)
          have e1 : sumN (fun w => iC (ga (grM t) 3 w) (Rw (grM t) 5 0 w) 0) (w + 1) = sumN (fun w => iC (ga (grM t) 3 w) (Rw (grM t) 5 0 w) 0) w + Rw (grM t) (6 - 1) 0 w := by
            show sumN _ w + iC (ga (grM t) 3 w) (Rw (grM t) 5 0 w) 0 = _
            rw [iC_t (g5 w)]
          rw [e1] at ihh
          exact ihh
        · have z : ¬ 0 < t.1 51 26 := z
          rw [en, l0, nlt (by omega) (by omega)] at z
          omega
        · have z : ¬ nI w < t.1 51 4 := z
          rw [ez, nlt (by omega) (by omega)] at z
          omega
    exact r_X11_readingMany _ (loop _ 0 (Nat.zero_add _))
/-- the reference's marks -/
def YR (g : Gr) (Y : Nat → Int32) (R : Nat → Nat → Nat → Prop) : Prop := ∀ u p w, u ≤ 5 → p < gn g → w < gN g → (¬ Y (ixN (6 - u) p w) = 0 ↔ R u p w)
theorem yr_congr {g : Gr} {Y : Nat → Int32} {R R' : Nat → Nat → Nat → Prop} (h : YR g Y R) (he : ∀ u p w, u ≤ 5 → p < gn g → w < gN g → (R u p w ↔ R' u p w)) : YR g Y R' := fun u p w h1 h2 h3 => (h u p w h1 h2 h3).trans (he u p w h1 h2 h3)
theorem yr_put {g : Gr} (hn : gn g ≤ 60) (hN : gN g ≤ 12) {Y : Nat → Int32} {R : Nat → Nat → Nat → Prop} (h : YR g Y R) {u1 p1 w1 : Nat} (h1 : u1 ≤ 5) (h2 : p1 < gn g) (h3 : w1 < gN g) : YR g (upd Y (ixN (6 - u1) p1 w1) 1) (fun u p w => R u p w ∨ (u = u1 ∧ p = p1 ∧ w = w1)) := by
  intro u p w q1 q2 q3
  by_cases e : u = u1 ∧ p = p1 ∧ w = w1
  · obtain ⟨rfl, rfl, rfl⟩ := e
    rw [pk_us]
    exact ⟨fun _ => Or.inr ⟨rfl, rfl, rfl⟩, fun _ => by decide⟩
  · rw [pk_un (fun q => by
      have := ix_inj (by omega) (by omega) (by omega) (by omega) q
      exact e (by omega)), h u p w q1 q2 q3]
    exact ⟨Or.inl, fun q => q.elim id (fun q => absurd q e)⟩
def Bef (p0 w0 p1 w1 : Nat) : Prop := p1 < p0 ∨ (p1 = p0 ∧ w1 < w0)
def RRp (g : Gr) (u0 p0 w0 u' p w : Nat) : Prop := (u' ≤ u0 ∧ RR g u' p w) ∨ (u' = u0 + 1 ∧ ∃ p1 w1, Bef p0 w0 p1 w1 ∧ p1 < gn g ∧ w1 < gN g ∧ RR g u0 p1 w1 ∧ 0 < Rw g (5 - u0) p1 w1 ∧ p = p1 + gz g w1 ∧ p < gn g ∧ ga g (gs g w1) w)
def Wp (g : Gr) (u0 p0 w0 w : Nat) : Prop := ∃ u p, p < gn g ∧ (u < u0 ∨ (u = u0 ∧ Bef p0 w0 p w)) ∧ RR g u p w ∧ 0 < Rw g (5 - u) p w
theorem rrp_row {g : Gr} {u0 p0 u' p w : Nat} : RRp g u0 p0 (gN g) u' p w ↔ RRp g u0 (p0 + 1) 0 u' p w := by
  refine ⟨fun q => q.imp id (fun ⟨a, p1, w1, b, c, e⟩ => ⟨a, p1, w1, ?_, c, e⟩), fun q => q.imp id (fun ⟨a, p1, w1, b, c, e⟩ => ⟨a, p1, w1, ?_, c, e⟩)⟩
  · unfold Bef at b ⊢
    omega
  · have := e.1
    unfold Bef at b ⊢
    omega
theorem p_ci {l : Launch} {G : Geo} {d : Nat} {t : St} (h : RI t) {X : Nat → Int32} (hX : XOK (grM t) X 7 0 0) (hn0 : gn (grM t) ≠ 0) {Q : Int32 → St → Prop} (hQ : ∀ Y, Q (nI (mkM (Wany (grM t)) (gN (grM t)))) (sarr (sarr t 64 X) 65 Y)) : DoesI l G (d + 3) 170 [.ref 51] (sarr t 64 X) Q := by
  have hM := ri_md h
  obtain ⟨g1, g2, g3, g4, g5⟩ := gm_ok h
  have ez : t.1 51 4 = nI (gN (grM t)) := (rg_num hM.1 (by decide)).1
  have en : t.1 51 26 = nI (gn (grM t)) := (rg_num hM.2.2.2.2.1 (by decide)).1
  have words : ∀ u p, u < 6 → p < gn (grM t) → (∀ Y, YR (grM t) Y (RRp (grM t) u (p + 1) 0) → AtA l G (d + 3) sX11_comeIn 63 [.ref 51, .int (nI (mkM (Wp (grM t) u (p + 1) 0) (gN (grM t)))), .int (nI (6 - u)), .int (nI (p + 1)), .null, .null, .null] [] (sarr (sarr t 64 X) 65 Y) (pI Q)) → ∀ m w, w + m = gN (grM t) → ∀ Y, YR (grM t) Y (RRp (grM t) u p w) → AtA l G (d + 3) sX11_comeIn 74 [.ref 51, .int (nI (mkM (Wp (grM t) u p w) (gN (grM t)))), .int (nI (6 - u)), .int (nI p), .int (nI w), .null, .null] [] (sarr (sarr t 64 X) 65 Y) (pI Q) := by
    intro u p hu hp out m
    induction m with
    | zero =>
      intro w hw Y hY
      have : w = gN (grM t) := by omega
      subst this
      refine r_X11_comeIn_74 _ _ _ _ _ ⟨fun z => ?_, fun _ => ?_⟩
      · have z : nI (gN (grM t)) < t.1 51 4 := z
        rw [ez] at z
        exact (Int32.lt_irrefl z).elim
      · rw [nI_1]
        have := out Y (yr_congr hY (fun _ _ _ _ _ _ => rrp_row))
        rw [mkM_congr (P := Wp (grM t) u (p + 1) 0) (P' := Wp (grM t) u p (gN (grM t))) (fun w hw => ⟨fun ⟨u', p', a, b, c⟩ => ⟨u', p', a, by unfold Bef at b ⊢; omega, c⟩, fun ⟨u', p', a, b, c⟩ => ⟨u', p', a, by unfold Bef at b ⊢; omega, c⟩⟩)] at this
        exact this
    | succ m ih =>
      intro w hw Y hY
      obtain ⟨z1, z2, z3⟩ := g3 w (by omega)
      have ew : t.1 54 w = nI (gz (grM t) w) := (rg_num (hM.2.1 w) (by decide)).1
      have hix := ix_lt (show 6 - u ≤ 6 by omega) (show p < 61 by omega) (show w < 12 by omega)
      have hrw := Rw_lt (g := grM t) g1 (k := 5 - u) (p := p) (w := w) (by omega)
      have hmark := hY u p w (by omega) hp (by omega)
      have hrr : RRp (grM t) u p w u p w ↔ RR (grM t) u p w := ⟨fun q => q.elim (fun q => q.2) (fun q => absurd q.1 (by omega)), fun q => Or.inl ⟨Nat.le_refl _, q⟩⟩
      rw [hrr] at hmark
      -- nothing comes of this word
      have skip : ¬ (RR (grM t) u p w ∧ 0 < Rw (grM t) (5 - u) p w) → AtA l G (d + 3) sX11_comeIn 74 [.ref 51, .int (nI (mkM (Wp (grM t) u p w) (gN (grM t)))), .int (nI (6 - u)), .int (nI p), .int (nI w + 1), .null, .null] [] (sarr (sarr t 64 X) 65 Y) (pI Q) := by
        intro q
        rw [nI_1]
        have := ih (w + 1) (by omega) Y (yr_congr hY (fun u' p' w' _ _ _ => ⟨fun z => z.imp id (fun ⟨a, p1, w1, b, c⟩ => ⟨a, p1, w1, by unfold Bef at b ⊢; omega, c⟩), fun z => z.imp id (fun ⟨a, p1, w1, b, c⟩ => ⟨a, p1, w1, Classical.byContradiction fun nb => by
            have : p1 = p ∧ w1 = w := by unfold Bef at b nb; omega
            obtain ⟨rfl, rfl⟩ := this
            exact q ⟨c.2.2.1, c.2.2.2.1⟩, c⟩)⟩))
        rw [mkM_congr (P := Wp (grM t) u p (w + 1)) (P' := Wp (grM t) u p w) (fun w' hw' => ⟨fun ⟨u', p', a, b, c⟩ => ⟨u', p', a, Classical.byContradiction fun nb => by
            have : u' = u ∧ p' = p ∧ w' = w := by unfold Bef at b nb; omega
            obtain ⟨rfl, rfl, rfl⟩ := this
            exact q c, c⟩, fun ⟨u', p', a, b, c⟩ => ⟨u', p', a, by unfold Bef at b ⊢; omega, c⟩⟩)] at this
        exact this
      -- the word is in: behind it, those that may follow
      have into : RR (grM t) u p w → 0 < Rw (grM t) (5 - u) p w → ∀ m q, q + m = gN (grM t) → ∀ Y', YR (grM t) Y' (fun u' p' w' => RRp (grM t) u p w u' p' w' ∨ (u' = u + 1 ∧ p' = p + gz (grM t) w ∧ w' < q ∧ ga (grM t) (gs (grM t) w) w')) → AtA l G (d + 3) sX11_comeIn 136 [.ref 51, .int (nI (mkM (Wp (grM t) u p (w + 1)) (gN (grM t)))), .int (nI (6 - u)), .int (nI p), .int (nI w), .int (nI (p + gz (grM t) w)), .int (nI q)] [] (sarr (sarr t 64 X) 65 Y') (pI Q) := by
        intro h1 h2 m2
        have done : ∀ q Y', (∀ w', q ≤ w' → w' < gN (grM t) → u < 5 → p + gz (grM t) w < gn (grM t) → False) → YR (grM t) Y' (fun u' p' w' => RRp (grM t) u p w u' p' w' ∨ (u' = u + 1 ∧ p' = p + gz (grM t) w ∧ w' < q ∧ ga (grM t) (gs (grM t) w) w')) → AtA l G (d + 3) sX11_comeIn 74 [.ref 51, .int (nI (mkM (Wp (grM t) u p (w + 1)) (gN (grM t)))), .int (nI (6 - u)), .int (nI p), .int (nI w + 1), .null, .null] [] (sarr (sarr t 64 X) 65 Y') (pI Q) := by
          intro q Y' hq hY'
          rw [nI_1]
          refine ih (w + 1) (by omega) Y' (yr_congr hY' (fun u' p' w' b1 b2 b3 => ⟨fun z => ?_, fun z => ?_⟩))
          · rcases z with (z | ⟨a, p1, w1, b, c⟩) | ⟨c1, c2, c3, c4⟩
            · exact Or.inl z
            · exact Or.inr ⟨a, p1, w1, by unfold Bef at b ⊢; omega, c⟩
            · exact Or.inr ⟨c1, p, w, Or.inr ⟨rfl, by omega⟩, hp, by omega, h1, h2, c2, b2, c4⟩
          · rcases z with z | ⟨a, p1, w1, b, c⟩
            · exact Or.inl (Or.inl z)
            · by_cases e : p1 = p ∧ w1 = w
              · obtain ⟨rfl, rfl⟩ := e
                obtain ⟨c1, c2, c3, c4, c5, c6, c7⟩ := c
                exact Or.inr ⟨a, c5, Classical.byContradiction fun nq => hq w' (by omega) b3 (by omega) (by omega), c7⟩
              · exact Or.inl (Or.inr ⟨a, p1, w1, by unfold Bef at b ⊢; omega, c⟩)
        induction m2 with
        | zero =>
          intro q hq Y' hY'
          have : q = gN (grM t) := by omega
          subst this
          refine r_X11_comeIn_136 _ _ _ _ _ _ _ ⟨fun z => ?_, fun _ => done _ Y' (fun w' a b _ _ => by omega) hY'⟩
          have z : nI (gN (grM t)) < t.1 51 4 := z
          rw [ez] at z
          exact (Int32.lt_irrefl z).elim
        | succ m2 ih2 =>
          intro q hq Y' hY'
          have hto : p + gz (grM t) w ≤ 70 := by omega
          have e1 : (1 < nI (6 - u)) ↔ u < 5 := by
            rw [l1, nlt (by omega) (by omega)]
            omega
          refine r_X11_comeIn_136 _ _ _ _ _ _ _ ⟨fun _ => ?_, fun z => ?_⟩
          · show (1 < nI (6 - u) → (nI (p + gz (grM t) w) < t.1 51 26 → _) ∧ (¬ nI (p + gz (grM t) w) < t.1 51 26 → _)) ∧ _
            rw [e1, en, nlt (by omega) (by omega)]
            refine ⟨fun a => ⟨fun b => ?_, fun b => done q Y' (fun w' _ _ _ q => b q) hY'⟩, fun a => done q Y' (fun w' _ _ q _ => a q) hY'⟩
            obtain ⟨o1, o2⟩ := m_may (t := sarr (sarr t 64 X) 65 Y') hM (a := w) (q := q) (by show w < gN (grM t); omega) (by show q < gN (grM t); omega)
            have o2 : b_X11_mayFollow (sarr (sarr t 64 X) 65 Y') (nI w) (nI q) ↔ ga (grM t) (gs (grM t) w) q := o2
            refine ⟨o1, fun c => ?_, fun c => ?_⟩
            · rw [nI_1]
              refine ih2 (q + 1) (by omega) Y' (yr_congr hY' (fun u' p' w' _ _ _ => ⟨fun z => z.imp id (fun ⟨c1, c2, c3, c4⟩ => ⟨c1, c2, by omega, c4⟩), fun z => z.imp id (fun ⟨c1, c2, c3, c4⟩ => ⟨c1, c2, Classical.byContradiction fun nb => by
                have : w' = q := by omega
                subst this
                exact c (o2.mpr c4), c4⟩)⟩))
            · rw [show (nI (6 - u) - 1 : Int32) = nI (6 - (u + 1)) by rw [show 6 - u = (6 - (u + 1)) + 1 by omega, nI_pred], wat]
              have hix2 := ix_lt (show 6 - (u + 1) ≤ 6 by omega) (show p + gz (grM t) w < 61 by omega) (show q < 12 by omega)
              refine ⟨vin (show ixN (6 - (u + 1)) (p + gz (grM t) w) q < 5124 from hix2) (by decide), ?_⟩
              rw [nnum (by omega), nI_1, sp_sa]
              refine ih2 (q + 1) (by omega) _ (yr_congr (yr_put g2 g1 hY' (u1 := u + 1) (p1 := p + gz (grM t) w) (w1 := q) (by omega) b (by omega)) (fun u' p' w' _ _ _ => ⟨fun z => ?_, fun z => ?_⟩))
              · rcases z with (z | ⟨c1, c2, c3, c4⟩) | ⟨c1, c2, c3⟩
                · exact Or.inl z
                · exact Or.inr ⟨c1, c2, by omega, c4⟩
                · exact Or.inr ⟨c1, c2, by omega, by rw [c3]; exact o2.mp c⟩
              · rcases z with z | ⟨c1, c2, c3, c4⟩
                · exact Or.inl (Or.inl z)
                · by_cases e : w' = q
                  · exact Or.inr ⟨c1, c2, e⟩
                  · exact Or.inl (Or.inr ⟨c1, c2, by omega, c4⟩)
          · have z : ¬ nI q < t.1 51 4 := z
            rw [ez, nlt (by omega) (by omega)] at z
            omega
      refine r_X11_comeIn_74 _ _ _ _ _ ⟨fun _ => ?_, fun z => ?_⟩
      · rw [wat, nnum (by omega)]
        refine ⟨vin (show ixN (6 - u) p w < 5124 from hix) (by decide), ?_⟩
        show (Y (ixN (6 - u) p w) = 0 → _) ∧ (¬ Y (ixN (6 - u) p w) = 0 → _)
        refine ⟨fun z => skip (fun q => hmark.mpr q.1 z), fun z => ⟨vin (show ixN (6 - u) p w < 5124 from hix) (by decide), ?_⟩⟩
        have h1 := hmark.mp z
        have exx : X (ixN (6 - u) p w) = nI (Rw (grM t) (5 - u) p w) := by
          rw [hX (6 - u) p w (by omega) hp (by omega) (by omega), show 6 - u - 1 = 5 - u by omega]
        show (0 < X (ixN (6 - u) p w) → _) ∧ (¬ 0 < X (ixN (6 - u) p w) → _)
        rw [exx, l0, nlt (by omega) (by omega)]
        refine ⟨fun z2 => ⟨vin (show w < 12 by omega) (by decide), ?_⟩, fun z2 => skip (fun q => z2 q.2)⟩
        rw [nnum (by omega)]
        show AtA l G (d + 3) sX11_comeIn 136 [.ref 51, .int (nI (mkM (Wp (grM t) u p w) (gN (grM t))) ||| ((1 : Int32) <<< (nI w &&& 31))), .int (nI (6 - u)), .int (nI p), .int (nI w), .int (nI p + t.1 54 w), .int (nI 0)] [] (sarr (sarr t 64 X) 65 Y) (pI Q)
        rw [ew, nI_add, nn_1 (by omega), nn_or, mk_bit (by omega)]
        have := into h1 z2 _ 0 (Nat.zero_add _) Y (yr_congr hY (fun u' p' w' _ _ _ => ⟨Or.inl, fun z => z.elim id (fun z => absurd z.2.2.1 (Nat.not_lt_zero _))⟩))
        rw [mkM_congr (P := Wp (grM t) u p (w + 1)) (P' := fun i => Wp (grM t) u p w i ∨ i = w) (fun w' hw' => ⟨fun ⟨u', p', a, b, c⟩ => by
            by_cases e : w' = w
            · exact Or.inr e
            · exact Or.inl ⟨u', p', a, by unfold Bef at b ⊢; omega, c⟩, fun z => z.elim (fun ⟨u', p', a, b, c⟩ => ⟨u', p', a, by unfold Bef at b ⊢; omega, c⟩) (fun z => by subst z; exact ⟨u, p, hp, Or.inr ⟨rfl, Or.inr ⟨rfl, by omega⟩⟩, h1, z2⟩)⟩)] at this
        exact this
      · have z : ¬ nI w < t.1 51 4 := z
        rw [ez, nlt (by omega) (by omega)] at z
        omega
  have places : ∀ u, u < 6 → (∀ Y, YR (grM t) Y (RRp (grM t) (u + 1) 0 0) → AtA l G (d + 3) sX11_comeIn 57 [.ref 51, .int (nI (mkM (Wp (grM t) (u + 1) 0 0) (gN (grM t)))), .int (nI (6 - (u + 1))), .null, .null, .null, .null] [] (sarr (sarr t 64 X) 65 Y) (pI Q)) → ∀ m p, p + m = gn (grM t) → ∀ Y, YR (grM t) Y (RRp (grM t) u p 0) → AtA l G (d + 3) sX11_comeIn 63 [.ref 51, .int (nI (mkM (Wp (grM t) u p 0) (gN (grM t)))), .int (nI (6 - u)), .int (nI p), .null, .null, .null] [] (sarr (sarr t 64 X) 65 Y) (pI Q) := by
    intro u hu out m
    induction m with
    | zero =>
      intro p hp Y hY
      have : p = gn (grM t) := by omega
      subst this
      refine r_X11_comeIn_63 _ _ _ _ ⟨fun z => ?_, fun _ => ?_⟩
      · have z : nI (gn (grM t)) < t.1 51 26 := z
        rw [en] at z
        exact (Int32.lt_irrefl z).elim
      · have e1 : nI (6 - u) + (-1) = nI (6 - (u + 1)) := by rw [show 6 - u = (6 - (u + 1)) + 1 by omega, pk_m1]
        rw [e1]
        have := out Y (yr_congr hY (fun u' p' w' b1 b2 b3 => ⟨fun z => ?_, fun z => ?_⟩))
        · rw [mkM_congr (P := Wp (grM t) (u + 1) 0 0) (P' := Wp (grM t) u (gn (grM t)) 0) (fun w' hw' => ⟨fun ⟨u', p', a, b, c⟩ => ⟨u', p', a, by unfold Bef at b ⊢; omega, c⟩, fun ⟨u', p', a, b, c⟩ => ⟨u', p', a, by unfold Bef at b ⊢; omega, c⟩⟩)] at this
          exact this
        · rcases z with ⟨c1, c2⟩ | ⟨a, p1, w1, b, c3, c4, c5, c6, c7, c8, c9⟩
          · exact Or.inl ⟨by omega, c2⟩
          · refine Or.inl ⟨by omega, ?_⟩
            rw [a]
            exact ⟨p1, w1, c3, c4, c5, c6, c7, c8, c9⟩
        · rcases z with ⟨c1, c2⟩ | ⟨a, p1, w1, b, _⟩
          · by_cases e : u' = u + 1
            · rw [e] at c2
              obtain ⟨p1, w1, c3, c4⟩ := c2
              exact Or.inr ⟨e, p1, w1, Or.inl c3, c3, c4⟩
            · exact Or.inl ⟨by omega, c2⟩
          · unfold Bef at b
            omega
    | succ m ih =>
      intro p hp Y hY
      refine r_X11_comeIn_63 _ _ _ _ ⟨fun _ => words u p hu (by omega) (ih (p + 1) (by omega)) _ 0 (Nat.zero_add _) Y hY, fun z => ?_⟩
      have z : ¬ nI p < t.1 51 26 := z
      rw [en, nlt (by omega) (by omega)] at z
      omega
  have lefts : ∀ m u, u + m = 6 → ∀ Y, YR (grM t) Y (RRp (grM t) u 0 0) → AtA l G (d + 3) sX11_comeIn 57 [.ref 51, .int (nI (mkM (Wp (grM t) u 0 0) (gN (grM t)))), .int (nI (6 - u)), .null, .null, .null, .null] [] (sarr (sarr t 64 X) 65 Y) (pI Q) := by
    intro m
    induction m with
    | zero =>
      intro u hu Y hY
      have : u = 6 := by omega
      subst this
      refine r_X11_comeIn_57 _ _ _ ⟨fun z => absurd z (by decide), fun _ => ?_⟩
      rw [mkM_congr (P := Wp (grM t) 6 0 0) (P' := Wany (grM t)) (fun w hw => ?_)]
      · exact hQ Y
      · rw [wany_iff (gm_ok h) hw]
        exact ⟨fun ⟨u, p, a, b, c⟩ => ⟨u, p, by unfold Bef at b; omega, a, c⟩, fun ⟨u, p, a, b, c⟩ => ⟨u, p, b, Or.inl a, c⟩⟩
    | succ m ih =>
      intro u hu Y hY
      refine r_X11_comeIn_57 _ _ _ ⟨fun _ => places u (by omega) (ih (u + 1) (by omega)) _ 0 (Nat.zero_add _) Y hY, fun z => ?_⟩
      rw [l0, nlt (by omega) (by omega)] at z
      omega
  have first : ∀ m w, w + m = gN (grM t) → ∀ Y : Nat → Int32, (∀ l p w', l ≤ 6 → p < 61 → w' < 12 → (¬ Y (ixN l p w') = 0 ↔ l = 6 ∧ p = 0 ∧ w' < w)) → AtA l G (d + 3) sX11_comeIn 26 [.ref 51, .int 0, .int (nI w), .null, .null, .null, .null] [] (sarr (sarr t 64 X) 65 Y) (pI Q) := by
    intro m
    induction m with
    | zero =>
      intro w hw Y hY
      have : w = gN (grM t) := by omega
      subst this
      refine r_X11_comeIn_26 _ _ _ ⟨fun z => ?_, fun _ => ?_⟩
      · have z : nI (gN (grM t)) < t.1 51 4 := z
        rw [ez] at z
        exact (Int32.lt_irrefl z).elim
      · have := lefts 6 0 rfl Y (fun u p w b1 b2 b3 => (hY (6 - u) p w (by omega) (by omega) (by omega)).trans ⟨fun ⟨c1, c2, c3⟩ => Or.inl ⟨by omega, by rw [show u = 0 by omega]; exact c2⟩, fun z => ?_⟩)
        · rw [mkM_0 (fun w _ ⟨u, p, a, b, c⟩ => by unfold Bef at b; omega)] at this
          exact this
        · rcases z with ⟨c1, c2⟩ | ⟨a, p1, w1, b, _⟩
          · have : u = 0 := by omega
            subst this
            exact ⟨rfl, c2, b3⟩
          · unfold Bef at b
            omega
    | succ m ih =>
      intro w hw Y hY
      refine r_X11_comeIn_26 _ _ _ ⟨fun _ => ?_, fun z => ?_⟩
      · have e6 : v_X11_waysAt (sarr (sarr t 64 X) 65 Y) 6 0 (nI w) = nI (ixN 6 0 w) := wat (l := 6) (p := 0)
        have hix := ix_lt (show 6 ≤ 6 by omega) (show 0 < 61 by omega) (show w < 12 by omega)
        rw [e6, nnum (by omega), nI_1, sp_sa]
        refine ⟨vin (show ixN 6 0 w < 5124 from hix) (by decide), ih (w + 1) (by omega) _ (fun l p w' b1 b2 b3 => ?_)⟩
        by_cases e : l = 6 ∧ p = 0 ∧ w' = w
        · obtain ⟨rfl, rfl, rfl⟩ := e
          rw [pk_us]
          exact ⟨fun _ => ⟨rfl, rfl, by omega⟩, fun _ => by decide⟩
        · rw [pk_un (fun q => e (ix_inj (by omega) (by omega) (by omega) (by omega) q)), hY l p w' b1 b2 b3]
          omega
      · have z : ¬ nI w < t.1 51 4 := z
        rw [ez, nlt (by omega) (by omega)] at z
        omega
  have zero : ∀ m k, k + m = 5124 → ∀ Y : Nat → Int32, (∀ j, j < k → Y j = 0) → AtA l G (d + 3) sX11_comeIn 4 [.ref 51, .int 0, .int (nI k), .null, .null, .null, .null] [] (sarr (sarr t 64 X) 65 Y) (pI Q) := by
    intro m
    induction m with
    | zero =>
      intro k hk Y hY
      have : k = 5124 := by omega
      subst this
      refine r_X11_comeIn_4 _ _ _ ⟨fun z => (Int32.lt_irrefl z).elim, fun _ => first _ 0 (Nat.zero_add _) Y (fun l p w b1 b2 b3 => ?_)⟩
      rw [hY _ (ix_lt b1 b2 b3)]
      exact ⟨fun q => absurd rfl q, fun q => absurd q.2.2 (Nat.not_lt_zero _)⟩
    | succ m ih =>
      intro k hk Y hY
      refine r_X11_comeIn_4 _ _ _ ⟨fun _ => ⟨vin (show k < 5124 by omega) (by decide), ?_⟩, fun z => ?_⟩
      · rw [nnum (by omega), nI_1, sp_sa]
        refine ih (k + 1) (by omega) _ (fun j hj => ?_)
        by_cases e : j = k
        · rw [e, pk_us]
        · rw [pk_un e]; exact hY j (by omega)
      · rw [show (5124 : Int32) = nI 5124 from rfl, nlt (by omega) (by omega)] at z
        omega
  have := zero 5124 0 rfl ((sarr t 64 X).1 65) (fun j hj => absurd hj (Nat.not_lt_zero j))
  rw [sa_id] at this
  exact r_X11_comeIn _ this
