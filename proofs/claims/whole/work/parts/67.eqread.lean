/-! readings: the first reading by the reference; the equality -/
theorem p_fi {l : Launch} {G : Geo} {d : Nat} {t : St} (h : RI t) {X : Nat → Int32} (hX : XOK (grM t) X 7 0 0) {i : Nat} (hi : i < 6) {Q : Int32 → St → Prop} (hQ : Q (FR (grM t) i 6 0 0 3) (sarr t 64 X)) : DoesI l G (d + 3) 171 [.ref 51, .int (nI i)] (sarr t 64 X) Q := by
  have hM := ri_md h
  obtain ⟨g1, g2, g3, g4, g5⟩ := gm_ok h
  have ez : t.1 51 4 = nI (gN (grM t)) := (rg_num hM.1 (by decide)).1
  have en : t.1 51 26 = nI (gn (grM t)) := (rg_num hM.2.2.2.2.1 (by decide)).1
  have loop : ∀ m u p a x, u + m = 6 → u ≤ i → p ≤ gn (grM t) → ((x = -1 ∧ a = 3) ∨ ∃ w, w < gN (grM t) ∧ x = nI w ∧ a = gs (grM t) w) → Q (FR (grM t) i m u p a) (sarr t 64 X) → AtA l G (d + 3) sX11_firstReading 7 [.ref 51, .int (nI i), .int (nI p), .int x, .int (nI u), .null, .null, .null] [] (sarr t 64 X) (pI Q) := by
    intro m
    induction m with
    | zero => intro u p a x hu hui; omega
    | succ m ih =>
      intro u p a x hu hui hp hx hq
      have hq : Q (iC (p < gn (grM t)) (iC (findF (NxC (grM t) u p a) (gN (grM t)) 0 = -1) (-1) (iC (u = i) (findF (NxC (grM t) u p a) (gN (grM t)) 0) (FR (grM t) i m (u + 1) (p + gz (grM t) (Int32.toNatClampNeg (findF (NxC (grM t) u p a) (gN (grM t)) 0))) (gs (grM t) (Int32.toNatClampNeg (findF (NxC (grM t) u p a) (gN (grM t)) 0)))))) (-1)) (sarr t 64 X) := hq
      refine r_X11_firstReading_7 _ _ _ _ _ ⟨fun z => ?_, fun _ => ?_⟩
      · rw [nlt (by omega) (by omega)] at z
        omega
      · show AtA l G (d + 3) sX11_firstReading 24 [.ref 51, .int (nI i), .int (nI p), .int x, .int (nI u), .int (-1), .int (t.1 51 4 - 1), .null] [] (sarr t 64 X) (pI Q)
        rw [ez, Int32.sub_eq_add_neg]
        by_cases c : p < gn (grM t)
        · rw [iC_t c] at hq
          have fin : ∀ y : Int32, Least (NxC (grM t) u p a) (gN (grM t)) y → (y = -1 → Q (-1) (sarr t 64 X)) ∧ (¬ y = -1 → vp_in y (alen 54) ∧ AtA l G (d + 3) sX11_firstReading 7 [.ref 51, .int (nI i), .int (nI p + (sarr t 64 X).1 54 (Int32.toNatClampNeg y)), .int y, .int (nI u + 1), .null, .null, .null] [] (sarr t 64 X) (pI Q)) := by
            intro y hy
            rw [findF_eq hy] at hq
            refine ⟨fun z => ?_, fun z => ?_⟩
            · rw [iC_t z] at hq
              exact hq
            · rw [iC_f z] at hq
              rcases hy with ⟨e, -⟩ | ⟨w, w1, w2, w3, rfl⟩
              · exact absurd e z
              · obtain ⟨⟨d1, d2⟩, d3⟩ := nx_iff.mp w2
                have ew : t.1 54 w = nI (gz (grM t) w) := (rg_num (hM.2.1 w) (by decide)).1
                rw [nnum (by omega)] at hq
                refine ⟨vin (show w < 12 by omega) (by decide), ?_⟩
                rw [nnum (by omega)]
                show AtA l G (d + 3) sX11_firstReading 7 [.ref 51, .int (nI i), .int (nI p + t.1 54 w), .int (nI w), .int (nI u + 1), .null, .null, .null] [] (sarr t 64 X) (pI Q)
                rw [ew, nI_add, nI_1]
                by_cases e : u = i
                · rw [iC_t e] at hq
                  refine r_X11_firstReading_7 _ _ _ _ _ ⟨fun _ => hq, fun z2 => ?_⟩
                  rw [nlt (by omega) (by omega)] at z2
                  omega
                · rw [iC_f e] at hq
                  exact ih (u + 1) _ _ _ (by omega) (by omega) (g4 w p d1) (Or.inr ⟨w, w1, rfl, rfl⟩) hq
          have scan : ∀ k, k ≤ gN (grM t) → ∀ y : Int32, ((y = -1 ∧ ∀ w, k ≤ w → w < gN (grM t) → ¬ NxC (grM t) u p a w) ∨ ∃ b, k ≤ b ∧ b < gN (grM t) ∧ NxC (grM t) u p a b ∧ (∀ w, k ≤ w → w < b → ¬ NxC (grM t) u p a w) ∧ y = nI b) → AtA l G (d + 3) sX11_firstReading 24 [.ref 51, .int (nI i), .int (nI p), .int x, .int (nI u), .int y, .int (nI k + (-1)), .null] [] (sarr t 64 X) (pI Q) := by
            intro k
            induction k with
            | zero =>
              intro _ y hy
              refine r_X11_firstReading_24 _ _ _ _ _ _ _ ⟨fun _ => fin y ?_, fun z => absurd (by decide) z⟩
              rcases hy with ⟨e, q⟩ | ⟨b, b1, b2, b3, b4, b5⟩
              · exact Or.inl ⟨e, fun w hw => q w (Nat.zero_le w) hw⟩
              · exact Or.inr ⟨b, b2, b3, fun w hw => b4 w (Nat.zero_le w) hw, b5⟩
            | succ k ihk =>
              intro hk y hy
              rw [pk_m1]
              have yes : NxC (grM t) u p a k → AtA l G (d + 3) sX11_firstReading 24 [.ref 51, .int (nI i), .int (nI p), .int x, .int (nI u), .int (nI k), .int (nI k + (-1)), .null] [] (sarr t 64 X) (pI Q) := fun q => ihk (by omega) _ (Or.inr ⟨k, Nat.le_refl k, by omega, q, fun w h1 h2 => absurd h1 (by omega), rfl⟩)
              have no : ¬ NxC (grM t) u p a k → AtA l G (d + 3) sX11_firstReading 24 [.ref 51, .int (nI i), .int (nI p), .int x, .int (nI u), .int y, .int (nI k + (-1)), .null] [] (sarr t 64 X) (pI Q) := fun q => ihk (by omega) y (by
                rcases hy with ⟨e, q2⟩ | ⟨b, b1, b2, b3, b4, b5⟩
                · refine Or.inl ⟨e, fun w h1 h2 => ?_⟩
                  by_cases e2 : w = k
                  · rw [e2]; exact q
                  · exact q2 w (by omega) h2
                · refine Or.inr ⟨b, by omega, b2, b3, fun w h1 h2 => ?_, b5⟩
                  by_cases e2 : w = k
                  · rw [e2]; exact q
                  · exact b4 w (by omega) h2)
              have hrw := Rw_lt (g := grM t) g1 (k := 5 - u) (p := p) (w := k) (by omega)
              have hix := ix_lt (show 6 - u ≤ 6 by omega) (show p < 61 by omega) (show k < 12 by omega)
              have e6 : v_X11_waysAt (sarr t 64 X) (6 - nI u) (nI p) (nI k) = nI (ixN (6 - u) p k) := by
                rw [show (6 - nI u : Int32) = nI (6 - u) from pk_sub (a := 6) (by omega), wat]
              have exx : X (ixN (6 - u) p k) = nI (Rw (grM t) (5 - u) p k) := by
                rw [hX (6 - u) p k (by omega) c (by omega) (by omega), show 6 - u - 1 = 5 - u by omega]
              refine r_X11_firstReading_24 _ _ _ _ _ _ _ ⟨fun z => absurd z (nneg k (by omega)), fun _ => ⟨fun _ => ?_, fun z => ?_⟩⟩
              · rw [e6, nnum (by omega), sa_s, exx, l0, nlt (by omega) (by omega)]
                refine ⟨vin (show ixN (6 - u) p k < 5124 from hix) (by decide), fun z => ⟨fun z2 => ?_, fun z2 => ?_⟩, fun z => no (fun q => z q.2)⟩
                · rcases hx with ⟨-, rfl⟩ | ⟨w, w1, rfl, -⟩
                  · exact yes ⟨g5 k, z⟩
                  · exact absurd z2 (nI_m1 (by omega))
                · rcases hx with ⟨e, -⟩ | ⟨w, w1, rfl, rfl⟩
                  · exact absurd e z2
                  · obtain ⟨o1, o2⟩ := m_may (t := sarr t 64 X) hM (a := w) (q := k) (by show w < gN (grM t); omega) (by show k < gN (grM t); omega)
                    have o2 : b_X11_mayFollow (sarr t 64 X) (nI w) (nI k) ↔ ga (grM t) (gs (grM t) w) k := o2
                    exact ⟨o1, fun z3 => no (fun q => z3 (o2.mpr q.1)), fun z3 => yes ⟨o2.mp z3, z⟩⟩
              · have z : ¬ nI p < t.1 51 26 := z
                rw [en, nlt (by omega) (by omega)] at z
                omega
          exact scan _ (Nat.le_refl _) (-1) (Or.inl ⟨rfl, fun w h1 h2 => absurd h1 (by omega)⟩)
        · rw [iC_f c] at hq
          refine r_X11_firstReading_24 _ _ _ _ _ _ _ ⟨fun _ => ⟨fun _ => hq, fun z => absurd rfl z⟩, fun _ => ⟨fun z => ?_, fun _ => ⟨fun _ => hq, fun z => absurd rfl z⟩⟩⟩
          have z : nI p < t.1 51 26 := z
          rw [en, nlt (by omega) (by omega)] at z
          omega
  exact r_X11_firstReading _ _ (loop 6 0 0 3 (-1) rfl (Nat.zero_le _) (Nat.zero_le _) (Or.inl ⟨rfl, rfl⟩) hQ)
theorem ri_sm2 {s s' : St} (h : RI s) (hs : Sm s s') : RI s' := by
  have e := hs.1
  unfold RI at h ⊢
  rw [e 0 (by omega), e 1 (by omega), e 2 (by omega), e 4 (by omega), e 5 (by omega), e 6 (by omega), e 7 (by omega), e 8 (by omega), e 9 (by omega), e 18 (by omega), e 19 (by omega), e 20 (by omega), e 21 (by omega), e 22 (by omega), e 23 (by omega), e 24 (by omega), e 25 (by omega), e 51 (by omega), e 52 (by omega), e 53 (by omega), e 54 (by omega), e 55 (by omega), e 56 (by omega), e 60 (by omega), e 61 (by omega), e 62 (by omega), e 63 (by omega)]
  exact h
theorem gx_sm {s s' : St} (hs : Sm s s') : grX s' = grX s := by
  have e := hs.1
  unfold grX
  rw [e 4 (by omega), e 5 (by omega), e 6 (by omega), e 7 (by omega), e 24 (by omega), e 25 (by omega)]
theorem eq_readings {l : Launch} {G : Geo} {s : St} (h : RI s) (x1 : Int32) : Eqv l G 119 172 [.int x1] s := by
  have rest : ∀ s', Env3 s s' → RI s' ∧ grM s' = grX s := fun s' he => by
    have hr := ri_sm2 h he.1.1.1
    exact ⟨hr, by rw [gm_eq hr, gx_sm he.1.1.1]⟩
  have in01 : b_X11_in s 0 0 1 ∧ b_X11_in s 1 0 1 := ⟨by rw [in_iff]; decide, by rw [in_iff]; decide⟩
  by_cases c0 : x1 = 0
  · subst c0
    have key : DoesV l G 19 13 [.ref 26] s (fun s1 => (((0 : Int32) = 0 → (ok_X1_total s1 ∧ DoesI l G 20 172 [.ref 51, .int 0] s1 (fun r2 s2 => v_X1_total s1 = r2 ∧ RI s2))))) := by
      refine p_pr (d := 14) h (fun s' he _ => ?_)
      obtain ⟨o1, o2⟩ := tot_v h he
      obtain ⟨r1, r2⟩ := rest s' he
      refine ⟨o1, r_X11_readings (d := 16) _ _ ⟨fun z => absurd (show b_X11_in s' 0 0 1 by rw [in_iff]; decide) z, fun _ => ?_⟩⟩
      refine p_lw (d := 16) r1 (fun X hX => ⟨fun _ => p_rm (d := 17) r1 hX ?_, fun z => absurd rfl z⟩)
      rw [o2, r2]
      exact ⟨rfl, r1⟩
    exact r_X10_readings (d := 14) _ s ⟨fun _ => ⟨fun _ => doesV_mono key (fun s1 q => ⟨q, fun z => absurd rfl z⟩), fun z => absurd rfl z⟩, fun z => absurd (by decide) z⟩
  · by_cases c1 : x1 = 1
    · subst c1
      have key : DoesV l G 19 13 [.ref 26] s (fun s1 => DoesI l G 19 23 [.ref 26] s1 (fun r1 s1 => DoesI l G 20 172 [.ref 51, .int 1] s1 (fun r2 s2 => r1 = r2 ∧ RI s2))) := by
        refine p_pr (d := 14) h (fun s' he => p_wa (d := 15) h he ?_)
        obtain ⟨r1, r2⟩ := rest s' he
        refine r_X11_readings (d := 16) _ _ ⟨fun z => absurd (show b_X11_in s' 1 0 1 by rw [in_iff]; decide) z, fun _ => ?_⟩
        refine p_lw (d := 16) r1 (fun X hX => ⟨fun z => absurd z (by decide), fun _ => ⟨fun _ => ⟨fun z => ?_, fun z => ?_⟩, fun z => absurd rfl z⟩⟩)
        · have z : s'.1 51 26 = 0 := z
          have hn : gn (grX s) = 0 := by
            rw [← r2]
            show Int32.toNatClampNeg (s'.1 51 26) = 0
            rw [z]
            rfl
          rw [mkM_0 (fun w _ ⟨u, p, a, b, _⟩ => by omega)]
          exact ⟨rfl, r1⟩
        · have z : ¬ s'.1 51 26 = 0 := z
          refine p_ci (d := 16) r1 hX (fun q => z ?_) (fun Y => ?_)
          · have e := (rg_num (ri_md r1).2.2.2.2.1 (by decide)).1
            rw [e]
            have q : Int32.toNatClampNeg (s'.1 51 26) = 0 := q
            rw [q]
            rfl
          · rw [r2]
            exact ⟨rfl, r1⟩
      refine r_X10_readings (d := 14) _ s ⟨fun _ => ⟨fun z => absurd z (by decide), fun _ => ⟨fun _ => doesV_mono key (fun s1 q => ⟨fun z => absurd z (by decide), fun _ => ⟨fun _ => q, fun z => absurd rfl z⟩⟩), fun z => absurd rfl z⟩⟩, fun z => absurd (by decide) z⟩
    · have out : ¬ b_X11_in s x1 0 1 := fun q => by
        rw [in_iff] at q
        obtain ⟨k, hk, rfl⟩ := nI_of q.1
        have q2 := q.2
        rw [l1, nlt (by omega) hk] at q2
        rw [l0, neq hk (by omega)] at c0
        rw [l1, neq hk (by omega)] at c1
        omega
      by_cases c2 : b_X11_in s x1 10 15
      · have hin := in_iff.mp c2
        have hge : ¬ x1 < 0 := fun q => hin.1 (by
          rw [i_lt] at q ⊢
          have q1 : (0 : Int32).toInt = 0 := rfl
          have q2 : (10 : Int32).toInt = 10 := rfl
          omega)
        obtain ⟨k, hk, rfl⟩ := nI_of hge
        have h1 := hin.1
        have h2 := hin.2
        rw [show (10 : Int32) = nI 10 from rfl, nlt hk (by omega)] at h1
        rw [show (15 : Int32) = nI 15 from rfl, nlt (by omega) hk] at h2
        have e10 : (nI k - 10 : Int32) = nI (k - 10) := pk_sub (b := 10) (by omega)
        have key : DoesV l G 19 13 [.ref 26] s (fun s1 => DoesI l G 19 25 [.ref 26, .int (nI k - 10)] s1 (fun r1 s1 => DoesI l G 20 172 [.ref 51, .int (nI k)] s1 (fun r2 s2 => r1 = r2 ∧ RI s2))) := by
          rw [e10]
          refine p_pr (d := 14) h (fun s' he => p_wf (d := 15) h he (show k - 10 < 6 by omega) ?_)
          obtain ⟨r1, r2⟩ := rest s' he
          refine r_X11_readings (d := 16) _ _ ⟨fun _ => ⟨fun z => absurd (show b_X11_in s' (nI k) 10 15 by rw [in_iff]; exact hin) z, fun _ => ?_⟩, fun z => ?_⟩
          · refine p_lw (d := 16) r1 (fun X hX => ⟨fun z => absurd z c0, fun _ => ⟨fun z => absurd z c1, fun _ => ?_⟩⟩)
            rw [e10]
            refine p_fi (d := 16) r1 hX (by omega) ?_
            rw [r2]
            exact ⟨rfl, r1⟩
          · exact absurd (show b_X11_in s (nI k) 0 1 by rw [in_iff]; exact in_iff.mp z) out
        refine r_X10_readings (d := 14) _ s ⟨fun z => absurd z hin.1, fun _ => ⟨fun _ => ⟨fun z => absurd z c0, fun _ => ⟨fun z => absurd z c1, fun _ => doesV_mono key (fun s1 q => ⟨fun z => absurd z c0, fun _ => ⟨fun z => absurd z c1, fun _ => q⟩⟩)⟩⟩, fun z => ?_⟩⟩
        rw [show (16 : Int32) = nI 16 from rfl, nlt hk (by omega)] at z
        omega
      · have m3 : DoesI l G 20 172 [.ref 51, .int x1] s (fun r2 s2 => -3 = r2 ∧ RI s2) := r_X11_readings (d := 16) _ s ⟨fun _ => ⟨fun _ => ⟨rfl, h⟩, fun z => absurd z c2⟩, fun z => absurd z out⟩
        refine r_X10_readings (d := 14) _ s ⟨fun _ => ⟨fun z => absurd z c0, fun _ => ⟨fun z => absurd z c1, fun _ => m3⟩⟩, fun z => ⟨fun z2 => ?_, fun _ => ⟨fun z => absurd z c0, fun _ => ⟨fun z => absurd z c1, fun _ => m3⟩⟩⟩⟩
        refine absurd (in_iff.mpr ⟨z, fun q => ?_⟩) c2
        rw [i_lt] at z2 q
        have q1 : (16 : Int32).toInt = 16 := rfl
        have q2 : (15 : Int32).toInt = 15 := rfl
        omega
