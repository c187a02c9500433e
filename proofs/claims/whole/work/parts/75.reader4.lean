/-! the class's reader: a line, the text -/
theorem lp_k {c : Nat → Nat} {n p K : Nat} {D : Dr} {x : Nat ⊕ Ln} (hk : kd c n p = K) (h : lineK c n D p K = x) : lineP c n D p = x := by
  unfold lineP
  rw [hk]
  exact h
theorem p_doLineX {l : Launch} {G : Geo} {d : Nat} {c : Nat → Nat} {n p : Nat} {D : Dr} (s : St) {Q : Int32 → St → Prop} (hT : tx s c n) (ha : atp s c n p) (hp : p ≤ n) (hD : drX s = D) (hW : wfD D)
  (h0 : ∀ f t, lineP c n D p = .inl f → t.1 17 2 = nI f → t.1 17 4 = s.1 17 4 → cfr s t → Q 0 t)
  (h1 : ∀ k a b p' t, lineP c n D p = .inr (k, a, b, p') → atp t c n p' → t.1 17 4 = s.1 17 4 → drX t = app c n D k a b → cfr s t → Q 1 t) : DoesI l G (d + 6) 44 [.ref 17] s Q := by
  refine r_X3_doLine s ?_
  refine p_tokenIs 0 _ s (by decide) rfl hT ha hp ⟨fun z0 => ?_, fun z => ?_⟩
  rotate_left
  · have hk : kd c n p = 0 := by unfold kd; rw [iC_t (bI_p z)]
    exact p_doOrder s hT ha hp hD (fun f t hf g1 g2 g3 => ⟨rfl, h0 f t (lp_k hk hf) g1 g2 g3⟩) (fun k a b p' t hf g1 g2 g3 g4 => ⟨rfl, h1 k a b p' t (lp_k hk hf) g1 g2 g3 g4⟩)
  refine p_tokenIs 1 _ s (by decide) rfl hT ha hp ⟨fun z1 => ?_, fun z => ?_⟩
  rotate_left
  · have hk : kd c n p = 1 := by unfold kd; rw [iC_f (bI_n z0), iC_t (bI_p z)]
    exact p_doWord s hT ha hp hD hW (fun f t hf g1 g2 g3 => ⟨rfl, h0 f t (lp_k hk hf) g1 g2 g3⟩) (fun k a b p' t hf g1 g2 g3 g4 => ⟨rfl, h1 k a b p' t (lp_k hk hf) g1 g2 g3 g4⟩)
  refine p_tokenIs 2 _ s (by decide) rfl hT ha hp ⟨fun z2 => ?_, fun z => ?_⟩
  rotate_left
  · have hk : kd c n p = 2 := by unfold kd; rw [iC_f (bI_n z0), iC_f (bI_n z1), iC_t (bI_p z)]
    exact p_doNot s hT ha hp hD (fun f t hf g1 g2 g3 => ⟨rfl, h0 f t (lp_k hk hf) g1 g2 g3⟩) (fun k a b p' t hf g1 g2 g3 g4 => ⟨rfl, h1 k a b p' t (lp_k hk hf) g1 g2 g3 g4⟩)
  refine p_tokenIs 3 _ s (by decide) rfl hT ha hp ⟨fun z3 => ?_, fun z => ?_⟩
  rotate_left
  · have hk : kd c n p = 3 := by unfold kd; rw [iC_f (bI_n z0), iC_f (bI_n z1), iC_f (bI_n z2), iC_t (bI_p z)]
    exact p_doFree s hT ha hp hD  (fun k a b p' t hf g1 g2 g3 g4 => ⟨rfl, h1 k a b p' t (lp_k hk hf) g1 g2 g3 g4⟩)
  refine p_tokenIs 4 _ s (by decide) rfl hT ha hp ⟨fun z4 => ?_, fun z => ?_⟩
  rotate_left
  · have hk : kd c n p = 5 := by unfold kd; rw [iC_f (bI_n z0), iC_f (bI_n z1), iC_f (bI_n z2), iC_f (bI_n z3), iC_t (bI_p z)]
    exact p_doAway s (Or.inl ⟨rfl, rfl⟩) hT ha hp hD hW (fun f t hf g1 g2 g3 => ⟨rfl, h0 f t (lp_k hk hf) g1 g2 g3⟩) (fun k a b p' t hf g1 g2 g3 g4 => ⟨rfl, h1 k a b p' t (lp_k hk hf) g1 g2 g3 g4⟩)
  refine p_tokenIs 5 _ s (by decide) rfl hT ha hp ⟨fun z5 => ?_, fun z => ?_⟩
  rotate_left
  · have hk : kd c n p = 6 := by unfold kd; rw [iC_f (bI_n z0), iC_f (bI_n z1), iC_f (bI_n z2), iC_f (bI_n z3), iC_f (bI_n z4), iC_t (bI_p z)]
    exact p_doAway s (Or.inr ⟨rfl, rfl⟩) hT ha hp hD hW (fun f t hf g1 g2 g3 => ⟨rfl, h0 f t (lp_k hk hf) g1 g2 g3⟩) (fun k a b p' t hf g1 g2 g3 g4 => ⟨rfl, h1 k a b p' t (lp_k hk hf) g1 g2 g3 g4⟩)
  refine p_tokenIs 6 _ s (by decide) rfl hT ha hp ⟨fun z6 => ?_, fun z => ?_⟩
  rotate_left
  · have hk : kd c n p = 7 := by unfold kd; rw [iC_f (bI_n z0), iC_f (bI_n z1), iC_f (bI_n z2), iC_f (bI_n z3), iC_f (bI_n z4), iC_f (bI_n z5), iC_t (bI_p z)]
    exact p_doHoarse s (Or.inl ⟨rfl, rfl⟩) hT ha hp hD hW (fun f t hf g1 g2 g3 => ⟨rfl, h0 f t (lp_k hk hf) g1 g2 g3⟩) (fun k a b p' t hf g1 g2 g3 g4 => ⟨rfl, h1 k a b p' t (lp_k hk hf) g1 g2 g3 g4⟩)
  refine p_tokenIs 7 _ s (by decide) rfl hT ha hp ⟨fun z7 => ?_, fun z => ?_⟩
  rotate_left
  · have hk : kd c n p = 8 := by unfold kd; rw [iC_f (bI_n z0), iC_f (bI_n z1), iC_f (bI_n z2), iC_f (bI_n z3), iC_f (bI_n z4), iC_f (bI_n z5), iC_f (bI_n z6), iC_t (bI_p z)]
    exact p_doHoarse s (Or.inr ⟨rfl, rfl⟩) hT ha hp hD hW (fun f t hf g1 g2 g3 => ⟨rfl, h0 f t (lp_k hk hf) g1 g2 g3⟩) (fun k a b p' t hf g1 g2 g3 g4 => ⟨rfl, h1 k a b p' t (lp_k hk hf) g1 g2 g3 g4⟩)
  refine p_tokenIs 8 _ s (by decide) rfl hT ha hp ⟨fun z8 => ?_, fun z => ?_⟩
  rotate_left
  · have hk : kd c n p = 4 := by unfold kd; rw [iC_f (bI_n z0), iC_f (bI_n z1), iC_f (bI_n z2), iC_f (bI_n z3), iC_f (bI_n z4), iC_f (bI_n z5), iC_f (bI_n z6), iC_f (bI_n z7), iC_t (bI_p z)]
    exact p_doLate s hT ha hp hD hW (fun f t hf g1 g2 g3 => ⟨fun _ => h0 f t (lp_k hk hf) g1 g2 g3, fun w => absurd rfl w⟩) (fun k a b p' t hf g1 g2 g3 g4 => ⟨fun w => absurd w (by decide), fun _ => h1 k a b p' t (lp_k hk hf) g1 g2 g3 g4⟩)
  have hk : kd c n p = 9 := by unfold kd; rw [iC_f (bI_n z0), iC_f (bI_n z1), iC_f (bI_n z2), iC_f (bI_n z3), iC_f (bI_n z4), iC_f (bI_n z5), iC_f (bI_n z6), iC_f (bI_n z7), iC_f (bI_n z8)]
  exact h0 _ s (lp_k hk rfl) ha.1 rfl (cfr_r s)
theorem p_readX {l : Launch} {G : Geo} {d : Nat} {c : Nat → Nat} {n : Nat} {D : Dr} (s : St) {Q : Int32 → St → Prop} (hT : tx s c n) (hD : drX s = D) (hW : wfD D)
  (h0 : ∀ f t, rd c n 12 0 D = .inl f → cfr s t → Q (nI f) t)
  (h1 : ∀ L E t, rd c n 12 0 D = .inr (L, E) → drX t = E → t.1 17 4 = nI L.length → cfr s t → Q (-1) t) : DoesI l G (d + 7) 40 [.ref 17] s Q := by
  have h200 := hT.2.1
  have hc : ∀ j, c j ≤ 255 := fun j => (hT.2.2 j).2
  have loop : ∀ m p i D s, i + m = 12 → p ≤ n → tx s c n → atp s c n p → drX s = D → wfD D → s.1 17 4 = nI (i + 1) →
      (∀ f t, rd c n m p D = .inl f → cfr s t → Q (nI f) t) → (∀ L E t, rd c n m p D = .inr (L, E) → drX t = E → t.1 17 4 = nI (i + L.length) → cfr s t → Q (-1) t) → 0 < m →
      AtA l G (d + 7) sX3_readToFault 14 [.ref 17] [] s (pI Q) := by
    intro m
    induction m with
    | zero =>
      intro p i D s _ _ _ _ _ _ _ _ _ h
      exact absurd h (Nat.lt_irrefl 0)
    | succ m ih =>
      intro p i D s hi hp hT ha hD hW h4 h0 h1 _
      refine r_X3_readToFault_14 s ⟨fun z => ?_, fun _ => p_doLineX s hT ha hp hD hW (fun f t hf g1 g2 g3 => ⟨fun _ => ?_, fun z => absurd rfl z⟩) (fun k a b p' t hf g1 g2 g3 g4 => ⟨fun z => absurd z (by decide), fun _ => ⟨fun z => ?_, fun z => ?_⟩⟩)⟩
      · rw [h4, show (12 : Int32) = nI 12 from rfl, nlt (by omega) (by omega)] at z
        omega
      · rw [g1]
        exact h0 f t (rd_bad hf) g3
      · have hT2 := cfr_tx g4 hT
        obtain ⟨ok, hp'⟩ := lineP_r hp hW hf
        have hb := tB_le (c := c) hp'
        unfold v_X4_length at z
        rw [g1.1, hT2.1, nlt (by omega) (by omega)] at z
        have hcc := hc (tB c n p')
        refine ⟨tx_ok hT2 _, ?_⟩
        rw [g1.1, tx_at hT2 z, show (59 : Int32) = nI 59 from rfl, g2, h4, show (12 : Int32) = nI 12 from rfl]
        refine ⟨fun y => ⟨fun w => ?_, fun w => ?_⟩, fun y => ?_⟩
        · rw [neq (by omega) (by omega)] at y w
          exact h0 _ t (rd_oth hf z (fun q => by omega)) g4
        · rw [neq (by omega) (by omega)] at y w
          have hm : 0 < m := by omega
          refine p_adv t hT2 g1.2 (nx_le hp') ?_
          have e4 : (adv c n t (nx c n p')).1 17 4 = nI (i + 1) := by
            show t.1 17 4 = _
            rw [g2, h4]
          rw [e4, nI_1]
          have cf : cfr t (sput (adv c n t (nx c n p')) 17 4 (nI (i + 1 + 1))) := cfr_p (cfr_adv (cfr_r t)) (by decide) (by decide)
          refine ih (nx c n p') (i + 1) (app c n D k a b) _ (by omega) (nx_le hp') (cfr_tx cf hT2) ⟨rfl, rfl⟩ g3 (app_wf hW ok hc) rfl ?_ ?_ hm
          · intro f u hf2 hu
            exact h0 f u (rd_goL hf z ⟨y, hm⟩ hf2) (cfr_t g4 (cfr_t cf hu))
          · intro L E u hf2 hd hl hu
            exact h1 _ E u (rd_goR hf z ⟨y, hm⟩ hf2) hd (by rw [hl, List.length_cons]; congr 1; omega) (cfr_t g4 (cfr_t cf hu))
        · rw [neq (by omega) (by omega)] at y
          exact h0 _ t (rd_oth hf z (fun q => y q.1)) g4
      · have hT2 := cfr_tx g4 hT
        obtain ⟨ok, hp'⟩ := lineP_r hp hW hf
        have hb := tB_le (c := c) hp'
        unfold v_X4_length at z
        rw [g1.1, hT2.1, nlt (by omega) (by omega)] at z
        exact h1 _ _ t (rd_end hf z) g3 (by rw [g2, h4]; rfl) g4
  refine r_X3_readToFault s (p_adv (p := 0) _ (show tx (sput s 17 3 0) c n from hT) rfl (Nat.zero_le _) ?_)
  have cf : cfr s (sput (adv c n (sput s 17 3 0) 0) 17 4 1) := cfr_p (cfr_adv (cfr_p (cfr_r s) (by decide) (by decide))) (by decide) (by decide)
  refine loop 12 0 0 D _ rfl (Nat.zero_le _) (cfr_tx cf hT) ⟨rfl, rfl⟩ hD hW rfl ?_ ?_ (by decide)
  · intro f t hf ht
    exact h0 f t hf (cfr_t cf ht)
  · intro L E t hf hd hl ht
    exact h1 L E t hf hd (by rw [hl, Nat.zero_add]) (cfr_t cf ht)
