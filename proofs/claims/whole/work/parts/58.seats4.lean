/-! seats: the equality -/
theorem cost_eq {s : St} (h : RI s) {V : Nat} (hV : s.1 8 1 = nI V) (h1 : 1 ≤ V) (h5 : V ≤ 5) (c : Nat) : coR (coN V s) 0 (digR V V c) = sumN (fun w => cntN (fun i => b_X11_has s (s.1 51 1) (nI (c / V ^ (V - 1 - i % V) % V)) ∨ (b_X11_has s (s.1 51 2) (nI (c / V ^ (V - 1 - i % V) % V)) ∧ i / V % 2 = 1)) (Int32.toNatClampNeg (s.1 54 w))) (Int32.toNatClampNeg (s.1 51 4)) := by
  obtain ⟨-, ⟨-, -, c3, c4, c5, c6⟩, ⟨-, -, -, -, -, w6, w7, w8, w9, w10⟩, -⟩ := h
  have e := sp_words h1 (fun t => b_X11_has s (s.1 51 1) (nI (c / V ^ (V - 1 - t) % V))) (fun t => b_X11_has s (s.1 51 2) (nI (c / V ^ (V - 1 - t) % V))) (fun w => Int32.toNatClampNeg (s.1 54 w)) (Int32.toNatClampNeg (s.1 51 4))
  refine Eq.trans ?_ e.symm
  rw [co_dig]
  refine sumN_congr V (fun t ht => ?_)
  have hm := Nat.mod_lt (c / V ^ (V - 1 - t)) (show V > 0 by omega)
  show coN V s (c / V ^ (V - 1 - t) % V) (0 + t) = pick (b_X11_has s (s.1 51 1) (nI (c / V ^ (V - 1 - t) % V))) (b_X11_has s (s.1 51 2) (nI (c / V ^ (V - 1 - t) % V))) (sumN (fun w => lW V t (Int32.toNatClampNeg (s.1 54 w))) (Int32.toNatClampNeg (s.1 51 4))) (sumN (fun w => sW V t (Int32.toNatClampNeg (s.1 54 w))) (Int32.toNatClampNeg (s.1 51 4)))
  unfold coN Lc Sc
  rw [Nat.zero_add, propext (away_iff hV hm h5), propext (hoarse_iff hV hm h5), propext hasb, propext hasb, c4, c5, w6, w9]
theorem eq_seats {l : Launch} {G : Geo} {s : St} (h : RI s) (x1 : Int32) : Eqv l G 124 182 [.int x1] s := by
  obtain ⟨V, h1, h5, hV⟩ := h.2.1.1
  have hV2 : s.1 51 0 = nI V := by rw [h.2.1.2.2.1]; exact hV
  have hcl : ∀ c, coR (coN V s) 0 (digR V V c) < 2 ^ 31 := fun c => by
    rw [co_dig]
    have := sumN_le (f := fun j => coN V s (c / V ^ (V - 1 - j) % V) (0 + j)) (c := 120) V (fun j _ => co_le (ri_wl h) V _ _)
    omega
  refine r_X10_seats (d := 14) x1 s ⟨fun z => r_X11_seats (d := 17) x1 s ⟨fun _ => ⟨rfl, h⟩, fun q => absurd z q⟩, fun z => ⟨fun z2 => ?_, fun z2 => ?_⟩⟩
  · refine p_prep (d := 14) (ri_wl h) (ri_ch h) hV h1 h5 (fun F F' E hF hF' hE => ?_)
    have hB : ∀ T, T < 2 ^ V - 1 → BestF V (coN V s) (fun T => Int32.toNatClampNeg (E T)) T (bvN V (coN V s) (fun T => Int32.toNatClampNeg (E T)) T) := fun T hT => bv_p (hE.2.1 T (Nat.zero_le _) hT)
    have hf0 : (fun T => Int32.toNatClampNeg (E T)) (2 ^ V - 1) = 0 := by
      show Int32.toNatClampNeg (E (2 ^ V - 1)) = 0
      rw [hE.1]
      rfl
    have p0 : pcN 0 = 0 := by rw [pc_B]; decide +kernel
    obtain ⟨g1, g2, g3⟩ := gr_best h5 hf0 hB V 0 (by rw [p0, Nat.zero_add]) (Nat.two_pow_pos V)
    rw [p0] at g2 g3
    have hlen := gr_len (bvN V (coN V s) (fun T => Int32.toNatClampNeg (E T))) V 0
    have hgl := codR_lt _ _ g1
    have hdc := dig_cod h1 _ _ g1
    rw [hlen] at hgl hdc
    have huniq : ∀ b, BestC V (fun c => coR (coN V s) 0 (digR V V c)) (V ^ V) b → b = codR V (grR (bvN V (coN V s) (fun T => Int32.toNatClampNeg (E T))) V 0) := by
      rintro b ⟨b1, b2, b3⟩
      have x1 := b3 _ hgl (by rw [hdc]; exact g1)
      have x2 := g3 (digR V V b) (dig_len V V b) b2
      rw [cod_dig, Nat.mod_eq_of_lt b1] at x2
      dsimp only at x1
      rw [hdc] at x1
      exact Nat.le_antisymm (x1.2 (by omega)) (x2.2 (by omega))
    have hs2 : RI (st3 s F F' E) := h
    have hcost := cost_eq hs2 (V := V) hV h1 h5
    refine ⟨fun z3 => ⟨vin (k := 0) (show 0 < 32 by decide) (by decide), ?_⟩, fun z3 => ?_⟩
    · refine p_mse (s := st3 s F F' E) (d := 17) (ri_md hs2) hV2 h1 h5 hcl hcost z (fun F2 b hb => ?_)
      refine ⟨?_, hs2⟩
      rw [iC_t z3, huniq b hb]
      show E 0 = nI (coR (coN V s) 0 (digR V V (codR V (grR (bvN V (coN V s) (fun T => Int32.toNatClampNeg (E T))) V 0))))
      rw [hdc, g2]
      exact (hE.2.2 0 (Nat.zero_le _) (Nat.two_pow_pos V)).1
    · have h0 : ¬ x1 < 0 := fun q => by
        rw [i_lt] at q z
        have q1 : (0 : Int32).toInt = 0 := rfl
        have q2 : (-1 : Int32).toInt = -1 := rfl
        refine z3 ?_
        rw [i_eq]
        omega
      obtain ⟨t, ht, rfl⟩ := nI_of h0
      have z2 : nI t < s.1 8 1 := z2
      rw [hV, nlt ht (by omega)] at z2
      refine p_va (d := 14) (ri_wl h) hV h1 h5 hF hF' hE z2 ?_
      refine p_mse (s := st3 s F F' E) (d := 17) (ri_md hs2) hV2 h1 h5 hcl hcost z (fun F2 b hb => ?_)
      refine ⟨?_, hs2⟩
      rw [iC_f z3, iC_t ((nlt ht (by omega)).mpr z2), nnum ht, huniq b hb]
      have d1 := dig_get (V := V) (c := codR V (grR (bvN V (coN V s) (fun T => Int32.toNatClampNeg (E T))) V 0)) V t z2
      rw [hdc, gr_get V t 0 z2] at d1
      exact congrArg nI (Option.some.inj d1)
  · have z2 : ¬ x1 < s.1 8 1 := z2
    rw [hV] at z2
    refine p_mse (s := s) (d := 17) (ri_md h) hV2 h1 h5 hcl (cost_eq h hV h1 h5) z (fun F2 b hb => ?_)
    have z3 : ¬ x1 = -1 := fun q => by
      rw [q, i_lt, nI_i (by omega)] at z2
      have q2 : (-1 : Int32).toInt = -1 := rfl
      omega
    rw [iC_f z3, iC_f z2]
    exact ⟨rfl, h⟩
