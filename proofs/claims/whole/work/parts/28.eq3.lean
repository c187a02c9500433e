/-! equal answers: voices, listening, writing -/
theorem hasv_iff {s : St} {x : Int32} {V : Nat} (hV : s.1 8 1 = nI V) (h5 : V ≤ 5) : b_X0_has s 8 x ↔ ∃ v, v < V ∧ x = nI v := by
  unfold b_X0_has iP
  constructor
  · intro hh
    have h1 : ¬ x < 0 := fun z => hh.1 z
    have h2 : x < s.1 8 1 := Classical.byContradiction fun z => (hh.2 h1).2 z
    obtain ⟨k, hk, rfl⟩ := nI_of h1
    rw [hV, nlt hk (by omega)] at h2
    exact ⟨k, h2, rfl⟩
  · rintro ⟨w, hw, rfl⟩
    have h1 : ¬ nI w < 0 := nneg w (by omega)
    have h2 : nI w < s.1 8 1 := by rw [hV, nlt (by omega) (by omega)]; exact hw
    exact ⟨fun z => absurd z h1, fun _ => ⟨fun _ => trivial, fun z => absurd h2 z⟩⟩
theorem isv_iff {s : St} {x : Int32} {V : Nat} (hV : s.1 51 0 = nI V) (h5 : V ≤ 5) : b_X11_isVoice s x ↔ ∃ v, v < V ∧ x = nI v := by
  unfold b_X11_isVoice
  rw [hV, in0_iff (by omega)]
theorem mod_gap {V i r v : Nat} (h1 : 1 ≤ V) (h5 : V ≤ 5) (hi : i % V = v) (h0 : 0 < r) (hr : r < V) : (i + r) % V ≠ v := by
  rcases (show V = 1 ∨ V = 2 ∨ V = 3 ∨ V = 4 ∨ V = 5 by omega) with rfl | rfl | rfl | rfl | rfl <;> omega
theorem mod_add {V i v : Nat} (h1 : 1 ≤ V) (h5 : V ≤ 5) (hi : i % V = v) : (i + V) % V = v := by
  rcases (show V = 1 ∨ V = 2 ∨ V = 3 ∨ V = 4 ∨ V = 5 by omega) with rfl | rfl | rfl | rfl | rfl <;> omega
theorem eq_voice {l : Launch} {G : Geo} {s : St} (h : RI s) (x1 x2 : Int32) : Eqv l G 109 154 [.int x1, .int x2] s := by
  obtain ⟨g, T, h1, h2, hT, e1, e2, e3⟩ := ri_g h
  have hC := ri_ch h
  obtain ⟨-, ⟨⟨V, v1, v5, hV⟩, c2, c3, c4, c5, c6⟩, -⟩ := id h
  have hV' : s.1 51 0 = nI V := c3.trans hV
  have oks : ok_X6_lettersSaidBy s 18 x1 := ⟨hC, by rw [e2]; exact rg_mk (by omega)⟩
  refine p_X10_voice _ _ s (fun _ _ _ => ⟨fun _ => ok_late hC _, fun _ _ => oks⟩) ?_
  unfold v_X10_voice
  refine r_X11_voice _ _ s ⟨fun z => ?_, fun z => ?_⟩
  · rw [iC_f (fun q => z ((isv_iff hV' v5).mpr ((hasv_iff hV v5).mp q)))]
    exact ⟨rfl, h⟩
  · obtain ⟨v, hv, rfl⟩ := (isv_iff hV' v5).mp z
    rw [iC_t ((hasv_iff hV v5).mpr ⟨v, hv, rfl⟩)]
    have hcnt : v_X6_lettersSaidBy s 18 (nI v) = nI (cntN (fun i => i % V = v ∧ b_X11_isSaid s (nI i)) g) := by
      unfold v_X6_lettersSaidBy
      rw [e2, nnum (by omega)]
      refine congrArg nI (cnt_congr g (fun j hj => ?_))
      have hm : j % V < V := Nat.mod_lt _ (by omega)
      rw [v_vc hV v1 v5 (by omega), neq (by omega) (by omega), said_eq h (by omega)]
    rw [hcnt]
    have loop : ∀ m i, g ≤ i + m → i ≤ 70 → i % V = v → (∀ j, g ≤ j → j < i → ¬ (j % V = v)) → AtA l G 20 sX11_voice 16 [.ref 51, .int (nI v), .int x2, .int (nI (cntN (fun i => i % V = v ∧ b_X11_isSaid s (nI i)) i)), .int (nI i)] [] s (pI (fun r2 s2 => iC (x2 = 0) (iC (b_X0_isAway s 8 (nI v)) 1 0) (iC (x2 = 1) (iC (b_X0_isHoarse s 8 (nI v)) 1 0) (iC (x2 = 2) (v_X0_lateOf s 8 (nI v)) (iC (x2 = 3) (nI (cntN (fun i => i % V = v ∧ b_X11_isSaid s (nI i)) g)) (-3)))) = r2 ∧ RI s2)) := by
      intro m
      induction m with
      | zero =>
        intro i hi hi2 hm hgap
        have hce : cntN (fun i => i % V = v ∧ b_X11_isSaid s (nI i)) i = cntN (fun i => i % V = v ∧ b_X11_isSaid s (nI i)) g := by
          have := cnt_skip (P := fun i => i % V = v ∧ b_X11_isSaid s (nI i)) (a := g) (i - g) (fun j q1 q2 q => hgap j q1 (by omega) q.1)
          rwa [show g + (i - g) = i by omega] at this
        refine r_X11_voice_16 _ _ _ _ s ⟨fun z => ?_, fun _ => ?_⟩
        · rw [e3, nlt (by omega) (by omega)] at z
          omega
        · rw [hce]
          refine ⟨fun z0 => ⟨fun a => ⟨?_, h⟩, fun a => ⟨?_, h⟩⟩, fun z0 => ⟨fun z1 => ⟨fun a => ⟨?_, h⟩, fun a => ⟨?_, h⟩⟩, fun z1 => ⟨fun z2 => ⟨vin (show v < 5 by omega) (by decide), ?_, h⟩, fun z2 => ⟨fun z3 => ⟨?_, h⟩, fun z3 => ⟨?_, h⟩⟩⟩⟩⟩
          · rw [c4, hasb] at a
            rw [iC_t z0, iC_f (fun q => a ((away_iff hV hv v5).mp q))]
          · rw [c4, hasb] at a
            rw [iC_t z0, iC_t ((away_iff hV hv v5).mpr a)]
          · rw [c5, hasb] at a
            rw [iC_f z0, iC_t z1, iC_f (fun q => a ((hoarse_iff hV hv v5).mp q))]
          · rw [c5, hasb] at a
            rw [iC_f z0, iC_t z1, iC_t ((hoarse_iff hV hv v5).mpr a)]
          · rw [iC_f z0, iC_f z1, iC_t z2, v_late hV hv v5, c6, nnum (by omega)]
          · rw [iC_f z0, iC_f z1, iC_f z2, iC_t z3]
          · rw [iC_f z0, iC_f z1, iC_f z2, iC_f z3]
      | succ m ih =>
        intro i hi hi2 hm hgap
        by_cases hlt : i < g
        · have step : ∀ c : Nat, cntN (fun i => i % V = v ∧ b_X11_isSaid s (nI i)) (i + 1) = c → cntN (fun i => i % V = v ∧ b_X11_isSaid s (nI i)) (i + V) = c := by
            intro c hc
            have := cnt_skip (P := fun i => i % V = v ∧ b_X11_isSaid s (nI i)) (a := i + 1) (V - 1) (fun j q1 q2 q => mod_gap (r := j - i) v1 v5 hm (by omega) (by omega) (by rw [show i + (j - i) = j by omega]; exact q.1))
            rw [show i + 1 + (V - 1) = i + V by omega] at this
            rw [this, hc]
          have ihh := ih (i + V) (by omega) (by omega) (mod_add v1 v5 hm) (fun j q1 q2 q => mod_gap (r := j - i) v1 v5 hm (by omega) (by omega) (by rw [show i + (j - i) = j by omega]; exact q))
          refine r_X11_voice_16 _ _ _ _ s ⟨fun _ => ⟨ok_sd11 h (by omega), fun z => ?_, fun z => ?_⟩, fun z => ?_⟩
          · rw [step _ (cnt_f (P := fun i => i % V = v ∧ b_X11_isSaid s (nI i)) (fun q => z q.2))] at ihh
            rw [l0, nI_add, hV', nI_add]
            exact ihh
          · rw [step _ (cnt_t (P := fun i => i % V = v ∧ b_X11_isSaid s (nI i)) ⟨hm, z⟩)] at ihh
            rw [nI_1, hV', nI_add]
            exact ihh
          · rw [e3, nlt (by omega) (by omega)] at z
            omega
        · exact r_X11_voice_16 _ _ _ _ s ⟨fun z => by
            rw [e3, nlt (by omega) (by omega)] at z
            omega, fun z => by
            have hce : cntN (fun i => i % V = v ∧ b_X11_isSaid s (nI i)) i = cntN (fun i => i % V = v ∧ b_X11_isSaid s (nI i)) g := by
              have := cnt_skip (P := fun i => i % V = v ∧ b_X11_isSaid s (nI i)) (a := g) (i - g) (fun j q1 q2 q => hgap j q1 (by omega) q.1)
              rwa [show g + (i - g) = i by omega] at this
            rw [hce]
            refine ⟨fun z0 => ⟨fun a => ⟨?_, h⟩, fun a => ⟨?_, h⟩⟩, fun z0 => ⟨fun z1 => ⟨fun a => ⟨?_, h⟩, fun a => ⟨?_, h⟩⟩, fun z1 => ⟨fun z2 => ⟨vin (show v < 5 by omega) (by decide), ?_, h⟩, fun z2 => ⟨fun z3 => ⟨?_, h⟩, fun z3 => ⟨?_, h⟩⟩⟩⟩⟩
            · rw [c4, hasb] at a
              rw [iC_t z0, iC_f (fun q => a ((away_iff hV hv v5).mp q))]
            · rw [c4, hasb] at a
              rw [iC_t z0, iC_t ((away_iff hV hv v5).mpr a)]
            · rw [c5, hasb] at a
              rw [iC_f z0, iC_t z1, iC_f (fun q => a ((hoarse_iff hV hv v5).mp q))]
            · rw [c5, hasb] at a
              rw [iC_f z0, iC_t z1, iC_t ((hoarse_iff hV hv v5).mpr a)]
            · rw [iC_f z0, iC_f z1, iC_t z2, v_late hV hv v5, c6, nnum (by omega)]
            · rw [iC_f z0, iC_f z1, iC_f z2, iC_t z3]
            · rw [iC_f z0, iC_f z1, iC_f z2, iC_f z3]⟩
    have hv0 : v % V = v := Nat.mod_eq_of_lt hv
    have hc0 : cntN (fun i => i % V = v ∧ b_X11_isSaid s (nI i)) v = 0 := by
      have := cnt_skip (P := fun i => i % V = v ∧ b_X11_isSaid s (nI i)) (a := 0) v (fun j q1 q2 q => by
        have := q.1
        rw [Nat.mod_eq_of_lt (by omega)] at this
        omega)
      rw [Nat.zero_add] at this
      exact this
    have h0 := loop g v (by omega) (by omega) hv0 (fun j q1 q2 q => by
      rw [Nat.mod_eq_of_lt (by omega)] at q
      omega)
    rw [hc0] at h0
    exact h0
theorem sp_c3 {s : St} {q r k j : Nat} {f : Nat → Int32} {x v v' : Int32} : sput (sput (sput (sarr s q f) r j v) q k x) r j v' = sput (sarr s q (upd f k x)) r j v' := by
  rw [← sp_sa]
  refine Prod.ext ?_ rfl
  funext a b
  simp only [sput]
  by_cases ha : a = r ∧ b = j
  · simp [ha]
  · simp only [ha, if_false]
theorem rowW_congr {f f' g g' : Nat → Int32} {a n : Nat} (hf : f = f') (hg : ∀ i, i < n → g i = g' i) : rowW f a n g = rowW f' a n g' := by
  subst hf
  funext j
  unfold rowW
  split
  · exact hg _ (by omega)
  · rfl
theorem latF_rg {sz lt ws : Nat → Int32} (h : ∀ j, rg (lt j) 26) : ∀ m k i, rg (latF sz lt ws m k i) 26
  | 0, _, _ => rg0 _
  | m + 1, k, i => by
    unfold latF
    split
    · exact h _
    · exact latF_rg h m _ _
theorem eq_listen {l : Launch} {G : Geo} {s : St} (h : RI s) : Eqv l G 116 163 [] s := by
  obtain ⟨g, T, h1, h2, hT, e1, e2, e3⟩ := ri_g h
  have hI : ∀ (f : Nat → Int32) (x : Int32), RI s → v_X6_heardAt (sput (sarr s 25 f) 24 1 x) 18 = v_X6_heardAt s 18 := fun _ _ _ => rfl
  have mid : DoesI l G 20 163 [.ref 51] (sput (sarr s 25 (rowW (s.1 25) 0 g (fun i => v_X6_heardAt s 18 (nI i)))) 24 1 (nI g)) (fun r2 s2 => nI g = r2 ∧ RI s2) := by
    obtain ⟨t, ht⟩ : ∃ t, t = sput (sarr s 25 (rowW (s.1 25) 0 g (fun i => v_X6_heardAt s 18 (nI i)))) 24 1 (nI g) := ⟨_, rfl⟩
    rw [← ht]
    have f1 : t.1 51 25 = nI g := by rw [ht]; exact e3
    have f2 : t.1 61 = s.1 61 := by rw [ht]; rfl
    have loop : ∀ m k, k + m = g → AtA l G 20 sX11_listen 10 [.ref 51, .int (nI k)] [] (sarr (sput t 51 26 (nI g)) 61 (rowW (s.1 61) 0 k (fun i => v_X11_heardAt s (nI i)))) (pI (fun r2 s2 => nI g = r2 ∧ RI s2)) := by
      intro m
      induction m with
      | zero =>
        intro k hk
        have : k = g := by omega
        subst this
        refine r_X11_listen_10 _ _ ⟨fun z => ?_, fun _ => ⟨?_, ?_⟩⟩
        · have : (sarr (sput t 51 26 (nI k)) 61 (rowW (s.1 61) 0 k (fun i => v_X11_heardAt s (nI i)))).1 51 25 = nI k := f1
          rw [this, nlt (by omega) (by omega)] at z
          omega
        · rfl
        · rw [ht]
          obtain ⟨b1, b2, b3, ⟨s1, s2, s3, s4⟩, b5⟩ := id h
          refine ⟨b1, b2, b3, ⟨rg_mk (by omega), ?_, rfl, ?_⟩, b5⟩
          · show ∀ j, rg (rowW (s.1 25) 0 k (fun i => v_X6_heardAt s 18 (nI i)) j) 26
            refine rowW_rg s2 (fun j hj => ?_)
            show rg (v_X6_heardAt s 18 (nI j)) 26
            rw [heard_eq h (by omega)]
            unfold v_X11_heardAt
            by_cases c : b_X11_isSaid s (nI j)
            · rw [iC_t c]
              exact latF_rg (by rw [b3.2.2.2.2.2.2.2.1]; exact b3.2.2.2.1) _ _ _
            · rw [iC_f c]
              exact rg0 _
          · show rowW (s.1 61) 0 k (fun i => v_X11_heardAt s (nI i)) = rowW (s.1 25) 0 k (fun i => v_X6_heardAt s 18 (nI i))
            exact rowW_congr s4 (fun i hi => (heard_eq h (by omega)).symm)
      | succ m ih =>
        intro k hk
        refine r_X11_listen_10 _ _ ⟨fun _ => ⟨?_, vin (show k < 60 by omega) (by decide), ?_⟩, fun z => ?_⟩
        · have := ok_h11 h (i := k) (by omega)
          rw [ht]
          exact this
        · have e9 : v_X11_heardAt (sarr (sput t 51 26 (nI g)) 61 (rowW (s.1 61) 0 k (fun i => v_X11_heardAt s (nI i)))) (nI k) = v_X11_heardAt s (nI k) := by
            rw [ht]
            rfl
          rw [e9, nnum (by omega), nI_1, sp_sa]
          have := ih (k + 1) (by omega)
          rw [← rowW_s, Nat.zero_add] at this
          exact this
        · have : (sarr (sput t 51 26 (nI g)) 61 (rowW (s.1 61) 0 k (fun i => v_X11_heardAt s (nI i)))).1 51 25 = nI g := f1
          rw [this, nlt (by omega) (by omega)] at z
          omega
    refine r_X11_listen _ ?_
    rw [f1]
    have h0 := loop g 0 (Nat.zero_add _)
    rw [rowW_0, ← f2] at h0
    have e8 : sarr (sput t 51 26 (nI g)) 61 (t.1 61) = sput t 51 26 (nI g) := sa_id (sput t 51 26 (nI g)) 61
    rw [e8] at h0
    exact h0
  have loop : ∀ m k, k + m = g → AtA l G 20 sX10_listen 10 [.ref 0, .int (nI k)] [] (sput (sarr s 25 (rowW (s.1 25) 0 k (fun i => v_X6_heardAt s 18 (nI i)))) 24 1 (nI k)) (pI (fun r1 s1 => DoesI l G 20 163 [.ref 51] s1 (fun r2 s2 => r1 = r2 ∧ RI s2))) := by
    intro m
    induction m with
    | zero =>
      intro k hk
      have : k = g := by omega
      subst this
      refine r_X10_listen_10 _ _ ⟨fun z => ?_, fun _ => mid⟩
      have : v_X6_saidTotal (sput (sarr s 25 (rowW (s.1 25) 0 k (fun i => v_X6_heardAt s 18 (nI i)))) 24 1 (nI k)) 18 = nI k := e2
      rw [this, nlt (by omega) (by omega)] at z
      omega
    | succ m ih =>
      intro k hk
      have hnf : ¬ b_X7_isFull (sput (sarr s 25 (rowW (s.1 25) 0 k (fun i => v_X6_heardAt s 18 (nI i)))) 24 1 (nI k)) := by
        unfold b_X7_isFull iP
        rw [sp_s, show (60 : Int32) = nI 60 from rfl, nlt (by omega) (by omega)]
        exact fun q => q.1 (by omega)
      refine r_X10_listen_10 _ _ ⟨fun _ => ⟨ok_h6 h _, fun _ => ?_, ?_⟩, fun z => ?_⟩
      · rw [sp_s]
        exact vin (show k < 60 by omega) (by decide)
      · have e9 : g_X7_append (sput (sarr s 25 (rowW (s.1 25) 0 k (fun i => v_X6_heardAt s 18 (nI i)))) 24 1 (nI k)) (v_X6_heardAt (sput (sarr s 25 (rowW (s.1 25) 0 k (fun i => v_X6_heardAt s 18 (nI i)))) 24 1 (nI k)) 18 (nI k)) = sput (sarr s 25 (rowW (s.1 25) 0 (k + 1) (fun i => v_X6_heardAt s 18 (nI i)))) 24 1 (nI (k + 1)) := by
          unfold g_X7_append
          rw [iC_f hnf, sp_s, nnum (by omega), sp_q (by decide), sp_s, nI_1, sp_c3, ← rowW_s, Nat.zero_add]
          rfl
        rw [e9, nI_1]
        exact ih (k + 1) (by omega)
      · have : v_X6_saidTotal (sput (sarr s 25 (rowW (s.1 25) 0 k (fun i => v_X6_heardAt s 18 (nI i)))) 24 1 (nI k)) 18 = nI g := e2
        rw [this, nlt (by omega) (by omega)] at z
        omega
  have h0 := loop g 0 (Nat.zero_add _)
  rw [rowW_0, sa_id] at h0
  exact r_X10_listen s h0
