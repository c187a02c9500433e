/-! equal answers: what is said and heard -/
theorem and1 (y : Int32) : y &&& 1 = 0 ∨ y &&& 1 = 1 := by
  obtain ⟨j, hj, e⟩ := pk_andE y (m := 1) 1 rfl
  rw [e]
  rcases (show j = 0 ∨ j = 1 by omega) with rfl | rfl
  · exact Or.inl rfl
  · exact Or.inr rfl
theorem hasb {s : St} {x y : Int32} : b_X11_has s x y ↔ ¬ ((x >>> (y &&& 31)) &&& 1) = 0 := by
  unfold b_X11_has iP
  rcases and1 (x >>> (y &&& 31)) with e | e
  · rw [e]
    exact ⟨fun q => absurd (q.2 (by decide)) id, fun q => absurd rfl q⟩
  · rw [e]
    exact ⟨fun _ => by decide, fun _ => ⟨fun _ => trivial, fun q => absurd rfl q⟩⟩
theorem away_iff {s : St} {o v V : Nat} (hV : s.1 o 1 = nI V) (hv : v < V) (h5 : V ≤ 5) : b_X0_isAway s o (nI v) ↔ ¬ (((s.1 o 2) >>> (nI v &&& 31)) &&& 1) = 0 := by
  unfold b_X0_isAway
  rw [iP_f (nneg v (by omega)), hV, iP_t ((nlt (by omega) (by omega)).mpr hv)]
  exact ⟨fun q z => q.1 z, fun q => ⟨fun z => absurd z q, fun _ => trivial⟩⟩
theorem hoarse_iff {s : St} {o v V : Nat} (hV : s.1 o 1 = nI V) (hv : v < V) (h5 : V ≤ 5) : b_X0_isHoarse s o (nI v) ↔ ¬ (((s.1 o 3) >>> (nI v &&& 31)) &&& 1) = 0 := by
  unfold b_X0_isHoarse
  rw [iP_f (nneg v (by omega)), hV, iP_t ((nlt (by omega) (by omega)).mpr hv)]
  exact ⟨fun q z => q.1 z, fun q => ⟨fun z => absurd z q, fun _ => trivial⟩⟩
theorem v_late {s : St} {o v V : Nat} (hV : s.1 o 1 = nI V) (hv : v < V) (h5 : V ≤ 5) : v_X0_lateOf s o (nI v) = s.1 (o + 1) v := by
  unfold v_X0_lateOf
  rw [iC_f (nneg v (by omega)), hV, iC_t ((nlt (by omega) (by omega)).mpr hv), nnum (by omega)]
theorem said_eq {s : St} (h : RI s) {i : Nat} (hi : i < 2 ^ 31) : b_X0_isSaid s 8 (nI i) ↔ b_X11_isSaid s (nI i) := by
  obtain ⟨-, ⟨⟨V, h1, h2, hV⟩, c2, c3, c4, c5, c6⟩, -⟩ := h
  unfold b_X0_isSaid b_X11_isSaid
  rw [c3, c4, c5, c6, hV, pk_rem hi (by omega) (by omega), iP_f (by rw [l1, nlt (by omega) (by omega)]; omega)]
  have hv : i % V < V := Nat.mod_lt _ (by omega)
  rw [propext (away_iff hV hv h2), propext (hoarse_iff hV hv h2), v_late hV hv h2, propext hasb, propext hasb, nnum (by omega)]
theorem ok_sd11 {s : St} (h : RI s) {i : Nat} (hi : i < 2 ^ 31) : ok_X11_isSaid s (nI i) := by
  obtain ⟨-, ⟨⟨V, h1, h2, hV⟩, c2, c3, c4, c5, c6⟩, -⟩ := h
  have hne : ¬ s.1 51 0 = 0 := by
    rw [c3, hV, l0, neq (by omega) (by omega)]
    omega
  refine ⟨hne, hne, ?_⟩
  rw [c3, hV, pk_rem hi (by omega) (by omega)]
  have hv : i % V < V := Nat.mod_lt _ (by omega)
  exact vin (show i % V < 5 by omega) (by decide)
theorem heard_eq {s : St} (h : RI s) {i : Nat} (hi : i < totF (s.1 6) (s.1 60) (Int32.toNatClampNeg (s.1 51 23))) : v_X6_heardAt s 18 (nI i) = v_X11_heardAt s (nI i) := by
  have hs : i < 2 ^ 31 → (b_X0_isSaid s 8 (nI i) ↔ b_X11_isSaid s (nI i)) := fun q => said_eq h q
  obtain ⟨-, -, ⟨-, -, -, -, -, w6, w7, w8, w9, w10⟩, -, ⟨m1, m2, m3, m4, m5, m6, m7, m8, -⟩, -⟩ := h
  unfold v_X6_heardAt v_X11_heardAt
  by_cases c : b_X0_isSaid s 8 (nI i)
  · rw [iC_t c, iC_t ((hs (by omega)).mp c)]
    unfold v_X6_letterAt v_X11_letterAt
    rw [iC_f (nneg i (by omega)), m4, iC_t ((nlt (by omega) (by omega)).mpr hi), nnum (by omega), w8, w9]
    exact m8 i hi
  · rw [iC_f c, iC_f (fun q => c ((hs (by omega)).mpr q))]
theorem ok_h6 {s : St} (h : RI s) (x : Int32) : ok_X6_heardAt s 18 x := by
  refine ⟨ok_sd (ri_ch h) _, fun _ h1 h2 => ?_⟩
  obtain ⟨-, -, -, -, ⟨m1, m2, m3, m4, -⟩, -⟩ := h
  obtain ⟨k, -, hk, rfl⟩ := of_lt h1 h2 (n := 60) (by rw [m4]; exact rg_mk m3) (by decide)
  exact vin hk (by decide)
theorem ok_h11 {s : St} (h : RI s) {i : Nat} (hi : i ≤ 100) : ok_X11_heardAt s (nI i) := ⟨ok_sd11 h (by omega), fun _ => ⟨ri_sm h, rg_mk hi⟩⟩
theorem ri_g {s : St} (h : RI s) : ∃ g T : Nat, g ≤ T ∧ T ≤ 60 ∧ T = totF (s.1 6) (s.1 60) (Int32.toNatClampNeg (s.1 51 23)) ∧ s.1 18 1 = nI T ∧ s.1 18 4 = nI g ∧ s.1 51 25 = nI g := by
  obtain ⟨-, -, -, -, ⟨m1, m2, m3, m4, m5, m6, ⟨j, hj, e⟩, -⟩, -⟩ := h
  exact ⟨j, _, hj, m3, rfl, m4, m6.trans e, e⟩
theorem eq_heard {l : Launch} {G : Geo} {s : St} (h : RI s) (x1 : Int32) : Eqv l G 113 160 [.int x1] s := by
  obtain ⟨g, T, h1, h2, hT, e1, e2, e3⟩ := ri_g h
  refine p_X10_heard _ s (fun _ _ => ok_h6 h _) (p_X11_heard _ s (fun q1 q2 => ?_) ⟨?_, h⟩)
  · obtain ⟨k, -, hk, rfl⟩ := of_lt q1 q2 (n := 60) (by rw [e3]; exact rg_mk (by omega)) (by decide)
    exact ok_h11 h (by omega)
  · unfold v_X10_heard v_X11_heard
    by_cases c1 : x1 < 0
    · rw [iC_t c1, iC_t c1]
    · rw [iC_f c1, iC_f c1]
      show iC (x1 < s.1 18 4) _ _ = _
      rw [e2, e3]
      by_cases c2 : x1 < nI g
      · rw [iC_t c2, iC_t c2]
        obtain ⟨k, hk, rfl⟩ := nI_of c1
        rw [nlt (by omega) (by omega)] at c2
        exact heard_eq h (by omega)
      · rw [iC_f c2, iC_f c2]
theorem eq_say {l : Launch} {G : Geo} {s : St} (h : RI s) (x1 : Int32) : Eqv l G 112 158 [.int x1] s := by
  obtain ⟨g, T, h1, h2, hT, e1, e2, e3⟩ := ri_g h
  have ht := tot_eq h
  refine p_X10_say _ s ?_
  unfold f_X10_say
  by_cases c1 : x1 < 1
  · rw [iC_t c1]
    refine p_X11_say _ s (fun q => absurd c1 (in_iff.mp q).1) ?_
    unfold f_X11_say
    rw [iC_f (fun q => (in_iff.mp q).1 c1)]
    exact ⟨rfl, h⟩
  · by_cases c2 : 60 < x1
    · rw [iC_f c1, iC_t c2]
      refine p_X11_say _ s (fun q => absurd c2 (in_iff.mp q).2) ?_
      unfold f_X11_say
      rw [iC_f (fun q => (in_iff.mp q).2 c2)]
      exact ⟨rfl, h⟩
    · rw [iC_f c1, iC_f c2]
      obtain ⟨n, hn, rfl⟩ := nI_of (x := x1) (by
        rw [i_lt] at c1 ⊢
        have q1 : (1 : Int32).toInt = 1 := rfl
        show ¬ x1.toInt < 0
        omega)
      rw [show (60 : Int32) = nI 60 from rfl, nlt (by omega) (by omega)] at c2
      rw [l1, nlt (by omega) (by omega)] at c1
      have hin : ∀ s, b_X11_in s (nI n) 1 60 := fun s => in_iff.mpr ⟨by rw [l1, nlt (by omega) (by omega)]; exact c1, by rw [show (60 : Int32) = nI 60 from rfl, nlt (by omega) (by omega)]; exact c2⟩
      have hst : ∃ j, j ≤ T ∧ g_X6_sayMore s 18 (nI n) = sput s 18 4 (nI j) ∧ ((g + n < T ∧ j = g + n) ∨ (¬ g + n < T ∧ j = T)) := by
        unfold g_X6_sayMore
        rw [e1, e2, pk_sub h1]
        by_cases c3 : T - g < n
        · rw [if_pos ((nlt (by omega) (by omega)).mpr c3), nI_add]
          exact ⟨T, Nat.le_refl T, by rw [show g + (T - g) = T by omega], Or.inr ⟨by omega, rfl⟩⟩
        · rw [if_neg (fun q => c3 ((nlt (by omega) (by omega)).mp q)), nI_add]
          refine ⟨g + n, by omega, rfl, ?_⟩
          by_cases c4 : g + n < T
          · exact Or.inl ⟨c4, rfl⟩
          · exact Or.inr ⟨c4, by omega⟩
      obtain ⟨j, hj, ej, hc⟩ := hst
      rw [ej]
      have hm0 : smR s := ri_sm h
      have hm : ok_X11_lettersOf (sput s 18 4 (nI j)) := hm0
      refine p_X11_say _ _ (fun _ => hm) ?_
      unfold f_X11_say
      have q1 : (sput s 18 4 (nI j)).1 51 25 = nI g := e3
      have q2 : v_X11_lettersOf (sput s 18 4 (nI j)) = nI T := by
        rw [← e1, ← ht]
        rfl
      rw [iC_t (hin _), q1, q2, nI_add]
      have fin : RI (sput (sput s 18 4 (nI j)) 51 25 (nI j)) := by
        obtain ⟨b1, b2, b3, b4, ⟨m1, m2, m3, m4, m5, m6, m7, m8, m9, m10⟩, b6⟩ := h
        exact ⟨b1, b2, b3, b4, ⟨m1, m2, m3, m4, m5, rfl, ⟨j, (show j ≤ totF (s.1 6) (s.1 60) (Int32.toNatClampNeg (s.1 51 23)) by rw [← hT]; exact hj), rfl⟩, m8, m9, m10⟩, b6⟩
      rcases hc with ⟨c4, rfl⟩ | ⟨c4, rfl⟩
      · rw [iC_t ((nlt (by omega) (by omega)).mpr c4)]
        exact ⟨rfl, fin⟩
      · rw [iC_f (fun q => c4 ((nlt (by omega) (by omega)).mp q))]
        exact ⟨rfl, fin⟩
theorem eq_tally {l : Launch} {G : Geo} {s : St} (h : RI s) (x1 : Int32) : Eqv l G 114 161 [.int x1] s := by
  obtain ⟨g, T, h1, h2, hT, e1, e2, e3⟩ := ri_g h
  have ht := tot_eq h
  have hC := ri_ch h
  obtain ⟨-, ⟨⟨V, v1, v2, hV⟩, -, c3, -⟩, -⟩ := id h
  have okh : ok_X6_lettersHeard s 18 := ⟨hC, by rw [e2]; exact rg_mk (by omega)⟩
  refine p_X10_tally _ s ⟨fun _ => okh, fun _ => ⟨fun _ => okh, fun _ _ _ => ok_vc hC _⟩⟩ ?_
  have hcnt : v_X6_lettersHeard s 18 = nI (cntN (fun i => b_X11_isSaid s (nI i)) g) := by
    unfold v_X6_lettersHeard
    rw [e2, nnum (by omega), cnt_congr g (fun j hj => said_eq h (by omega))]
  have hle := cnt_le (fun i => b_X11_isSaid s (nI i)) g
  unfold v_X10_tally
  rw [hcnt]
  show DoesI l G 20 161 [.ref 51, .int x1] s _
  have fin : ∀ Q : Int32 → St → Prop, (b_X11_in s x1 0 2 → (x1 = 0 → Q (nI g - nI (cntN (fun i => b_X11_isSaid s (nI i)) g)) s) ∧ (¬ x1 = 0 → (x1 = 1 → Q (nI (cntN (fun i => b_X11_isSaid s (nI i)) g)) s) ∧ (¬ x1 = 1 → (g < T → Q (nI (g % V)) s) ∧ (¬ g < T → Q (-1) s)))) → (¬ b_X11_in s x1 0 2 → Q (-3) s) → DoesI l G 20 161 [.ref 51, .int x1] s Q := by
    intro Q hq hn
    refine r_X11_tally _ s ⟨hn, fun hin => ?_⟩
    have hq := hq hin
    have loop : ∀ m i, i + m = g → AtA l G 20 sX11_tally 16 [.ref 51, .int x1, .int (nI (cntN (fun i => b_X11_isSaid s (nI i)) i)), .int (nI i)] [] s (pI Q) := by
      intro m
      induction m with
      | zero =>
        intro i hi
        have : i = g := by omega
        subst this
        refine r_X11_tally_16 _ _ _ s ⟨fun z => ?_, fun _ => ⟨fun z0 => ?_, fun z0 => ⟨fun z1 => ?_, fun z1 => ⟨ri_sm h, fun z2 => ⟨?_, ?_⟩, fun z2 => ?_⟩⟩⟩⟩
        · rw [e3, nlt (by omega) (by omega)] at z
          omega
        · rw [e3]
          exact hq.1 z0
        · exact (hq.2 z0).1 z1
        · rw [c3, hV, l0, neq (by omega) (by omega)]
          omega
        · rw [e3, ht, e1, nlt (by omega) (by omega)] at z2
          rw [e3, c3, hV, pk_rem (by omega) (by omega) (by omega)]
          exact ((hq.2 z0).2 z1).1 z2
        · rw [e3, ht, e1, nlt (by omega) (by omega)] at z2
          exact ((hq.2 z0).2 z1).2 z2
      | succ m ih =>
        intro i hi
        have ihh := ih (i + 1) (by omega)
        refine r_X11_tally_16 _ _ _ s ⟨fun _ => ⟨ok_sd11 h (by omega), fun z => ?_, fun z => ?_⟩, fun z => ?_⟩
        · rw [cnt_f (P := fun i => b_X11_isSaid s (nI i)) z] at ihh
          rw [nI_1, l0, nI_add]
          exact ihh
        · rw [cnt_t (P := fun i => b_X11_isSaid s (nI i)) z] at ihh
          rw [nI_1, nI_1]
          exact ihh
        · rw [e3, nlt (by omega) (by omega)] at z
          omega
    exact loop g 0 (Nat.zero_add _)
  refine fin _ (fun hin => ⟨fun z0 => ⟨?_, h⟩, fun z0 => ⟨fun z1 => ⟨?_, h⟩, fun z1 => ?_⟩⟩) (fun hin => ⟨?_, h⟩)
  · rw [iC_t z0]
    show s.1 18 4 - _ = _
    rw [e2]
  · rw [iC_f z0, iC_t z1]
  · have z2 : x1 = 2 := by
      rw [in_iff] at hin
      obtain ⟨k, hk, rfl⟩ := nI_of hin.1
      have := hin.2
      rw [show (2 : Int32) = nI 2 from rfl, nlt (by omega) (by omega)] at this
      rw [l0, neq (by omega) (by omega)] at z0
      rw [l1, neq (by omega) (by omega)] at z1
      rw [show (2 : Int32) = nI 2 from rfl, neq (by omega) (by omega)]
      omega
    rw [iC_f z0, iC_f z1, iC_t z2]
    refine ⟨fun c => ⟨?_, h⟩, fun c => ⟨?_, h⟩⟩
    · rw [iC_t (show v_X6_saidTotal s 18 < v_X6_letterTotal s 18 by show s.1 18 4 < s.1 18 1; rw [e1, e2, nlt (by omega) (by omega)]; exact c)]
      show v_X0_voiceOf s 8 (s.1 18 4) = _
      rw [e2, v_vc hV v1 v2 (by omega)]
    · rw [iC_f (show ¬ v_X6_saidTotal s 18 < v_X6_letterTotal s 18 by show ¬ s.1 18 4 < s.1 18 1; rw [e1, e2, nlt (by omega) (by omega)]; exact c)]
  · rw [iC_f (fun q => hin (in_iff.mpr (by rw [q]; decide))), iC_f (fun q => hin (in_iff.mpr (by rw [q]; decide))), iC_f (fun q => hin (in_iff.mpr (by rw [q]; decide)))]
