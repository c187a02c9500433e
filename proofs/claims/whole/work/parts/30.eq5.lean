/-! equal answers: the shelves -/
theorem blkM_mv {n : Int32} {lt sz : Nat → Int32} {tot cnt last said : Int32} {ls ls' : Nat → Int32} {p g : Int32} {ws ws' : Nat → Int32} (h : blkM n lt sz tot cnt last said ls p g ws) (hl : ∀ i, i < 60 → ls' i = ls i) (hw : ∀ k, k < 6 → ws' k = ws k) : blkM n lt sz tot cnt last said ls' p g ws' := by
  obtain ⟨m1, m2, m3, m4, m5, m6, m7, m8, m9, m10⟩ := h
  obtain ⟨ep, bp⟩ := rg_num m1 (by decide)
  have ht : totF sz ws' (Int32.toNatClampNeg p) = totF sz ws (Int32.toNatClampNeg p) := sumN_congr _ (fun k hk => by rw [hw k (by omega)])
  refine ⟨m1, fun k hk => by rw [hw k (by omega)]; exact m2 k hk, by rw [ht]; exact m3, by rw [ht]; exact m4, m5, m6, by rw [ht]; exact m7, fun i hi => ?_, m9, fun q => by rw [hw _ (by omega)]; exact m10 q⟩
  rw [ht] at hi
  rw [hl i (by omega), m8 i hi]
  exact latF_congr _ _ _ (fun k _ h2 => (hw k (by omega)).symm)
theorem cp_row {s : St} {q r : Nat} {i : Nat} (hi : i < 60) : (scpy s q (Int32.toNatClampNeg 0) r (Int32.toNatClampNeg 0) (Int32.toNatClampNeg (nI 60))).1 r i = s.1 q i := by
  have e : Int32.toNatClampNeg (nI 60) = 60 := nnum (by decide)
  have e0 : Int32.toNatClampNeg 0 = 0 := rfl
  rw [e, e0]
  simp [scpy, hi]
theorem kb_set (x : Int32) {j k : Nat} (hj : j < 2) (hk : k < 2) : kbit (x ||| ((1 : Int32) <<< (nI j &&& 31))) k ↔ (j = k ∨ kbit x k) := by
  unfold kbit
  rw [bit0 (by omega), bit0 (by omega), b_or, b_one j (by omega) (by omega)]
  by_cases h : k = j
  · subst h; simp
  · have h2 : ¬ j = k := fun z => h z.symm
    simp [h, h2]
theorem at_keep {l : Launch} {G : Geo} {t : St} {Q : Int32 → St → Prop} (k : Nat) (hk : k < 2) (h : Q (t.1 51 25) (sput (sarr t 62 (rowW (t.1 62) (8 * k + 2) 6 (t.1 60))) 63 k 1)) : AtA l G 20 sX11_keep 42 [.ref 51, .int (nI k), .int 0] [] t (pI Q) := by
  have loop : ∀ m i, i + m = 6 → AtA l G 20 sX11_keep 42 [.ref 51, .int (nI k), .int (nI i)] [] (sarr t 62 (rowW (t.1 62) (8 * k + 2) i (t.1 60))) (pI Q) := by
    intro m
    induction m with
    | zero =>
      intro i hi
      have : i = 6 := by omega
      subst this
      refine r_X11_keep_42 _ _ _ ⟨fun z => ?_, fun _ => ⟨vin (show k < 2 by omega) (by decide), ?_⟩⟩
      · rw [show (6 : Int32) = nI 6 from rfl, nlt (by omega) (by omega)] at z
        omega
      · rw [nnum (by omega)]
        exact h
    | succ m ih =>
      intro i hi
      have e1 : (8 * nI k + 2 + nI i : Int32) = nI (8 * k + 2 + i) := by
        rw [show (8 : Int32) = nI 8 from rfl, show (2 : Int32) = nI 2 from rfl, pk_mul, nI_add, nI_add]
      refine r_X11_keep_42 _ _ _ ⟨fun _ => ⟨vin (show i < 6 by omega) (by decide), ?_, ?_⟩, fun z => ?_⟩
      · rw [e1]
        exact vin (show 8 * k + 2 + i < 16 by omega) (by decide)
      · rw [e1, nnum (by omega), nnum (by omega), nI_1, sp_sa]
        have := ih (i + 1) (by omega)
        rw [← rowW_s] at this
        exact this
      · rw [show (6 : Int32) = nI 6 from rfl, nlt (by omega) (by omega)] at z
        omega
  have h0 := loop 6 0 (Nat.zero_add _)
  rw [rowW_0, sa_id] at h0
  exact h0
theorem at_back {l : Launch} {G : Geo} {t : St} {Q : Int32 → St → Prop} (k : Nat) (hk : k < 2) (h : Q (t.1 51 25) (sarr t 60 (rowW (t.1 60) 0 6 (fun i => t.1 62 (8 * k + 2 + i))))) : AtA l G 20 sX11_back 54 [.ref 51, .int (nI k), .int 0] [] t (pI Q) := by
  have loop : ∀ m i, i + m = 6 → AtA l G 20 sX11_back 54 [.ref 51, .int (nI k), .int (nI i)] [] (sarr t 60 (rowW (t.1 60) 0 i (fun i => t.1 62 (8 * k + 2 + i)))) (pI Q) := by
    intro m
    induction m with
    | zero =>
      intro i hi
      have : i = 6 := by omega
      subst this
      refine r_X11_back_54 _ _ _ ⟨fun z => ?_, fun _ => h⟩
      rw [show (6 : Int32) = nI 6 from rfl, nlt (by omega) (by omega)] at z
      omega
    | succ m ih =>
      intro i hi
      have e1 : (8 * nI k + 2 + nI i : Int32) = nI (8 * k + 2 + i) := by
        rw [show (8 : Int32) = nI 8 from rfl, show (2 : Int32) = nI 2 from rfl, pk_mul, nI_add, nI_add]
      refine r_X11_back_54 _ _ _ ⟨fun _ => ⟨?_, vin (show i < 6 by omega) (by decide), ?_⟩, fun z => ?_⟩
      · rw [e1]
        exact vin (show 8 * k + 2 + i < 16 by omega) (by decide)
      · rw [e1, nnum (by omega), nnum (by omega), nI_1, sp_sa]
        have := ih (i + 1) (by omega)
        rw [← rowW_s, Nat.zero_add] at this
        exact this
      · rw [show (6 : Int32) = nI 6 from rfl, nlt (by omega) (by omega)] at z
        omega
  have h0 := loop 6 0 (Nat.zero_add _)
  rw [rowW_0, sa_id] at h0
  exact h0
theorem k01 {x : Int32} (h0 : ¬ x < 0) (h1 : x < 2) : x = 0 ∨ x = 1 := by
  obtain ⟨k, hk, rfl⟩ := nI_of h0
  rw [show (2 : Int32) = nI 2 from rfl, nlt (by omega) (by omega)] at h1
  rcases (show k = 0 ∨ k = 1 by omega) with rfl | rfl
  · exact Or.inl rfl
  · exact Or.inr rfl
theorem cok (s : St) {o p : Nat} (h : (o = 20 ∧ p = 18) ∨ (o = 22 ∧ p = 18) ∨ (o = 18 ∧ p = 20) ∨ (o = 18 ∧ p = 22)) : ok_X6_copyFrom s o p := by
  rcases h with ⟨rfl, rfl⟩ | ⟨rfl, rfl⟩ | ⟨rfl, rfl⟩ | ⟨rfl, rfl⟩ <;> (unfold ok_X6_copyFrom; decide +kernel)
theorem eq_keep {l : Launch} {G : Geo} {s : St} (h : RI s) (x1 : Int32) : Eqv l G 126 186 [.int x1] s := by
  obtain ⟨b1, b2, b3, b4, b5, k0, k1, z0, z1, s0, s1⟩ := id h
  refine r_X10_keep _ s ⟨fun c => ?_, fun c => ⟨fun c2 => ⟨fun e => ⟨cok s (by decide), ?_⟩, fun e => ⟨cok s (by decide), ?_⟩⟩, fun c2 => ?_⟩⟩
  · exact r_X11_keep _ s ⟨fun _ => ⟨rfl, h⟩, fun q => absurd c (in_iff.mp q).1⟩
  · subst e
    refine r_X11_keep _ _ ⟨fun q => absurd (in_iff.mpr (by decide)) q, fun _ => ⟨by unfold vp_in; decide +kernel, by unfold vp_in; decide +kernel, ?_⟩⟩
    refine at_keep 0 (by decide) ⟨b5.2.2.2.2.2.1, ?_⟩
    refine ⟨b1, b2, b3, b4, b5, ?_, ?_, Or.inr rfl, z1, fun _ => ?_, fun q => ?_⟩
    · exact ⟨fun _ => rfl, fun _ => (kb_set (s.1 0 7) (j := 0) (k := 0) (by decide) (by decide)).mpr (Or.inl rfl)⟩
    · exact ⟨fun q => k1.mp (((kb_set (s.1 0 7) (j := 0) (k := 1) (by decide) (by decide)).mp q).resolve_left (by decide)), fun q => (kb_set (s.1 0 7) (j := 0) (k := 1) (by decide) (by decide)).mpr (Or.inr (k1.mpr q))⟩
    · exact blkM_mv b5 (fun i hi => cp_row (q := 19) (r := 21) hi) (fun k hk => rowW_in (a := 2) (n := 6) hk)
    · exact blkM_mv (s1 q) (fun i hi => rfl) (fun k hk => (rowW_out (a := 2) (n := 6) (j := 10 + k) (Or.inr (by omega))).trans ((sp_k (show 10 + k ≠ 1 by omega)).trans ((sp_k (show 10 + k ≠ 0 by omega)).trans rfl)))
  · have e1 := (k01 c c2).resolve_left e
    subst e1
    refine r_X11_keep _ _ ⟨fun q => absurd (in_iff.mpr (by decide)) q, fun _ => ⟨by unfold vp_in; decide +kernel, by unfold vp_in; decide +kernel, ?_⟩⟩
    refine at_keep 1 (by decide) ⟨b5.2.2.2.2.2.1, ?_⟩
    refine ⟨b1, b2, b3, b4, b5, ?_, ?_, z0, Or.inr rfl, fun q => ?_, fun _ => ?_⟩
    · exact ⟨fun q => k0.mp (((kb_set (s.1 0 7) (j := 1) (k := 0) (by decide) (by decide)).mp q).resolve_left (by decide)), fun q => (kb_set (s.1 0 7) (j := 1) (k := 0) (by decide) (by decide)).mpr (Or.inr (k0.mpr q))⟩
    · exact ⟨fun _ => rfl, fun _ => (kb_set (s.1 0 7) (j := 1) (k := 1) (by decide) (by decide)).mpr (Or.inl rfl)⟩
    · exact blkM_mv (s0 q) (fun i hi => rfl) (fun k hk => (rowW_out (a := 10) (n := 6) (j := 2 + k) (Or.inl (by omega))).trans ((sp_k (show 2 + k ≠ 9 by omega)).trans ((sp_k (show 2 + k ≠ 8 by omega)).trans rfl)))
    · exact blkM_mv b5 (fun i hi => cp_row (q := 19) (r := 23) hi) (fun k hk => rowW_in (a := 10) (n := 6) hk)
  · refine r_X11_keep _ s ⟨fun _ => ⟨rfl, h⟩, fun q => absurd ?_ (in_iff.mp q).2⟩
    rw [i_lt] at c2 ⊢
    have q1 : (1 : Int32).toInt = 1 := rfl
    have q2 : (2 : Int32).toInt = 2 := rfl
    omega
theorem eq_back {l : Launch} {G : Geo} {s : St} (h : RI s) (x1 : Int32) : Eqv l G 127 187 [.int x1] s := by
  obtain ⟨b1, b2, b3, b4, b5, k0, k1, z0, z1, s0, s1⟩ := id h
  refine r_X10_back _ s ⟨fun c => ?_, fun c => ⟨fun c2 => ⟨fun kb => ?_, fun kb => ⟨fun e => ⟨cok s (by decide), ?_⟩, fun e => ⟨cok s (by decide), ?_⟩⟩⟩, fun c2 => ?_⟩⟩
  · exact r_X11_back _ s ⟨fun _ => ⟨rfl, h⟩, fun q => absurd c (in_iff.mp q).1⟩
  · rcases k01 c c2 with rfl | rfl
    · have e0 : s.1 63 0 = 0 := z0.resolve_right (fun q => (k0.mpr q) kb)
      exact r_X11_back _ s ⟨fun q => absurd (in_iff.mpr (by decide)) q, fun _ => ⟨by unfold vp_in; decide +kernel, fun _ => ⟨rfl, h⟩, fun q => absurd e0 q⟩⟩
    · have e0 : s.1 63 1 = 0 := z1.resolve_right (fun q => (k1.mpr q) kb)
      exact r_X11_back _ s ⟨fun q => absurd (in_iff.mpr (by decide)) q, fun _ => ⟨by unfold vp_in; decide +kernel, fun _ => ⟨rfl, h⟩, fun q => absurd e0 q⟩⟩
  · subst e
    have e1 : s.1 63 0 = 1 := k0.mp kb
    have hM := s0 e1
    refine r_X11_back _ _ ⟨fun q => absurd (in_iff.mpr (by decide)) q, fun _ => ⟨by unfold vp_in; decide +kernel, fun q => ?_, fun _ => ⟨by unfold vp_in; decide +kernel, by unfold vp_in; decide +kernel, ?_⟩⟩⟩
    · have q : s.1 63 0 = 0 := q
      rw [e1] at q
      exact absurd q (by decide)
    · refine at_back 0 (by decide) ⟨hM.2.2.2.2.2.1, ?_⟩
      refine ⟨b1, b2, b3, b4, ?_, k0, k1, z0, z1, s0, s1⟩
      exact blkM_mv hM (fun i hi => cp_row (q := 21) (r := 19) hi) (fun k hk => by
        have := rowW_in (f := s.1 60) (a := 0) (n := 6) (g := fun i => s.1 62 (2 + i)) hk
        rw [Nat.zero_add] at this
        exact this)
  · have e9 := (k01 c c2).resolve_left e
    subst e9
    have e1 : s.1 63 1 = 1 := k1.mp kb
    have hM := s1 e1
    refine r_X11_back _ _ ⟨fun q => absurd (in_iff.mpr (by decide)) q, fun _ => ⟨by unfold vp_in; decide +kernel, fun q => ?_, fun _ => ⟨by unfold vp_in; decide +kernel, by unfold vp_in; decide +kernel, ?_⟩⟩⟩
    · have q : s.1 63 1 = 0 := q
      rw [e1] at q
      exact absurd q (by decide)
    · refine at_back 1 (by decide) ⟨hM.2.2.2.2.2.1, ?_⟩
      refine ⟨b1, b2, b3, b4, ?_, k0, k1, z0, z1, s0, s1⟩
      exact blkM_mv hM (fun i hi => cp_row (q := 23) (r := 19) hi) (fun k hk => by
        have := rowW_in (f := s.1 60) (a := 0) (n := 6) (g := fun i => s.1 62 (10 + i)) hk
        rw [Nat.zero_add] at this
        exact this)
  · refine r_X11_back _ s ⟨fun _ => ⟨rfl, h⟩, fun q => absurd ?_ (in_iff.mp q).2⟩
    rw [i_lt] at c2 ⊢
    have q1 : (1 : Int32).toInt = 1 := rfl
    have q2 : (2 : Int32).toInt = 2 := rfl
    omega
