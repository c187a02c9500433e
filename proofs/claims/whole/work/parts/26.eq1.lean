/-! equal answers: the plain methods -/
theorem in_iff {s : St} {x a b : Int32} : b_X11_in s x a b ↔ ¬ x < a ∧ ¬ b < x := by
  unfold b_X11_in iP
  constructor
  · intro h
    have h1 : ¬ x < a := fun z => h.1 z
    exact ⟨h1, fun z => (h.2 h1).1 z⟩
  · intro h
    exact ⟨fun z => absurd z h.1, fun _ => ⟨fun z => absurd z h.2, fun _ => trivial⟩⟩
theorem in0_iff {s : St} {x : Int32} {N : Nat} (hN : N < 1000) : b_X11_in s x 0 (nI N - 1) ↔ ∃ w, w < N ∧ x = nI w := by
  rw [in_iff]
  have e : (nI N - 1).toInt = (N : Int) - 1 := pk_sub_toInt (b := 1) (by omega) (by omega)
  constructor
  · rintro ⟨h1, h2⟩
    obtain ⟨k, hk, rfl⟩ := nI_of h1
    rw [i_lt, e, nI_i hk] at h2
    exact ⟨k, by omega, rfl⟩
  · rintro ⟨w, hw, rfl⟩
    refine ⟨nneg w (by omega), ?_⟩
    rw [i_lt, e, nI_i (by omega)]
    omega
theorem has_iff {s : St} {o : Nat} {x : Int32} (hr : rg (s.1 o 3) 12) : b_X9_has s o x ↔ ∃ w, w < Int32.toNatClampNeg (s.1 o 3) ∧ x = nI w := by
  unfold b_X9_has iP
  obtain ⟨e, h⟩ := rg_num hr (by decide)
  constructor
  · intro hh
    have h1 : ¬ x < 0 := fun z => hh.1 z
    have h2 : x < s.1 o 3 := Classical.byContradiction fun z => (hh.2 h1).2 z
    obtain ⟨k, h3, -, h4⟩ := of_lt h1 h2 hr (by decide)
    exact ⟨k, h3, h4⟩
  · rintro ⟨w, hw, rfl⟩
    have h1 : ¬ nI w < 0 := nneg w (by omega)
    have h2 : nI w < s.1 o 3 := by rw [e, nlt (by omega) (by omega)]; exact hw
    exact ⟨fun z => absurd z h1, fun _ => ⟨fun _ => trivial, fun z => absurd h2 z⟩⟩
theorem isw_iff {s : St} (h : RI s) {x : Int32} : b_X11_isWord s x ↔ ∃ w, w < Int32.toNatClampNeg (s.1 4 3) ∧ x = nI w := by
  unfold b_X11_isWord
  obtain ⟨e, hz⟩ := siz4 (ri_wl h)
  rw [h.2.2.1.2.2.2.2.2.1, e, in0_iff (by omega), nnum (by omega)]
theorem w_in {w : Nat} (h : w < 12) : vp_in (nI w) 12 := vin h (by decide)
theorem eq_word {l : Launch} {G : Geo} {s : St} (h : RI s) (x1 x2 : Int32) : Eqv l G 108 150 [.int x1, .int x2] s := by
  have hW := ri_wl h
  obtain ⟨ez, hz⟩ := siz4 hW
  obtain ⟨-, -, ⟨-, -, -, -, -, w6, w7, w8, w9, w10⟩, -⟩ := id h
  have ok1 : ok_X10_word s x1 x2 := fun _ => ⟨fun _ => ok_len (Or.inl rfl) hW _, fun _ => ⟨fun _ => ok_sort (Or.inl rfl) hW _, fun _ _ _ => ok_let (Or.inl rfl) hW _ _⟩⟩
  refine p_X10_word _ _ s ok1 ?_
  by_cases hw : ∃ w, w < Int32.toNatClampNeg (s.1 4 3) ∧ x1 = nI w
  · have hh := (has_iff (o := 4) hW.1).mpr hw
    have hi := (isw_iff h).mpr hw
    obtain ⟨w, hw, rfl⟩ := hw
    obtain ⟨el, hl⟩ := len4 hW w
    have i12 : vp_in (nI w) 12 := w_in (by omega)
    have ok2 : ok_X11_word s (nI w) x2 := by
      refine fun _ => ⟨fun _ => ⟨fun _ => i12, fun _ => i12⟩, fun _ => ⟨fun _ => ⟨fun _ => i12, fun _ => i12⟩, fun _ hin => ⟨i12, fun hlt => ?_⟩⟩⟩
      rw [in_iff] at hin
      rw [nnum (by omega), w9, el] at hlt
      have e10 : (x2 - 10).toInt = x2.toInt - 10 ∧ 10 ≤ x2.toInt := by
        have h1 := hin.1
        have h2 := hin.2
        rw [i_lt] at h1 h2
        have q1 : (10 : Int32).toInt = 10 := rfl
        have q2 : (19 : Int32).toInt = 19 := rfl
        obtain ⟨k, hk, rfl⟩ := nI_of (x := x2) (by rw [i_lt]; show ¬ x2.toInt < 0; omega)
        rw [nI_i hk] at h1 h2 ⊢
        exact ⟨pk_sub_toInt (b := 10) (by omega) (by omega), by omega⟩
      obtain ⟨k, hk, rfl⟩ := nI_of (x := x2) (by rw [i_lt]; show ¬ x2.toInt < 0; omega)
      rw [nI_i hk] at e10
      rw [show (10 : Int32) = nI 10 from rfl, pk_sub (by omega), nlt (by omega) (by omega)] at hlt
      rw [show (10 : Int32) = nI 10 from rfl, pk_mul, nI_add, pk_sub (by omega)]
      exact vin (show 10 * w + k - 10 < 120 by omega) (by decide)
    refine p_X11_word _ _ s ok2 ⟨?_, h⟩
    unfold v_X10_word v_X11_word
    rw [iC_t hh, iC_t hi, nnum (by omega)]
    by_cases c0 : x2 = 0
    · rw [iC_t c0, iC_t c0, iC_t c0, v_len4 hW hw, w9]
    · by_cases c1 : x2 = 1
      · rw [iC_f c0, iC_t c1, iC_f c0, iC_t c1, iC_f c0, v_sort4 hW hw, w10]
      · rw [iC_f c0, iC_f c1, iC_f c0, iC_f c1]
        by_cases c2 : x2 < 10
        · rw [iC_t c2, iC_f (fun q => (in_iff.mp q).1 c2)]
        · by_cases c3 : x2 < 20
          · obtain ⟨k, hk, rfl⟩ := nI_of (x := x2) (by
              rw [i_lt] at c2 ⊢
              have q1 : (10 : Int32).toInt = 10 := rfl
              show ¬ x2.toInt < 0
              omega)
            rw [show (10 : Int32) = nI 10 from rfl, nlt (by omega) (by omega)] at c2
            rw [show (20 : Int32) = nI 20 from rfl, nlt (by omega) (by omega)] at c3
            have hin : b_X11_in s (nI k) 10 19 := in_iff.mpr ⟨by rw [show (10 : Int32) = nI 10 from rfl, nlt (by omega) (by omega)]; exact c2, by rw [show (19 : Int32) = nI 19 from rfl, nlt (by omega) (by omega)]; omega⟩
            rw [iC_f (by rw [show (10 : Int32) = nI 10 from rfl, nlt (by omega) (by omega)]; exact c2), iC_t (by rw [show (20 : Int32) = nI 20 from rfl, nlt (by omega) (by omega)]; exact c3), iC_t hin, show (10 : Int32) = nI 10 from rfl, pk_sub (by omega), pk_mul, nI_add, pk_sub (by omega), nnum (by omega), w9, el, w8]
            by_cases c4 : k - 10 < Int32.toNatClampNeg (s.1 6 w)
            · rw [v_let4 hW hw c4, iC_t ((nlt (by omega) (by omega)).mpr c4), show 10 * w + k - 10 = 10 * w + (k - 10) by omega]
            · rw [v_let4o hW hw (by omega) (by omega), iC_f (fun q => c4 ((nlt (by omega) (by omega)).mp q))]
          · rw [iC_f c2, iC_f c3, iC_f (fun q => c3 (by
              have := (in_iff.mp q).2
              rw [i_lt] at this ⊢
              have q1 : (19 : Int32).toInt = 19 := rfl
              have q2 : (20 : Int32).toInt = 20 := rfl
              omega))]
  · have hh := fun q => hw ((has_iff (o := 4) hW.1).mp q)
    have hi := fun q => hw ((isw_iff h).mp q)
    refine p_X11_word _ _ s (fun q => absurd q hi) ⟨?_, h⟩
    unfold v_X10_word v_X11_word
    rw [iC_f hh, iC_f hi]
theorem eq_fits {l : Launch} {G : Geo} {s : St} (h : RI s) (x1 x2 : Int32) : Eqv l G 118 166 [.int x1, .int x2] s := by
  have hW := ri_wl h
  have hR := ri_rw h
  obtain ⟨ez, hz⟩ := siz4 hW
  obtain ⟨er, hr⟩ := rg_num hR.1 (by decide)
  obtain ⟨-, -, ⟨-, -, -, -, -, w6, w7, w8, w9, w10⟩, ⟨-, -, s3, s4⟩, -⟩ := id h
  have key : ∀ x2 : Int32, ¬ x2 < 0 → ¬ s.1 24 1 < x2 → ∃ f, f ≤ Int32.toNatClampNeg (s.1 24 1) ∧ x2 = nI f := by
    intro x2 c1 c2
    obtain ⟨k, hk, rfl⟩ := nI_of c1
    rw [er, nlt (by omega) (by omega)] at c2
    exact ⟨k, by omega, rfl⟩
  refine p_X10_fits _ _ s (fun q c1 c2 => ⟨hW, hR, (has_iff (o := 4) hW.1).mp q, key x2 c1 c2⟩) ?_
  refine p_X11_fits _ _ s (fun q c => ⟨ri_md h, by rw [w6]; exact (isw_iff h).mp q, by
    rw [s3] at c ⊢
    exact key x2 (in_iff.mp c).1 (in_iff.mp c).2⟩) ⟨?_, h⟩
  have hfit : b_X7_isFitting s x1 x2 ↔ b_X11_doesFit s x1 x2 := by
    unfold b_X7_isFitting b_X11_doesFit
    rw [s3, s4, w8, w9]
  unfold v_X10_fits v_X11_fits
  by_cases hw : ∃ w, w < Int32.toNatClampNeg (s.1 4 3) ∧ x1 = nI w
  · rw [iC_t ((has_iff (o := 4) hW.1).mpr hw), iC_t ((isw_iff h).mpr hw)]
    by_cases c1 : x2 < 0
    · rw [iC_t c1, iC_f (fun q => (in_iff.mp q).1 c1)]
    · by_cases c2 : s.1 24 1 < x2
      · rw [iC_f c1, iC_t (show v_X7_length s < x2 from c2), iC_f (fun q => (in_iff.mp q).2 (by rw [s3]; exact c2))]
      · rw [iC_f c1, iC_f (show ¬ v_X7_length s < x2 from c2), iC_t (in_iff.mpr ⟨c1, by rw [s3]; exact c2⟩)]
        by_cases c3 : b_X7_isFitting s x1 x2
        · rw [iC_t c3, iC_t (hfit.mp c3)]
        · rw [iC_f c3, iC_f (fun q => c3 (hfit.mpr q))]
  · rw [iC_f (fun q => hw ((has_iff (o := 4) hW.1).mp q)), iC_f (fun q => hw ((isw_iff h).mp q))]
theorem tot_eq {s : St} (h : RI s) : v_X11_lettersOf s = s.1 18 1 := by
  obtain ⟨-, -, ⟨-, -, -, -, -, w6, w7, w8, w9, w10⟩, -, ⟨m1, m2, m3, m4, -⟩, -⟩ := h
  unfold v_X11_lettersOf
  rw [w9]
  exact m4.symm
theorem eq_count {l : Launch} {G : Geo} {s : St} (h : RI s) (x1 : Int32) : Eqv l G 128 188 [.int x1] s := by
  refine p_X10_count _ s (p_X11_count _ s (fun _ _ _ _ => ri_sm h) ⟨?_, h⟩)
  have ht := tot_eq h
  obtain ⟨⟨-, -, t3, -⟩, ⟨-, -, c3, -⟩, ⟨-, -, -, -, -, w6, w7, -⟩, ⟨-, -, s3, -⟩, ⟨m1, m2, m3, m4, m5, m6, -⟩, -⟩ := h
  unfold v_X10_count v_X11_count
  rw [ht, c3, w6, w7, s3, t3]
  show iC (x1 = 0) (s.1 8 1) (iC (x1 = 1) (s.1 4 3) (iC (x1 = 2) (s.1 18 2) (iC (x1 = 3) (s.1 18 1) (iC (x1 = 4) (s.1 18 4) (iC (x1 = 5) (s.1 24 1) (iC (x1 = 6) (s.1 1 1) (iC (x1 = 7) (s.1 4 4) (-3)))))))) = _
  rw [m5, m6]
theorem eq_sound {l : Launch} {G : Geo} {s : St} (h : RI s) (x1 : Int32) : Eqv l G 115 162 [.int x1] s := by
  have hR := ri_rw h
  obtain ⟨er, hr⟩ := rg_num hR.1 (by decide)
  obtain ⟨b1, b2, b3, ⟨s1, s2, s3, s4⟩, b5⟩ := id h
  have hful : b_X7_isFull s ↔ Int32.toNatClampNeg (s.1 24 1) = 60 := by
    unfold b_X7_isFull iP
    rw [show (60 : Int32) = nI 60 from rfl, er, nlt (by omega) (by omega), nnum (by omega)]
    constructor
    · intro q
      exact Classical.byContradiction fun z => q.1 (by omega)
    · intro q
      exact ⟨fun z => by omega, fun _ => trivial⟩
  have h60 : s.1 51 26 = 60 ↔ Int32.toNatClampNeg (s.1 24 1) = 60 := by
    rw [s3, er, show (60 : Int32) = nI 60 from rfl, neq (by omega) (by omega), nnum (by omega)]
  have inn : ¬ Int32.toNatClampNeg (s.1 24 1) = 60 → vp_in (s.1 24 1) 60 := fun q => by
    rw [er]
    exact vin (by omega) (by decide)
  refine p_X10_sound _ s (fun _ _ q _ => inn (fun z => q (hful.mpr z))) ?_
  unfold f_X10_sound
  by_cases c1 : x1 < 0
  · rw [iC_t c1]
    refine p_X11_sound _ s (fun q => absurd c1 (in_iff.mp q).1) ?_
    unfold f_X11_sound
    rw [iC_f (fun q => (in_iff.mp q).1 c1)]
    exact ⟨rfl, h⟩
  · by_cases c2 : 26 < x1
    · rw [iC_f c1, iC_t c2]
      refine p_X11_sound _ s (fun q => absurd c2 (in_iff.mp q).2) ?_
      unfold f_X11_sound
      rw [iC_f (fun q => (in_iff.mp q).2 c2)]
      exact ⟨rfl, h⟩
    · rw [iC_f c1, iC_f c2]
      have hin : ∀ s, b_X11_in s x1 0 26 := fun s => in_iff.mpr ⟨c1, c2⟩
      by_cases c3 : Int32.toNatClampNeg (s.1 24 1) = 60
      · rw [iC_t (hful.mpr c3)]
        refine p_X11_sound _ s (fun _ q => absurd (h60.mpr c3) q) ?_
        unfold f_X11_sound
        rw [iC_t (hin s), iC_t (h60.mpr c3)]
        exact ⟨rfl, h⟩
      · rw [iC_f (fun q => c3 (hful.mp q))]
        have hg : g_X7_append s x1 = sput (sput s 25 (Int32.toNatClampNeg (s.1 24 1)) x1) 24 1 (nI (Int32.toNatClampNeg (s.1 24 1) + 1)) := by
          unfold g_X7_append
          rw [iC_f (fun q => c3 (hful.mp q)), sp_q (by decide)]
          conv => lhs; rw [er, nI_1]
          rw [nnum (by omega)]
        rw [hg]
        have q1 : (sput (sput s 25 (Int32.toNatClampNeg (s.1 24 1)) x1) 24 1 (nI (Int32.toNatClampNeg (s.1 24 1) + 1))).1 51 26 = s.1 24 1 := s3
        refine p_X11_sound _ _ (fun _ _ => by rw [q1]; exact inn c3) ?_
        unfold f_X11_sound
        rw [iC_t (hin _), q1, iC_f (fun q => c3 (h60.mp (by rw [s3]; exact q)))]
        have q2 : (sput (sput (sput s 25 (Int32.toNatClampNeg (s.1 24 1)) x1) 24 1 (nI (Int32.toNatClampNeg (s.1 24 1) + 1))) 61 (Int32.toNatClampNeg (s.1 24 1)) x1).1 51 26 = s.1 24 1 := s3
        rw [q2]
        have q3 : s.1 24 1 + 1 = nI (Int32.toNatClampNeg (s.1 24 1) + 1) := by
          conv => lhs; rw [er, nI_1]
        rw [q3]
        refine ⟨rfl, b1, b2, b3, ⟨rg_mk (by omega), ?_, rfl, ?_⟩, b5⟩
        · obtain ⟨k, hk, rfl⟩ := nI_of c1
          rw [show (26 : Int32) = nI 26 from rfl, nlt (by omega) (by omega)] at c2
          show ∀ j, rg ((sput s 25 (Int32.toNatClampNeg (s.1 24 1)) (nI k)).1 25 j) 26
          rw [← upd_put]
          exact upd_rg s2 (rg_mk (by omega))
        · show (sput s 61 (Int32.toNatClampNeg (s.1 24 1)) x1).1 61 = (sput s 25 (Int32.toNatClampNeg (s.1 24 1)) x1).1 25
          rw [← upd_put, ← upd_put, s4]
