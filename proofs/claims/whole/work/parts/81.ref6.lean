/-! the reference does its lines -/
def ofr (s t : St) : Prop := (∀ q, q ≠ 51 → q ≠ 52 → q ≠ 53 → q ≠ 54 → q ≠ 55 → t.1 q = s.1 q) ∧ (∀ k, (k ≠ 0 ∧ k ≠ 1 ∧ k ≠ 2 ∧ k ≠ 4 ∧ k ≠ 8) → t.1 51 k = s.1 51 k) ∧ (∀ j, 5 ≤ j → t.1 52 j = s.1 52 j) ∧ (∀ j, 12 ≤ j → t.1 53 j = s.1 53 j) ∧ (∀ j, 12 ≤ j → t.1 54 j = s.1 54 j) ∧ ∀ j, 120 ≤ j → t.1 55 j = s.1 55 j
theorem ofr_r (s : St) : ofr s s := ⟨fun _ _ _ _ _ _ => rfl, fun _ _ => rfl, fun _ _ => rfl, fun _ _ => rfl, fun _ _ => rfl, fun _ _ => rfl⟩
theorem ofr_t {s t u : St} (h1 : ofr s t) (h2 : ofr t u) : ofr s u := ⟨fun q a b c d e => (h2.1 q a b c d e).trans (h1.1 q a b c d e), fun k hk => (h2.2.1 k hk).trans (h1.2.1 k hk), fun j hj => (h2.2.2.1 j hj).trans (h1.2.2.1 j hj), fun j hj => (h2.2.2.2.1 j hj).trans (h1.2.2.2.1 j hj), fun j hj => (h2.2.2.2.2.1 j hj).trans (h1.2.2.2.2.1 j hj), fun j hj => (h2.2.2.2.2.2 j hj).trans (h1.2.2.2.2.2 j hj)⟩
theorem ofr_p {s t : St} {q k : Nat} {v : Int32} (h : ofr s t) (hq : (q = 52 ∧ k < 5) ∨ (q = 53 ∧ k < 12) ∨ (q = 54 ∧ k < 12) ∨ (q = 55 ∧ k < 120) ∨ (q = 51 ∧ (k = 0 ∨ k = 1 ∨ k = 2 ∨ k = 4 ∨ k = 8))) : ofr s (sput t q k v) := by
  have e : ∀ a b, ¬ (a = q ∧ b = k) → (sput t q k v).1 a b = t.1 a b := by
    intro a b hab
    show (if a = q ∧ b = k then v else t.1 a b) = t.1 a b
    rw [if_neg hab]
  refine ⟨fun r a b c d f => ?_, fun j hj => ?_, fun j hj => ?_, fun j hj => ?_, fun j hj => ?_, fun j hj => ?_⟩
  · rw [sp_f (by omega)]
    exact h.1 r a b c d f
  · rw [e _ _ (by omega)]
    exact h.2.1 j hj
  · rw [e _ _ (by omega)]
    exact h.2.2.1 j hj
  · rw [e _ _ (by omega)]
    exact h.2.2.2.1 j hj
  · rw [e _ _ (by omega)]
    exact h.2.2.2.2.1 j hj
  · rw [e _ _ (by omega)]
    exact h.2.2.2.2.2 j hj
theorem ofr_tx {c : Nat → Nat} {n : Nat} {s t : St} (h : ofr s t) (hT : txM s c n) : txM t c n := by
  unfold txM
  rw [h.1 56 (by decide) (by decide) (by decide) (by decide) (by decide), h.2.1 9 (by decide)]
  exact hT
theorem ofr_59 {s t : St} (h : ofr s t) : t.1 59 = s.1 59 := h.1 59 (by decide) (by decide) (by decide) (by decide) (by decide)
theorem lnS_f {s t : St} (h : t.1 59 = s.1 59) : ∀ L j, lnS s j L → lnS t j L := by
  intro L
  induction L with
  | nil => intro j _; trivial
  | cons x L ih =>
    obtain ⟨k, a, b⟩ := x
    intro j hl
    refine ⟨?_, ih (j + 1) hl.2⟩
    rw [h]
    exact hl.1
theorem p_addWord {l : Launch} {G : Geo} {d : Nat} {c : Nat → Nat} {n a b : Nat} {D : Dr} (s : St) {Q : St → Prop} (hT : txM s c n) (hD : drM s = D) (hW : wfD D) (h12 : Int32.toNatClampNeg (dN D) < 12) (hbn : b < n) (hl10 : lrow c n b ≤ 10) (h : ∀ t, drM t = app c n D 1 a b → ofr s t → Q t) : DoesV l G (d + 2) 147 [.ref 51, .int (nI a), .int (nI b)] s Q := by
  have h200 := hT.2.1
  obtain ⟨q1, q2, q3, q4, q5, q6, q7, q8, q9⟩ := drM_len hD
  obtain ⟨eN, hN⟩ := rg_num hW.2.2.1 (by decide)
  have q5' : s.1 51 4 = nI (Int32.toNatClampNeg (dN D)) := by rw [q5]; exact eN
  generalize hNN : Int32.toNatClampNeg (dN D) = N at *
  have hge := eRow_lo (c := c) (n := n) (lo := 97) (hi := 122) b
  have hle := eRow_le (c := c) (n := n) (lo := 97) (hi := 122) (Nat.le_of_lt hbn)
  have hlr : b + lrow c n b = eRow c n 97 122 b := by unfold lrow; omega
  have fin : ∀ k, k = lrow c n b → (vp_in (nI N) 12 ∧ Q (sput (sput (sarr (sput s 53 N (nI a)) 55 (rowW (s.1 55) (10 * N) k (fun i => nI (c (b + i) - 96)))) 54 N (nI k)) 51 4 (nI N + 1))) := by
    intro k hk
    refine ⟨vin h12 (by decide), h _ (drM_mk ⟨q1, q2, q3, q4, ?_, q6, ?_, ?_, ?_⟩) ?_⟩
    · show nI N + 1 = nI (Int32.toNatClampNeg (dN D) + 1)
      rw [hNN, nI_1]
    · show tr 120 (rowW (s.1 55) (10 * N) k (fun i => nI (c (b + i) - 96))) = rowW (dL D) (10 * Int32.toNatClampNeg (dN D)) (lrow c n b) (fun i => nI (c (b + i) - 96))
      rw [tr_rowW (by omega), q7, hNN, hk]
    · show tr 12 ((sput s 54 N (nI k)).1 54) = upd (dZ D) (Int32.toNatClampNeg (dN D)) (nI (lrow c n b))
      rw [← upd_put, tr_upd (by omega), q8, hNN, hk]
    · show tr 12 ((sput s 53 N (nI a)).1 53) = upd (dS D) (Int32.toNatClampNeg (dN D)) (nI a)
      rw [← upd_put, tr_upd (by omega), q9, hNN]
    · refine ofr_p (ofr_p ?_ (by omega)) (by decide)
      have o1 : ofr s (sput s 53 N (nI a)) := ofr_p (ofr_r s) (by omega)
      refine ⟨fun r e1 e2 e3 e4 e5 => ?_, fun j hj => ?_, fun j hj => ?_, fun j hj => ?_, fun j hj => ?_, fun j hj => ?_⟩
      · rw [sa_q e5]
        exact o1.1 r e1 e2 e3 e4 e5
      · rw [sa_q (by decide)]
        exact o1.2.1 j hj
      · rw [sa_q (by decide)]
        exact o1.2.2.1 j hj
      · rw [sa_q (by decide)]
        exact o1.2.2.2.1 j hj
      · rw [sa_q (by decide)]
        exact o1.2.2.2.2.1 j hj
      · rw [sa_s, rowW_out (by omega)]
  have loop : ∀ m k, k + m = lrow c n b → AtA l G (d + 2) sX11_addWord 12 [.ref 51, .int (nI a), .int (nI b), .int (nI k)] [] (sarr (sput s 53 N (nI a)) 55 (rowW (s.1 55) (10 * N) k (fun i => nI (c (b + i) - 96)))) (pV Q) := by
    intro m
    induction m with
    | zero =>
      intro k hk
      have hst := eRow_stop (c := c) (n := n) (lo := 97) (hi := 122) (p := b) (k := k) (by omega)
      have e4 : (sarr (sput s 53 N (nI a)) 55 (rowW (s.1 55) (10 * N) k (fun i => nI (c (b + i) - 96)))).1 51 4 = nI N := q5'
      have e4' : (sput (sarr (sput s 53 N (nI a)) 55 (rowW (s.1 55) (10 * N) k (fun i => nI (c (b + i) - 96)))) 54 N (nI k)).1 51 4 = nI N := q5'
      have e9 : (sarr (sput s 53 N (nI a)) 55 (rowW (s.1 55) (10 * N) k (fun i => nI (c (b + i) - 96)))).1 51 9 = nI n := hT.1
      have e56 : ∀ x, (sarr (sput s 53 N (nI a)) 55 (rowW (s.1 55) (10 * N) k (fun i => nI (c (b + i) - 96)))).1 56 x = nI (c x) := fun x => (hT.2.2 x).1
      have hcc := (hT.2.2 (b + k)).2
      refine r_X11_addWord_12 _ _ _ _ ?_
      rw [e4, e9, nI_add, nnum (by omega), nnum (by omega), e56, e4', show (97 : Int32) = nI 97 from rfl, show (122 : Int32) = nI 122 from rfl, inN (by omega) (by omega) (by omega), nlt (by omega) (by omega)]
      exact ⟨fun z => ⟨vin (show b + k < 200 by omega) (by decide), fun _ => fin k (by omega), fun y => absurd ⟨z, y⟩ hst⟩, fun _ => fin k (by omega)⟩
    | succ m ih =>
      intro k hk
      have hin := eRow_at (c := c) (n := n) (lo := 97) (hi := 122) (p := b) (j := b + k) (by omega) (by omega)
      have e4 : (sarr (sput s 53 N (nI a)) 55 (rowW (s.1 55) (10 * N) k (fun i => nI (c (b + i) - 96)))).1 51 4 = nI N := q5'
      have e9 : (sarr (sput s 53 N (nI a)) 55 (rowW (s.1 55) (10 * N) k (fun i => nI (c (b + i) - 96)))).1 51 9 = nI n := hT.1
      have e56 : ∀ x, (sarr (sput s 53 N (nI a)) 55 (rowW (s.1 55) (10 * N) k (fun i => nI (c (b + i) - 96)))).1 56 x = nI (c x) := fun x => (hT.2.2 x).1
      have hcc := (hT.2.2 (b + k)).2
      refine r_X11_addWord_12 _ _ _ _ ?_
      rw [e9, nI_add, nnum (by omega), e56, show (97 : Int32) = nI 97 from rfl, show (122 : Int32) = nI 122 from rfl, inN (by omega) (by omega) (by omega), nlt (by omega) (by omega)]
      refine ⟨fun z => ⟨vin (show b + k < 200 by omega) (by decide), fun y => absurd hin.2 y, fun _ => ⟨vin (show b + k < 200 by omega) (by decide), ?_⟩⟩, fun z => absurd hin.1 z⟩
      rw [e4, show (10 : Int32) = nI 10 from rfl, pk_mul, nI_add, nnum (by omega), show (96 : Int32) = nI 96 from rfl, pk_sub (by omega), nI_1, sp_sa]
      refine ⟨vin (show 10 * N + k < 120 by omega) (by decide), ?_⟩
      have := ih (k + 1) (by omega)
      rw [← rowW_s] at this
      exact this
  refine r_X11_addWord _ _ s ?_
  rw [q5', nnum (by omega)]
  refine ⟨vin h12 (by decide), ?_⟩
  have := loop _ 0 (Nat.zero_add _)
  rw [rowW_0] at this
  have e2 : sarr (sput s 53 N (nI a)) 55 (s.1 55) = sput s 53 N (nI a) := sa_id (sput s 53 N (nI a)) 55
  rw [e2] at this
  exact this
theorem p_lineM {l : Launch} {G : Geo} {d : Nat} {c : Nat → Nat} {n k a b j : Nat} {x1 : Int32} {D : Dr} (s : St) {Q : St → Prop} (hT : txM s c n) (hD : drM s = D) (hW : wfD D) (hok : okL c n D k a b) (hj : j < 12) (e1 : x1 = nI (3 * j)) (hl : s.1 59 (3 * j) = nI k ∧ (k ≠ 3 → s.1 59 (3 * j + 1) = nI a) ∧ ((k = 1 ∨ k = 2 ∨ k = 4) → s.1 59 (3 * j + 2) = nI b)) (h : ∀ t, drM t = app c n D k a b → ofr s t → Q t) : DoesV l G (d + 3) 148 [.ref 51, .int x1] s Q := by
  subst e1
  obtain ⟨q1, q2, q3, q4, q5, q6, q7, q8, q9⟩ := drM_len hD
  obtain ⟨V, v1, v5, ev⟩ := hW.1
  have nv : Int32.toNatClampNeg (dV D) = V := by rw [ev, nnum (by omega)]
  refine r_X11_doLine _ s ?_
  rw [nI_1, show (2 : Int32) = nI 2 from rfl, nI_add, nnum (by omega), nnum (by omega), nnum (by omega), hl.1]
  refine ⟨vin (show 3 * j + 1 < 36 by omega) (by decide), vin (show 3 * j < 36 by omega) (by decide), ?_⟩
  match k, hok, hl, h with
  | 0, hok, hl, h =>
    refine sw_y (by decide +kernel) ?_
    rw [hl.2.1 (by decide)]
    have loop : ∀ m i, i + m = 5 → AtA l G (d + 3) sX11_doLine 77 [.ref 51, .int (nI (3 * j)), .int (nI a), .int (nI i)] [] (sarr (sput (sput (sput s 51 0 (nI a)) 51 1 0) 51 2 0) 52 (rowW (s.1 52) 0 i (fun _ => 0))) (pV Q) := by
      intro m
      induction m with
      | zero =>
        intro i hi
        have : i = 5 := by omega
        subst this
        refine r_X11_doLine_77 _ _ _ _ ⟨fun z => absurd z (by decide), fun _ => h _ (drM_mk ⟨rfl, rfl, rfl, ?_, q5, q6, q7, q8, q9⟩) ?_⟩
        · show tr 5 (rowW (s.1 52) 0 5 (fun _ => 0)) = fun _ => 0
          funext x
          unfold tr rowW
          by_cases hx : x < 5
          · rw [if_pos hx, if_pos (by omega)]
          · rw [if_neg hx]
        · have o1 : ofr s (sput (sput (sput s 51 0 (nI a)) 51 1 0) 51 2 0) := ofr_p (ofr_p (ofr_p (ofr_r s) (by decide)) (by decide)) (by decide)
          refine ⟨fun r e1 e2 e3 e4 e5 => ?_, fun x hx => ?_, fun x hx => ?_, fun x hx => ?_, fun x hx => ?_, fun x hx => ?_⟩
          · rw [sa_q e2]
            exact o1.1 r e1 e2 e3 e4 e5
          · rw [sa_q (by decide)]
            exact o1.2.1 x hx
          · rw [sa_s, rowW_out (by omega)]
          · rw [sa_q (by decide)]
            exact o1.2.2.2.1 x hx
          · rw [sa_q (by decide)]
            exact o1.2.2.2.2.1 x hx
          · rw [sa_q (by decide)]
            exact o1.2.2.2.2.2 x hx
      | succ m ih =>
        intro i hi
        refine r_X11_doLine_77 _ _ _ _ ⟨fun _ => ⟨vin (show i < 5 by omega) (by decide), ?_⟩, fun z => ?_⟩
        · rw [nnum (by omega), nI_1]
          have := ih (i + 1) (by omega)
          rw [← rowW_s, Nat.zero_add, ← sp_sa] at this
          exact this
        · rw [show (5 : Int32) = nI 5 from rfl, nlt (by omega) (by omega)] at z
          omega
    have := loop 5 0 rfl
    rw [rowW_0] at this
    have e2 : sarr (sput (sput (sput s 51 0 (nI a)) 51 1 0) 51 2 0) 52 (s.1 52) = sput (sput (sput s 51 0 (nI a)) 51 1 0) 51 2 0 := sa_id (sput (sput (sput s 51 0 (nI a)) 51 1 0) 51 2 0) 52
    rw [e2] at this
    exact this
  | 1, hok, hl, h =>
    refine sw_n (by decide +kernel) (sw_y (by decide +kernel) ⟨vin (show 3 * j + 2 < 36 by omega) (by decide), ?_⟩)
    rw [hl.2.1 (by decide), hl.2.2 (by decide)]
    exact p_addWord s hT hD hW hok.1 hok.2.2.1 hok.2.2.2.2 h
  | 2, hok, hl, h =>
    refine sw_n (by decide +kernel) (sw_n (by decide +kernel) (sw_y (by decide +kernel) ⟨vin (show 3 * j + 2 < 36 by omega) (by decide), ?_⟩))
    rw [hl.2.1 (by decide), hl.2.2 (by decide)]
    refine h _ (drM_mk ⟨q1, q2, q3, q4, q5, ?_, q7, q8, q9⟩) (ofr_p (ofr_r s) (by decide))
    show (s.1 51 8) &&& _ = (dF D) &&& _
    rw [q6]
  | 3, hok, hl, h =>
    refine sw_n (by decide +kernel) (sw_n (by decide +kernel) (sw_n (by decide +kernel) (sw_y (by decide +kernel) ?_)))
    exact h _ (drM_mk ⟨q1, q2, q3, q4, rfl, rfl, q7, q8, q9⟩) (ofr_p (ofr_p (ofr_r s) (by decide)) (by decide))
  | 4, hok, hl, h =>
    obtain ⟨ha, hb⟩ := hok
    refine sw_n (by decide +kernel) (sw_n (by decide +kernel) (sw_n (by decide +kernel) (sw_n (by decide +kernel) (sw_y (by decide +kernel) ⟨vin (show 3 * j + 2 < 36 by omega) (by decide), ?_⟩))))
    rw [hl.2.1 (by decide), hl.2.2 (by decide), nnum (by omega)]
    refine ⟨vin (show a < 5 by omega) (by decide), h _ (drM_mk ⟨q1, q2, q3, ?_, q5, q6, q7, q8, q9⟩) (ofr_p (ofr_r s) (by omega))⟩
    show tr 5 ((sput s 52 a (nI b)).1 52) = upd (dT D) _ _
    rw [← upd_put, tr_upd (by omega), q4]
  | 5, hok, hl, h =>
    refine sw_n (by decide +kernel) (sw_n (by decide +kernel) (sw_n (by decide +kernel) (sw_n (by decide +kernel) (sw_n (by decide +kernel) (sw_y (by decide +kernel) ?_)))))
    rw [hl.2.1 (by decide)]
    refine h _ (drM_mk ⟨q1, ?_, q3, q4, q5, q6, q7, q8, q9⟩) (ofr_p (ofr_r s) (by decide))
    show (s.1 51 1) ||| _ = (dA D) ||| _
    rw [q2]
  | 6, hok, hl, h =>
    refine sw_n (by decide +kernel) (sw_n (by decide +kernel) (sw_n (by decide +kernel) (sw_n (by decide +kernel) (sw_n (by decide +kernel) (sw_n (by decide +kernel) (sw_y (by decide +kernel) ?_))))))
    rw [hl.2.1 (by decide)]
    refine h _ (drM_mk ⟨q1, ?_, q3, q4, q5, q6, q7, q8, q9⟩) (ofr_p (ofr_r s) (by decide))
    show (s.1 51 1) &&& _ = (dA D) &&& _
    rw [q2]
  | 7, hok, hl, h =>
    refine sw_n (by decide +kernel) (sw_n (by decide +kernel) (sw_n (by decide +kernel) (sw_n (by decide +kernel) (sw_n (by decide +kernel) (sw_n (by decide +kernel) (sw_n (by decide +kernel) (sw_y (by decide +kernel) ?_)))))))
    rw [hl.2.1 (by decide)]
    refine h _ (drM_mk ⟨q1, q2, ?_, q4, q5, q6, q7, q8, q9⟩) (ofr_p (ofr_r s) (by decide))
    show (s.1 51 2) ||| _ = (dH D) ||| _
    rw [q3]
  | 8, hok, hl, h =>
    refine sw_n (by decide +kernel) (sw_n (by decide +kernel) (sw_n (by decide +kernel) (sw_n (by decide +kernel) (sw_n (by decide +kernel) (sw_n (by decide +kernel) (sw_n (by decide +kernel) (sw_n (by decide +kernel) ?_)))))))
    rw [hl.2.1 (by decide)]
    refine h _ (drM_mk ⟨q1, q2, ?_, q4, q5, q6, q7, q8, q9⟩) (ofr_p (ofr_r s) (by decide))
    show (s.1 51 2) &&& _ = (dH D) &&& _
    rw [q3]
/-- the state behind a text that is done, by the reference -/
def ordM (s : St) : St := sput (sput (sput (sput (sput (sput s 51 9 0) 51 23 0) 51 25 0) 51 26 0) 63 0 0) 63 1 0
theorem p_ordLoop {l : Launch} {G : Geo} {d : Nat} {c : Nat → Nat} {n : Nat} {E : Dr} {Q : Int32 → St → Prop} (hc : ∀ j, c j ≤ 255) : ∀ L i D (s : St), i + L.length ≤ 12 → txM s c n → drM s = D → wfD D → runs c n D L E → lnS s i L → s.1 51 17 = nI (i + L.length) → (∀ t, drM t = E → ofr s t → Q (t.1 51 17) (ordM t)) → AtA l G (d + 7) sX11_order 12 [.ref 51, .int (nI i)] [] s (pI Q) := by
  intro L
  induction L with
  | nil =>
    intro i D s hi hT hD hW hr hS h17 h
    have hi' : i ≤ 12 := hi
    have h17' : s.1 51 17 = nI i := h17
    refine r_X11_order_12 _ s ⟨fun z => ?_, fun _ => ⟨vin (show 0 < 2 by decide) (by decide), vin (show 1 < 2 by decide) (by decide), ?_⟩⟩
    · rw [h17', nlt (by omega) (by omega)] at z
      omega
    · exact h s (hD.trans hr.symm) (ofr_r s)
  | cons x L ih =>
    obtain ⟨k, a, b⟩ := x
    intro i D s hi hT hD hW hr hS h17 h
    rw [List.length_cons] at hi h17
    refine r_X11_order_12 _ s ⟨fun _ => ?_, fun z => ?_⟩
    · refine p_lineM (j := i) s hT hD hW hr.1 (by omega) (by rw [show (3 : Int32) = nI 3 from rfl, pk_mul]) hS.1 (fun t hd ho => ?_)
      rw [nI_1]
      refine ih (i + 1) _ t (by omega) (ofr_tx ho hT) hd (app_wf hW hr.1 hc) hr.2 (lnS_f (ofr_59 ho) L (i + 1) hS.2) ?_ (fun u hu ou => h u hu (ofr_t ho ou))
      rw [ho.2.1 17 (by decide), h17]
      congr 1
      omega
    · rw [h17, nlt (by omega) (by omega)] at z
      omega
