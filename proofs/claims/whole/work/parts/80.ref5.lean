/-! the reference's reading: to the fault -/
/-- what the reading may change -/
def mfr (s t : St) : Prop := (∀ q, q ≠ 51 → q ≠ 57 → q ≠ 58 → q ≠ 59 → t.1 q = s.1 q) ∧ ∀ k, (k < 11 ∨ 20 ≤ k) → t.1 51 k = s.1 51 k
theorem mfr_r (s : St) : mfr s s := ⟨fun _ _ _ _ _ => rfl, fun _ _ => rfl⟩
theorem mfr_t {s t u : St} (h1 : mfr s t) (h2 : mfr t u) : mfr s u := ⟨fun q a b c d => (h2.1 q a b c d).trans (h1.1 q a b c d), fun k hk => (h2.2 k hk).trans (h1.2 k hk)⟩
theorem mfr_l {s t : St} (h : lfr s t) : mfr s t := ⟨h.1, fun k hk => h.2 k (by omega)⟩
theorem mfr_p {s t : St} {q k : Nat} {v : Int32} (h : mfr s t) (hq : q = 57 ∨ q = 58 ∨ q = 59 ∨ (q = 51 ∧ 11 ≤ k ∧ k < 20)) : mfr s (sput t q k v) := by
  refine ⟨fun r a b c d => ?_, fun j hj => ?_⟩
  · rw [sp_f (by omega)]
    exact h.1 r a b c d
  · have : (sput t q k v).1 51 j = t.1 51 j := by
      show (if 51 = q ∧ j = k then v else t.1 51 j) = t.1 51 j
      rw [if_neg (by omega)]
    rw [this]
    exact h.2 j hj
theorem mfr_tx {c : Nat → Nat} {n : Nat} {s t : St} (h : mfr s t) (hT : txM s c n) : txM t c n := by
  unfold txM
  rw [h.1 56 (by decide) (by decide) (by decide) (by decide), h.2 9 (by decide)]
  exact hT
/-- lines as they stand read, from the j-th on -/
def lnS (t : St) : Nat → List (Nat × Nat × Nat) → Prop
  | _, [] => True
  | j, (k, a, b) :: L => (t.1 59 (3 * j) = nI k ∧ (k ≠ 3 → t.1 59 (3 * j + 1) = nI a) ∧ ((k = 1 ∨ k = 2 ∨ k = 4) → t.1 59 (3 * j + 2) = nI b)) ∧ lnS t (j + 1) L
theorem p_readLoop {l : Launch} {G : Geo} {d : Nat} {c : Nat → Nat} {n : Nat} {Q : Int32 → St → Prop} : ∀ m p j D (s : St), j + m = 12 → 0 < m → p ≤ n → txM s c n → rdM s D → wfD D → s.1 51 11 = nI p → s.1 51 17 = nI j →
      (∀ f t, rd c n m p D = .inl f → t.1 51 16 = nI f → mfr s t → Q 0 t) → (∀ L E t, rd c n m p D = .inr (L, E) → t.1 51 17 = nI (j + L.length) → (∀ i, i < 3 * j → t.1 59 i = s.1 59 i) → lnS t j L → mfr s t → Q 1 t) →
      AtA l G (d + 6) sX11_isRead 92 [.ref 51, .int 1, .null] [] s (pI Q) := by
  intro m
  induction m with
  | zero =>
    intro p j D s _ h
    exact absurd h (Nat.lt_irrefl 0)
  | succ m ih =>
    intro p j D s hjm _ hp hT hR hW h11 h17 h0 h1
    have hc : ∀ i, c i ≤ 255 := fun i => (hT.2.2 i).2
    refine r_X11_isRead_92 _ s ⟨fun z => absurd z (by decide), fun _ => ?_⟩
    refine p_isLine (j := j) s hT hR hW h11 hp (by omega) (by rw [h17, show (3 : Int32) = nI 3 from rfl, pk_mul]) (fun f t hf g1 g2 => ⟨fun _ => h0 f t (rd_bad hf) g1 (mfr_l g2), fun z => absurd rfl z⟩) (fun k a b p' t hf g1 g2 g3 g4 => ⟨fun z => absurd z (by decide), fun _ => ?_⟩)
    obtain ⟨ok, hp'⟩ := lineP_r hp hW hf
    have e17 : t.1 51 17 = nI j := by rw [g3.2 17 (by decide), h17]
    have m1 : mfr s (sput t 51 17 (nI (j + 1))) := mfr_p (mfr_l g3) (by omega)
    have hTt : txM (sput t 51 17 (nI (j + 1))) c n := mfr_tx m1 hT
    have hRt : rdM (sput t 51 17 (nI (j + 1))) (app c n D k a b) := g2
    rw [e17, nI_1]
    refine p_nt (p := p') _ hTt g1 hp' (fun dg nm _ => ?_)
    have nf := nfr_ntk (sput t 51 17 (nI (j + 1))) (tB c n p') (nx c n p') dg nm (tkv c n p')
    have u2 : (ntk (sput t 51 17 (nI (j + 1))) (tB c n p') (nx c n p') dg nm (tkv c n p')).2 = tkv c n p' := rfl
    have u11 : (ntk (sput t 51 17 (nI (j + 1))) (tB c n p') (nx c n p') dg nm (tkv c n p')).1 51 11 = nI (nx c n p') := rfl
    have u12 : (ntk (sput t 51 17 (nI (j + 1))) (tB c n p') (nx c n p') dg nm (tkv c n p')).1 51 12 = nI (tB c n p') := rfl
    have u17 : (ntk (sput t 51 17 (nI (j + 1))) (tB c n p') (nx c n p') dg nm (tkv c n p')).1 51 17 = nI (j + 1) := rfl
    have u59 : (ntk (sput t 51 17 (nI (j + 1))) (tB c n p') (nx c n p') dg nm (tkv c n p')).1 59 = t.1 59 := rfl
    have hTu := nfr_tx nf hTt
    have hRu := rdM_n nf hRt
    have mu := mfr_t m1 (mfr_l (lfr_n nf))
    generalize ntk (sput t 51 17 (nI (j + 1))) (tB c n p') (nx c n p') dg nm (tkv c n p') = u at *
    have stop : (tB c n p' < n → ¬ (c (tB c n p') = 59 ∧ 0 < m)) → AtA l G (d + 6) sX11_isRead 92 [.ref 51, .int 0, .null] [] u (pI Q) := by
      intro hs
      refine r_X11_isRead_92 _ u ⟨fun _ => ?_, fun z => absurd rfl z⟩
      rw [u2, lg_cmp_eq, tkv_fin]
      refine ⟨fun z => ?_, fun z => ?_⟩
      · refine h1 [(k, a, b)] _ u (rd_end hf z) u17 (fun i hi => ?_) ⟨⟨?_, ?_, ?_⟩, trivial⟩ mu
        · rw [u59]
          exact g4.1 i hi
        · rw [u59]
          exact g4.2.1
        · rw [u59]
          exact g4.2.2.1
        · rw [u59]
          exact g4.2.2.2
      · have z' : tB c n p' < n := Classical.byContradiction z
        rw [fails_1, fails_2]
        exact ⟨fun _ => h0 _ _ (rd_oth hf z' (hs z')) u12 (mfr_p mu (by omega)), fun y => absurd rfl y⟩
    rw [u2, lg_cmp_eq, tkv_semi, u17, show (12 : Int32) = nI 12 from rfl, nlt (by omega) (by omega)]
    refine ⟨fun z => ⟨fun y => ?_, fun y => stop (fun _ q => by omega)⟩, fun z => stop (fun q r => z ⟨q, r.1⟩)⟩
    have hm : 0 < m := by omega
    refine ih (nx c n p') (j + 1) _ u (by omega) hm (nx_le hp') hTu hRu (app_wf hW ok hc) u11 u17 (fun f v hf2 g5 g6 => h0 f v (rd_goL hf z.1 ⟨z.2, hm⟩ hf2) g5 (mfr_t mu g6)) (fun L E v hf2 g5 g6 g7 g8 => h1 _ E v (rd_goR hf z.1 ⟨z.2, hm⟩ hf2) (by rw [g5, List.length_cons]; congr 1; omega) (fun i hi => ?_) ⟨⟨?_, ?_, ?_⟩, g7⟩ (mfr_t mu g8))
    · rw [g6 i (by omega), u59]
      exact g4.1 i hi
    · rw [g6 _ (by omega), u59]
      exact g4.2.1
    · rw [g6 _ (by omega), u59]
      exact g4.2.2.1
    · rw [g6 _ (by omega), u59]
      exact g4.2.2.2
/-- what the reference is told -/
def drM (s : St) : Dr := (s.1 51 0, s.1 51 1, s.1 51 2, tr 5 (s.1 52), s.1 51 4, s.1 51 8, tr 120 (s.1 55), tr 12 (s.1 54), tr 12 (s.1 53))
theorem drM_len {s : St} {D : Dr} (hD : drM s = D) : s.1 51 0 = dV D ∧ s.1 51 1 = dA D ∧ s.1 51 2 = dH D ∧ tr 5 (s.1 52) = dT D ∧ s.1 51 4 = dN D ∧ s.1 51 8 = dF D ∧ tr 120 (s.1 55) = dL D ∧ tr 12 (s.1 54) = dZ D ∧ tr 12 (s.1 53) = dS D := by
  subst hD
  exact ⟨rfl, rfl, rfl, rfl, rfl, rfl, rfl, rfl, rfl⟩
theorem drM_mk {s : St} {D : Dr} (h : s.1 51 0 = dV D ∧ s.1 51 1 = dA D ∧ s.1 51 2 = dH D ∧ tr 5 (s.1 52) = dT D ∧ s.1 51 4 = dN D ∧ s.1 51 8 = dF D ∧ tr 120 (s.1 55) = dL D ∧ tr 12 (s.1 54) = dZ D ∧ tr 12 (s.1 53) = dS D) : drM s = D := by
  obtain ⟨h1, h2, h3, h4, h5, h6, h7, h8, h9⟩ := h
  unfold drM
  rw [h1, h2, h3, h4, h5, h6, h7, h8, h9]
  rfl
theorem drM_f {s t : St} (h : mfr s t) : drM t = drM s := by
  unfold drM
  rw [h.2 0 (by decide), h.2 1 (by decide), h.2 2 (by decide), h.2 4 (by decide), h.2 8 (by decide), h.1 52 (by decide) (by decide) (by decide) (by decide), h.1 53 (by decide) (by decide) (by decide) (by decide), h.1 54 (by decide) (by decide) (by decide) (by decide), h.1 55 (by decide) (by decide) (by decide) (by decide)]
theorem p_isRead {l : Launch} {G : Geo} {d : Nat} {c : Nat → Nat} {n : Nat} {D : Dr} (s : St) {Q : Int32 → St → Prop} (hT : txM s c n) (hD : drM s = D) (hW : wfD D)
  (h0 : ∀ f t, rd c n 12 0 D = .inl f → t.1 51 16 = nI f → mfr s t → Q 0 t)
  (h1 : ∀ L E t, rd c n 12 0 D = .inr (L, E) → t.1 51 17 = nI L.length → lnS t 0 L → mfr s t → Q 1 t) : DoesI l G (d + 6) 145 [.ref 51] s Q := by
  obtain ⟨q1, -, -, -, q5, -, q7, q8, -⟩ := drM_len hD
  obtain ⟨eN, hN⟩ := rg_num hW.2.2.1 (by decide)
  have q5' : s.1 51 4 = nI (Int32.toNatClampNeg (dN D)) := by rw [q5]; exact eN
  refine r_X11_isRead s ?_
  have m0 : mfr s (sput (sput (sput (sput s 51 11 0) 51 17 0) 51 18 ((sput (sput s 51 11 0) 51 17 0).1 51 0)) 51 19 ((sput (sput (sput s 51 11 0) 51 17 0) 51 18 ((sput (sput s 51 11 0) 51 17 0).1 51 0)).1 51 4)) := mfr_p (mfr_p (mfr_p (mfr_p (mfr_r s) (by omega)) (by omega)) (by omega)) (by omega)
  have i11 : (sput (sput (sput (sput s 51 11 0) 51 17 0) 51 18 ((sput (sput s 51 11 0) 51 17 0).1 51 0)) 51 19 ((sput (sput (sput s 51 11 0) 51 17 0) 51 18 ((sput (sput s 51 11 0) 51 17 0).1 51 0)).1 51 4)).1 51 11 = nI 0 := rfl
  have i17 : (sput (sput (sput (sput s 51 11 0) 51 17 0) 51 18 ((sput (sput s 51 11 0) 51 17 0).1 51 0)) 51 19 ((sput (sput (sput s 51 11 0) 51 17 0) 51 18 ((sput (sput s 51 11 0) 51 17 0).1 51 0)).1 51 4)).1 51 17 = nI 0 := rfl
  have i18 : (sput (sput (sput (sput s 51 11 0) 51 17 0) 51 18 ((sput (sput s 51 11 0) 51 17 0).1 51 0)) 51 19 ((sput (sput (sput s 51 11 0) 51 17 0) 51 18 ((sput (sput s 51 11 0) 51 17 0).1 51 0)).1 51 4)).1 51 18 = dV D := q1
  have i19 : (sput (sput (sput (sput s 51 11 0) 51 17 0) 51 18 ((sput (sput s 51 11 0) 51 17 0).1 51 0)) 51 19 ((sput (sput (sput s 51 11 0) 51 17 0) 51 18 ((sput (sput s 51 11 0) 51 17 0).1 51 0)).1 51 4)).1 51 19 = dN D := q5
  generalize sput (sput (sput (sput s 51 11 0) 51 17 0) 51 18 ((sput (sput s 51 11 0) 51 17 0).1 51 0)) 51 19 ((sput (sput (sput s 51 11 0) 51 17 0) 51 18 ((sput (sput s 51 11 0) 51 17 0).1 51 0)).1 51 4) = s0 at *
  have fin : ∀ u, mfr s u → u.1 51 11 = nI 0 → u.1 51 17 = nI 0 → u.1 51 18 = dV D → u.1 51 19 = dN D → (∀ w, w < Int32.toNatClampNeg (dN D) → u.1 57 w = dZ D w ∧ ∀ i, i < Int32.toNatClampNeg (dZ D w) → u.1 58 (10 * w + i) = dL D (10 * w + i)) → AtA l G (d + 6) sX11_isRead 92 [.ref 51, .int 1, .null] [] u (pI Q) := by
    intro u hu a1 a2 a3 a4 a5
    refine p_readLoop 12 0 0 D u rfl (by decide) (Nat.zero_le _) (mfr_tx hu hT) ⟨a3, a4, a5⟩ hW a1 a2 (fun f t hf g1 g2 => h0 f t hf g1 (mfr_t hu g2)) (fun L E t hf g1 _ g3 g4 => h1 L E t hf (by rw [g1, Nat.zero_add]) g3 (mfr_t hu g4))
  have loop : ∀ m k u, k + m = Int32.toNatClampNeg (dN D) → mfr s u → u.1 51 11 = nI 0 → u.1 51 17 = nI 0 → u.1 51 18 = dV D → u.1 51 19 = dN D → (∀ w, w < k → u.1 57 w = dZ D w ∧ ∀ i, i < Int32.toNatClampNeg (dZ D w) → u.1 58 (10 * w + i) = dL D (10 * w + i)) → AtA l G (d + 6) sX11_isRead 28 [.ref 51, .int (nI k), .null] [] u (pI Q) := by
    intro m
    induction m with
    | zero =>
      intro k u hk hu a1 a2 a3 a4 a5
      have e4 : u.1 51 4 = nI (Int32.toNatClampNeg (dN D)) := by rw [hu.2 4 (by decide)]; exact q5'
      refine r_X11_isRead_28 _ u ⟨fun z => ?_, fun _ => fin u hu a1 a2 a3 a4 (fun w hw => a5 w (by omega))⟩
      rw [e4, nlt (by omega) (by omega)] at z
      omega
    | succ m ih =>
      intro k u hk hu a1 a2 a3 a4 a5
      have e4 : u.1 51 4 = nI (Int32.toNatClampNeg (dN D)) := by rw [hu.2 4 (by decide)]; exact q5'
      have e54 : u.1 54 k = dZ D k := by
        rw [hu.1 54 (by decide) (by decide) (by decide) (by decide), ← q8, tr_in (by omega)]
      have h10 := (rg_num (hW.2.2.2.1 k) (by decide)).2
      have inner : ∀ f i v, i + f = 10 → mfr s v → v.1 51 11 = nI 0 → v.1 51 17 = nI 0 → v.1 51 18 = dV D → v.1 51 19 = dN D → (∀ w, w < k → v.1 57 w = dZ D w ∧ ∀ i, i < Int32.toNatClampNeg (dZ D w) → v.1 58 (10 * w + i) = dL D (10 * w + i)) → v.1 57 k = dZ D k → (∀ j, j < i → v.1 58 (10 * k + j) = dL D (10 * k + j)) → AtA l G (d + 6) sX11_isRead 50 [.ref 51, .int (nI k), .int (nI i)] [] v (pI Q) := by
        intro f
        induction f with
        | zero =>
          intro i v hi hv b1 b2 b3 b4 b5 b6 b7
          refine r_X11_isRead_50 _ _ v ⟨fun z => ?_, fun _ => ?_⟩
          · rw [show (10 : Int32) = nI 10 from rfl, nlt (by omega) (by omega)] at z
            omega
          · rw [nI_1]
            refine ih (k + 1) v (by omega) hv b1 b2 b3 b4 (fun w hw => ?_)
            by_cases e : w = k
            · rw [e]
              exact ⟨b6, fun j hj => b7 j (by omega)⟩
            · exact b5 w (by omega)
        | succ f ihf =>
          intro i v hi hv b1 b2 b3 b4 b5 b6 b7
          refine r_X11_isRead_50 _ _ v ⟨fun _ => ?_, fun z => ?_⟩
          · rw [show (10 : Int32) = nI 10 from rfl, pk_mul, nI_add, nI_1, nnum (by omega)]
            have e55 : v.1 55 (10 * k + i) = dL D (10 * k + i) := by
              rw [hv.1 55 (by decide) (by decide) (by decide) (by decide), ← q7, tr_in (by omega)]
            have p58 : ∀ x, (sput v 58 (10 * k + i) (v.1 55 (10 * k + i))).1 58 x = if x = 10 * k + i then dL D (10 * k + i) else v.1 58 x := by
              intro x
              by_cases hx : x = 10 * k + i
              · rw [if_pos hx, hx, sp_s, e55]
              · rw [if_neg hx, sp_k hx]
            refine ⟨vin (show 10 * k + i < 120 by omega) (by decide), vin (show 10 * k + i < 240 by omega) (by decide), ihf (i + 1) _ (by omega) (mfr_p hv (by omega)) b1 b2 b3 b4 (fun w hw => ⟨(b5 w hw).1, fun x hx => ?_⟩) b6 (fun x hx => ?_)⟩
            · have w10 := (rg_num (hW.2.2.2.1 w) (by decide)).2
              rw [p58, if_neg (by omega)]
              exact (b5 w hw).2 x hx
            · rw [p58]
              by_cases e : x = i
              · rw [e, if_pos rfl]
              · rw [if_neg (by omega)]
                exact b7 x (by omega)
          · rw [show (10 : Int32) = nI 10 from rfl, nlt (by omega) (by omega)] at z
            omega
      refine r_X11_isRead_28 _ u ⟨fun _ => ⟨vin (show k < 12 by omega) (by decide), vin (show k < 24 by omega) (by decide), ?_⟩, fun z => ?_⟩
      · rw [nnum (by omega), e54]
        have p57 : ∀ x, (sput u 57 k (dZ D k)).1 57 x = if x = k then dZ D k else u.1 57 x := by
          intro x
          by_cases hx : x = k
          · rw [if_pos hx, hx, sp_s]
          · rw [if_neg hx, sp_k hx]
        refine inner 10 0 _ rfl (mfr_p hu (by omega)) a1 a2 a3 a4 (fun w hw => ⟨?_, (a5 w hw).2⟩) ?_ (fun x hx => absurd hx (Nat.not_lt_zero x))
        · rw [p57, if_neg (by omega)]
          exact (a5 w hw).1
        · rw [p57, if_pos rfl]
      · rw [e4, nlt (by omega) (by omega)] at z
        omega
  exact loop _ 0 s0 (Nat.zero_add _) m0 i11 i17 i18 i19 (fun w hw => absurd hw (Nat.not_lt_zero w))
