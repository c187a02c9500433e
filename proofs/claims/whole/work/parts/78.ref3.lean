/-! the reference's reading: the lines -/
def lfr (s t : St) : Prop := (∀ q, q ≠ 51 → q ≠ 57 → q ≠ 58 → q ≠ 59 → t.1 q = s.1 q) ∧ ∀ k, (k < 11 ∨ k = 17 ∨ 20 ≤ k) → t.1 51 k = s.1 51 k
theorem lfr_r (s : St) : lfr s s := ⟨fun _ _ _ _ _ => rfl, fun _ _ => rfl⟩
theorem lfr_t {s t u : St} (h1 : lfr s t) (h2 : lfr t u) : lfr s u := ⟨fun q a b c d => (h2.1 q a b c d).trans (h1.1 q a b c d), fun k hk => (h2.2 k hk).trans (h1.2 k hk)⟩
theorem lfr_n {s t : St} (h : nfr s t) : lfr s t := ⟨fun q a _ _ _ => h.1 q a, fun k hk => h.2 k (by omega)⟩
theorem lfr_p {s t : St} {q k : Nat} {v : Int32} (h : lfr s t) (hq : q = 57 ∨ q = 58 ∨ q = 59 ∨ (q = 51 ∧ (k = 16 ∨ k = 18 ∨ k = 19))) : lfr s (sput t q k v) := by
  refine ⟨fun r a b c d => ?_, fun j hj => ?_⟩
  · rw [sp_f (by omega)]
    exact h.1 r a b c d
  · have : (sput t q k v).1 51 j = t.1 51 j := by
      show (if 51 = q ∧ j = k then v else t.1 51 j) = t.1 51 j
      rw [if_neg (by omega)]
    rw [this]
    exact h.2 j hj
theorem lfr_a {s t : St} {f : Nat → Int32} (h : lfr s t) : lfr s (sarr t 58 f) := ⟨fun r a b c d => by rw [sa_q c]; exact h.1 r a b c d, fun j hj => by rw [sa_q (by decide)]; exact h.2 j hj⟩
theorem lfr_tx {c : Nat → Nat} {n : Nat} {s t : St} (h : lfr s t) (hT : txM s c n) : txM t c n := by
  unfold txM
  rw [h.1 56 (by decide) (by decide) (by decide) (by decide), h.2 9 (by decide)]
  exact hT
def lnT (s t : St) (j k a b : Nat) : Prop := (∀ i, i ≤ 3 * j → t.1 59 i = s.1 59 i) ∧ (k ≠ 3 → t.1 59 (3 * j + 1) = nI a) ∧ ((k = 1 ∨ k = 2 ∨ k = 4) → t.1 59 (3 * j + 2) = nI b)
theorem put59 (s : St) (w i : Nat) (v : Int32) : (sput s 59 w v).1 59 i = if i = w then v else s.1 59 i := by
  show (if 59 = 59 ∧ i = w then v else s.1 59 i) = _
  by_cases h : i = w
  · rw [if_pos ⟨rfl, h⟩, if_pos h]
  · rw [if_neg (fun q => h q.2), if_neg h]
theorem p_wordL {l : Launch} {G : Geo} {d : Nat} {c : Nat → Nat} {n p j : Nat} {D : Dr} (s : St) {Q : Int32 → St → Prop} (hT : txM s c n) (hR : rdM s D) (hW : wfD D) (hb : s.1 51 12 = nI (tB c n p)) (hp : s.1 51 11 = nI (nx c n p)) (hn : p ≤ n) (hj : j < 12)
  (h0 : ∀ f t, lineK c n D p 1 = .inl f → t.1 51 16 = nI f → lfr s t → Q 0 t)
  (h1 : ∀ k a b p' t, lineK c n D p 1 = .inr (k, a, b, p') → t.1 51 11 = nI p' → rdM t (app c n D k a b) → lfr s t → lnT s t j k a b → Q 1 t) : DoesI l G (d + 4) 143 [.ref 51, .int (nI (3 * j))] s Q := by
  have h200 := hT.2.1
  have hx := nx_le (c := c) hn
  have hx2 := nx_le (c := c) hx
  have hx3 := nx_le (c := c) hx2
  have hb2 := tB_le (c := c) hx2
  have hg2 : tB c n (nx c n (nx c n p)) ≤ nx c n (nx c n (nx c n p)) := nx_ge
  obtain ⟨eN, hN⟩ := rg_num hW.2.2.1 (by decide)
  have hl : lineK c n D p 1 = wordL c n D p := rfl
  rw [hl] at h0 h1
  unfold wordL at h0 h1
  have q12 : s.1 51 19 = 12 ↔ Int32.toNatClampNeg (dN D) = 12 := by
    rw [hR.2.1, eN, show (12 : Int32) = nI 12 from rfl, neq (by omega) (by omega), nnum (by omega)]
  refine r_X11_isWordLine _ s ⟨fun z => ?_, fun z => ?_⟩
  · rw [fails_1, fails_2]
    exact ⟨rfl, h0 _ _ (by rw [if_pos (q12.mp z)]) hb (lfr_p (lfr_r s) (by omega))⟩
  · rw [if_neg (fun y => z (q12.mpr y))] at h0 h1
    refine p_isNum (lo := 0) (hi := 2) (w := 3 * j + 1) s hT hp hx (nI_1 _) rfl rfl (by omega) (by decide) (by decide) (fun hin u g1 g2 => ⟨fun y => absurd y (by decide), fun _ => ?_⟩) (fun hout u g1 g2 => ⟨fun _ => ?_, fun y => absurd rfl y⟩)
    · rw [if_pos hin.2] at h0 h1
      have hTu : txM (sput u 59 (3 * j + 1) (nI (nmv c n (nx c n p)))) c n := (nfr_tx g1 hT : txM u c n)
      have hRu : rdM (sput u 59 (3 * j + 1) (nI (nmv c n (nx c n p)))) D := (rdM_n g1 hR : rdM u D)
      have lfu : lfr s (sput u 59 (3 * j + 1) (nI (nmv c n (nx c n p)))) := lfr_p (lfr_n g1) (by omega)
      have e59 : ∀ i, (sput u 59 (3 * j + 1) (nI (nmv c n (nx c n p)))).1 59 i = if i = 3 * j + 1 then nI (nmv c n (nx c n p)) else s.1 59 i := fun i => by rw [put59, g1.1 59 (by decide)]
      have e11 : (sput u 59 (3 * j + 1) (nI (nmv c n (nx c n p)))).1 51 11 = nI (nx c n (nx c n p)) := g2
      generalize sput u 59 (3 * j + 1) (nI (nmv c n (nx c n p))) = v at *
      generalize hp2 : nx c n (nx c n p) = p2 at *
      refine p_nt v hTu e11 hx2 (fun dg nm _ => ?_)
      have nf := nfr_ntk v (tB c n p2) (nx c n p2) dg nm (tkv c n p2)
      have hTt := nfr_tx nf hTu
      have hRt := rdM_n nf hRu
      have lft : lfr s (ntk v (tB c n p2) (nx c n p2) dg nm (tkv c n p2)) := lfr_t lfu (lfr_n nf)
      have t2 : (ntk v (tB c n p2) (nx c n p2) dg nm (tkv c n p2)).2 = tkv c n p2 := rfl
      have t11 : (ntk v (tB c n p2) (nx c n p2) dg nm (tkv c n p2)).1 51 11 = nI (nx c n p2) := rfl
      have t12 : (ntk v (tB c n p2) (nx c n p2) dg nm (tkv c n p2)).1 51 12 = nI (tB c n p2) := rfl
      have t59 : ∀ i, (ntk v (tB c n p2) (nx c n p2) dg nm (tkv c n p2)).1 59 i = if i = 3 * j + 1 then nI (nmv c n (nx c n p)) else s.1 59 i := e59
      generalize ntk v (tB c n p2) (nx c n p2) dg nm (tkv c n p2) = t at *
      have bad : ¬ wordOK c n D p2 → narrow .boolean (.int (f_X11_fails t).1) = .int (f_X11_fails t).1 ∧ Q (f_X11_fails t).1 (f_X11_fails t).2 := by
        intro hw
        rw [fails_1, fails_2]
        exact ⟨rfl, h0 _ _ (by rw [iC_f hw]) t12 (lfr_p lft (by omega))⟩
      rw [t2, t11, t12, lg_cmp_lt, pk_sub hg2, show (10 : Int32) = nI 10 from rfl, nlt (by omega) (by omega)]
      refine ⟨fun y => bad (fun q => tkv_neg.mpr q.1 y), fun y => ⟨fun w => bad (fun q => by have := q.2.1; omega), fun w => ?_⟩⟩
      have hlet := tkv_neg.mp y
      have hnx : nx c n p2 = eRow c n 97 122 (tB c n p2) := tE_let hlet
      have hgt : tB c n p2 < tE c n (tB c n p2) := tE_gt hlet.1
      have hgt' : tB c n p2 < nx c n p2 := hgt
      have hall : ∀ i, i < nx c n p2 - tB c n p2 → 97 ≤ c (tB c n p2 + i) ∧ c (tB c n p2 + i) ≤ 122 := lets hlet.1 hlet.2
      have hlr : lrow c n (tB c n p2) = nx c n p2 - tB c n p2 := by unfold lrow; omega
      refine p_toldM t hTt hRt hW t12 (by omega) (by omega) (fun i hi => (hall i hi).1) ⟨fun r => ?_, fun r => bad (fun q => q.2.2 (bI_p r))⟩
      have hok : wordOK c n D p2 := ⟨hlet, by omega, bI_n r⟩
      have N12 : Int32.toNatClampNeg (dN D) < 12 := by
        have : ¬ Int32.toNatClampNeg (dN D) = 12 := fun q => z (q12.mpr q)
        omega
      have e19 : (sput t 59 (3 * j + 2) (nI (tB c n p2))).1 51 19 = nI (Int32.toNatClampNeg (dN D)) := by
        show t.1 51 19 = _
        rw [hRt.2.1]
        exact eN
      rw [t12, show (2 : Int32) = nI 2 from rfl, nI_add, nnum (by omega), e19, nnum (by omega)]
      refine ⟨vin (show 3 * j + 2 < 36 by omega) (by decide), vin (show Int32.toNatClampNeg (dN D) < 24 by omega) (by decide), ?_⟩
      generalize hm : nx c n p2 - tB c n p2 = m at *
      generalize hNN : Int32.toNatClampNeg (dN D) = N at *
      have loop : ∀ f k, k + f = m → AtA l G (d + 4) sX11_isWordLine 94 [.ref 51, .int (nI (3 * j)), .int (nI m), .int (nI k)] [] (sarr (sput (sput t 59 (3 * j + 2) (nI (tB c n p2))) 57 N (nI m)) 58 (rowW (t.1 58) (10 * N) k (fun i => nI (c (tB c n p2 + i) - 96)))) (pI Q) := by
        intro f
        induction f with
        | zero =>
          intro k hk
          have hk2 : k = m := by omega
          subst hk2
          refine r_X11_isWordLine_94 _ _ _ _ ⟨fun q => ?_, fun _ => ?_⟩
          · rw [nlt (by omega) (by omega)] at q
            omega
          · have e19' : (sarr (sput (sput t 59 (3 * j + 2) (nI (tB c n p2))) 57 N (nI k)) 58 (rowW (t.1 58) (10 * N) k (fun i => nI (c (tB c n p2 + i) - 96)))).1 51 19 = nI N := e19
            rw [e19', nI_1]
            refine h1 1 _ _ _ _ (by rw [iC_t hok]) t11 ⟨hRt.1, ?_, ?_⟩ (lfr_p (lfr_a (lfr_p (lfr_p lft (by omega)) (by omega))) (by omega)) ⟨?_, ?_, ?_⟩
            · show nI (N + 1) = nI (Int32.toNatClampNeg (dN D) + 1)
              rw [hNN]
            · intro w' hw'
              have hw2 : w' < Int32.toNatClampNeg (nI (Int32.toNatClampNeg (dN D) + 1)) := hw'
              rw [hNN, nnum (by omega)] at hw2
              show (sput t 57 N (nI k)).1 57 w' = upd (dZ D) (Int32.toNatClampNeg (dN D)) (nI (lrow c n (tB c n p2))) w' ∧ ∀ i, i < Int32.toNatClampNeg (upd (dZ D) (Int32.toNatClampNeg (dN D)) (nI (lrow c n (tB c n p2))) w') → rowW (t.1 58) (10 * N) k (fun i => nI (c (tB c n p2 + i) - 96)) (10 * w' + i) = rowW (dL D) (10 * Int32.toNatClampNeg (dN D)) (lrow c n (tB c n p2)) (fun i => nI (c (tB c n p2 + i) - 96)) (10 * w' + i)
              rw [hNN, hlr, ← upd_put]
              by_cases e : w' = N
              · rw [e, pk_us, pk_us, nnum (by omega)]
                exact ⟨rfl, fun i hi => by rw [rowW_in hi, rowW_in hi]⟩
              · rw [pk_un e, pk_un e]
                have h3 := hRt.2.2 w' (by omega)
                have h10 := (rg_num (hW.2.2.2.1 w') (by decide)).2
                exact ⟨h3.1, fun i hi => by rw [rowW_out (by omega), rowW_out (by omega)]; exact h3.2 i hi⟩
            · intro i hi
              show (sput t 59 (3 * j + 2) (nI (tB c n p2))).1 59 i = s.1 59 i
              rw [put59, if_neg (by omega), t59, if_neg (by omega)]
            · intro _
              show (sput t 59 (3 * j + 2) (nI (tB c n p2))).1 59 (3 * j + 1) = _
              rw [put59, if_neg (by omega), t59, if_pos rfl]
            · intro _
              show (sput t 59 (3 * j + 2) (nI (tB c n p2))).1 59 (3 * j + 2) = _
              rw [put59, if_pos rfl]
        | succ f ih =>
          intro k hk
          have hc := hall k (by omega)
          have e12' : (sarr (sput (sput t 59 (3 * j + 2) (nI (tB c n p2))) 57 N (nI m)) 58 (rowW (t.1 58) (10 * N) k (fun i => nI (c (tB c n p2 + i) - 96)))).1 51 12 = nI (tB c n p2) := t12
          have e19' : (sarr (sput (sput t 59 (3 * j + 2) (nI (tB c n p2))) 57 N (nI m)) 58 (rowW (t.1 58) (10 * N) k (fun i => nI (c (tB c n p2 + i) - 96)))).1 51 19 = nI N := e19
          have e56' : (sarr (sput (sput t 59 (3 * j + 2) (nI (tB c n p2))) 57 N (nI m)) 58 (rowW (t.1 58) (10 * N) k (fun i => nI (c (tB c n p2 + i) - 96)))).1 56 (tB c n p2 + k) = nI (c (tB c n p2 + k)) := (hTt.2.2 _).1
          refine r_X11_isWordLine_94 _ _ _ _ ⟨fun _ => ?_, fun q => ?_⟩
          · rw [e12', e19', show (10 : Int32) = nI 10 from rfl, pk_mul, nI_add, nI_add, nnum (by omega), nnum (by omega), e56', show (96 : Int32) = nI 96 from rfl, pk_sub (by omega), nI_1, sp_sa]
            refine ⟨vin (show tB c n p2 + k < 200 by omega) (by decide), vin (show 10 * N + k < 240 by omega) (by decide), ?_⟩
            have := ih (k + 1) (by omega)
            rw [← rowW_s] at this
            exact this
          · rw [nlt (by omega) (by omega)] at q
            omega
      have := loop m 0 (Nat.zero_add _)
      rw [rowW_0] at this
      have e2 : sarr (sput (sput t 59 (3 * j + 2) (nI (tB c n p2))) 57 N (nI m)) 58 (t.1 58) = sput (sput t 59 (3 * j + 2) (nI (tB c n p2))) 57 N (nI m) := sa_id (sput (sput t 59 (3 * j + 2) (nI (tB c n p2))) 57 N (nI m)) 58
      rw [e2] at this
      exact this
    · exact h0 _ _ (by rw [if_neg (fun y => hout ⟨Nat.zero_le _, y⟩)]) g2 (lfr_n g1)
