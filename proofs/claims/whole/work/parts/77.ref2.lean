/-! the reference's reading: numbers, words that are told -/
/-- a token was read, nothing else -/
def nfr (s t : St) : Prop := (∀ q, q ≠ 51 → t.1 q = s.1 q) ∧ ∀ k, (k < 11 ∨ 17 ≤ k) → t.1 51 k = s.1 51 k
theorem nfr_t {s t u : St} (h1 : nfr s t) (h2 : nfr t u) : nfr s u := ⟨fun q hq => (h2.1 q hq).trans (h1.1 q hq), fun k hk => (h2.2 k hk).trans (h1.2 k hk)⟩
theorem nfr_tx {c : Nat → Nat} {n : Nat} {s t : St} (h : nfr s t) (hT : txM s c n) : txM t c n := by
  unfold txM
  rw [h.1 56 (by decide), h.2 9 (by decide)]
  exact hT
theorem nfr_ntk (s : St) (b e : Nat) (dg nm : Int32) (t : Int64) : nfr s (ntk s b e dg nm t) := by
  refine ⟨fun q hq => ?_, fun k hk => ?_⟩
  · show (sput (sput (sput (sput s 51 12 (nI b)) 51 14 dg) 51 15 nm) 51 11 (nI e)).1 q = s.1 q
    rw [sp_f hq, sp_f hq, sp_f hq, sp_f hq]
  · show (sput (sput (sput (sput s 51 12 (nI b)) 51 14 dg) 51 15 nm) 51 11 (nI e)).1 51 k = s.1 51 k
    rw [sp_k (by omega), sp_k (by omega), sp_k (by omega), sp_k (by omega)]
theorem nfr_16 {s t : St} {v : Int32} (h : nfr s t) : nfr s (sput t 51 16 v) := ⟨fun q hq => by rw [sp_f hq]; exact h.1 q hq, fun k hk => by rw [sp_k (by omega)]; exact h.2 k hk⟩
theorem fails_1 (s : St) : (f_X11_fails s).1 = 0 := rfl
theorem fails_2 (s : St) : (f_X11_fails s).2 = sput s 51 16 (s.1 51 12) := rfl
theorem p_isNum {l : Launch} {G : Geo} {d : Nat} {c : Nat → Nat} {n p w lo hi : Nat} {x1 x2 x3 : Int32} (s : St) {Q : Int32 → St → Prop} (hT : txM s c n) (hp : s.1 51 11 = nI p) (hn : p ≤ n) (e1 : x1 = nI w) (e2 : x2 = nI lo) (e3 : x3 = nI hi) (hw : w < 36) (hlo : lo < 100) (hhi : hi < 100)
  (h1 : lo ≤ nmv c n p ∧ nmv c n p ≤ hi → ∀ u, nfr s u → u.1 51 11 = nI (nx c n p) → Q 1 (sput u 59 w (nI (nmv c n p))))
  (h0 : ¬ (lo ≤ nmv c n p ∧ nmv c n p ≤ hi) → ∀ u, nfr s u → u.1 51 16 = nI (tB c n p) → Q 0 u) : DoesI l G (d + 3) 139 [.ref 51, .int x1, .int x2, .int x3] s Q := by
  refine r_X11_isNumber _ _ _ s (p_nt s hT hp hn (fun dg nm hnm => ?_))
  have hf := nfr_ntk s (tB c n p) (nx c n p) dg nm (tkv c n p)
  have bad : ¬ (lo ≤ nmv c n p ∧ nmv c n p ≤ hi) → narrow .boolean (.int (f_X11_fails (ntk s (tB c n p) (nx c n p) dg nm (tkv c n p))).1) = .int (f_X11_fails (ntk s (tB c n p) (nx c n p) dg nm (tkv c n p))).1 ∧ Q (f_X11_fails (ntk s (tB c n p) (nx c n p) dg nm (tkv c n p))).1 (f_X11_fails (ntk s (tB c n p) (nx c n p) dg nm (tkv c n p))).2 := by
    intro hb
    rw [fails_1, fails_2]
    exact ⟨rfl, h0 hb _ (nfr_16 hf) rfl⟩
  refine ⟨fun z => ?_, fun z => ?_⟩
  · have z' : lg_cmp (tkv c n p) (-1) = 0 := z
    rw [lg_cmp_eq] at z'
    have hm := hnm z'
    have hle := nmv_le (c := c) (n := n) (p := p)
    have e15 : (ntk s (tB c n p) (nx c n p) dg nm (tkv c n p)).1 51 15 = nI (nmv c n p) := hm
    rw [e15, e2, e3, inN (by omega) (by omega) (by omega)]
    refine ⟨bad, fun y => ?_⟩
    rw [e1, nnum (by omega)]
    exact ⟨vin (show w < 36 from hw) (by decide), h1 y _ hf rfl⟩
  · have z' : ¬ lg_cmp (tkv c n p) (-1) = 0 := z
    rw [lg_cmp_eq] at z'
    refine bad (fun y => ?_)
    rw [nmv_no (fun q => z' (tkv_num.mpr q))] at y
    omega
def rdM (s : St) (D : Dr) : Prop := s.1 51 18 = dV D ∧ s.1 51 19 = dN D ∧ ∀ w, w < Int32.toNatClampNeg (dN D) → s.1 57 w = dZ D w ∧ ∀ i, i < Int32.toNatClampNeg (dZ D w) → s.1 58 (10 * w + i) = dL D (10 * w + i)
theorem rdM_n {s t : St} {D : Dr} (h : nfr s t) (hR : rdM s D) : rdM t D := by
  unfold rdM
  rw [h.1 57 (by decide), h.1 58 (by decide), h.2 18 (by decide), h.2 19 (by decide)]
  exact hR
theorem rdM_59 {s : St} {D : Dr} {w : Nat} {v : Int32} (hR : rdM s D) : rdM (sput s 59 w v) D := hR
theorem p_isVoice {l : Launch} {G : Geo} {d : Nat} {c : Nat → Nat} {n p w : Nat} {x1 : Int32} {D : Dr} (s : St) {Q : Int32 → St → Prop} (hT : txM s c n) (hR : rdM s D) (hW : wfD D) (hp : s.1 51 11 = nI p) (hn : p ≤ n) (e1 : x1 = nI w) (hw : w + 1 < 36)
  (h1 : 0 ≤ nmv c n p ∧ nmv c n p ≤ Int32.toNatClampNeg (dV D) - 1 → ∀ u, nfr s u → u.1 51 11 = nI (nx c n p) → Q 1 (sput u 59 (w + 1) (nI (nmv c n p))))
  (h0 : ¬ (0 ≤ nmv c n p ∧ nmv c n p ≤ Int32.toNatClampNeg (dV D) - 1) → ∀ u, nfr s u → u.1 51 16 = nI (tB c n p) → Q 0 u) : DoesI l G (d + 4) 140 [.ref 51, .int x1] s Q := by
  obtain ⟨V, v1, v5, ev⟩ := hW.1
  have nv : Int32.toNatClampNeg (dV D) = V := by rw [ev, nnum (by omega)]
  refine r_X11_isVoiceRead _ s (p_isNum (lo := 0) (hi := Int32.toNatClampNeg (dV D) - 1) (w := w + 1) s hT hp hn (by rw [e1, nI_1]) rfl (by rw [hR.1, nv, ev, l1, pk_sub v1]) hw (by decide) (by omega) (fun y u g1 g2 => ⟨rfl, h1 y u g1 g2⟩) (fun y u g1 g2 => ⟨rfl, h0 y u g1 g2⟩))
theorem p_toldM {l : Launch} {G : Geo} {d : Nat} {c : Nat → Nat} {n b m : Nat} {D : Dr} (s : St) {Q : Int32 → St → Prop} (hT : txM s c n) (hR : rdM s D) (hW : wfD D) (hb : s.1 51 12 = nI b) (hbm : b + m ≤ n) (hm : m ≤ 10) (hlt : ∀ j, j < m → 97 ≤ c (b + j)) (h : Q (bI (toldD c D b m)) s) : DoesI l G (d + 1) 142 [.ref 51, .int (nI m)] s Q := by
  have h200 := hT.2.1
  obtain ⟨r1, r2, r3⟩ := hR
  obtain ⟨eN, hN⟩ := rg_num hW.2.2.1 (by decide)
  have inner : ∀ (w : Nat), w < Int32.toNatClampNeg (dN D) → ∀ v2 : Int32, (v2 = 0 ∨ v2 = 1) → (∀ v, ((v2 = 1 ∨ spl c D b m w) → v = 1) → (¬ (v2 = 1 ∨ spl c D b m w) → v = 0) → AtA l G (d + 1) sX11_isTold 4 [.ref 51, .int (nI m), .int v, .int (nI (w + 1)), .null, .null] [] s (pI Q)) →
      ∀ f k v4, k + f = m → (v4 = 1 → Int32.toNatClampNeg (dZ D w) = m ∧ ∀ i, i < k → dL D (10 * w + i) = nI (c (b + i) - 96)) → (v4 = 0 → ¬ spl c D b m w) → (v4 = 0 ∨ v4 = 1) → AtA l G (d + 1) sX11_isTold 32 [.ref 51, .int (nI m), .int v2, .int (nI w), .int v4, .int (nI k)] [] s (pI Q) := by
    intro w hw v2 hv2 hQ f
    have ends : ∀ v4 : Int32, (v4 = 1 → spl c D b m w) → (v4 = 0 → ¬ spl c D b m w) → (v4 = 0 ∨ v4 = 1) → ((v2 = 0 → ((v4 = 0 → AtA l G (d + 1) sX11_isTold 4 [.ref 51, .int (nI m), .int 0, .int (nI w + 1), .null, .null] [] s (pI Q)) ∧ (¬ v4 = 0 → AtA l G (d + 1) sX11_isTold 4 [.ref 51, .int (nI m), .int 1, .int (nI w + 1), .null, .null] [] s (pI Q)))) ∧ (¬ v2 = 0 → AtA l G (d + 1) sX11_isTold 4 [.ref 51, .int (nI m), .int 1, .int (nI w + 1), .null, .null] [] s (pI Q))) := by
      intro v4 g1 g0 g
      rw [nI_1]
      refine ⟨fun z => ⟨fun y => hQ 0 (fun q => ?_) (fun _ => rfl), fun y => hQ 1 (fun _ => rfl) (fun q => ?_)⟩, fun z => hQ 1 (fun _ => rfl) (fun q => ?_)⟩
      · rcases q with q | q
        · rw [z] at q
          exact absurd q (by decide)
        · exact absurd q (g0 y)
      · exact absurd (Or.inr (g1 (g.resolve_left y))) q
      · exact absurd (Or.inl (hv2.resolve_left z)) q
    induction f with
    | zero =>
      intro k v4 hk g1 g0 g
      refine r_X11_isTold_32 _ _ _ _ _ s ⟨fun z => ?_, fun _ => ends v4 (fun q => ⟨(g1 q).1, fun i hi => (g1 q).2 i (by omega)⟩) g0 g⟩
      rw [nlt (by omega) (by omega)] at z
      omega
    | succ f ih =>
      intro k v4 hk g1 g0 g
      refine r_X11_isTold_32 _ _ _ _ _ s ⟨fun _ => ⟨fun z => ?_, fun z => ?_⟩, fun z => ?_⟩
      · exact ends v4 (fun q => absurd (z.symm.trans q) (by decide)) g0 g
      · have q1 := g.resolve_left z
        obtain ⟨s1, s2⟩ := g1 q1
        have hc := (hT.2.2 (b + k)).2
        have hc2 := hlt k (by omega)
        rw [hb, show (10 : Int32) = nI 10 from rfl, pk_mul, nI_add, nI_add, nnum (by omega), nnum (by omega), (hT.2.2 (b + k)).1, show (96 : Int32) = nI 96 from rfl, pk_sub (by omega), (r3 w hw).2 k (by omega), nI_1]
        refine ⟨vin (show 10 * w + k < 240 by omega) (by decide), vin (show b + k < 200 by omega) (by decide), fun y => ?_, fun y => ?_⟩
        · refine ih (k + 1) 1 (by omega) (fun _ => ⟨s1, fun i hi => ?_⟩) (fun q => absurd q (by decide)) (Or.inr rfl)
          by_cases e : i = k
          · rw [e, y]
          · exact s2 i (by omega)
        · exact ih (k + 1) 0 (by omega) (fun q => absurd q (by decide)) (fun _ q => y (q.2 k (by omega))) (Or.inl rfl)
      · rw [nlt (by omega) (by omega)] at z
        omega
  have loop : ∀ f k v2, k + f = Int32.toNatClampNeg (dN D) → (v2 = 1 → ∃ w, w < k ∧ spl c D b m w) → (v2 = 0 → ∀ w, w < k → ¬ spl c D b m w) → (v2 = 0 ∨ v2 = 1) → AtA l G (d + 1) sX11_isTold 4 [.ref 51, .int (nI m), .int v2, .int (nI k), .null, .null] [] s (pI Q) := by
    intro f
    induction f with
    | zero =>
      intro k v2 hk g1 g0 g
      refine r_X11_isTold_4 _ _ _ s ⟨fun z => ?_, fun _ => ?_⟩
      · rw [r2, eN, nlt (by omega) (by omega)] at z
        omega
      · rcases g with g | g
        · subst g
          rw [bI_0 (fun y => by
            obtain ⟨w, w1, w2⟩ := y
            exact g0 rfl w (by omega) w2)] at h
          exact ⟨rfl, h⟩
        · subst g
          obtain ⟨w, w1, w2⟩ := g1 rfl
          rw [bI_1 (show toldD c D b m from ⟨w, by omega, w2⟩)] at h
          exact ⟨rfl, h⟩
    | succ f ih =>
      intro k v2 hk g1 g0 g
      obtain ⟨eZ, hZ⟩ := rg_num (hW.2.2.2.1 k) (by decide)
      have inn := inner k (by omega) v2 g (fun v a1 a0 => by
        by_cases q : v2 = 1 ∨ spl c D b m k
        · have ev := a1 q
          refine ih (k + 1) v (by omega) (fun _ => ?_) (fun e => absurd (ev.symm.trans e) (by decide)) (Or.inr ev)
          rcases q with q | q
          · obtain ⟨w, w1, w2⟩ := g1 q
            exact ⟨w, by omega, w2⟩
          · exact ⟨k, by omega, q⟩
        · have ev := a0 q
          refine ih (k + 1) v (by omega) (fun e => absurd (ev.symm.trans e) (by decide)) (fun _ w hw => ?_) (Or.inl ev)
          by_cases e : w = k
          · rw [e]
            exact fun y => q (Or.inr y)
          · exact g0 (g.resolve_right (fun y => q (Or.inl y))) w (by omega)) m 0
      refine r_X11_isTold_4 _ _ _ s ⟨fun _ => ⟨vin (show k < 24 by omega) (by decide), ?_⟩, fun z => ?_⟩
      · rw [nnum (by omega), (r3 k (by omega)).1, eZ]
        refine ⟨fun z => ?_, fun z => ?_⟩
        · rw [neq (by omega) (by omega)] at z
          exact inn 1 (Nat.zero_add _) (fun _ => ⟨z, fun i hi => absurd hi (Nat.not_lt_zero i)⟩) (fun q => absurd q (by decide)) (Or.inr rfl)
        · rw [neq (by omega) (by omega)] at z
          exact inn 0 (Nat.zero_add _) (fun q => absurd q (by decide)) (fun _ q => z q.1) (Or.inl rfl)
      · rw [r2, eN, nlt (by omega) (by omega)] at z
        omega
  exact r_X11_isTold _ s (loop _ 0 0 (Nat.zero_add _) (fun q => absurd q (by decide)) (fun _ w hw => absurd hw (Nat.not_lt_zero w)) (Or.inl rfl))
