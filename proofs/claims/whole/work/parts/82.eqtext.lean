/-! the text is read to its fault, and done: class and reference -/
def mix (m : Nat) (f g : Nat → Int32) : Nat → Int32 := fun j => if j < m then f j else g j
theorem sc_q {s : St} {a b x y n q : Nat} (h : q ≠ b) : (scpy s a x b y n).1 q = s.1 q := by
  funext j
  show (if q = b ∧ y ≤ j ∧ j < y + n then s.1 a (x + (j - y)) else s.1 q j) = s.1 q j
  rw [if_neg (fun z => h z.1)]
theorem sc_e {s : St} {a b m : Nat} {x : Int32} (hx : Int32.toNatClampNeg x = m) : (scpy s a (Int32.toNatClampNeg 0) b (Int32.toNatClampNeg 0) (Int32.toNatClampNeg x)).1 b = mix m (s.1 a) (s.1 b) := by
  funext j
  have h0 : Int32.toNatClampNeg (0 : Int32) = 0 := by decide +kernel
  show (if b = b ∧ Int32.toNatClampNeg (0 : Int32) ≤ j ∧ j < Int32.toNatClampNeg (0 : Int32) + Int32.toNatClampNeg x then s.1 a (Int32.toNatClampNeg (0 : Int32) + (j - Int32.toNatClampNeg (0 : Int32))) else s.1 b j) = if j < m then s.1 a j else s.1 b j
  rw [hx, h0, Nat.zero_add, Nat.zero_add, Nat.sub_zero]
  by_cases h : j < m
  · rw [if_pos h, if_pos ⟨rfl, Nat.zero_le _, h⟩]
  · rw [if_neg h, if_neg (fun z => h z.2.2)]
theorem tr_mix {m : Nat} {f g : Nat → Int32} : tr m (mix m f g) = tr m f := by
  funext j
  unfold tr mix
  by_cases h : j < m
  · rw [if_pos h, if_pos h, if_pos h]
  · rw [if_neg h, if_neg h]
theorem mix_is {m : Nat} {f g h : Nat → Int32} (h1 : tr m h = tr m f) (h2 : ∀ j, m ≤ j → h j = g j) : h = mix m f g := by
  funext j
  unfold mix
  by_cases hj : j < m
  · rw [if_pos hj]
    have := congrFun h1 j
    rw [tr_in hj, tr_in hj] at this
    exact this
  · rw [if_neg hj]
    exact h2 j (by omega)
theorem mix_rg {m k : Nat} {f g h : Nat → Int32} (h1 : tr m f = h) (h2 : ∀ j, rg (h j) k) (h3 : ∀ j, rg (g j) k) : ∀ j, rg (mix m f g j) k := by
  intro j
  unfold mix
  by_cases hj : j < m
  · rw [if_pos hj]
    have := h2 j
    rw [← h1, tr_in hj] at this
    exact this
  · rw [if_neg hj]
    exact h3 j
theorem tr_rg {m k : Nat} {f : Nat → Int32} (h : ∀ j, rg (f j) k) : ∀ j, rg (tr m f j) k := by
  intro j
  unfold tr
  by_cases hj : j < m
  · rw [if_pos hj]
    exact h j
  · rw [if_neg hj]
    exact rg0 _
theorem cpA (s : St) : (g_X8_copyFrom s 10 3).2 = s.2 ∧ (∀ q, (q < 11 ∨ 16 < q) → (g_X8_copyFrom s 10 3).1 q = s.1 q) ∧ (g_X8_copyFrom s 10 3).1 12 = mix 120 (s.1 5) (s.1 12) ∧ (g_X8_copyFrom s 10 3).1 13 = mix 12 (s.1 6) (s.1 13) ∧ (g_X8_copyFrom s 10 3).1 14 = mix 12 (s.1 7) (s.1 14) ∧ (g_X8_copyFrom s 10 3).1 11 3 = s.1 4 3 ∧ (g_X8_copyFrom s 10 3).1 11 4 = s.1 4 4 ∧ (g_X8_copyFrom s 10 3).1 15 1 = s.1 8 1 ∧ (g_X8_copyFrom s 10 3).1 15 2 = s.1 8 2 ∧ (g_X8_copyFrom s 10 3).1 15 3 = s.1 8 3 ∧ (g_X8_copyFrom s 10 3).1 16 = mix 5 (s.1 9) (s.1 16) := by
  unfold g_X8_copyFrom g_X0_copyFrom g_X9_copyFrom
  refine ⟨rfl, fun q hq => ?_, ?_, ?_, ?_, rfl, rfl, rfl, rfl, rfl, ?_⟩
  · rw [sp_f (by omega), sp_f (by omega), sp_f (by omega), sc_q (by omega), sp_f (by omega), sp_f (by omega), sc_q (by omega), sc_q (by omega), sc_q (by omega)]
  · rw [sp_f (by decide), sp_f (by decide), sp_f (by decide), sc_q (by decide), sp_f (by decide), sp_f (by decide), sc_q (by decide), sc_q (by decide)]
    exact sc_e (by decide +kernel)
  · rw [sp_f (by decide), sp_f (by decide), sp_f (by decide), sc_q (by decide), sp_f (by decide), sp_f (by decide), sc_q (by decide)]
    refine (sc_e (m := 12) (by decide +kernel)).trans ?_
    rw [sc_q (by decide), sc_q (by decide)]
  · rw [sp_f (by decide), sp_f (by decide), sp_f (by decide), sc_q (by decide), sp_f (by decide), sp_f (by decide)]
    refine (sc_e (m := 12) (by decide +kernel)).trans ?_
    rw [sc_q (by decide), sc_q (by decide), sc_q (by decide), sc_q (by decide)]
  · rw [sp_f (by decide), sp_f (by decide), sp_f (by decide)]
    refine (sc_e (m := 5) (by decide +kernel)).trans ?_
    rw [sp_f (by decide), sp_f (by decide), sc_q (by decide), sc_q (by decide), sc_q (by decide), sp_f (by decide), sp_f (by decide), sc_q (by decide), sc_q (by decide), sc_q (by decide)]
theorem cpB (s : St) : (g_X8_copyFrom s 3 10).2 = s.2 ∧ (∀ q, (q < 4 ∨ 9 < q) → (g_X8_copyFrom s 3 10).1 q = s.1 q) ∧ (g_X8_copyFrom s 3 10).1 5 = mix 120 (s.1 12) (s.1 5) ∧ (g_X8_copyFrom s 3 10).1 6 = mix 12 (s.1 13) (s.1 6) ∧ (g_X8_copyFrom s 3 10).1 7 = mix 12 (s.1 14) (s.1 7) ∧ (g_X8_copyFrom s 3 10).1 4 3 = s.1 11 3 ∧ (g_X8_copyFrom s 3 10).1 4 4 = s.1 11 4 ∧ (g_X8_copyFrom s 3 10).1 8 1 = s.1 15 1 ∧ (g_X8_copyFrom s 3 10).1 8 2 = s.1 15 2 ∧ (g_X8_copyFrom s 3 10).1 8 3 = s.1 15 3 ∧ (g_X8_copyFrom s 3 10).1 9 = mix 5 (s.1 16) (s.1 9) := by
  unfold g_X8_copyFrom g_X0_copyFrom g_X9_copyFrom
  refine ⟨rfl, fun q hq => ?_, ?_, ?_, ?_, rfl, rfl, rfl, rfl, rfl, ?_⟩
  · rw [sp_f (by omega), sp_f (by omega), sp_f (by omega), sc_q (by omega), sp_f (by omega), sp_f (by omega), sc_q (by omega), sc_q (by omega), sc_q (by omega)]
  · rw [sp_f (by decide), sp_f (by decide), sp_f (by decide), sc_q (by decide), sp_f (by decide), sp_f (by decide), sc_q (by decide), sc_q (by decide)]
    exact sc_e (by decide +kernel)
  · rw [sp_f (by decide), sp_f (by decide), sp_f (by decide), sc_q (by decide), sp_f (by decide), sp_f (by decide), sc_q (by decide)]
    refine (sc_e (m := 12) (by decide +kernel)).trans ?_
    rw [sc_q (by decide), sc_q (by decide)]
  · rw [sp_f (by decide), sp_f (by decide), sp_f (by decide), sc_q (by decide), sp_f (by decide), sp_f (by decide)]
    refine (sc_e (m := 12) (by decide +kernel)).trans ?_
    rw [sc_q (by decide), sc_q (by decide), sc_q (by decide), sc_q (by decide)]
  · rw [sp_f (by decide), sp_f (by decide), sp_f (by decide)]
    refine (sc_e (m := 5) (by decide +kernel)).trans ?_
    rw [sp_f (by decide), sp_f (by decide), sc_q (by decide), sc_q (by decide), sc_q (by decide), sp_f (by decide), sp_f (by decide), sc_q (by decide), sc_q (by decide), sc_q (by decide)]
theorem cokA (s : St) {o p : Nat} (h : (o = 3 ∧ p = 10) ∨ (o = 10 ∧ p = 3)) : ok_X8_copyFrom s o p := by
  rcases h with ⟨rfl, rfl⟩ | ⟨rfl, rfl⟩ <;> (unfold ok_X8_copyFrom ok_X0_copyFrom ok_X9_copyFrom; decide +kernel)
def cOf (s : St) : Nat → Nat := fun j => Int32.toNatClampNeg (s.1 2 j)
theorem ri_tx {s : St} (h : RI s) : tx s (cOf s) (Int32.toNatClampNeg (s.1 1 1)) := by
  obtain ⟨⟨t1, t2, -, -⟩, -⟩ := h
  obtain ⟨e, hl⟩ := rg_num t1 (by decide)
  exact ⟨e, hl, fun j => rg_num (t2 j) (by decide)⟩
theorem ri_txM {s : St} (h : RI s) : txM s (cOf s) (Int32.toNatClampNeg (s.1 1 1)) := by
  have ht := ri_tx h
  obtain ⟨⟨-, -, t3, t4⟩, -⟩ := h
  unfold txM
  rw [t3, t4]
  exact ht
def dr4 (s : St) : Dr := (s.1 8 1, s.1 8 2, s.1 8 3, tr 5 (s.1 9), s.1 4 3, s.1 4 4, tr 120 (s.1 5), tr 12 (s.1 6), tr 12 (s.1 7))
theorem ri_drM {s : St} (h : RI s) : drM s = dr4 s := by
  obtain ⟨-, ⟨-, -, c3, c4, c5, c6⟩, ⟨-, -, -, -, -, w6, w7, w8, w9, w10⟩, -⟩ := h
  unfold drM dr4
  rw [c3, c4, c5, c6, w6, w7, w8, w9, w10]
theorem ri_wf {s : St} (h : RI s) : wfD (dr4 s) := by
  obtain ⟨-, ⟨c1, c2, -⟩, ⟨w1, w2, w3, w4, w5, -⟩, -⟩ := h
  refine ⟨c1, tr_rg c2, w1, tr_rg w2, tr_rg w3, tr_rg w4, ?_⟩
  have hN := (rg_num w1 (by decide)).2
  intro w hw
  have hw' : w < Int32.toNatClampNeg (s.1 4 3) := hw
  have h10 := (rg_num (w2 w) (by decide)).2
  show 1 ≤ Int32.toNatClampNeg (tr 12 (s.1 6) w) ∧ ∀ k, k < Int32.toNatClampNeg (tr 12 (s.1 6) w) → 1 ≤ Int32.toNatClampNeg (tr 120 (s.1 5) (10 * w + k))
  rw [tr_in (by omega)]
  refine ⟨(w5 w hw').1, fun k hk => ?_⟩
  rw [tr_in (by omega)]
  exact (w5 w hw').2 k hk
theorem ri_cfr {s t : St} (h : RI s) (hc : cfr s t) : RI t := by
  unfold RI
  rw [hc.2 0 (by omega), hc.2 1 (by omega), hc.2 2 (by omega), hc.2 4 (by omega), hc.2 5 (by omega), hc.2 6 (by omega), hc.2 7 (by omega), hc.2 8 (by omega), hc.2 9 (by omega), hc.2 18 (by omega), hc.2 19 (by omega), hc.2 20 (by omega), hc.2 21 (by omega), hc.2 22 (by omega), hc.2 23 (by omega), hc.2 24 (by omega), hc.2 25 (by omega), hc.2 51 (by omega), hc.2 52 (by omega), hc.2 53 (by omega), hc.2 54 (by omega), hc.2 55 (by omega), hc.2 56 (by omega), hc.2 60 (by omega), hc.2 61 (by omega), hc.2 62 (by omega), hc.2 63 (by omega)]
  exact h
theorem ri_mfr {s t : St} (h : RI s) (hc : mfr s t) : RI t := by
  unfold RI
  rw [hc.1 0 (by decide) (by decide) (by decide) (by decide), hc.1 1 (by decide) (by decide) (by decide) (by decide), hc.1 2 (by decide) (by decide) (by decide) (by decide), hc.1 4 (by decide) (by decide) (by decide) (by decide), hc.1 5 (by decide) (by decide) (by decide) (by decide), hc.1 6 (by decide) (by decide) (by decide) (by decide), hc.1 7 (by decide) (by decide) (by decide) (by decide), hc.1 8 (by decide) (by decide) (by decide) (by decide), hc.1 9 (by decide) (by decide) (by decide) (by decide), hc.1 18 (by decide) (by decide) (by decide) (by decide), hc.1 19 (by decide) (by decide) (by decide) (by decide), hc.1 20 (by decide) (by decide) (by decide) (by decide), hc.1 21 (by decide) (by decide) (by decide) (by decide), hc.1 22 (by decide) (by decide) (by decide) (by decide), hc.1 23 (by decide) (by decide) (by decide) (by decide), hc.1 24 (by decide) (by decide) (by decide) (by decide), hc.1 25 (by decide) (by decide) (by decide) (by decide), hc.1 52 (by decide) (by decide) (by decide) (by decide), hc.1 53 (by decide) (by decide) (by decide) (by decide), hc.1 54 (by decide) (by decide) (by decide) (by decide), hc.1 55 (by decide) (by decide) (by decide) (by decide), hc.1 56 (by decide) (by decide) (by decide) (by decide), hc.1 60 (by decide) (by decide) (by decide) (by decide), hc.1 61 (by decide) (by decide) (by decide) (by decide), hc.1 62 (by decide) (by decide) (by decide) (by decide), hc.1 63 (by decide) (by decide) (by decide) (by decide), hc.2 0 (by decide), hc.2 1 (by decide), hc.2 2 (by decide), hc.2 4 (by decide), hc.2 8 (by decide), hc.2 9 (by decide), hc.2 23 (by decide), hc.2 25 (by decide), hc.2 26 (by decide)]
  exact h
theorem cpA_cfr (s : St) : cfr s (g_X8_copyFrom s 10 3) := ⟨(cpA s).1, fun q hq => (cpA s).2.1 q (by omega)⟩
theorem cpA_dr (s : St) : drX (g_X8_copyFrom s 10 3) = dr4 s := by
  obtain ⟨-, -, a1, a2, a3, a4, a5, a6, a7, a8, a9⟩ := cpA s
  unfold drX dr4
  rw [a1, a2, a3, a4, a5, a6, a7, a8, a9, tr_mix, tr_mix, tr_mix, tr_mix]
theorem cfr_txM {c : Nat → Nat} {n : Nat} {s t : St} (h : cfr s t) (hT : txM s c n) : txM t c n := by
  unfold txM
  rw [h.2 56 (by omega), h.2 51 (by omega)]
  exact hT
theorem cfr_drM {s t : St} (h : cfr s t) : drM t = drM s := by
  unfold drM
  rw [h.2 51 (by omega), h.2 52 (by omega), h.2 53 (by omega), h.2 54 (by omega), h.2 55 (by omega)]
theorem eq_fault {l : Launch} {G : Geo} {s : St} (h : RI s) : Eqv l G 106 146 [] s := by
  have hW := ri_wf h
  have hc0 := cpA_cfr s
  have second : ∀ t, cfr s t → ∀ r1 : Int32, (∀ f, rd (cOf s) (Int32.toNatClampNeg (s.1 1 1)) 12 0 (dr4 s) = .inl f → r1 = nI f) → (∀ L E, rd (cOf s) (Int32.toNatClampNeg (s.1 1 1)) 12 0 (dr4 s) = .inr (L, E) → r1 = -1) → DoesI l G 20 146 [.ref 51] t (fun r2 s2 => r1 = r2 ∧ RI s2) := by
    intro t ht r1 e1 e2
    refine r_X11_fault (d := 13) t (p_isRead (c := cOf s) (n := Int32.toNatClampNeg (s.1 1 1)) (D := dr4 s) t (cfr_txM ht (ri_txM h)) ((cfr_drM ht).trans (ri_drM h)) hW (fun f u hf g1 g2 => ⟨fun _ => ⟨?_, ri_mfr (ri_cfr h ht) g2⟩, fun z => absurd rfl z⟩) (fun L E u hf g1 g2 g3 => ⟨fun z => absurd z (by decide), fun _ => ⟨e2 L E hf, ri_mfr (ri_cfr h ht) g3⟩⟩))
    rw [g1]
    exact e1 f hf
  refine r_X10_fault (d := 12) s ⟨cokA s (by decide), p_readX (c := cOf s) (n := Int32.toNatClampNeg (s.1 1 1)) (D := dr4 s) _ (cfr_tx hc0 (ri_tx h)) (cpA_dr s) hW (fun f t hf ht => ?_) (fun L E t hf hd hl ht => ?_)⟩
  · refine second t (cfr_t hc0 ht) _ (fun f2 hf2 => ?_) (fun L E hf2 => ?_)
    · rw [hf] at hf2
      rw [Sum.inl.inj hf2]
    · rw [hf] at hf2
      exact absurd hf2 (by simp)
  · refine second t (cfr_t hc0 ht) _ (fun f2 hf2 => ?_) (fun L E hf2 => rfl)
    rw [hf] at hf2
    exact absurd hf2 (by simp)
/-- the state behind a text that is done, by the class -/
noncomputable def ordX (s : St) : St := sput (sput (sput (sput (sput (sput (sput (g_X8_copyFrom s 3 10) 1 1 0) 18 1 0) 18 2 0) 18 3 (-1)) 18 4 0) 24 1 0) 0 7 0
theorem ordX_is (s : St) : sput (f_X7_makeEmpty (g_X6_makeEmpty (f_X4_makeEmpty (g_X8_copyFrom s 3 10)).2 18)).2 0 7 0 = ordX s := rfl
theorem ordX_q (s : St) {q : Nat} (h0 : q ≠ 0) (h1 : q ≠ 1) (h2 : q ≠ 18) (h3 : q ≠ 24) : (ordX s).1 q = (g_X8_copyFrom s 3 10).1 q := by
  unfold ordX
  rw [sp_f h0, sp_f h3, sp_f h2, sp_f h2, sp_f h2, sp_f h2, sp_f h1]
theorem ordM_q (s : St) {q : Nat} (h0 : q ≠ 51) (h1 : q ≠ 63) : (ordM s).1 q = s.1 q := by
  unfold ordM
  rw [sp_f h1, sp_f h1, sp_f h0, sp_f h0, sp_f h0, sp_f h0]
theorem ri_ord {s t u v : St} {E : Dr} (h : RI s) (ht : cfr s t) (hE : drX t = E) (hW : wfD E) (hu : mfr (ordX t) u) (hv : ofr u v) (hM : drM v = E) : RI (ordM v) := by
  obtain ⟨⟨t1, t2, t3, t4⟩, ⟨c1, c2, c3, c4, c5, c6⟩, ⟨w1, w2, w3, w4, w5, w6, w7, w8, w9, w10⟩, ⟨s1, s2, s3, s4⟩, -⟩ := h
  obtain ⟨-, b0, b1, b2, b3, b4, b5, b6, b7, b8, b9⟩ := cpB t
  obtain ⟨x1, x2, x3, x4, x5, x6, x7, x8, x9⟩ := dr_len hE
  obtain ⟨m1, m2, m3, m4, m5, m6, m7, m8, m9⟩ := drM_len hM
  obtain ⟨y1, y2, y3, y4, y5, y6, y7⟩ := hW
  have cl : ∀ q, q ≠ 51 → q ≠ 52 → q ≠ 53 → q ≠ 54 → q ≠ 55 → q ≠ 57 → q ≠ 58 → q ≠ 59 → q ≠ 63 → (ordM v).1 q = (ordX t).1 q := by
    intro q n1 n2 n3 n4 n5 n6 n7 n8 n9
    rw [ordM_q v n1 n9, hv.1 q n1 n2 n3 n4 n5, hu.1 q n1 n6 n7 n8]
  have k5 : (ordM v).1 5 = mix 120 (t.1 12) (s.1 5) := by
    rw [cl 5 (by decide) (by decide) (by decide) (by decide) (by decide) (by decide) (by decide) (by decide) (by decide), ordX_q t (by decide) (by decide) (by decide) (by decide), b1, ht.2 5 (by omega)]
  have k6 : (ordM v).1 6 = mix 12 (t.1 13) (s.1 6) := by
    rw [cl 6 (by decide) (by decide) (by decide) (by decide) (by decide) (by decide) (by decide) (by decide) (by decide), ordX_q t (by decide) (by decide) (by decide) (by decide), b2, ht.2 6 (by omega)]
  have k7 : (ordM v).1 7 = mix 12 (t.1 14) (s.1 7) := by
    rw [cl 7 (by decide) (by decide) (by decide) (by decide) (by decide) (by decide) (by decide) (by decide) (by decide), ordX_q t (by decide) (by decide) (by decide) (by decide), b3, ht.2 7 (by omega)]
  have k9 : (ordM v).1 9 = mix 5 (t.1 16) (s.1 9) := by
    rw [cl 9 (by decide) (by decide) (by decide) (by decide) (by decide) (by decide) (by decide) (by decide) (by decide), ordX_q t (by decide) (by decide) (by decide) (by decide), b9, ht.2 9 (by omega)]
  have k4 : ∀ k, (ordM v).1 4 k = (g_X8_copyFrom t 3 10).1 4 k := fun k => by
    rw [cl 4 (by decide) (by decide) (by decide) (by decide) (by decide) (by decide) (by decide) (by decide) (by decide), ordX_q t (by decide) (by decide) (by decide) (by decide)]
  have k8 : ∀ k, (ordM v).1 8 k = (g_X8_copyFrom t 3 10).1 8 k := fun k => by
    rw [cl 8 (by decide) (by decide) (by decide) (by decide) (by decide) (by decide) (by decide) (by decide) (by decide), ordX_q t (by decide) (by decide) (by decide) (by decide)]
  have far : ∀ q, (q < 4 ∨ 9 < q) → q ≠ 0 → q ≠ 1 → q ≠ 18 → q ≠ 24 → (q < 11 ∨ 17 < q) → (ordX t).1 q = s.1 q := by
    intro q a1 a2 a3 a4 a5 a6
    rw [ordX_q t a2 a3 a4 a5, b0 q a1, ht.2 q a6]
  have k2 : (ordM v).1 2 = s.1 2 := by
    rw [cl 2 (by decide) (by decide) (by decide) (by decide) (by decide) (by decide) (by decide) (by decide) (by decide), far 2 (by omega) (by decide) (by decide) (by decide) (by decide) (by omega)]
  have k25 : (ordM v).1 25 = s.1 25 := by
    rw [cl 25 (by decide) (by decide) (by decide) (by decide) (by decide) (by decide) (by decide) (by decide) (by decide), far 25 (by omega) (by decide) (by decide) (by decide) (by decide) (by omega)]
  have k61 : (ordM v).1 61 = s.1 61 := by
    rw [cl 61 (by decide) (by decide) (by decide) (by decide) (by decide) (by decide) (by decide) (by decide) (by decide), far 61 (by omega) (by decide) (by decide) (by decide) (by decide) (by omega)]
  have k56 : (ordM v).1 56 = s.1 56 := by
    rw [cl 56 (by decide) (by decide) (by decide) (by decide) (by decide) (by decide) (by decide) (by decide) (by decide), far 56 (by omega) (by decide) (by decide) (by decide) (by decide) (by omega)]
  have k52 : (ordM v).1 52 = mix 5 (t.1 16) (s.1 9) := by
    rw [ordM_q v (by decide) (by decide)]
    refine mix_is (by rw [m4, x4]) (fun j hj => ?_)
    rw [hv.2.2.1 j hj, hu.1 52 (by decide) (by decide) (by decide) (by decide), far 52 (by omega) (by decide) (by decide) (by decide) (by decide) (by omega), c6]
  have k53 : (ordM v).1 53 = mix 12 (t.1 14) (s.1 7) := by
    rw [ordM_q v (by decide) (by decide)]
    refine mix_is (by rw [m9, x9]) (fun j hj => ?_)
    rw [hv.2.2.2.1 j hj, hu.1 53 (by decide) (by decide) (by decide) (by decide), far 53 (by omega) (by decide) (by decide) (by decide) (by decide) (by omega), w10]
  have k54 : (ordM v).1 54 = mix 12 (t.1 13) (s.1 6) := by
    rw [ordM_q v (by decide) (by decide)]
    refine mix_is (by rw [m8, x8]) (fun j hj => ?_)
    rw [hv.2.2.2.2.1 j hj, hu.1 54 (by decide) (by decide) (by decide) (by decide), far 54 (by omega) (by decide) (by decide) (by decide) (by decide) (by omega), w9]
  have k55 : (ordM v).1 55 = mix 120 (t.1 12) (s.1 5) := by
    rw [ordM_q v (by decide) (by decide)]
    refine mix_is (by rw [m7, x7]) (fun j hj => ?_)
    rw [hv.2.2.2.2.2 j hj, hu.1 55 (by decide) (by decide) (by decide) (by decide), far 55 (by omega) (by decide) (by decide) (by decide) (by decide) (by omega), w8]
  have z1 : (ordM v).1 1 1 = 0 := by
    rw [cl 1 (by decide) (by decide) (by decide) (by decide) (by decide) (by decide) (by decide) (by decide) (by decide)]
    rfl
  have z24 : (ordM v).1 24 1 = 0 := by
    rw [cl 24 (by decide) (by decide) (by decide) (by decide) (by decide) (by decide) (by decide) (by decide) (by decide)]
    rfl
  have z07 : (ordM v).1 0 7 = 0 := by
    rw [cl 0 (by decide) (by decide) (by decide) (by decide) (by decide) (by decide) (by decide) (by decide) (by decide)]
    rfl
  have z18 : (ordM v).1 18 1 = 0 ∧ (ordM v).1 18 2 = 0 ∧ (ordM v).1 18 3 = -1 ∧ (ordM v).1 18 4 = 0 := by
    rw [cl 18 (by decide) (by decide) (by decide) (by decide) (by decide) (by decide) (by decide) (by decide) (by decide)]
    exact ⟨rfl, rfl, rfl, rfl⟩
  have e9 : (ordM v).1 51 9 = 0 := rfl
  have e23 : (ordM v).1 51 23 = 0 := rfl
  have e25 : (ordM v).1 51 25 = 0 := rfl
  have e26 : (ordM v).1 51 26 = 0 := rfl
  have e630 : (ordM v).1 63 0 = 0 := rfl
  have e631 : (ordM v).1 63 1 = 0 := rfl
  have f0 : (ordM v).1 51 0 = dV E := m1
  have f1 : (ordM v).1 51 1 = dA E := m2
  have f2 : (ordM v).1 51 2 = dH E := m3
  have f4 : (ordM v).1 51 4 = dN E := m5
  have f8 : (ordM v).1 51 8 = dF E := m6
  have g81 : (ordM v).1 8 1 = dV E := by rw [k8, b6, x1]
  have g82 : (ordM v).1 8 2 = dA E := by rw [k8, b7, x2]
  have g83 : (ordM v).1 8 3 = dH E := by rw [k8, b8, x3]
  have g43 : (ordM v).1 4 3 = dN E := by rw [k4, b4, x5]
  have g44 : (ordM v).1 4 4 = dF E := by rw [k4, b5, x6]
  have kb : ∀ k, k < 2 → ¬ kbit 0 k := by
    intro k hk q
    have : k = 0 ∨ k = 1 := by omega
    rcases this with rfl | rfl
    · exact q (by decide +kernel)
    · exact q (by decide +kernel)
  refine ⟨?_, ?_, ?_, ?_, ?_, ?_, ?_, Or.inl e630, Or.inl e631, ?_, ?_⟩
  · rw [z1, e9, k2, k56]
    exact ⟨rg0 _, t2, rfl, t4⟩
  · rw [g81, g82, g83, f0, f1, f2, k9, k52]
    exact ⟨y1, mix_rg x4 y2 c2, rfl, rfl, rfl, rfl⟩
  · rw [g43, g44, f4, f8, k5, k6, k7, k53, k54, k55]
    refine ⟨y3, mix_rg x8 y4 w2, mix_rg x9 y5 w3, mix_rg x7 y6 w4, fun w hw => ?_, rfl, rfl, rfl, rfl, rfl⟩
    have hN := (rg_num y3 (by decide)).2
    have hz := (rg_num (y4 w) (by decide)).2
    have e1 : mix 12 (t.1 13) (s.1 6) w = dZ E w := by
      unfold mix
      rw [if_pos (by omega), ← x8, tr_in (by omega)]
    rw [e1]
    refine ⟨(y7 w hw).1, fun k hk => ?_⟩
    have e2 : mix 120 (t.1 12) (s.1 5) (10 * w + k) = dL E (10 * w + k) := by
      unfold mix
      rw [if_pos (by omega), ← x7, tr_in (by omega)]
    rw [e2]
    exact (y7 w hw).2 k hk
  · rw [z24, e26, k25, k61]
    exact ⟨rg0 _, s2, rfl, s4⟩
  · rw [z18.1, z18.2.1, z18.2.2.1, z18.2.2.2, e23, e25]
    exact blkM0
  · rw [z07, e630]
    exact ⟨fun q => absurd q (kb 0 (by decide)), fun q => absurd q (by decide)⟩
  · rw [z07, e631]
    exact ⟨fun q => absurd q (kb 1 (by decide)), fun q => absurd q (by decide)⟩
  · intro q
    rw [e630] at q
    exact absurd q (by decide)
  · intro q
    rw [e631] at q
    exact absurd q (by decide)
theorem ordX_M {s t : St} (ht : cfr s t) : (∀ q, 51 ≤ q → (ordX t).1 q = s.1 q) := by
  intro q hq
  rw [ordX_q t (by omega) (by omega) (by omega) (by omega), (cpB t).2.1 q (by omega), ht.2 q (by omega)]
theorem eq_order {l : Launch} {G : Geo} {s : St} (h : RI s) : Eqv l G 107 149 [] s := by
  have hW := ri_wf h
  have hc0 := cpA_cfr s
  have hT := ri_txM h
  have hc : ∀ j, cOf s j ≤ 255 := fun j => (hT.2.2 j).2
  have h200 := hT.2.1
  refine r_X10_order (d := 12) s ⟨cokA s (by decide), p_readX (c := cOf s) (n := Int32.toNatClampNeg (s.1 1 1)) (D := dr4 s) _ (cfr_tx hc0 (ri_tx h)) (cpA_dr s) hW (fun f t hf ht => ?_) (fun L E t hf hd hl ht => ?_)⟩
  · have hfn := rd_l hc 12 0 (dr4 s) f (by decide) (Nat.zero_le _) hW hf
    have ht' := cfr_t hc0 ht
    refine ⟨fun z => absurd z (nI_m1 (by omega)), fun _ => ?_⟩
    refine r_X11_order (d := 13) t (p_isRead (c := cOf s) (n := Int32.toNatClampNeg (s.1 1 1)) (D := dr4 s) t (cfr_txM ht' hT) ((cfr_drM ht').trans (ri_drM h)) hW (fun f2 u hf2 g1 g2 => ⟨fun _ => ⟨rfl, ri_mfr (ri_cfr h ht') g2⟩, fun z => absurd rfl z⟩) (fun L E u hf2 g1 g2 g3 => ?_))
    rw [hf] at hf2
    exact absurd hf2 (by simp)
  · have ht' := cfr_t hc0 ht
    obtain ⟨r1, r2, r3⟩ := rd_r hc 12 0 (dr4 s) L E (Nat.zero_le _) hW hf
    refine ⟨fun _ => ⟨cokA t (by decide), ?_⟩, fun z => absurd rfl z⟩
    rw [ordX_is]
    have hX := ordX_M ht'
    have hTX : txM (ordX t) (cOf s) (Int32.toNatClampNeg (s.1 1 1)) := by
      unfold txM
      rw [hX 51 (by decide), hX 56 (by decide)]
      exact hT
    have hDX : drM (ordX t) = dr4 s := by
      unfold drM
      rw [hX 51 (by decide), hX 52 (by decide), hX 53 (by decide), hX 54 (by decide), hX 55 (by decide)]
      exact ri_drM h
    have e17 : v_X3_linesRead (ordX t) = nI L.length := by
      unfold v_X3_linesRead
      rw [ordX_q t (by decide) (by decide) (by decide) (by decide), (cpB t).2.1 17 (by omega)]
      exact hl
    rw [e17]
    refine r_X11_order (d := 13) (ordX t) (p_isRead (c := cOf s) (n := Int32.toNatClampNeg (s.1 1 1)) (D := dr4 s) (ordX t) hTX hDX hW (fun f2 u hf2 g1 g2 => ?_) (fun L2 E2 u hf2 g1 g2 g3 => ⟨fun z => absurd z (by decide), fun _ => ?_⟩))
    · rw [hf] at hf2
      exact absurd hf2 (by simp)
    · rw [hf] at hf2
      have := Sum.inr.inj hf2
      simp only [Prod.mk.injEq] at this
      obtain ⟨rfl, rfl⟩ := this
      refine p_ordLoop (c := cOf s) (n := Int32.toNatClampNeg (s.1 1 1)) (E := E) hc L 0 (dr4 s) u (by omega) (mfr_tx g3 hTX) ((drM_f g3).trans hDX) hW r1 g2 (by rw [g1, Nat.zero_add]) (fun v hv ho => ⟨?_, ri_ord h ht' hd r3 g3 ho hv⟩)
      rw [ho.2.1 17 (by decide), g1]
