/-! the reference's reading: a line -/
def fA (T : Int64) : Int32 := if T = 8328978 then 0 else if T = 464134 then 1 else if T = 10631 then 2 else if T = 131360 then 3 else if T = 237470 then 4 else -1
def fB (T : Int64) : Int32 := if T = 36502 then 5 else if T = 161600 then 6 else if T = 122796194 then 7 else if T = 1834209 then 8 else -1
def fK (T : Int64) : Int32 := if fA T = -1 then fB T else fA T
def kI (K : Nat) : Int32 := if K = 9 then -1 else nI K
theorem wtks : lN (wtk 0) = 8328978 ∧ lN (wtk 1) = 464134 ∧ lN (wtk 2) = 10631 ∧ lN (wtk 3) = 131360 ∧ lN (wtk 4) = 36502 ∧ lN (wtk 5) = 161600 ∧ lN (wtk 6) = 122796194 ∧ lN (wtk 7) = 1834209 ∧ lN (wtk 8) = 237470 := by decide +kernel
theorem fKs : fK 8328978 = kI 0 ∧ fK 464134 = kI 1 ∧ fK 10631 = kI 2 ∧ fK 131360 = kI 3 ∧ fK 36502 = kI 5 ∧ fK 161600 = kI 6 ∧ fK 122796194 = kI 7 ∧ fK 1834209 = kI 8 ∧ fK 237470 = kI 4 := by decide +kernel
theorem kd_fK {c : Nat → Nat} {n p : Nat} : fK (tkv c n p) = kI (kd c n p) := by
  obtain ⟨w0, w1, w2, w3, w4, w5, w6, w7, w8⟩ := wtks
  obtain ⟨k0, k1, k2, k3, k4, k5, k6, k7, k8⟩ := fKs
  have t0 := tkv_W (c := c) (n := n) (p := p) (i := 0) (by decide)
  have t1 := tkv_W (c := c) (n := n) (p := p) (i := 1) (by decide)
  have t2 := tkv_W (c := c) (n := n) (p := p) (i := 2) (by decide)
  have t3 := tkv_W (c := c) (n := n) (p := p) (i := 3) (by decide)
  have t4 := tkv_W (c := c) (n := n) (p := p) (i := 4) (by decide)
  have t5 := tkv_W (c := c) (n := n) (p := p) (i := 5) (by decide)
  have t6 := tkv_W (c := c) (n := n) (p := p) (i := 6) (by decide)
  have t7 := tkv_W (c := c) (n := n) (p := p) (i := 7) (by decide)
  have t8 := tkv_W (c := c) (n := n) (p := p) (i := 8) (by decide)
  rw [w0] at t0
  rw [w1] at t1
  rw [w2] at t2
  rw [w3] at t3
  rw [w4] at t4
  rw [w5] at t5
  rw [w6] at t6
  rw [w7] at t7
  rw [w8] at t8
  unfold kd
  by_cases h0 : isW c n p 0
  · rw [t0.mpr h0, iC_t h0, k0]
  rw [iC_f h0]
  by_cases h1 : isW c n p 1
  · rw [t1.mpr h1, iC_t h1, k1]
  rw [iC_f h1]
  by_cases h2 : isW c n p 2
  · rw [t2.mpr h2, iC_t h2, k2]
  rw [iC_f h2]
  by_cases h3 : isW c n p 3
  · rw [t3.mpr h3, iC_t h3, k3]
  rw [iC_f h3]
  by_cases h4 : isW c n p 4
  · rw [t4.mpr h4, iC_t h4, k4]
  rw [iC_f h4]
  by_cases h5 : isW c n p 5
  · rw [t5.mpr h5, iC_t h5, k5]
  rw [iC_f h5]
  by_cases h6 : isW c n p 6
  · rw [t6.mpr h6, iC_t h6, k6]
  rw [iC_f h6]
  by_cases h7 : isW c n p 7
  · rw [t7.mpr h7, iC_t h7, k7]
  rw [iC_f h7]
  by_cases h8 : isW c n p 8
  · rw [t8.mpr h8, iC_t h8, k8]
  rw [iC_f h8]
  have eA : fA (tkv c n p) = -1 := by
    unfold fA
    rw [if_neg (fun e => h0 (t0.mp e)), if_neg (fun e => h1 (t1.mp e)), if_neg (fun e => h2 (t2.mp e)), if_neg (fun e => h3 (t3.mp e)), if_neg (fun e => h8 (t8.mp e))]
  have eB : fB (tkv c n p) = -1 := by
    unfold fB
    rw [if_neg (fun e => h4 (t4.mp e)), if_neg (fun e => h5 (t5.mp e)), if_neg (fun e => h6 (t6.mp e)), if_neg (fun e => h7 (t7.mp e))]
  unfold fK
  rw [if_pos eA, eB]
  rfl
theorem sw_n {P A B : Prop} (h : ¬ P) (b : B) : (P → A) ∧ (¬ P → B) := ⟨fun z => absurd z h, fun _ => b⟩
theorem sw_y {P A B : Prop} (h : P) (a : A) : (P → A) ∧ (¬ P → B) := ⟨fun _ => a, fun z => absurd h z⟩
theorem ln1 {t u : St} {j k a b : Nat} (g : nfr t u) (h : k ≠ 1 ∧ k ≠ 2 ∧ k ≠ 4) : lnT t (sput u 59 (3 * j + 1) (nI a)) j k a b := by
  refine ⟨fun i hi => ?_, fun _ => ?_, fun q => ?_⟩
  · rw [put59, if_neg (by omega), g.1 59 (by decide)]
  · rw [put59, if_pos rfl]
  · omega
theorem ln2 {t u v : St} {j k a b : Nat} (g : nfr t u) (g2 : nfr (sput u 59 (3 * j + 1) (nI a)) v) : lnT t (sput v 59 (3 * j + 2) (nI b)) j k a b := by
  refine ⟨fun i hi => ?_, fun _ => ?_, fun _ => ?_⟩
  · rw [put59, if_neg (by omega), g2.1 59 (by decide), put59, if_neg (by omega), g.1 59 (by decide)]
  · rw [put59, if_neg (by omega), g2.1 59 (by decide), put59, if_pos rfl]
  · rw [put59, if_pos rfl]
theorem p_voiL {l : Launch} {G : Geo} {d : Nat} {c : Nat → Nat} {n p j k : Nat} {D : Dr} (t : St) {Q : Int32 → St → Prop} (hk : 5 ≤ k ∧ k ≤ 8) (hT : txM t c n) (hR : rdM t D) (hW : wfD D) (hp : t.1 51 11 = nI (nx c n p)) (hn : p ≤ n) (hj : j < 12)
  (h0 : ∀ f u, lineK c n D p k = .inl f → u.1 51 16 = nI f → lfr t u → Q 0 u)
  (h1 : ∀ k' a b p' u, lineK c n D p k = .inr (k', a, b, p') → u.1 51 11 = nI p' → rdM u (app c n D k' a b) → lfr t u → lnT t u j k' a b → Q 1 u) : DoesI l G (d + 4) 140 [.ref 51, .int (nI (3 * j))] t (fun r s => narrow .boolean (.int r) = .int r ∧ Q r s) := by
  have hx := nx_le (c := c) hn
  have hl : lineK c n D p k = num1 c n k 0 (Int32.toNatClampNeg (dV D) - 1) (nx c n p) := by
    obtain ⟨a, b⟩ := hk
    rcases (show k = 5 ∨ k = 6 ∨ k = 7 ∨ k = 8 by omega) with rfl | rfl | rfl | rfl <;> rfl
  rw [hl] at h0 h1
  refine p_isVoice (w := 3 * j) t hT hR hW hp hx rfl (by omega) (fun hin u g1 g2 => ⟨rfl, ?_⟩) (fun hout u g1 g2 => ⟨rfl, h0 _ u (num1_out hout) g2 (lfr_n g1)⟩)
  refine h1 _ _ _ _ _ (num1_in hin) g2 ?_ (lfr_p (lfr_n g1) (by omega)) (ln1 g1 (by omega))
  have hr : rdM u D := (rdM_n g1 hR : rdM u D)
  obtain ⟨a, b⟩ := hk
  rcases (show k = 5 ∨ k = 6 ∨ k = 7 ∨ k = 8 by omega) with rfl | rfl | rfl | rfl <;> exact hr
theorem p_162 {l : Launch} {G : Geo} {d : Nat} {c : Nat → Nat} {n p j : Nat} {D : Dr} (K : Nat) (v2 v3 : Int32) (t : St) {Q : Int32 → St → Prop} (hT : txM t c n) (hR : rdM t D) (hW : wfD D) (hb : t.1 51 12 = nI (tB c n p)) (hp : t.1 51 11 = nI (nx c n p)) (hn : p ≤ n) (hj : j < 12) (hK : K ≤ 9) (h59 : t.1 59 (3 * j) = kI K)
  (h0 : ∀ f u, lineK c n D p K = .inl f → u.1 51 16 = nI f → lfr t u → Q 0 u)
  (h1 : ∀ k a b p' u, lineK c n D p K = .inr (k, a, b, p') → u.1 51 11 = nI p' → rdM u (app c n D k a b) → lfr t u → lnT t u j k a b → Q 1 u) : AtA l G (d + 5) sX11_isLine 162 [.ref 51, .int (nI (3 * j)), .int v2, .int v3] [] t (pI Q) := by
  have hx := nx_le (c := c) hn
  have hx2 := nx_le (c := c) hx
  refine r_X11_isLine_162 _ _ _ t ⟨vin (show 3 * j < 36 by omega) (by decide), ?_⟩
  rw [nnum (by omega), h59]
  match K, hK with
  | 0, _ =>
    refine sw_y (by decide +kernel) ?_
    refine r_X11_isOrder _ t (p_isNum (lo := 1) (hi := 5) (w := 3 * j + 1) t hT hp hx (nI_1 _) rfl rfl (by omega) (by decide) (by decide) (fun hin u g1 g2 => ⟨fun y => absurd y (by decide), fun _ => ?_⟩) (fun hout u g1 g2 => ⟨fun _ => ⟨rfl, h0 _ u (num1_out hout) g2 (lfr_n g1)⟩, fun y => absurd rfl y⟩))
    rw [nI_1, nnum (by omega), put59, if_pos rfl]
    refine ⟨vin (show 3 * j + 1 < 36 by omega) (by decide), rfl, h1 0 _ _ _ _ (num1_in hin) g2 ?_ (lfr_p (lfr_p (lfr_n g1) (by omega)) (by omega)) ?_⟩
    · have hr : rdM u D := (rdM_n g1 hR : rdM u D)
      exact ⟨rfl, hr.2.1, hr.2.2⟩
    · exact ln1 (a := nmv c n (nx c n p)) (b := 0) (k := 0) (j := j) g1 (by decide)
  | 1, _ =>
    refine sw_n (by decide +kernel) (sw_y (by decide +kernel) ?_)
    exact p_wordL t hT hR hW hb hp hn hj (fun f u a1 a2 a3 => ⟨rfl, h0 f u a1 a2 a3⟩) (fun k a b p' u a1 a2 a3 a4 a5 => ⟨rfl, h1 k a b p' u a1 a2 a3 a4 a5⟩)
  | 2, _ =>
    refine sw_n (by decide +kernel) (sw_n (by decide +kernel) (sw_y (by decide +kernel) ?_))
    refine p_isNum (lo := 0) (hi := 2) (w := 3 * j + 1) t hT hp hx (nI_1 _) rfl rfl (by omega) (by decide) (by decide) (fun hin u g1 g2 => ⟨fun y => absurd y (by decide), fun _ => ?_⟩) (fun hout u g1 g2 => ⟨fun _ => h0 _ u (num2_o1 (fun z => hout ⟨Nat.zero_le _, z⟩)) g2 (lfr_n g1), fun y => absurd rfl y⟩)
    have hT2 : txM (sput u 59 (3 * j + 1) (nI (nmv c n (nx c n p)))) c n := (nfr_tx g1 hT : txM u c n)
    refine p_isNum (lo := 0) (hi := 2) (w := 3 * j + 2) _ hT2 g2 hx2 (by rw [show (2 : Int32) = nI 2 from rfl, nI_add]) rfl rfl (by omega) (by decide) (by decide) (fun hin2 v e1 e2 => ⟨fun y => absurd y (by decide), fun _ => ?_⟩) (fun hout v e1 e2 => ⟨fun _ => h0 _ v (num2_o2 hin.2 (fun z => hout ⟨Nat.zero_le _, z⟩)) e2 (lfr_t (lfr_p (lfr_n g1) (by omega)) (lfr_n e1)), fun y => absurd rfl y⟩)
    have hr : rdM v D := rdM_n e1 (show rdM u D from rdM_n g1 hR)
    exact h1 2 _ _ _ _ (num2_in hin.2 hin2.2) e2 hr (lfr_p (lfr_t (lfr_p (lfr_n g1) (by omega)) (lfr_n e1)) (by omega)) (ln2 g1 e1)
  | 3, _ =>
    refine sw_n (by decide +kernel) (sw_n (by decide +kernel) (sw_n (by decide +kernel) (sw_y (by decide +kernel) ?_)))
    exact h1 3 0 0 _ _ rfl hp ⟨hR.1, rfl, fun w hw => absurd hw (Nat.not_lt_zero w)⟩ (lfr_p (lfr_r t) (by omega)) ⟨fun _ _ => rfl, fun q => absurd rfl q, fun q => by omega⟩
  | 4, _ =>
    refine sw_n (by decide +kernel) (sw_n (by decide +kernel) (sw_n (by decide +kernel) (sw_n (by decide +kernel) (sw_y (by decide +kernel) ?_))))
    refine p_isVoice (w := 3 * j) t hT hR hW hp hx rfl (by omega) (fun hin u g1 g2 => ⟨fun y => absurd y (by decide), fun _ => ?_⟩) (fun hout u g1 g2 => ⟨fun _ => h0 _ u (num2_o1 (fun z => hout ⟨Nat.zero_le _, z⟩)) g2 (lfr_n g1), fun y => absurd rfl y⟩)
    have hT2 : txM (sput u 59 (3 * j + 1) (nI (nmv c n (nx c n p)))) c n := (nfr_tx g1 hT : txM u c n)
    refine p_isNum (lo := 0) (hi := 3) (w := 3 * j + 2) _ hT2 g2 hx2 (by rw [show (2 : Int32) = nI 2 from rfl, nI_add]) rfl rfl (by omega) (by decide) (by decide) (fun hin2 v e1 e2 => ⟨fun y => absurd y (by decide), fun _ => ?_⟩) (fun hout v e1 e2 => ⟨fun _ => h0 _ v (num2_o2 hin.2 (fun z => hout ⟨Nat.zero_le _, z⟩)) e2 (lfr_t (lfr_p (lfr_n g1) (by omega)) (lfr_n e1)), fun y => absurd rfl y⟩)
    have hr : rdM v D := rdM_n e1 (show rdM u D from rdM_n g1 hR)
    exact h1 4 _ _ _ _ (num2_in hin.2 hin2.2) e2 hr (lfr_p (lfr_t (lfr_p (lfr_n g1) (by omega)) (lfr_n e1)) (by omega)) (ln2 g1 e1)
  | 5, _ =>
    refine sw_n (by decide +kernel) (sw_n (by decide +kernel) (sw_n (by decide +kernel) (sw_n (by decide +kernel) (sw_n (by decide +kernel) (sw_y (by decide +kernel) ?_)))))
    exact p_voiL t (by decide) hT hR hW hp hn hj h0 h1
  | 6, _ =>
    refine sw_n (by decide +kernel) (sw_n (by decide +kernel) (sw_n (by decide +kernel) (sw_n (by decide +kernel) (sw_n (by decide +kernel) (sw_n (by decide +kernel) (sw_y (by decide +kernel) ?_))))))
    exact p_voiL t (by decide) hT hR hW hp hn hj h0 h1
  | 7, _ =>
    refine sw_n (by decide +kernel) (sw_n (by decide +kernel) (sw_n (by decide +kernel) (sw_n (by decide +kernel) (sw_n (by decide +kernel) (sw_n (by decide +kernel) (sw_n (by decide +kernel) (sw_y (by decide +kernel) ?_)))))))
    exact p_voiL t (by decide) hT hR hW hp hn hj h0 h1
  | 8, _ =>
    refine sw_n (by decide +kernel) (sw_n (by decide +kernel) (sw_n (by decide +kernel) (sw_n (by decide +kernel) (sw_n (by decide +kernel) (sw_n (by decide +kernel) (sw_n (by decide +kernel) (sw_n (by decide +kernel) (sw_y (by decide +kernel) ?_))))))))
    exact p_voiL t (by decide) hT hR hW hp hn hj h0 h1
  | 9, _ =>
    refine sw_n (by decide +kernel) (sw_n (by decide +kernel) (sw_n (by decide +kernel) (sw_n (by decide +kernel) (sw_n (by decide +kernel) (sw_n (by decide +kernel) (sw_n (by decide +kernel) (sw_n (by decide +kernel) (sw_n (by decide +kernel) ?_))))))))
    rw [fails_1, fails_2]
    exact ⟨rfl, h0 _ _ rfl hb (lfr_p (lfr_r t) (by omega))⟩
def lnR (s t : St) (j k a b : Nat) : Prop := (∀ i, i < 3 * j → t.1 59 i = s.1 59 i) ∧ t.1 59 (3 * j) = nI k ∧ (k ≠ 3 → t.1 59 (3 * j + 1) = nI a) ∧ ((k = 1 ∨ k = 2 ∨ k = 4) → t.1 59 (3 * j + 2) = nI b)
theorem lineK_k {c : Nat → Nat} {n p K k a b p' : Nat} {D : Dr} (hK : K ≤ 9) (h : lineK c n D p K = .inr (k, a, b, p')) : k = K ∧ K ≠ 9 := by
  match K, hK, h with
  | 0, _, h => exact ⟨(num1_r h).2.1, by decide⟩
  | 1, _, h => exact ⟨(wordL_r h).2.2.2.1, by decide⟩
  | 2, _, h => exact ⟨(num2_r h).2.2.1, by decide⟩
  | 3, _, h =>
    have := Sum.inr.inj h
    simp only [Prod.mk.injEq] at this
    exact ⟨this.1.symm, by decide⟩
  | 4, _, h => exact ⟨(num2_r h).2.2.1, by decide⟩
  | 5, _, h => exact ⟨(num1_r h).2.1, by decide⟩
  | 6, _, h => exact ⟨(num1_r h).2.1, by decide⟩
  | 7, _, h => exact ⟨(num1_r h).2.1, by decide⟩
  | 8, _, h => exact ⟨(num1_r h).2.1, by decide⟩
  | 9, _, h => exact absurd h (by simp [lineK])
theorem p_isLine {l : Launch} {G : Geo} {d : Nat} {c : Nat → Nat} {n p j : Nat} {x1 : Int32} {D : Dr} (s : St) {Q : Int32 → St → Prop} (hT : txM s c n) (hR : rdM s D) (hW : wfD D) (hp : s.1 51 11 = nI p) (hn : p ≤ n) (hj : j < 12) (e1 : x1 = nI (3 * j))
  (h0 : ∀ f t, lineP c n D p = .inl f → t.1 51 16 = nI f → lfr s t → Q 0 t)
  (h1 : ∀ k a b p' t, lineP c n D p = .inr (k, a, b, p') → t.1 51 11 = nI p' → rdM t (app c n D k a b) → lfr s t → lnR s t j k a b → Q 1 t) : DoesI l G (d + 5) 144 [.ref 51, .int x1] s Q := by
  subst e1
  refine r_X11_isLine _ s (p_nt s hT hp hn (fun dg nm _ => ?_))
  have nf := nfr_ntk s (tB c n p) (nx c n p) dg nm (tkv c n p)
  have hTt := nfr_tx nf hT
  have hRt := rdM_n nf hR
  have t2 : (ntk s (tB c n p) (nx c n p) dg nm (tkv c n p)).2 = tkv c n p := rfl
  have t11 : (ntk s (tB c n p) (nx c n p) dg nm (tkv c n p)).1 51 11 = nI (nx c n p) := rfl
  have t12 : (ntk s (tB c n p) (nx c n p) dg nm (tkv c n p)).1 51 12 = nI (tB c n p) := rfl
  generalize ntk s (tB c n p) (nx c n p) dg nm (tkv c n p) = t at *
  have a162 : ∀ v2 v3, AtA l G (d + 5) sX11_isLine 162 [.ref 51, .int (nI (3 * j)), .int v2, .int v3] [] (sput t 59 (3 * j) (fK (tkv c n p))) (pI Q) := by
    intro v2 v3
    have e59 : (sput t 59 (3 * j) (fK (tkv c n p))).1 59 (3 * j) = kI (kd c n p) := by rw [put59, if_pos rfl, kd_fK]
    refine p_162 (kd c n p) v2 v3 _ (show txM (sput t 59 (3 * j) (fK (tkv c n p))) c n from hTt) (show rdM (sput t 59 (3 * j) (fK (tkv c n p))) D from hRt) hW t12 t11 hn hj kd_le e59 (fun f u a1 a2 a3 => h0 f u a1 a2 (lfr_t (lfr_p (lfr_n nf) (by omega)) a3)) (fun k a b p' u a1 a2 a3 a4 a5 => h1 k a b p' u a1 a2 a3 (lfr_t (lfr_p (lfr_n nf) (by omega)) a4) ⟨fun i hi => ?_, ?_, a5.2.1, a5.2.2⟩)
    · rw [a5.1 i (by omega), put59, if_neg (by omega), nf.1 59 (by decide)]
    · obtain ⟨rfl, h9⟩ := lineK_k kd_le a1
      rw [a5.1 _ (Nat.le_refl _), e59]
      unfold kI
      rw [if_neg h9]
  have a146 : ∀ v2 v3, (if v2 = -1 then v3 else v2) = fK (tkv c n p) → AtA l G (d + 5) sX11_isLine 146 [.ref 51, .int (nI (3 * j)), .int v2, .int v3] [] t (pI Q) := by
    intro v2 v3 hv
    refine r_X11_isLine_146 _ _ _ t ⟨fun z => ⟨vin (show 3 * j < 36 by omega) (by decide), ?_⟩, fun z => ⟨vin (show 3 * j < 36 by omega) (by decide), ?_⟩⟩
    · rw [if_pos z] at hv
      rw [nnum (by omega), hv]
      exact a162 _ _
    · rw [if_neg z] at hv
      rw [nnum (by omega), hv]
      exact a162 _ _
  have a81 : ∀ v2, v2 = fA (tkv c n p) → AtA l G (d + 5) sX11_isLine 81 [.ref 51, .int (nI (3 * j)), .int v2, .null] [] t (pI Q) := by
    intro v2 hv
    have hf : ∀ v3, fB (tkv c n p) = v3 → AtA l G (d + 5) sX11_isLine 146 [.ref 51, .int (nI (3 * j)), .int v2, .int v3] [] t (pI Q) := by
      intro v3 h3
      refine a146 v2 v3 ?_
      unfold fK
      rw [hv, h3]
    refine r_X11_isLine_81 _ _ t ?_
    rw [t2, lg_cmp_eq, lg_cmp_eq, lg_cmp_eq, lg_cmp_eq]
    unfold fB at hf
    refine ⟨fun z => hf _ (by rw [if_pos z]), fun z0 => ⟨fun z => hf _ (by rw [if_neg z0, if_pos z]), fun z1 => ⟨fun z => hf _ (by rw [if_neg z0, if_neg z1, if_pos z]), fun z2 => ⟨fun z => hf _ (by rw [if_neg z0, if_neg z1, if_neg z2, if_pos z]), fun z3 => hf _ (by rw [if_neg z0, if_neg z1, if_neg z2, if_neg z3])⟩⟩⟩⟩
  unfold fA at a81
  rw [t2, lg_cmp_eq, lg_cmp_eq, lg_cmp_eq, lg_cmp_eq, lg_cmp_eq]
  refine ⟨fun z => a81 _ (by rw [if_pos z]), fun z0 => ⟨fun z => a81 _ (by rw [if_neg z0, if_pos z]), fun z1 => ⟨fun z => a81 _ (by rw [if_neg z0, if_neg z1, if_pos z]), fun z2 => ⟨fun z => a81 _ (by rw [if_neg z0, if_neg z1, if_neg z2, if_pos z]), fun z3 => ⟨fun z => a81 _ (by rw [if_neg z0, if_neg z1, if_neg z2, if_neg z3, if_pos z]), fun z4 => a81 _ (by rw [if_neg z0, if_neg z1, if_neg z2, if_neg z3, if_neg z4])⟩⟩⟩⟩⟩
