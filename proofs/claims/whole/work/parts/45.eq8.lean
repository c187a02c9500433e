/-! equal answers: who came late -/
def dg (n v code : Nat) : Nat := code / 4 ^ (n - 1 - v) % 4
def codeP (P : Nat → Nat → Prop) (n code : Nat) : Prop := ∀ v, v < n → P v (dg n v code)
theorem codeP_s {P : Nat → Nat → Prop} {n c : Nat} : codeP P (n + 1) c ↔ codeP P n (c / 4) ∧ P n (c % 4) := by
  have e1 : dg (n + 1) n c = c % 4 := by
    unfold dg
    rw [show n + 1 - 1 - n = 0 by omega, Nat.pow_zero, Nat.div_one]
  have e2 : ∀ v, v < n → dg (n + 1) v c = dg n v (c / 4) := by
    intro v hv
    unfold dg
    rw [show n + 1 - 1 - v = (n - 1 - v) + 1 by omega, Nat.pow_succ, Nat.mul_comm, Nat.div_div_eq_div_mul]
  constructor
  · intro h
    exact ⟨fun v hv => by rw [← e2 v hv]; exact h v (by omega), by rw [← e1]; exact h n (by omega)⟩
  · rintro ⟨h1, h2⟩ v hv
    by_cases c2 : v = n
    · subst c2
      rw [e1]
      exact h2
    · rw [e2 v (by omega)]
      exact h1 v (by omega)
theorem cnt_4 (B : Nat → Prop) : cntN B 4 = iC (B 0) 1 0 + iC (B 1) 1 0 + iC (B 2) 1 0 + iC (B 3) 1 0 := by
  show 0 + iC (B 0) 1 0 + iC (B 1) 1 0 + iC (B 2) 1 0 + iC (B 3) 1 0 = _
  omega
theorem cnt_mul (A B : Nat → Prop) : ∀ m, cntN (fun c => A (c / 4) ∧ B (c % 4)) (4 * m) = cntN A m * cntN B 4
  | 0 => by
    show 0 = 0 * _
    omega
  | m + 1 => by
    have ih := cnt_mul A B m
    have step : ∀ k, k < 4 → iC (A ((4 * m + k) / 4) ∧ B ((4 * m + k) % 4)) 1 0 = iC (A m ∧ B k) (1 : Nat) 0 := by
      intro k hk
      rw [show (4 * m + k) / 4 = m by omega, show (4 * m + k) % 4 = k by omega]
    show cntN (fun c => A (c / 4) ∧ B (c % 4)) (4 * m) + iC (A ((4 * m + 0) / 4) ∧ B ((4 * m + 0) % 4)) 1 0 + iC (A ((4 * m + 1) / 4) ∧ B ((4 * m + 1) % 4)) 1 0 + iC (A ((4 * m + 2) / 4) ∧ B ((4 * m + 2) % 4)) 1 0 + iC (A ((4 * m + 3) / 4) ∧ B ((4 * m + 3) % 4)) 1 0 = _
    rw [step 0 (by decide), step 1 (by decide), step 2 (by decide), step 3 (by decide), ih]
    by_cases h : A m
    · rw [cnt_t h, Nat.succ_mul, cnt_4 B]
      have e : ∀ k, iC (A m ∧ B k) (1 : Nat) 0 = iC (B k) 1 0 := by
        intro k
        by_cases hb : B k
        · rw [iC_t ⟨h, hb⟩, iC_t hb]
        · rw [iC_f (fun q => hb q.2), iC_f hb]
      rw [e, e, e, e]
      omega
    · rw [cnt_f h]
      rw [iC_f (fun q => h q.1), iC_f (fun q => h q.1), iC_f (fun q => h q.1), iC_f (fun q => h q.1)]
      omega
theorem cnt_code (P : Nat → Nat → Prop) : ∀ n, cntN (codeP P n) (4 ^ n) = prodN (fun v => cntN (P v) 4) n
  | 0 => by
    show cntN (codeP P 0) 0 + iC (codeP P 0 0) 1 0 = 1
    rw [iC_t (show codeP P 0 0 from fun v hv => absurd hv (Nat.not_lt_zero v))]
    rfl
  | n + 1 => by
    show _ = prodN (fun v => cntN (P v) 4) n * cntN (P n) 4
    rw [← cnt_code P n, ← cnt_mul (codeP P n) (P n) (4 ^ n), Nat.pow_succ, Nat.mul_comm (4 ^ n) 4]
    exact cnt_congr _ (fun c _ => codeP_s)
/-- r is the least of 0 .. N - 1 for which C holds, or -1 -/
def Least (C : Nat → Prop) (N : Nat) (r : Int32) : Prop := (r = -1 ∧ ∀ c, c < N → ¬ C c) ∨ ∃ c, c < N ∧ C c ∧ (∀ j, j < c → ¬ C j) ∧ r = nI c
theorem findF_least {C : Nat → Prop} : ∀ m k, (∀ j, j < k → ¬ C j) → Least C (k + m) (findF C m k)
  | 0, k, h => Or.inl ⟨rfl, fun c hc => h c (by omega)⟩
  | m + 1, k, h => by
    show Least C (k + (m + 1)) (iC (C k) (nI k) (findF C m (k + 1)))
    by_cases c : C k
    · rw [iC_t c]
      exact Or.inr ⟨k, by omega, c, h, rfl⟩
    · rw [iC_f c, show k + (m + 1) = k + 1 + m by omega]
      exact findF_least m (k + 1) (lt_s h c)
theorem nI_m1 {c : Nat} (h : c < 2 ^ 31) : ¬ nI c = -1 := by
  intro q
  have : (nI c).toInt = (-1 : Int32).toInt := by rw [q]
  rw [nI_i h] at this
  have q9 : (-1 : Int32).toInt = -1 := rfl
  omega
theorem Least.uniq {C : Nat → Prop} {N : Nat} {r r' : Int32} (h : Least C N r) (h' : Least C N r') : r = r' := by
  rcases h with ⟨e, hn⟩ | ⟨c, h1, h2, h3, e⟩ <;> rcases h' with ⟨e', hn'⟩ | ⟨c', h1', h2', h3', e'⟩
  · rw [e, e']
  · exact absurd h2' (hn c' h1')
  · exact absurd h2 (hn' c h1)
  · have : c = c' := by
      rcases Nat.lt_trichotomy c c' with q | q | q
      · exact absurd h2 (h3' c q)
      · exact q
      · exact absurd h2' (h3 c' q)
    rw [e, e', this]
/-- the digits of the least row, from the front -/
def vaN (D : Nat → Nat) : Nat → Nat → Nat → Nat
  | 0, _, acc => acc
  | m + 1, v, acc => vaN D m (v + 1) (4 * acc + D v)
theorem vaN_s (D : Nat → Nat) : ∀ m v acc, vaN D (m + 1) v acc = 4 * vaN D m v acc + D (v + m)
  | 0, _, _ => rfl
  | m + 1, v, acc => by
    show vaN D (m + 1) (v + 1) (4 * acc + D v) = 4 * vaN D m (v + 1) (4 * acc + D v) + D (v + (m + 1))
    rw [vaN_s D m (v + 1), show v + 1 + m = v + (m + 1) by omega]
theorem lrF_val {L : Nat → Int32} : ∀ m v acc, (∀ j, j < m → ¬ L (v + j) = -1) → lrF L m v acc = nI (vaN (fun v => Int32.toNatClampNeg (L v)) m v acc)
  | 0, _, _, _ => rfl
  | m + 1, v, acc, h => by
    show iC (L v = -1) (-1) (lrF L m (v + 1) (4 * acc + Int32.toNatClampNeg (L v))) = nI (vaN (fun v => Int32.toNatClampNeg (L v)) m (v + 1) (4 * acc + Int32.toNatClampNeg (L v)))
    rw [iC_f (show ¬ L v = -1 from h 0 (by omega)), lrF_val m (v + 1) _ (fun j hj => by rw [show v + 1 + j = v + (j + 1) by omega]; exact h (j + 1) (by omega))]
theorem lrF_none {L : Nat → Int32} : ∀ m v acc, (∃ j, j < m ∧ L (v + j) = -1) → lrF L m v acc = -1
  | 0, _, _, h => by
    obtain ⟨j, hj, -⟩ := h
    exact absurd hj (Nat.not_lt_zero j)
  | m + 1, v, acc, h => by
    show iC (L v = -1) (-1) (lrF L m (v + 1) (4 * acc + Int32.toNatClampNeg (L v))) = -1
    by_cases c : L v = -1
    · rw [iC_t c]
    · rw [iC_f c]
      obtain ⟨j, hj, e⟩ := h
      match j, hj, e with
      | 0, _, e => exact absurd e c
      | j + 1, hj, e => exact lrF_none m (v + 1) _ ⟨j, by omega, by rw [show v + 1 + j = v + (j + 1) by omega]; exact e⟩
theorem code_least (P : Nat → Nat → Prop) : ∀ n, ((∀ v, v < n → ¬ findF (P v) 4 0 = -1) → vaN (fun v => Int32.toNatClampNeg (findF (P v) 4 0)) n 0 0 < 4 ^ n ∧ codeP P n (vaN (fun v => Int32.toNatClampNeg (findF (P v) 4 0)) n 0 0) ∧ ∀ j, j < vaN (fun v => Int32.toNatClampNeg (findF (P v) 4 0)) n 0 0 → ¬ codeP P n j) ∧ ((∃ v, v < n ∧ findF (P v) 4 0 = -1) → ∀ c, ¬ codeP P n c)
  | 0 => ⟨fun _ => ⟨Nat.one_pos, fun v hv => absurd hv (Nat.not_lt_zero v), fun j hj => absurd hj (Nat.not_lt_zero j)⟩, fun ⟨v, hv, _⟩ => absurd hv (Nat.not_lt_zero v)⟩
  | n + 1 => by
    obtain ⟨ih1, ih2⟩ := code_least P n
    have hb : Least (P n) 4 (findF (P n) 4 0) := by
      have := findF_least (C := P n) 4 0 (fun j hj => absurd hj (Nat.not_lt_zero j))
      rw [Nat.zero_add] at this
      exact this
    constructor
    · intro h
      obtain ⟨a1, a2, a3⟩ := ih1 (fun v hv => h v (by omega))
      rcases hb with ⟨eb, -⟩ | ⟨b, b1, b2, b3, eb⟩
      · exact absurd eb (h n (by omega))
      · rw [vaN_s, Nat.zero_add, eb, nnum (by omega)]
        refine ⟨by rw [Nat.pow_succ]; omega, codeP_s.mpr ⟨by rw [show (4 * vaN (fun v => Int32.toNatClampNeg (findF (P v) 4 0)) n 0 0 + b) / 4 = vaN (fun v => Int32.toNatClampNeg (findF (P v) 4 0)) n 0 0 by omega]; exact a2, by rw [show (4 * vaN (fun v => Int32.toNatClampNeg (findF (P v) 4 0)) n 0 0 + b) % 4 = b by omega]; exact b2⟩, fun j hj q => ?_⟩
        obtain ⟨q1, q2⟩ := codeP_s.mp q
        by_cases c : j / 4 < vaN (fun v => Int32.toNatClampNeg (findF (P v) 4 0)) n 0 0
        · exact a3 _ c q1
        · exact b3 (j % 4) (by omega) q2
    · rintro ⟨v, hv, e⟩ c q
      obtain ⟨q1, q2⟩ := codeP_s.mp q
      by_cases hvn : v < n
      · exact ih2 ⟨v, hvn, e⟩ _ q1
      · have : v = n := by omega
        subst this
        rcases hb with ⟨-, hn⟩ | ⟨b, b1, b2, b3, eb⟩
        · exact hn (c % 4) (by omega) q2
        · rw [eb] at e
          exact nI_m1 (by omega) e
theorem row_least (P : Nat → Nat → Prop) (n : Nat) : Least (codeP P n) (4 ^ n) (lrF (fun v => findF (P v) 4 0) n 0 0) := by
  obtain ⟨h1, h2⟩ := code_least P n
  by_cases c : ∃ v, v < n ∧ findF (P v) 4 0 = -1
  · refine Or.inl ⟨lrF_none n 0 0 ?_, fun k _ => h2 c k⟩
    obtain ⟨v, hv, e⟩ := c
    exact ⟨v, hv, by rw [Nat.zero_add]; exact e⟩
  · have hn : ∀ v, v < n → ¬ findF (P v) 4 0 = -1 := fun v hv e => c ⟨v, hv, e⟩
    obtain ⟨a1, a2, a3⟩ := h1 hn
    exact Or.inr ⟨_, a1, a2, a3, lrF_val n 0 0 (fun j hj => by rw [Nat.zero_add]; exact hn j hj)⟩
theorem sh4 {V : Nat} (v1 : 1 ≤ V) (v5 : V ≤ 5) : ((1 : Int32) <<< ((2 * nI V) &&& 31)) = nI (4 ^ V) := by
  rcases (show V = 1 ∨ V = 2 ∨ V = 3 ∨ V = 4 ∨ V = 5 by omega) with rfl | rfl | rfl | rfl | rfl <;> decide +kernel
theorem p4 {V : Nat} (v5 : V ≤ 5) : 4 ^ V ≤ 1024 := by
  have := Nat.pow_le_pow_right (show 0 < 4 by decide) v5
  exact this
theorem dg_eq {V v code : Nat} (v5 : V ≤ 5) (hv : v < V) (hc : code < 2 ^ 31) : ((nI code >>> ((2 * ((nI V - 1) - nI v)) &&& 31)) &&& 3 : Int32) = nI (dg V v code) := by
  rw [l1, pk_sub (by omega), pk_sub (by omega), show (2 : Int32) = nI 2 from rfl, pk_mul, pk_shrN hc _ (2 * (V - 1 - v)) (s_l _ (by omega))]
  have h2 : code / 2 ^ (2 * (V - 1 - v)) ≤ code := Nat.div_le_self _ _
  rw [pk_andN (by omega) (m := 3) 2 rfl]
  unfold dg
  rw [Nat.pow_mul]
/-- the reference's rows, one by one -/
theorem at_came {l : Launch} {G : Geo} {s : St} {Q : Int32 → St → Prop} (hI : RI s) {V S : Nat} (hV : s.1 51 0 = nI V) (v1 : 1 ≤ V) (v5 : V ≤ 5) (hS : s.1 51 26 = nI S) (hS2 : S ≤ 60) {x1 : Int32} (C : Nat → Prop) (hC : ∀ code, C code ↔ ∀ i, i < S → s.1 61 i = (if i / V < dg V (i % V) code then 0 else v_X11_letterAt s (nI i))) (k0 : x1 = 0 → Q (nI (cntN C (4 ^ V))) s) (k1 : ¬ x1 = 0 → Q (findF C (4 ^ V) 0) s) : AtA l G 20 sX11_came 33 [.ref 51, .int x1, .int 0, .int (-1), .int 0, .null, .null, .null, .null] [] s (pI Q) := by
  have h4 := p4 v5
  have hne : ¬ s.1 51 0 = 0 := by
    rw [hV, l0, neq (by omega) (by omega)]
    omega
  have inner : ∀ code many first, code < 4 ^ V → many ≤ 1024 → (C code → many = 0 → AtA l G 20 sX11_came 33 [.ref 51, .int x1, .int (nI (many + 1)), .int (nI code), .int (nI (code + 1)), .null, .null, .null, .null] [] s (pI Q)) → (C code → ¬ many = 0 → AtA l G 20 sX11_came 33 [.ref 51, .int x1, .int (nI (many + 1)), .int first, .int (nI (code + 1)), .null, .null, .null, .null] [] s (pI Q)) → (¬ C code → AtA l G 20 sX11_came 33 [.ref 51, .int x1, .int (nI many), .int first, .int (nI (code + 1)), .null, .null, .null, .null] [] s (pI Q)) → ∀ m i, i + m = S → ∀ b : Int32, (b = 1 ∧ ∀ j, j < i → s.1 61 j = (if j / V < dg V (j % V) code then 0 else v_X11_letterAt s (nI j))) ∨ (b = 0 ∧ ¬ C code) → AtA l G 20 sX11_came 52 [.ref 51, .int x1, .int (nI many), .int first, .int (nI code), .int b, .int (nI i), .null, .null] [] s (pI Q) := by
    intro code many first hcode hmany kt kt2 kf m
    have e0 : (nI many + 0 : Int32) = nI many := by rw [l0, nI_add]; rfl
    have end0 : ∀ i, ¬ C code → AtA l G 20 sX11_came 52 [.ref 51, .int x1, .int (nI many), .int first, .int (nI code), .int 0, .int i, .null, .null] [] s (pI Q) := by
      intro i hn
      have k := kf hn
      have k' : AtA l G 20 sX11_came 33 [.ref 51, .int x1, .int (nI many + 0), .int first, .int (nI code + 1), .null, .null, .null, .null] [] s (pI Q) := by rw [e0, nI_1]; exact k
      exact r_X11_came_52 _ _ _ _ _ _ s ⟨fun _ => ⟨fun _ => ⟨fun _ => ⟨fun _ => k', fun z => absurd rfl z⟩, fun z => absurd rfl z⟩, fun z => absurd rfl z⟩, fun _ => ⟨fun _ => ⟨fun _ => k', fun z => absurd rfl z⟩, fun z => absurd rfl z⟩⟩
    induction m with
    | zero =>
      intro i hi b hb
      have : i = S := by omega
      subst this
      rcases hb with ⟨rfl, hp⟩ | ⟨rfl, hn⟩
      · have hc : C code := (hC code).mpr hp
        refine r_X11_came_52 _ _ _ _ _ _ s ⟨fun z => ?_, fun _ => ⟨fun z => absurd z (by decide), fun _ => ⟨fun z2 => ⟨fun z => absurd z (by decide), fun _ => ?_⟩, fun z2 => ⟨fun z => absurd z (by decide), fun _ => ?_⟩⟩⟩⟩
        · rw [hS] at z
          exact (Int32.lt_irrefl z).elim
        · rw [l0, neq (by omega) (by omega)] at z2
          rw [nI_1, nI_1]
          exact kt hc z2
        · rw [l0, neq (by omega) (by omega)] at z2
          rw [nI_1, nI_1]
          exact kt2 hc z2
      · exact end0 _ hn
    | succ m ih =>
      intro i hi b hb
      rcases hb with ⟨rfl, hp⟩ | ⟨rfl, hn⟩
      · have hm : i % V < V := Nat.mod_lt _ (by omega)
        have ed : ((nI code >>> ((2 * ((s.1 51 0 - 1) - (nI i - nI i / s.1 51 0 * s.1 51 0))) &&& 31)) &&& 3 : Int32) = nI (dg V (i % V) code) := by
          rw [hV, pk_rem (by omega) (by omega) (by omega)]
          exact dg_eq v5 hm (by omega)
        have hdl : dg V (i % V) code < 4 := Nat.mod_lt _ (by decide)
        have hdv : i / V ≤ i := Nat.div_le_self _ _
        have ev : (nI i / s.1 51 0 : Int32) = nI (i / V) := by rw [hV, pk_div (by omega) (by omega) (by omega)]
        have next : s.1 61 i = (if i / V < dg V (i % V) code then 0 else v_X11_letterAt s (nI i)) → AtA l G 20 sX11_came 52 [.ref 51, .int x1, .int (nI many), .int first, .int (nI code), .int 1, .int (nI i + 1), .null, .null] [] s (pI Q) := by
          intro q
          rw [nI_1]
          exact ih (i + 1) (by omega) 1 (Or.inl ⟨rfl, lt_s hp q⟩)
        have bad : ¬ s.1 61 i = (if i / V < dg V (i % V) code then 0 else v_X11_letterAt s (nI i)) → AtA l G 20 sX11_came 52 [.ref 51, .int x1, .int (nI many), .int first, .int (nI code), .int 0, .int (nI i + 1), .null, .null] [] s (pI Q) := fun q => end0 _ (fun k => q ((hC code).mp k i (by omega)))
        refine r_X11_came_52 _ _ _ _ _ _ s ⟨fun _ => ⟨fun z => absurd z (by decide), fun _ => ⟨hne, vin (show i < 60 by omega) (by decide), hne, fun z => ?_, fun z => ?_⟩⟩, fun z => ?_⟩
        · rw [ed, ev, nlt (by omega) (by omega)] at z
          refine ⟨fun z2 => next ?_, fun z2 => bad ?_⟩
          · rw [nnum (by omega)] at z2
            rw [if_pos z]
            exact z2
          · rw [nnum (by omega)] at z2
            rw [if_pos z]
            exact z2
        · rw [ed, ev, nlt (by omega) (by omega)] at z
          refine ⟨⟨ri_sm hI, rg_mk (by omega)⟩, fun z2 => next ?_, fun z2 => bad ?_⟩
          · rw [nnum (by omega)] at z2
            rw [if_neg z]
            exact z2
          · rw [nnum (by omega)] at z2
            rw [if_neg z]
            exact z2
        · rw [hS, nlt (by omega) (by omega)] at z
          omega
      · exact end0 _ hn
  have outer : ∀ m code first, code + m = 4 ^ V → (¬ x1 = 0 → Q (iC (cntN C code = 0) (findF C m code) first) s) → (cntN C code = 0 → first = -1) → AtA l G 20 sX11_came 33 [.ref 51, .int x1, .int (nI (cntN C code)), .int first, .int (nI code), .null, .null, .null, .null] [] s (pI Q) := by
    intro m
    induction m with
    | zero =>
      intro code first hc k hf
      have : code = 4 ^ V := by omega
      subst this
      refine r_X11_came_33 _ _ _ _ s ⟨fun z => ?_, fun _ => ⟨k0, fun z => ?_⟩⟩
      · rw [hV, sh4 v1 v5] at z
        exact (Int32.lt_irrefl z).elim
      · have := k z
        by_cases c : cntN C (4 ^ V) = 0
        · rw [iC_t c] at this
          rw [hf c]
          exact this
        · rw [iC_f c] at this
          exact this
    | succ m ih =>
      intro code first hc k hf
      have hcl := cnt_le C code
      refine r_X11_came_33 _ _ _ _ s ⟨fun _ => ?_, fun z => ?_⟩
      · refine inner code _ first (by omega) (by omega) (fun q1 q2 => ?_) (fun q1 q2 => ?_) (fun q1 => ?_) S 0 (Nat.zero_add _) 1 (Or.inl ⟨rfl, fun j hj => absurd hj (Nat.not_lt_zero j)⟩)
        · have := ih (code + 1) (nI code) (by omega) (fun z => by
            rw [cnt_t q1, iC_f (by omega)]
            have := k z
            unfold findF at this
            rw [iC_t q2, iC_t q1] at this
            exact this) (by rw [cnt_t q1]; intro k; omega)
          rw [cnt_t q1] at this
          exact this
        · have := ih (code + 1) first (by omega) (fun z => by
            rw [cnt_t q1, iC_f (by omega)]
            have := k z
            rw [iC_f q2] at this
            exact this) (by rw [cnt_t q1]; intro k; omega)
          rw [cnt_t q1] at this
          exact this
        · have := ih (code + 1) first (by omega) (fun z => by
            rw [cnt_f q1]
            have := k z
            unfold findF at this
            rw [iC_f q1] at this
            exact this) (by rw [cnt_f q1]; exact hf)
          rw [cnt_f q1] at this
          exact this
      · rw [hV, sh4 v1 v5, nlt (by omega) (by omega)] at z
        omega
  exact outer (4 ^ V) 0 (-1) (Nat.zero_add _) (fun z => by rw [iC_t (show cntN C 0 = 0 from rfl)]; exact k1 z) (fun _ => rfl)
theorem eq_came {l : Launch} {G : Geo} {s : St} (h : RI s) (x1 : Int32) : Eqv l G 120 173 [.int x1] s := by
  have ht := tot_eq h
  have hR := ri_rw h
  obtain ⟨g, T, h1, h2, hT, e1, e2, e3⟩ := ri_g h
  obtain ⟨-, ⟨⟨V, v1, v5, hV⟩, -, c3, -⟩, ⟨-, -, -, -, -, w6, w7, w8, w9, w10⟩, ⟨-, -, s3, s4⟩, ⟨m1, m2, m3, m4, m5, m6, m7, m8, -⟩, -⟩ := id h
  have hV' : s.1 51 0 = nI V := c3.trans hV
  have esz : v_X0_size s 8 = nI V := hV
  have ok1 : v_X7_length s = v_X6_letterTotal s 18 → ok_X6_countLateRows s 18 (v_X0_size s 8) ∧ ok_X6_firstLateRow s 18 (v_X0_size s 8) := fun q => ⟨⟨rfl, ⟨hR, q⟩, V, v1, v5, esz⟩, ⟨rfl, ⟨hR, q⟩, V, v1, v5, esz⟩⟩
  refine p_X10_came _ s ⟨fun _ q => ⟨fun _ => (ok1 q).1, fun _ => (ok1 q).2⟩, fun _ _ q => ⟨fun _ => (ok1 q).1, fun _ => (ok1 q).2⟩⟩ ?_
  have two : ∀ x : Int32, b_X11_in s x 0 1 ↔ x = 0 ∨ x = 1 := by
    intro x
    constructor
    · intro q
      rw [in_iff] at q
      obtain ⟨k, hk, rfl⟩ := nI_of q.1
      have := q.2
      rw [l1, nlt (by omega) (by omega)] at this
      rcases (show k = 0 ∨ k = 1 by omega) with rfl | rfl
      · exact Or.inl rfl
      · exact Or.inr rfl
    · rintro (rfl | rfl) <;> exact in_iff.mpr (by decide)
  unfold v_X10_came
  refine r_X11_came _ s ⟨fun z => ⟨?_, h⟩, fun z => ⟨ri_sm h, fun z2 => ?_, fun z2 => ⟨?_, h⟩⟩⟩
  · rw [iC_f (fun q => z ((two x1).mpr (Or.inl q))), iC_f (fun q => z ((two x1).mpr (Or.inr q)))]
  · have hlen : s.1 24 1 = s.1 18 1 := by rw [← s3, z2, ht]
    have hS : s.1 51 26 = nI T := by rw [s3, hlen, e1]
    have hl2 : v_X7_length s = v_X6_letterTotal s 18 := hlen
    obtain ⟨P, hP⟩ : ∃ P : Nat → Nat → Prop, P = fun v late => hlP (s.1 25) (s.1 19) T V v late := ⟨_, rfl⟩
    have ec : v_X6_countLateRows s 18 (v_X0_size s 8) = nI (prodN (fun v => cntN (P v) 4) V) := by
      unfold v_X6_countLateRows
      rw [esz, e1, nnum (by omega), nnum (by omega), hP]
    have ef : v_X6_firstLateRow s 18 (v_X0_size s 8) = lrF (fun v => findF (P v) 4 0) V 0 0 := by
      unfold v_X6_firstLateRow
      rw [esz, e1, nnum (by omega), nnum (by omega), hP]
    have hC : ∀ code, codeP P V code ↔ ∀ i, i < T → s.1 61 i = (if i / V < dg V (i % V) code then 0 else v_X11_letterAt s (nI i)) := by
      intro code
      have el : ∀ i, i < T → v_X11_letterAt s (nI i) = s.1 19 i := by
        intro i hi
        unfold v_X11_letterAt
        rw [nnum (by omega), w8, w9]
        exact (m8 i (by omega)).symm
      unfold codeP
      rw [hP]
      constructor
      · intro q i hi
        rw [s4, el i hi]
        exact q (i % V) (Nat.mod_lt _ (by omega)) i hi rfl
      · intro q v hv i hi hiv
        have := q i hi
        rw [s4, el i hi, hiv] at this
        exact this
    have hleast := (row_least P V).uniq (by
      have := findF_least (C := codeP P V) (4 ^ V) 0 (fun j hj => absurd hj (Nat.not_lt_zero j))
      rw [Nat.zero_add] at this
      exact this)
    rw [ec, ef, hleast, ← cnt_code]
    refine at_came h hV' v1 v5 hS (by omega) (codeP P V) hC (fun q => ⟨?_, h⟩) (fun q => ⟨?_, h⟩)
    · rw [iC_t q, iC_t hl2, iC_t q]
    · rw [iC_f q, iC_t (((two x1).mp z).resolve_left q), iC_t hl2, iC_f q]
  · have hl2 : ¬ v_X7_length s = v_X6_letterTotal s 18 := fun q => z2 (by rw [s3, ht]; exact q)
    rcases (two x1).mp z with rfl | rfl
    · rw [iC_t rfl, iC_f hl2]
    · rw [iC_f (by decide), iC_t rfl, iC_f hl2]
