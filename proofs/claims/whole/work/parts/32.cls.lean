/-! which voices differ; classes; divisors -/
noncomputable def difM (V : Nat) (lt : Nat → Int32) (a b : Nat) : Nat → Int32
  | 0 => 0
  | i + 1 => iC (lt (10 * a + i) = lt (10 * b + i)) (difM V lt a b i) (difM V lt a b i ||| ((1 : Int32) <<< (nI (i % V) &&& 31)))
theorem difM_t {V : Nat} {lt : Nat → Int32} {a b i : Nat} (h : lt (10 * a + i) = lt (10 * b + i)) : difM V lt a b (i + 1) = difM V lt a b i := iC_t h
theorem difM_f {V : Nat} {lt : Nat → Int32} {a b i : Nat} (h : ¬ lt (10 * a + i) = lt (10 * b + i)) : difM V lt a b (i + 1) = (difM V lt a b i ||| ((1 : Int32) <<< (nI (i % V) &&& 31))) := iC_f h
theorem difM_bit {V : Nat} {lt : Nat → Int32} {a b : Nat} (h1 : 1 ≤ V) (h5 : V ≤ 5) {v : Nat} (hv : v < 32) : ∀ n, bt (difM V lt a b n) v = true ↔ ∃ i, i < n ∧ i % V = v ∧ ¬ lt (10 * a + i) = lt (10 * b + i)
  | 0 => by
    show bt 0 v = true ↔ _
    rw [b_0]
    exact ⟨fun h => absurd h (by decide), fun ⟨i, hi, _⟩ => absurd hi (Nat.not_lt_zero i)⟩
  | n + 1 => by
    have ih := difM_bit (lt := lt) (a := a) (b := b) h1 h5 hv n
    by_cases h : lt (10 * a + n) = lt (10 * b + n)
    · rw [difM_t h, ih]
      constructor
      · rintro ⟨i, hi, h2⟩
        exact ⟨i, by omega, h2⟩
      · rintro ⟨i, hi, h2, h3⟩
        by_cases e : i = n
        · subst e
          exact absurd h h3
        · exact ⟨i, by omega, h2, h3⟩
    · have hm : n % V < 32 := Nat.lt_of_lt_of_le (Nat.mod_lt _ (by omega)) (by omega)
      rw [difM_f h, b_or, b_one _ hm hv, Bool.or_eq_true, ih, decide_eq_true_eq]
      constructor
      · rintro (⟨i, hi, h2⟩ | e)
        · exact ⟨i, by omega, h2⟩
        · exact ⟨n, by omega, e.symm, h⟩
      · rintro ⟨i, hi, h2, h3⟩
        by_cases e : i = n
        · subst e
          exact Or.inr h2.symm
        · exact Or.inl ⟨i, by omega, h2, h3⟩
noncomputable def v_X2_voicesThatDiffer (s : St) (x1 x2 : Int32) : Int32 := difM (Int32.toNatClampNeg (s.1 8 1)) (s.1 5) (Int32.toNatClampNeg x1) (Int32.toNatClampNeg x2) (Int32.toNatClampNeg (s.1 6 (Int32.toNatClampNeg x1)))
def ok_X2_voicesThatDiffer (s : St) (x1 x2 : Int32) : Prop := wlR s 4 ∧ chR s 8 ∧ ∃ a b, a < Int32.toNatClampNeg (s.1 4 3) ∧ b < Int32.toNatClampNeg (s.1 4 3) ∧ x1 = nI a ∧ x2 = nI b ∧ s.1 6 a = s.1 6 b
theorem p_X2_voicesThatDiffer {l : Launch} {G : Geo} {d : Nat} (x1 x2 : Int32) (s : St) {Q : Int32 → St → Prop} (hok : ok_X2_voicesThatDiffer s x1 x2) (h : Q (v_X2_voicesThatDiffer s x1 x2) s) : DoesI l G (d + 2) 35 [.ref 45, .int x1, .int x2] s Q := by
  obtain ⟨hW, hC, a, b, ha, hb, rfl, rfl, hab⟩ := hok
  obtain ⟨⟨V, v1, v5, hV⟩, -⟩ := id hC
  obtain ⟨ez, hz⟩ := siz4 hW
  obtain ⟨e1, h1⟩ := len4 hW a
  unfold v_X2_voicesThatDiffer at h
  rw [hV, nnum (by omega), nnum (by omega), nnum (by omega)] at h
  have loop : ∀ m i, i + m = Int32.toNatClampNeg (s.1 6 a) → AtA l G (d + 2) sX2_voicesThatDiffer 5 [.ref 45, .int (nI a), .int (nI b), .int (difM V (s.1 5) a b i), .int (nI i)] [] s (pI Q) := by
    intro m
    induction m with
    | zero =>
      intro i hi
      have : i = Int32.toNatClampNeg (s.1 6 a) := by omega
      subst this
      refine r_X2_voicesThatDiffer_5 _ _ _ _ s ⟨ok_len (Or.inl rfl) hW _, fun z => ?_, fun _ => h⟩
      rw [v_len4 hW ha, ← e1] at z
      exact (Int32.lt_irrefl z).elim
    | succ m ih =>
      intro i hi
      have ihh := ih (i + 1) (by omega)
      have l1 : v_X9_letterOf s 4 (nI a) (nI i) = s.1 5 (10 * a + i) := v_let4 hW ha (by omega)
      have l2 : v_X9_letterOf s 4 (nI b) (nI i) = s.1 5 (10 * b + i) := v_let4 hW hb (by rw [← hab]; omega)
      refine r_X2_voicesThatDiffer_5 _ _ _ _ s ⟨ok_len (Or.inl rfl) hW _, fun _ => ⟨ok_let (Or.inl rfl) hW _ _, ok_let (Or.inl rfl) hW _ _, fun z => ?_, fun z => ⟨ok_vc hC _, ?_⟩⟩, fun z => ?_⟩
      · rw [l1, l2] at z
        rw [difM_t z] at ihh
        rw [nI_1]
        exact ihh
      · rw [l1, l2] at z
        rw [difM_f z] at ihh
        rw [nI_1, v_vc hV v1 v5 (by omega)]
        exact ihh
      · rw [v_len4 hW ha, e1, nlt (by omega) (by omega)] at z
        omega
  exact r_X2_voicesThatDiffer _ _ s (loop _ 0 (Nat.zero_add _))
def clsP (V : Nat) (lt sz : Nat → Int32) (a b v : Nat) : Prop := sz a = sz b ∧ ∀ i, i < Int32.toNatClampNeg (sz a) → i % V = v → lt (10 * a + i) = lt (10 * b + i)
def b_X11_isClassed (s : St) (x1 x2 x3 : Int32) : Prop := clsP (Int32.toNatClampNeg (s.1 51 0)) (s.1 55) (s.1 54) (Int32.toNatClampNeg x1) (Int32.toNatClampNeg x2) (Int32.toNatClampNeg x3)
def ok_X11_isClassed (s : St) (x1 x2 x3 : Int32) : Prop := mdR s ∧ ∃ a b v, a < Int32.toNatClampNeg (s.1 51 4) ∧ b < Int32.toNatClampNeg (s.1 51 4) ∧ v < Int32.toNatClampNeg (s.1 51 0) ∧ x1 = nI a ∧ x2 = nI b ∧ x3 = nI v
theorem p_X11_isClassed {l : Launch} {G : Geo} {d : Nat} (x1 x2 x3 : Int32) (s : St) {Q : Int32 → St → Prop} (hok : ok_X11_isClassed s x1 x2 x3) (h : Q (bI (b_X11_isClassed s x1 x2 x3)) s) : DoesI l G (d + 1) 177 [.ref 51, .int x1, .int x2, .int x3] s Q := by
  obtain ⟨⟨m1, m2, m3, m4, -, -, ⟨V, v1, v5, hV⟩, -⟩, a, b, v, ha, hb, hv, rfl, rfl, rfl⟩ := hok
  obtain ⟨ez, hz⟩ := rg_num m1 (by decide)
  obtain ⟨e1, h1⟩ := rg_num (m2 a) (by decide)
  rw [hV, nnum (by omega)] at hv
  have ia : vp_in (nI a) (alen 54) := vin (show a < 12 by omega) (by decide)
  have ib : vp_in (nI b) (alen 54) := vin (show b < 12 by omega) (by decide)
  unfold b_X11_isClassed at h
  rw [hV, nnum (by omega), nnum (by omega), nnum (by omega), nnum (by omega)] at h
  have stop : ∀ i : Int32, ¬ clsP V (s.1 55) (s.1 54) a b v → AtA l G (d + 1) sX11_isClassed 25 [.ref 51, .int (nI a), .int (nI b), .int (nI v), .int 0, .int i] [] s (pI Q) := by
    intro i hn
    rw [bI_0 hn] at h
    exact r_X11_isClassed_25 _ _ _ _ _ s ⟨ia, fun _ => ⟨fun _ => ⟨rfl, h⟩, fun z => absurd rfl z⟩, fun _ => ⟨rfl, h⟩⟩
  have loop : s.1 54 a = s.1 54 b → ∀ m i, Int32.toNatClampNeg (s.1 54 a) ≤ i + m → i ≤ 70 → i % V = v → (∀ j, j < i → j < Int32.toNatClampNeg (s.1 54 a) → j % V = v → s.1 55 (10 * a + j) = s.1 55 (10 * b + j)) → AtA l G (d + 1) sX11_isClassed 25 [.ref 51, .int (nI a), .int (nI b), .int (nI v), .int 1, .int (nI i)] [] s (pI Q) := by
    intro hab m
    induction m with
    | zero =>
      intro i hi hi2 hm hp
      refine r_X11_isClassed_25 _ _ _ _ _ s ⟨ia, fun z => ?_, fun _ => ⟨rfl, ?_⟩⟩
      · rw [nnum (by omega), e1, nlt (by omega) (by omega)] at z
        omega
      · rw [bI_1 ⟨hab, fun j hj hjv => hp j (by omega) hj hjv⟩] at h
        exact h
    | succ m ih =>
      intro i hi hi2 hm hp
      by_cases hlt : i < Int32.toNatClampNeg (s.1 54 a)
      · have ea : (10 * nI a + nI i : Int32) = nI (10 * a + i) := by rw [show (10 : Int32) = nI 10 from rfl, pk_mul, nI_add]
        have eb : (10 * nI b + nI i : Int32) = nI (10 * b + i) := by rw [show (10 : Int32) = nI 10 from rfl, pk_mul, nI_add]
        refine r_X11_isClassed_25 _ _ _ _ _ s ⟨ia, fun _ => ⟨fun z => absurd z (by decide), fun _ => ⟨?_, ?_, fun z => ?_, fun z => ?_⟩⟩, fun z => ?_⟩
        · rw [ea]
          exact vin (show _ < 120 by omega) (by decide)
        · rw [eb]
          exact vin (show _ < 120 by omega) (by decide)
        · rw [ea, eb, nnum (by omega), nnum (by omega)] at z
          rw [hV, nI_add]
          refine ih (i + V) (by omega) (by omega) (mod_add v1 v5 hm) (fun j j1 j2 j3 => ?_)
          by_cases c1 : j < i
          · exact hp j c1 j2 j3
          · by_cases c2 : j = i
            · subst c2
              exact z
            · exact absurd (by rw [show i + (j - i) = j by omega]; exact j3) (mod_gap (r := j - i) v1 v5 hm (by omega) (by omega))
        · rw [ea, eb, nnum (by omega), nnum (by omega)] at z
          exact stop _ (fun k => z (k.2 i hlt hm))
        · rw [nnum (by omega), e1, nlt (by omega) (by omega)] at z
          omega
      · refine r_X11_isClassed_25 _ _ _ _ _ s ⟨ia, fun z => ?_, fun _ => ⟨rfl, ?_⟩⟩
        · rw [nnum (by omega), e1, nlt (by omega) (by omega)] at z
          omega
        · rw [bI_1 ⟨hab, fun j hj hjv => hp j (by omega) hj hjv⟩] at h
          exact h
  refine r_X11_isClassed _ _ _ s ⟨ia, ib, fun z => ?_, fun z => ?_⟩
  · rw [nnum (by omega), nnum (by omega)] at z
    exact loop z 70 v (by omega) (by omega) (Nat.mod_eq_of_lt hv) (fun j j1 _ j3 => by
      rw [Nat.mod_eq_of_lt (by omega)] at j3
      omega)
  · rw [nnum (by omega), nnum (by omega)] at z
    exact stop _ (fun k => z k.1)
/-! divisors -/
theorem remz {a d : Nat} (ha : a < 2 ^ 31) (h0 : 0 < d) (hd : d < 2 ^ 31) : (nI a - nI a / nI d * nI d = 0) ↔ d ∣ a := by
  have hm : a % d < d := Nat.mod_lt _ h0
  rw [pk_rem ha h0 hd, l0, neq (by omega) (by omega)]
  exact ⟨fun h => Nat.dvd_of_mod_eq_zero h, fun h => Nat.mod_eq_zero_of_dvd h⟩
noncomputable def v_X10_lowestTerm (_s : St) (x1 x2 : Int32) : Int32 := nI (Int32.toNatClampNeg x1 / Nat.gcd (Int32.toNatClampNeg x1) (Int32.toNatClampNeg x2))
def ok_X10_lowestTerm (_s : St) (x1 x2 : Int32) : Prop := ∃ a b, 1 ≤ a ∧ 1 ≤ b ∧ a ≤ 1000 ∧ b ≤ 1000 ∧ x1 = nI a ∧ x2 = nI b
theorem p_X10_lowestTerm {l : Launch} {G : Geo} {d : Nat} (x1 x2 : Int32) (s : St) {Q : Int32 → St → Prop} (hok : ok_X10_lowestTerm s x1 x2) (h : Q (v_X10_lowestTerm s x1 x2) s) : DoesI l G (d + 1) 130 [.int x1, .int x2] s Q := by
  obtain ⟨a, b, a1, b1, ha, hb, rfl, rfl⟩ := hok
  unfold v_X10_lowestTerm at h
  rw [nnum (by omega), nnum (by omega)] at h
  have g1 : 1 ≤ Nat.gcd a b := Nat.gcd_pos_of_pos_left _ (by omega)
  have loop : ∀ n, n ≤ 1000 → Nat.gcd a b ≤ n ∨ (n = 0 ∧ False) → AtA l G (d + 1) sX10_lowestTerm 6 [.int (nI a), .int (nI b), .int (nI n)] [] s (pI Q) := by
    intro n
    induction n with
    | zero =>
      intro _ hg
      rcases hg with hg | hg
      · omega
      · exact hg.2.elim
    | succ n ih =>
      intro hn hg
      have hg : Nat.gcd a b ≤ n + 1 := hg.elim id (fun k => k.2.elim)
      have hnz : ¬ nI (n + 1) = 0 := by rw [l0, neq (by omega) (by omega)]; omega
      have next : 1 < n + 1 → ¬ (n + 1 ∣ a ∧ n + 1 ∣ b) → AtA l G (d + 1) sX10_lowestTerm 6 [.int (nI a), .int (nI b), .int (nI (n + 1) + (-1))] [] s (pI Q) := by
        intro h1 hnd
        rw [pk_m1]
        refine ih (by omega) (Or.inl ?_)
        rcases Nat.lt_or_ge (Nat.gcd a b) (n + 1) with q | q
        · omega
        · have : Nat.gcd a b = n + 1 := by omega
          exact absurd ⟨this ▸ Nat.gcd_dvd_left a b, this ▸ Nat.gcd_dvd_right a b⟩ hnd
      refine r_X10_lowestTerm_6 _ _ _ s ⟨fun z => ⟨hnz, fun z1 => ⟨hnz, fun z2 => ⟨hnz, ?_⟩, fun z2 => ?_⟩, fun z1 => ?_⟩, fun z => ?_⟩
      · rw [remz (by omega) (by omega) (by omega)] at z1 z2
        have hdv : n + 1 ∣ Nat.gcd a b := Nat.dvd_gcd z1 z2
        have : Nat.gcd a b = n + 1 := Nat.le_antisymm hg (Nat.le_of_dvd (by omega) hdv)
        rw [this] at h
        rw [pk_div (by omega) (by omega) (by omega)]
        exact h
      · rw [l1, nlt (by omega) (by omega)] at z
        rw [remz (by omega) (by omega) (by omega)] at z2
        exact next z (fun k => z2 k.2)
      · rw [l1, nlt (by omega) (by omega)] at z
        rw [remz (by omega) (by omega) (by omega)] at z1
        exact next z (fun k => z1 k.1)
      · rw [l1, nlt (by omega) (by omega)] at z
        have : Nat.gcd a b = 1 := by omega
        rw [this, Nat.div_one] at h
        exact h
  refine r_X10_lowestTerm _ _ s ?_
  have e : (if nI b < nI a then nI b else nI a) = nI (min a b) := by
    by_cases q : b < a
    · rw [if_pos ((nlt (by omega) (by omega)).mpr q), Nat.min_eq_right (by omega)]
    · rw [if_neg (fun z => q ((nlt (by omega) (by omega)).mp z)), Nat.min_eq_left (by omega)]
  rw [e]
  refine loop _ (by omega) (Or.inl ?_)
  have q1 := Nat.le_of_dvd (by omega) (Nat.gcd_dvd_left a b)
  have q2 := Nat.le_of_dvd (by omega) (Nat.gcd_dvd_right a b)
  omega
noncomputable def v_X11_divisor (_s : St) (x1 x2 : Int32) : Int32 := nI (Nat.gcd (Int32.toNatClampNeg x1) (Int32.toNatClampNeg x2))
def ok_X11_divisor (_s : St) (x1 x2 : Int32) : Prop := rg x1 1000 ∧ rg x2 1000
theorem p_X11_divisor {l : Launch} {G : Geo} {d : Nat} (x1 x2 : Int32) (s : St) {Q : Int32 → St → Prop} (hok : ok_X11_divisor s x1 x2) (h : Q (v_X11_divisor s x1 x2) s) : DoesI l G (d + 1) 178 [.int x1, .int x2] s Q := by
  obtain ⟨⟨a, ha, rfl⟩, b, hb, rfl⟩ := hok
  unfold v_X11_divisor at h
  rw [nnum (by omega), nnum (by omega)] at h
  have loop : ∀ n y x, y ≤ n → y ≤ 1000 → x ≤ 1000 → Nat.gcd x y = Nat.gcd a b → ∀ u w : Int32, AtA l G (d + 1) sX11_divisor 4 [.int u, .int w, .int (nI x), .int (nI y), .null] [] s (pI Q) := by
    intro n
    induction n with
    | zero =>
      intro y x hy _ hx hg u w
      have : y = 0 := Nat.le_zero.mp hy
      subst this
      rw [Nat.gcd_zero_right] at hg
      refine r_X11_divisor_4 _ _ _ _ s ⟨fun _ => ?_, fun z => absurd rfl z⟩
      rw [hg]
      exact h
    | succ n ih =>
      intro y x hy hy2 hx hg u w
      refine r_X11_divisor_4 _ _ _ _ s ⟨fun z => ?_, fun z => ⟨z, ?_⟩⟩
      · rw [l0, neq (by omega) (by omega)] at z
        subst z
        rw [Nat.gcd_zero_right] at hg
        rw [hg]
        exact h
      · rw [l0, neq (by omega) (by omega)] at z
        have hm : x % y < y := Nat.mod_lt _ (by omega)
        rw [pk_rem (by omega) (by omega) (by omega)]
        refine ih (x % y) y (by omega) (by omega) (by omega) ?_ _ _
        rw [← hg, Nat.gcd_comm x y, Nat.gcd_comm y (x % y), ← Nat.gcd_rec]
  exact r_X11_divisor _ _ s (loop b b a (Nat.le_refl b) hb ha rfl _ _)
