/-! equal answers: alone, learnt; twins by the class -/
theorem all_eq {s : St} (h : RI s) : v_X0_allVoices s 8 = ((1 : Int32) <<< ((s.1 51 0) &&& 31)) - 1 := by
  unfold v_X0_allVoices
  rw [h.2.1.2.2.1]
theorem eq_alone {l : Launch} {G : Geo} {s : St} (h : RI s) (x1 x2 : Int32) : Eqv l G 121 175 [.int x1, .int x2] s := by
  have hW := ri_wl h
  have w6 := h.2.2.1.2.2.2.2.2.1
  refine p_X10_alone _ _ s (fun q _ _ => ⟨hW, ri_ch h, (has_iff (o := 4) hW.1).mp q⟩) (p_X11_alone _ _ s (fun q _ => ⟨ri_md h, by rw [w6]; exact (isw_iff h).mp q⟩) ⟨?_, h⟩)
  unfold v_X10_alone v_X11_alone
  rw [by_eq h, all_eq h]
  by_cases hw : ∃ w, w < Int32.toNatClampNeg (s.1 4 3) ∧ x1 = nI w
  · rw [iC_t ((has_iff (o := 4) hW.1).mpr hw), iC_t ((isw_iff h).mpr hw)]
    by_cases c1 : x2 < 0
    · rw [iC_t c1, iC_f (fun q => (in_iff.mp q).1 c1)]
    · by_cases c2 : ((1 : Int32) <<< ((s.1 51 0) &&& 31)) - 1 < x2
      · rw [iC_f c1, iC_t c2, iC_f (fun q => (in_iff.mp q).2 c2)]
      · rw [iC_f c1, iC_f c2, iC_t (in_iff.mpr ⟨c1, c2⟩)]
  · rw [iC_f (fun q => hw ((has_iff (o := 4) hW.1).mp q)), iC_f (fun q => hw ((isw_iff h).mp q))]
theorem cnt_pos {P : Nat → Prop} {n k : Nat} (hk : k < n) (h : P k) : 1 ≤ cntN P n := by
  induction n with
  | zero => omega
  | succ n ih =>
    by_cases e : k = n
    · subst e
      rw [cnt_t h]
      omega
    · have := ih (by omega)
      by_cases hn : P n
      · rw [cnt_t hn]; omega
      · rw [cnt_f hn]; omega
theorem sumN_pos {f : Nat → Nat} {n : Nat} (hn : 0 < n) (h : 1 ≤ f 0) : 1 ≤ sumN f n := by
  match n, hn with
  | n + 1, _ =>
    rw [sumN_shift]
    omega
theorem eq_learnt {l : Launch} {G : Geo} {s : St} (h : RI s) (x1 x2 x3 : Int32) : Eqv l G 123 179 [.int x1, .int x2, .int x3] s := by
  have hW := ri_wl h
  have hC := ri_ch h
  obtain ⟨ez, hz⟩ := siz4 hW
  obtain ⟨-, ⟨⟨V, v1, v5, hV⟩, -, c3, -⟩, ⟨-, -, -, -, -, w6, w7, w8, w9, w10⟩, -⟩ := id h
  have hV' : s.1 51 0 = nI V := c3.trans hV
  have sz : v_X9_size s 4 = nI (Int32.toNatClampNeg (s.1 4 3)) := ez
  by_cases hnv : ¬ ∃ v, v < V ∧ x1 = nI v
  · refine p_X10_learnt _ _ _ s (fun q => absurd ((hasv_iff hV v5).mp q) hnv) (r_X11_learnt _ _ _ s ⟨fun _ => ⟨?_, h⟩, fun q => absurd ((isv_iff hV' v5).mp q) hnv⟩)
    unfold v_X10_learnt
    rw [iC_f (fun q => hnv ((hasv_iff hV v5).mp q))]
  obtain ⟨v, hv, rfl⟩ := Classical.not_not.mp hnv
  clear hnv
  have hiv : b_X11_isVoice s (nI v) := (isv_iff hV' v5).mpr ⟨v, hv, rfl⟩
  have hhas : b_X0_has s 8 (nI v) := (hasv_iff hV v5).mpr ⟨v, hv, rfl⟩
  have hvn : v < Int32.toNatClampNeg (s.1 8 1) := by rw [hV, nnum (by omega)]; exact hv
  have okS : ok_X2_sumOfClassSizes s (nI v) := ⟨hW, hC, v, hvn, rfl⟩
  have okC : ok_X2_countClasses s (nI v) := ⟨hW, hC, v, hvn, rfl⟩
  obtain ⟨N, hN⟩ : ∃ N, N = Int32.toNatClampNeg (s.1 4 3) := ⟨_, rfl⟩
  obtain ⟨P, hP⟩ : ∃ P, P = sumN (fun a => cntN (fun b => clsP V (s.1 5) (s.1 6) a b v) N) N := ⟨_, rfl⟩
  obtain ⟨C, hCc⟩ : ∃ C, C = cntN (fun a => ∀ b, b < a → ¬ clsP V (s.1 5) (s.1 6) a b v) N := ⟨_, rfl⟩
  have eS : v_X2_sumOfClassSizes s (nI v) = nI P := by
    unfold v_X2_sumOfClassSizes
    rw [hV, nnum (by omega), nnum (by omega), ← hN, hP]
  have eC : v_X2_countClasses s (nI v) = nI C := by
    unfold v_X2_countClasses
    rw [hV, nnum (by omega), nnum (by omega), ← hN, hCc]
  have eN : v_X9_size s 4 = nI N := by rw [sz, hN]
  have hPle : P ≤ 144 := by
    have := sumN_le (f := fun a => cntN (fun b => clsP V (s.1 5) (s.1 6) a b v) N) (c := N) N (fun j _ => cnt_le _ N)
    have h2 : N * N ≤ 12 * 12 := Nat.mul_le_mul (by omega) (by omega)
    omega
  have hCle : C ≤ 12 := by
    have := cnt_le (fun a => ∀ b, b < a → ¬ clsP V (s.1 5) (s.1 6) a b v) N
    omega
  have hPpos : 0 < N → 1 ≤ P := fun q => by
    rw [hP]
    exact sumN_pos q (cnt_pos (k := 0) q ⟨rfl, fun _ _ _ => rfl⟩)
  have hCpos : 0 < N → 1 ≤ C := fun q => by
    rw [hCc]
    exact cnt_pos (k := 0) q (fun b hb => absurd hb (Nat.not_lt_zero b))
  have okl : 0 < N → ∀ p q, (p = P ∨ p = C ∨ p = N) → (q = P ∨ q = C ∨ q = N) → ok_X10_lowestTerm s (nI p) (nI q) := by
    intro h0 p q hp hq
    have := hPpos h0
    have := hCpos h0
    exact ⟨p, q, by omega, by omega, by omega, by omega, rfl, rfl⟩
  have vlt : 0 < N → ∀ p q, (p = P ∨ p = C ∨ p = N) → (q = P ∨ q = C ∨ q = N) → v_X10_lowestTerm s (nI p) (nI q) = nI (p / Nat.gcd p q) := by
    intro h0 p q hp hq
    unfold v_X10_lowestTerm
    rw [nnum (by omega), nnum (by omega)]
  have hN0 : v_X9_size s 4 = 0 ↔ ¬ 0 < N := by
    rw [eN, l0, neq (by omega) (by omega)]
    omega
  have ok1 : ok_X10_learnt s (nI v) x2 x3 := by
    unfold ok_X10_learnt
    rw [eS, eC, eN]
    intro _
    by_cases h0 : 0 < N
    · have a1 := okl h0 P N (Or.inl rfl) (Or.inr (Or.inr rfl))
      have a2 := okl h0 P P (Or.inl rfl) (Or.inl rfl)
      have a3 := okl h0 N N (Or.inr (Or.inr rfl)) (Or.inr (Or.inr rfl))
      have a4 := okl h0 N P (Or.inr (Or.inr rfl)) (Or.inl rfl)
      have a5 := okl h0 C N (Or.inr (Or.inl rfl)) (Or.inr (Or.inr rfl))
      have a6 := okl h0 C C (Or.inr (Or.inl rfl)) (Or.inr (Or.inl rfl))
      have a7 := okl h0 N C (Or.inr (Or.inr rfl)) (Or.inr (Or.inl rfl))
      repeat' (first | assumption | intro _ | apply And.intro)
    · have e0 : nI N = 0 := by rw [← eN]; exact hN0.mpr h0
      repeat' (first | assumption | intro _ | apply And.intro)
      all_goals exact absurd e0 (by assumption)
  refine p_X10_learnt _ _ _ s ok1 ?_
  have two : ∀ x : Int32, b_X11_in s x 0 1 → x = 0 ∨ x = 1 := by
    intro x q
    rw [in_iff] at q
    obtain ⟨k, hk, rfl⟩ := nI_of q.1
    have := q.2
    rw [l1, nlt (by omega) (by omega)] at this
    rcases (show k = 0 ∨ k = 1 by omega) with rfl | rfl
    · exact Or.inl rfl
    · exact Or.inr rfl
  have t0 : ∀ x : Int32, x = 0 ∨ x = 1 → b_X11_in s x 0 1 := by
    rintro x (rfl | rfl) <;> exact in_iff.mpr (by decide)
  unfold v_X10_learnt
  rw [iC_t hhas, eS, eC, eN]
  refine r_X11_learnt _ _ _ s ⟨fun q => absurd hiv q, fun _ => ⟨fun z2 => ⟨?_, h⟩, fun z2 => ⟨fun z3 => ⟨?_, h⟩, fun z3 => ⟨fun z0 => ⟨?_, h⟩, fun z0 => ?_⟩⟩⟩⟩
  · rw [iC_f (fun q => z2 (t0 _ (Or.inl q))), iC_f (fun q => z2 (t0 _ (Or.inr q)))]
  · rcases two x2 z2 with rfl | rfl
    · rw [iC_t rfl, iC_f (fun q => z3 (t0 _ (Or.inl q))), iC_f (fun q => z3 (t0 _ (Or.inr q)))]
    · rw [iC_f (by decide), iC_t rfl, iC_f (fun q => z3 (t0 _ (Or.inl q))), iC_f (fun q => z3 (t0 _ (Or.inr q)))]
  · have e0 : nI N = 0 := by rw [← eN]; show s.1 4 3 = 0; rw [← w6]; exact z0
    rcases two x2 z2 with rfl | rfl <;> rcases two x3 z3 with rfl | rfl
    · rw [iC_t rfl, iC_t rfl, iC_t e0]
    · rw [iC_t rfl, iC_f (by decide), iC_t rfl, iC_t e0]
    · rw [iC_f (by decide), iC_t rfl, iC_t rfl, iC_t e0]
    · rw [iC_f (by decide), iC_t rfl, iC_f (by decide), iC_t rfl, iC_t e0]
  · have e0 : ¬ nI N = 0 := by rw [← eN]; show ¬ s.1 4 3 = 0; rw [← w6]; exact z0
    have h0 : 0 < N := Classical.byContradiction fun q => e0 (by rw [← eN]; exact hN0.mpr q)
    have hp1 := hPpos h0
    have hc1 := hCpos h0
    refine at_learnt (ri_md h) hV' v5 hv ?_
    rw [w6, w8, w9, ← hN, ← hP, ← hCc]
    have eW : s.1 51 4 = nI N := by rw [w6]; exact eN
    have okd : ∀ p, p ≤ 144 → ok_X11_divisor s (nI p) (nI N) := fun p hp => ⟨rg_mk (by omega), rg_mk (by omega)⟩
    have vd : ∀ p, p ≤ 144 → v_X11_divisor s (nI p) (nI N) = nI (Nat.gcd p N) := fun p hp => by
      unfold v_X11_divisor
      rw [nnum (by omega), nnum (by omega)]
    have gle : ∀ p, Nat.gcd p N ≤ N := fun p => Nat.le_of_dvd h0 (Nat.gcd_dvd_right p N)
    have gpos : ∀ p, 0 < Nat.gcd p N := fun p => Nat.gcd_pos_of_pos_right p h0
    have gz : ∀ p, ¬ nI (Nat.gcd p N) = 0 := fun p => by
      have := gle p
      have := gpos p
      rw [l0, neq (by omega) (by omega)]
      omega
    have dv : ∀ p q, p ≤ 144 → nI p / nI (Nat.gcd q N) = nI (p / Nat.gcd q N) := fun p q hp => by
      have := gle q
      exact pk_div (by omega) (gpos q) (by omega)
    refine r_X11_learnt_51 _ _ _ _ _ _ s ⟨fun z => ?_, fun _ => ⟨fun k2 => ⟨fun k3 => ?_, fun k3 => ?_⟩, fun k2 => ⟨fun k3 => ?_, fun k3 => ?_⟩⟩⟩
    · rw [eW] at z
      exact (Int32.lt_irrefl z).elim
    · rw [eW]
      refine ⟨okd P hPle, by rw [vd P hPle]; exact gz P, ?_, h⟩
      rw [vd P hPle, dv _ _ hPle, iC_t k2, iC_t k3, iC_f e0, iC_t k2, iC_t k3, iC_t k3, vlt h0 _ _ (Or.inl rfl) (Or.inr (Or.inr rfl))]
    · rw [eW]
      have k31 := (two x3 z3).resolve_left k3
      refine ⟨okd P hPle, by rw [vd P hPle]; exact gz P, ?_, h⟩
      rw [vd P hPle, dv _ _ (by omega), iC_t k2, iC_f k3, iC_t k31, iC_f e0, iC_t k2, iC_f k3, iC_f k3, vlt h0 _ _ (Or.inr (Or.inr rfl)) (Or.inl rfl), Nat.gcd_comm]
    · rw [eW]
      have k21 := (two x2 z2).resolve_left k2
      refine ⟨okd C (by omega), by rw [vd C (by omega)]; exact gz C, ?_, h⟩
      rw [vd C (by omega), dv _ _ (by omega), iC_f k2, iC_t k21, iC_t k3, iC_f e0, iC_f k2, iC_t k3, iC_t k3, vlt h0 _ _ (Or.inr (Or.inl rfl)) (Or.inr (Or.inr rfl))]
    · rw [eW]
      have k21 := (two x2 z2).resolve_left k2
      have k31 := (two x3 z3).resolve_left k3
      refine ⟨okd C (by omega), by rw [vd C (by omega)]; exact gz C, ?_, h⟩
      rw [vd C (by omega), dv _ _ (by omega), iC_f k2, iC_t k21, iC_f k3, iC_t k31, iC_f e0, iC_f k2, iC_f k3, iC_f k3, vlt h0 _ _ (Or.inr (Or.inr rfl)) (Or.inr (Or.inl rfl)), Nat.gcd_comm]
/-- twins, from a place on: the first pair -/
noncomputable def frT (H : Nat → Prop) (val : Nat → Int32) : Nat → Nat → Int32
  | 0, _ => -1
  | m + 1, k => iC (H k) (val k) (frT H val m (k + 1))
noncomputable def v_X2_countTwins (s : St) (x1 : Int32) : Int32 := nI (cntN (fun w => ¬ v_X2_twinOf s x1 (nI w) = -1) (Int32.toNatClampNeg (s.1 4 3)))
noncomputable def v_X2_firstTwins (s : St) (x1 : Int32) : Int32 := frT (fun w => ¬ v_X2_twinOf s x1 (nI w) = -1) (fun w => 20 * nI w + v_X2_twinOf s x1 (nI w)) (Int32.toNatClampNeg (s.1 4 3)) 0
def ok_X2_countTwins (s : St) (_x1 : Int32) : Prop := wlR s 4 ∧ chR s 8
def ok_X2_firstTwins (s : St) (_x1 : Int32) : Prop := wlR s 4 ∧ chR s 8
theorem p_X2_countTwins {l : Launch} {G : Geo} {d : Nat} (x1 : Int32) (s : St) {Q : Int32 → St → Prop} (hok : ok_X2_countTwins s x1) (h : Q (v_X2_countTwins s x1) s) : DoesI l G (d + 5) 29 [.ref 45, .int x1] s Q := by
  obtain ⟨hW, hC⟩ := hok
  obtain ⟨ez, hz⟩ := siz4 hW
  have loop : ∀ m a, a + m = Int32.toNatClampNeg (s.1 4 3) → AtA l G (d + 5) sX2_countTwins 4 [.ref 45, .int x1, .int (nI (cntN (fun w => ¬ v_X2_twinOf s x1 (nI w) = -1) a)), .int (nI a)] [] s (pI Q) := by
    intro m
    induction m with
    | zero =>
      intro a ha
      have : a = Int32.toNatClampNeg (s.1 4 3) := by omega
      subst this
      refine r_X2_countTwins_4 _ _ _ s ⟨fun z => ?_, fun _ => h⟩
      have z : nI (Int32.toNatClampNeg (s.1 4 3)) < s.1 4 3 := z
      rw [← ez] at z
      exact (Int32.lt_irrefl z).elim
    | succ m ih =>
      intro a ha
      have ihh := ih (a + 1) (by omega)
      refine r_X2_countTwins_4 _ _ _ s ⟨fun _ => ⟨⟨hW, hC, a, by omega, rfl⟩, fun z => ?_, fun z => ?_⟩, fun z => ?_⟩
      · rw [cnt_f (P := fun w => ¬ v_X2_twinOf s x1 (nI w) = -1) (fun k => k z)] at ihh
        rw [nI_1]
        exact ihh
      · rw [cnt_t (P := fun w => ¬ v_X2_twinOf s x1 (nI w) = -1) z] at ihh
        rw [nI_1, nI_1]
        exact ihh
      · have z : ¬ nI a < s.1 4 3 := z
        rw [ez, nlt (by omega) (by omega)] at z
        omega
  exact r_X2_countTwins _ s (loop _ 0 (Nat.zero_add _))
theorem p_X2_firstTwins {l : Launch} {G : Geo} {d : Nat} (x1 : Int32) (s : St) {Q : Int32 → St → Prop} (hok : ok_X2_firstTwins s x1) (h : Q (v_X2_firstTwins s x1) s) : DoesI l G (d + 5) 30 [.ref 45, .int x1] s Q := by
  obtain ⟨hW, hC⟩ := hok
  obtain ⟨ez, hz⟩ := siz4 hW
  have loop : ∀ m a, a + m = Int32.toNatClampNeg (s.1 4 3) → Q (frT (fun w => ¬ v_X2_twinOf s x1 (nI w) = -1) (fun w => 20 * nI w + v_X2_twinOf s x1 (nI w)) m a) s → AtA l G (d + 5) sX2_firstTwins 2 [.ref 45, .int x1, .int (nI a), .null] [] s (pI Q) := by
    intro m
    induction m with
    | zero =>
      intro a ha h
      refine r_X2_firstTwins_2 _ _ s ⟨fun z => ?_, fun _ => h⟩
      have z : nI a < s.1 4 3 := z
      rw [ez, nlt (by omega) (by omega)] at z
      omega
    | succ m ih =>
      intro a ha h
      have h : Q (iC (¬ v_X2_twinOf s x1 (nI a) = -1) (20 * nI a + v_X2_twinOf s x1 (nI a)) (frT (fun w => ¬ v_X2_twinOf s x1 (nI w) = -1) (fun w => 20 * nI w + v_X2_twinOf s x1 (nI w)) m (a + 1))) s := h
      refine r_X2_firstTwins_2 _ _ s ⟨fun _ => ⟨⟨hW, hC, a, by omega, rfl⟩, fun z => ?_, fun z => ?_⟩, fun z => ?_⟩
      · rw [iC_f (fun k => k z)] at h
        rw [nI_1]
        exact ih (a + 1) (by omega) h
      · rw [iC_t z] at h
        exact h
      · have z : ¬ nI a < s.1 4 3 := z
        rw [ez, nlt (by omega) (by omega)] at z
        omega
  exact r_X2_firstTwins _ s (loop _ 0 (Nat.zero_add _) h)
