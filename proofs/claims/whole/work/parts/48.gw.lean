/-! numbers as sets: the machine's words for them; the recursion -/
def pcB (m : Nat) : Nat → Nat
  | 0 => 0
  | n + 1 => pcB m n + (if m.testBit n = true then 1 else 0)
theorem pcB_eq (m : Nat) : ∀ n, cntN (fun i => m.testBit i = true) n = pcB m n
  | 0 => rfl
  | n + 1 => by
    show _ = pcB m n + (if m.testBit n = true then 1 else 0)
    by_cases h : m.testBit n = true
    · rw [cnt_t (P := fun i => m.testBit i = true) h, pcB_eq m n, if_pos h]
    · rw [cnt_f (P := fun i => m.testBit i = true) h, pcB_eq m n, if_neg h]
      rfl
set_option maxRecDepth 20000 in
theorem bc_tab : ∀ a, a < 64 → ∀ b, b < 64 → v_J6_bitCount_0f7a4 (fun _ _ => 0, 0) (nI (64 * a + b)) = nI (pcB (64 * a + b) 12) := by decide +kernel
theorem bc_eq {s : St} {m : Nat} (h : m < 4096) : v_J6_bitCount_0f7a4 s (nI m) = nI (pcN m) := by
  unfold pcN
  have := bc_tab (m / 64) (by omega) (m % 64) (by omega)
  rw [show 64 * (m / 64) + m % 64 = m by omega] at this
  rw [pcB_eq, ← this]
  rfl
theorem pc_le (m : Nat) : pcN m ≤ 12 := cnt_le _ 12
theorem nn_and (a b : Nat) : nI a &&& nI b = nI (a &&& b) := b_ext fun i hi => by rw [b_and, btn a hi, btn b hi, btn _ hi, Nat.testBit_and]
theorem nn_or (a b : Nat) : nI a ||| nI b = nI (a ||| b) := b_ext fun i hi => by rw [b_or, btn a hi, btn b hi, btn _ hi, Nat.testBit_or]
def adN (a b : Nat) : Nat := a ^^^ (a &&& b)
theorem ad_tb (a b i : Nat) : (adN a b).testBit i = (a.testBit i && !b.testBit i) := by
  unfold adN
  rw [Nat.testBit_xor, Nat.testBit_and]
  cases a.testBit i <;> cases b.testBit i <;> rfl
theorem nn_ad (a b : Nat) : nI a &&& (nI b ^^^ (-1)) = nI (adN a b) := b_ext fun i hi => by rw [b_and, b_not _ hi, btn a hi, btn b hi, btn _ hi, ad_tb]
theorem nn_1 {k : Nat} (hk : k < 31) : ((1 : Int32) <<< (nI k &&& 31)) = nI (2 ^ k) := b_ext fun i hi => by
  rw [b_one k (by omega) hi, btn _ hi, Nat.testBit_two_pow]
  by_cases h : i = k
  · subst h; simp
  · have : ¬ k = i := fun q => h q.symm
    simp [h, this]
theorem ad_lt {a b k : Nat} (h : a < 2 ^ k) : adN a b < 2 ^ k := sub_lt (fun i hi => by rw [ad_tb] at hi; simp at hi; exact hi.1) h
theorem or_add {k r : Nat} (h : r < 2 ^ k) : 2 ^ k ||| r = 2 ^ k + r := Nat.eq_of_testBit_eq fun i => by
  rw [Nat.testBit_or, tb_add h, Nat.testBit_two_pow]
  by_cases h : i = k
  · subst h; simp
  · have : ¬ k = i := fun q => h q.symm
    simp [h, this]
theorem p2k {k : Nat} (h : k ≤ 12) : 2 ^ k ≤ 4096 := Nat.pow_le_pow_right (by decide) h
theorem gw {l : Launch} {G : Geo} {s : St} {cm : Nat → Nat} {N : Nat} (hN : N ≤ 12) (hcm : ∀ a, a < N → s.1 46 a = nI (cm a) ∧ cm a < 4096) (hsym : ∀ a b, (cm a).testBit b = (cm b).testBit a) : ∀ k, k ≤ N → ∀ w, w < 2 ^ k → ∀ d (Q : Int32 → St → Prop), (∀ r, Best cm w r → r < 2 ^ k → Q (nI r) s) → DoesI l G (d + k + 2) 38 [.ref 46, .int (nI w), .int (nI k - 1)] s Q := by
  intro k
  induction k with
  | zero =>
    intro _ w hw d Q h
    have : w = 0 := by
      rw [Nat.pow_zero] at hw
      omega
    subst this
    exact r_X2_greatestWithoutClash _ _ s ⟨fun _ => h 0 (best_0 cm) (by decide), fun z => absurd (by decide) z⟩
  | succ k ih =>
    intro hk w hw d Q h
    have h4 := p2k (show k ≤ 12 by omega)
    have h5 := p2k (show k + 1 ≤ 12 by omega)
    have h6 : 2 ^ (k + 1) = 2 * 2 ^ k := by rw [Nat.pow_succ]; omega
    obtain ⟨ec, hc⟩ := hcm k (by omega)
    have ek : (nI (k + 1) - 1 : Int32) = nI k := nI_pred k
    rw [ek]
    have t46 : nI (tlen 46) = nI 12 := rfl
    have ih := ih (by omega)
    have kin : vp_in (nI k) (alen 46) := vin (show k < 12 by omega) (by decide)
    show DoesI l G ((d + k + 2) + 1) 38 [.ref 46, .int (nI w), .int (nI k)] s Q
    refine r_X2_greatestWithoutClash _ _ s ⟨fun z => absurd z (nneg k (by omega)), fun _ => ⟨fun _ => ?_, fun z => ?_⟩⟩
    · rw [nn_1 (show k < 31 by omega), nn_and, nn_ad]
      have hbit : nI (w &&& 2 ^ k) = 0 ↔ w.testBit k = false := by
        rw [← nn_and, ← nn_1 (show k < 31 by omega)]
        constructor
        · intro q
          have q1 : bt (nI w &&& ((1 : Int32) <<< (nI k &&& 31))) k = bt 0 k := by rw [q]
          rw [b_and, b_one k (by omega) (by omega), b_0, btn w (by omega)] at q1
          simpa using q1
        · intro q
          refine b_ext fun i hi => ?_
          rw [b_and, b_one k (by omega) hi, b_0, btn w hi]
          by_cases e : i = k
          · subst e
            rw [q]
            rfl
          · simp [e]
      refine ⟨fun z => ?_, fun z => ⟨kin, ?_⟩⟩
      · have hb := hbit.mp z
        have hwl := tb_low hw hb
        have e1 : adN w (2 ^ k) = w := Nat.eq_of_testBit_eq fun i => by
          rw [ad_tb, Nat.testBit_two_pow]
          by_cases e : k = i
          · subst e
            rw [hb]
            rfl
          · simp [e]
        rw [e1]
        exact ih w hwl d _ (fun r h1 h2 => h r h1 (by omega))
      · have hb : w.testBit k = true := by
          cases c : w.testBit k with
          | true => rfl
          | false => exact absurd (hbit.mpr c) z
        obtain ⟨o, ho, rfl⟩ := tb_split hw hb
        have e1 : adN (2 ^ k + o) (2 ^ k) = o := Nat.eq_of_testBit_eq fun i => by
          rw [ad_tb, tb_add ho, Nat.testBit_two_pow]
          by_cases e : k = i
          · subst e
            rw [tb_hi ho (Nat.le_refl k)]
            simp
          · have : ¬ i = k := fun q => e q.symm
            simp [e, this]
        rw [e1, nnum (by omega), ec, nn_ad]
        refine ih (adN o (cm k)) (ad_lt ho) d _ (fun r1 b1 l1 => ⟨kin, fun z2 => ?_, fun z2 => ?_⟩)
        · rw [ec, nn_and] at z2
          rw [nn_or, or_add l1]
          have hz : ∀ i, ((cm k).testBit i && o.testBit i) = false := fun i => by
            rw [← Nat.testBit_and]
            have : cm k &&& o = 0 := by
              have hlt : cm k &&& o < 4096 := Nat.and_lt_two_pow (n := 12) _ (by omega)
              rw [l0, neq (by omega) (by omega)] at z2
              exact z2
            rw [this, Nat.zero_testBit]
          exact h _ ((best_step (by omega) ho hsym (ad_tb o (cm k)) b1).1 hz) (by omega)
        · refine ih o ho d _ (fun r2 b2 l2 => ?_)
          rw [nn_or, or_add l1]
          have st := (best_step (by omega) ho hsym (ad_tb o (cm k)) b1).2 r2 b2
          refine p_J6_bitCount_0f7a4 (d := d + k + 1) _ s (p_J6_bitCount_0f7a4 (d := d + k + 1) _ s ?_)
          rw [bc_eq (by omega), bc_eq (by omega)]
          have q1 := pc_le r2
          have q2 := pc_le (2 ^ k + r1)
          refine ⟨fun z3 => ?_, fun z3 => ?_⟩
          · rw [nlt (by omega) (by omega)] at z3
            exact h _ (st.2 (by omega)) (by omega)
          · rw [nlt (by omega) (by omega)] at z3
            exact h _ (st.1 (by omega)) (by omega)
    · rw [t46, nlt (by omega) (by omega)] at z
      omega
