/-! rows of voices on turns: the one with fewest letters spoilt, of several the least -/
def valB (V : Nat) : Nat → List Nat → Bool
  | _, [] => true
  | S, v :: r => decide (v < V) && !S.testBit v && valB V (S ||| 2 ^ v) r
theorem valB_c {V S v : Nat} {r : List Nat} : valB V S (v :: r) = true ↔ v < V ∧ S.testBit v = false ∧ valB V (S ||| 2 ^ v) r = true := by
  show (decide (v < V) && !S.testBit v && valB V (S ||| 2 ^ v) r) = true ↔ _
  rw [Bool.and_eq_true, Bool.and_eq_true, decide_eq_true_eq, Bool.not_eq_true', and_assoc]
def coR (co : Nat → Nat → Nat) : Nat → List Nat → Nat
  | _, [] => 0
  | t, v :: r => co v t + coR co (t + 1) r
def codR (V : Nat) : List Nat → Nat
  | [] => 0
  | v :: r => v * V ^ r.length + codR V r
theorem codR_lt {V : Nat} : ∀ S r, valB V S r = true → codR V r < V ^ r.length
  | _, [], _ => Nat.one_pos
  | S, v :: r, h => by
    obtain ⟨h1, -, h3⟩ := valB_c.mp h
    have ih := codR_lt _ r h3
    show v * V ^ r.length + codR V r < V ^ (r.length + 1)
    rw [Nat.pow_succ]
    have : (v + 1) * V ^ r.length ≤ V * V ^ r.length := Nat.mul_le_mul_right _ h1
    rw [Nat.succ_mul] at this
    rw [Nat.mul_comm (V ^ r.length) V]
    omega
def BestF (V : Nat) (co : Nat → Nat → Nat) (f : Nat → Nat) (T v : Nat) : Prop := v < V ∧ T.testBit v = false ∧ f T = co v (pcN T) + f (T ||| 2 ^ v) ∧ ∀ u, u < V → T.testBit u = false → f T ≤ co u (pcN T) + f (T ||| 2 ^ u) ∧ (co u (pcN T) + f (T ||| 2 ^ u) = f T → v ≤ u)
def grR (B : Nat → Nat) : Nat → Nat → List Nat
  | 0, _ => []
  | m + 1, S => B S :: grR B m (S ||| 2 ^ B S)
theorem gr_len (B : Nat → Nat) : ∀ m S, (grR B m S).length = m
  | 0, _ => rfl
  | m + 1, S => by
    show (grR B m _).length + 1 = m + 1
    rw [gr_len B m]
theorem pc_or {S v : Nat} (hv : v < 12) (h : S.testBit v = false) : pcN (S ||| 2 ^ v) = pcN S + 1 := by
  unfold pcN
  refine cnt_one 12 hv (fun i hi => ?_) ?_ ?_
  · rw [Nat.testBit_or, Nat.testBit_two_pow]
    simp [show ¬ v = i from fun q => hi q.symm]
  · rw [Nat.testBit_or, Nat.testBit_two_pow]
    simp
  · rw [h]
    decide
theorem full_tab : ∀ V, V < 6 → pcB (2 ^ V - 1) 12 = V ∧ ∀ S, S < 2 ^ V → pcB S 12 = V → S = 2 ^ V - 1 := by decide +kernel
theorem pc_B (m : Nat) : pcN m = pcB m 12 := pcB_eq m 12
theorem or_lt {V S v : Nat} (hS : S < 2 ^ V) (hv : v < V) : S ||| 2 ^ v < 2 ^ V := Nat.or_lt_two_pow hS (Nat.pow_lt_pow_right (by decide) hv)
theorem gr_best {V : Nat} {co : Nat → Nat → Nat} {f B : Nat → Nat} (h5 : V ≤ 5) (hf0 : f (2 ^ V - 1) = 0) (hB : ∀ T, T < 2 ^ V - 1 → BestF V co f T (B T)) : ∀ m S, pcN S + m = V → S < 2 ^ V → valB V S (grR B m S) = true ∧ coR co (pcN S) (grR B m S) = f S ∧ ∀ r : List Nat, r.length = m → valB V S r = true → f S ≤ coR co (pcN S) r ∧ (coR co (pcN S) r = f S → codR V (grR B m S) ≤ codR V r) := by
  intro m
  induction m with
  | zero =>
    intro S hp hS
    have e : S = 2 ^ V - 1 := (full_tab V (by omega)).2 S hS (by rw [← pc_B]; omega)
    rw [e, hf0]
    refine ⟨rfl, rfl, fun r hr _ => ?_⟩
    cases r with
    | nil => exact ⟨Nat.le_refl _, fun _ => Nat.le_refl _⟩
    | cons v r => exact absurd hr (by simp)
  | succ m ih =>
    intro S hp hS
    have hne : S < 2 ^ V - 1 := by
      refine Classical.byContradiction fun z => ?_
      have e : S = 2 ^ V - 1 := by omega
      have := (full_tab V (by omega)).1
      rw [← pc_B, ← e] at this
      omega
    obtain ⟨b1, b2, b3, b4⟩ := hB S hne
    have pb := pc_or (S := S) (v := B S) (by omega) b2
    obtain ⟨i1, i2, i3⟩ := ih (S ||| 2 ^ B S) (by omega) (or_lt hS b1)
    refine ⟨valB_c.mpr ⟨b1, b2, i1⟩, ?_, fun r hr hv => ?_⟩
    · show co (B S) (pcN S) + coR co (pcN S + 1) (grR B m (S ||| 2 ^ B S)) = f S
      rw [← pb, i2, b3]
    · cases r with
      | nil => exact absurd hr (by simp)
      | cons u r =>
        have hr : r.length = m := by simpa using hr
        obtain ⟨u1, u2, u3⟩ := valB_c.mp hv
        have pu := pc_or (S := S) (v := u) (by omega) u2
        obtain ⟨j1, j2, j3⟩ := ih (S ||| 2 ^ u) (by omega) (or_lt hS u1)
        obtain ⟨k1, k2⟩ := j3 r hr u3
        obtain ⟨q1, q2⟩ := b4 u u1 u2
        show f S ≤ co u (pcN S) + coR co (pcN S + 1) r ∧ (co u (pcN S) + coR co (pcN S + 1) r = f S → B S * V ^ (grR B m (S ||| 2 ^ B S)).length + codR V (grR B m (S ||| 2 ^ B S)) ≤ u * V ^ r.length + codR V r)
        rw [← pu]
        refine ⟨by omega, fun z => ?_⟩
        rw [gr_len, hr]
        have hbu := q2 (by omega)
        have hlt := codR_lt _ _ i1
        rw [gr_len] at hlt
        by_cases e : B S = u
        · have := k2 (by omega)
          rw [e]
          omega
        · have : (B S + 1) * V ^ m ≤ u * V ^ m := Nat.mul_le_mul_right _ (by omega)
          rw [Nat.succ_mul] at this
          omega
/-! a row as a number: its digits -/
def digR (V : Nat) : Nat → Nat → List Nat
  | 0, _ => []
  | m + 1, c => (c / V ^ m % V) :: digR V m c
theorem dig_len (V : Nat) : ∀ m c, (digR V m c).length = m
  | 0, _ => rfl
  | m + 1, c => by
    show (digR V m c).length + 1 = m + 1
    rw [dig_len V m]
theorem cod_dig (V : Nat) : ∀ m c, codR V (digR V m c) = c % V ^ m
  | 0, c => by
    show 0 = c % 1
    omega
  | m + 1, c => by
    show c / V ^ m % V * V ^ (digR V m c).length + codR V (digR V m c) = c % V ^ (m + 1)
    rw [dig_len, cod_dig V m c, Nat.mod_pow_succ, Nat.mul_comm]
    omega
theorem dig_add {V : Nat} (h1 : 1 ≤ V) (a c : Nat) {k : Nat} : ∀ m, m ≤ k → digR V m (a * V ^ k + c) = digR V m c
  | 0, _ => rfl
  | m + 1, h => by
    show ((a * V ^ k + c) / V ^ m % V) :: digR V m (a * V ^ k + c) = (c / V ^ m % V) :: digR V m c
    rw [dig_add h1 a c m (by omega)]
    have e : a * V ^ k = V ^ m * (V * (a * V ^ (k - (m + 1)))) := by
      have : V ^ k = V ^ m * (V * V ^ (k - (m + 1))) := by
        rw [← Nat.mul_assoc, ← Nat.pow_succ, ← Nat.pow_add, show m + 1 + (k - (m + 1)) = k by omega]
      rw [this]
      ac_rfl
    rw [e, Nat.mul_add_div (Nat.pow_pos (by omega)), Nat.mul_add_mod]
theorem dig_cod {V : Nat} (h1 : 1 ≤ V) : ∀ S (r : List Nat), valB V S r = true → digR V r.length (codR V r) = r
  | _, [], _ => rfl
  | S, v :: r, h => by
    obtain ⟨u1, -, u3⟩ := valB_c.mp h
    show ((v * V ^ r.length + codR V r) / V ^ r.length % V) :: digR V r.length (v * V ^ r.length + codR V r) = v :: r
    rw [dig_add h1 v _ _ (Nat.le_refl _), dig_cod h1 _ r u3, Nat.mul_comm, Nat.mul_add_div (Nat.pow_pos (by omega)), Nat.div_eq_of_lt (codR_lt _ r u3), Nat.add_zero, Nat.mod_eq_of_lt u1]
theorem co_dig {V : Nat} {co : Nat → Nat → Nat} {c : Nat} : ∀ m t, coR co t (digR V m c) = sumN (fun j => co (c / V ^ (m - 1 - j) % V) (t + j)) m
  | 0, _ => rfl
  | m + 1, t => by
    show co (c / V ^ m % V) t + coR co (t + 1) (digR V m c) = _
    rw [sumN_shift, co_dig m (t + 1)]
    show _ = co (c / V ^ (m + 1 - 1 - 0) % V) (t + 0) + _
    congr 1
    refine sumN_congr m (fun j hj => ?_)
    show co (c / V ^ (m - 1 - j) % V) (t + 1 + j) = co (c / V ^ (m + 1 - 1 - (j + 1)) % V) (t + (j + 1))
    rw [show m - 1 - j = m + 1 - 1 - (j + 1) by omega, show t + 1 + j = t + (j + 1) by omega]
/-- the voices met by the first j digits from behind -/
def metN (V c : Nat) : Nat → Nat
  | 0 => 0
  | j + 1 => metN V c j ||| 2 ^ (c / V ^ j % V)
set_option maxRecDepth 20000 in
theorem met_tab : ∀ V, V < 6 → ∀ a, a < 49 → ∀ b, b < 64 → decide (metN V (64 * a + b) V = 2 ^ V - 1) = valB V 0 (digR V V (64 * a + b)) := by decide +kernel
theorem met_iff {V c : Nat} (h5 : V ≤ 5) (hc : c < 3125) : metN V c V = 2 ^ V - 1 ↔ valB V 0 (digR V V c) = true := by
  have := met_tab V (by omega) (c / 64) (by omega) (c % 64) (by omega)
  rw [show 64 * (c / 64) + c % 64 = c by omega] at this
  rw [← this, decide_eq_true_eq]
/-! letters by turns -/
noncomputable def pick (A H : Prop) (x y : Nat) : Nat := iC A x (iC H y 0)
theorem pick_add (A H : Prop) (x y x' y' : Nat) : pick A H (x + x') (y + y') = pick A H x y + pick A H x' y' := by
  unfold pick
  by_cases a : A
  · rw [iC_t a, iC_t a, iC_t a]
  · rw [iC_f a, iC_f a, iC_f a]
    by_cases h : H
    · rw [iC_t h, iC_t h, iC_t h]
    · rw [iC_f h, iC_f h, iC_f h]
theorem sumN_add (f g : Nat → Nat) : ∀ n, sumN (fun j => f j + g j) n = sumN f n + sumN g n
  | 0 => rfl
  | n + 1 => by
    show sumN (fun j => f j + g j) n + (f n + g n) = sumN f n + f n + (sumN g n + g n)
    rw [sumN_add f g n]
    omega
theorem sumN_at {f g : Nat → Nat} {t d : Nat} : ∀ n, t < n → (∀ j, j ≠ t → f j = g j) → f t = g t + d → sumN f n = sumN g n + d
  | 0, h, _, _ => absurd h (Nat.not_lt_zero t)
  | n + 1, h, he, ht => by
    show sumN f n + f n = sumN g n + g n + d
    by_cases e : t = n
    · subst e
      rw [sumN_congr t (fun j hj => he j (by omega)), ht]
      omega
    · rw [sumN_at n (by omega) he ht, he n (fun q => e q.symm)]
      omega
noncomputable def lW (V t n : Nat) : Nat := cntN (fun i => i % V = t) n
noncomputable def sW (V t n : Nat) : Nat := cntN (fun i => i % V = t ∧ i / V % 2 = 1) n
theorem sp_word {V : Nat} (h1 : 1 ≤ V) (A H : Nat → Prop) : ∀ n, cntN (fun i => A (i % V) ∨ (H (i % V) ∧ i / V % 2 = 1)) n = sumN (fun t => pick (A t) (H t) (lW V t n) (sW V t n)) V
  | 0 => by
    have : ∀ m, sumN (fun t => pick (A t) (H t) (lW V t 0) (sW V t 0)) m = 0 := by
      intro m
      induction m with
      | zero => rfl
      | succ m ih =>
        show sumN _ m + pick (A m) (H m) 0 0 = 0
        rw [ih]
        unfold pick
        by_cases a : A m
        · rw [iC_t a]
        · rw [iC_f a]
          by_cases h : H m
          · rw [iC_t h]
          · rw [iC_f h]
    rw [this]
    rfl
  | n + 1 => by
    have ih := sp_word h1 A H n
    have hm := Nat.mod_lt n (show V > 0 by omega)
    have hoth : ∀ j, j ≠ n % V → pick (A j) (H j) (lW V j (n + 1)) (sW V j (n + 1)) = pick (A j) (H j) (lW V j n) (sW V j n) := by
      intro j hj
      unfold lW sW
      rw [cnt_f (P := fun i => i % V = j) (fun q => hj q.symm), cnt_f (P := fun i => i % V = j ∧ i / V % 2 = 1) (fun q => hj q.1.symm)]
    have hl : lW V (n % V) (n + 1) = lW V (n % V) n + 1 := cnt_t (P := fun i => i % V = n % V) rfl
    have hs1 : n / V % 2 = 1 → sW V (n % V) (n + 1) = sW V (n % V) n + 1 := fun q => cnt_t (P := fun i => i % V = n % V ∧ i / V % 2 = 1) ⟨rfl, q⟩
    have hs0 : ¬ n / V % 2 = 1 → sW V (n % V) (n + 1) = sW V (n % V) n := fun q => cnt_f (P := fun i => i % V = n % V ∧ i / V % 2 = 1) (fun z => q z.2)
    by_cases c : A (n % V) ∨ (H (n % V) ∧ n / V % 2 = 1)
    · rw [cnt_t (P := fun i => A (i % V) ∨ (H (i % V) ∧ i / V % 2 = 1)) c, ih]
      refine (sumN_at V hm hoth ?_).symm
      rw [hl]
      unfold pick
      by_cases a : A (n % V)
      · rw [iC_t a, iC_t a]
      · obtain ⟨h, o⟩ := c.resolve_left a
        rw [iC_f a, iC_f a, iC_t h, iC_t h, hs1 o]
    · rw [cnt_f (P := fun i => A (i % V) ∨ (H (i % V) ∧ i / V % 2 = 1)) c, ih]
      refine (sumN_at (d := 0) V hm hoth ?_).symm
      unfold pick
      rw [iC_f (fun q => c (Or.inl q)), iC_f (fun q => c (Or.inl q))]
      by_cases h : H (n % V)
      · rw [iC_t h, iC_t h, hs0 (fun o => c (Or.inr ⟨h, o⟩)), Nat.add_zero]
      · rw [iC_f h, iC_f h]
theorem sp_words {V : Nat} (h1 : 1 ≤ V) (A H : Nat → Prop) (z : Nat → Nat) : ∀ W, sumN (fun w => cntN (fun i => A (i % V) ∨ (H (i % V) ∧ i / V % 2 = 1)) (z w)) W = sumN (fun t => pick (A t) (H t) (sumN (fun w => lW V t (z w)) W) (sumN (fun w => sW V t (z w)) W)) V
  | 0 => by
    have := sp_word h1 A H 0
    exact this
  | W + 1 => by
    show sumN _ W + cntN _ (z W) = _
    rw [sp_words h1 A H z W, sp_word h1 A H (z W), ← sumN_add]
    refine sumN_congr V (fun t _ => ?_)
    show _ = pick (A t) (H t) (sumN (fun w => lW V t (z w)) W + lW V t (z W)) (sumN (fun w => sW V t (z w)) W + sW V t (z W))
    rw [pick_add]
theorem some_row : ∀ V, V < 6 → valB V 0 (digR V V (codR V (List.range V))) = true ∧ codR V (List.range V) < V ^ V + (if V = 0 then 1 else 0) := by decide +kernel
theorem dig_get {V c : Nat} : ∀ m t, t < m → (digR V m c)[t]? = some (c / V ^ (m - 1 - t) % V)
  | 0, t, h => absurd h (Nat.not_lt_zero t)
  | m + 1, 0, _ => rfl
  | m + 1, t + 1, h => by
    show (digR V m c)[t]? = _
    rw [dig_get m t (by omega), show m + 1 - 1 - (t + 1) = m - 1 - t by omega]
def itS (B : Nat → Nat) : Nat → Nat → Nat
  | 0, S => S
  | t + 1, S => itS B t (S ||| 2 ^ B S)
theorem itS_s (B : Nat → Nat) : ∀ t S, itS B (t + 1) S = itS B t S ||| 2 ^ B (itS B t S)
  | 0, _ => rfl
  | t + 1, S => by
    show itS B (t + 1) (S ||| 2 ^ B S) = _
    rw [itS_s B t]
    rfl
theorem gr_get {B : Nat → Nat} : ∀ m t S, t < m → (grR B m S)[t]? = some (B (itS B t S))
  | 0, t, _, h => absurd h (Nat.not_lt_zero t)
  | m + 1, 0, _, _ => rfl
  | m + 1, t + 1, S, h => by
    show (grR B m (S ||| 2 ^ B S))[t]? = _
    rw [gr_get m t _ (by omega)]
    rfl
theorem met_lt {V c : Nat} (h1 : 1 ≤ V) : ∀ j, metN V c j < 2 ^ V
  | 0 => Nat.two_pow_pos V
  | j + 1 => or_lt (met_lt h1 j) (Nat.mod_lt _ (by omega))
theorem pow_tab : ∀ V, V < 6 → V ^ V ≤ 3125 ∧ ∀ k, k ≤ V → V ^ k ≤ 3125 := by decide +kernel
theorem or_gt {S v : Nat} (h : S.testBit v = false) : S < S ||| 2 ^ v := by
  have h1 : S ≤ S ||| 2 ^ v := Nat.left_le_or
  have h2 : S ≠ S ||| 2 ^ v := fun q => by
    rw [q, Nat.testBit_or, Nat.testBit_two_pow] at h
    simp at h
  omega
