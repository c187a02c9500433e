/-! greatest sets without a clash: numbers as sets of bits -/
theorem btn (m : Nat) {i : Nat} (hi : i < 32) : bt (nI m) i = m.testBit i := by
  show (BitVec.ofNat 32 m).getLsbD i = _
  rw [BitVec.getLsbD_ofNat]
  simp [hi]
noncomputable def pcN (m : Nat) : Nat := cntN (fun i => m.testBit i = true) 12
theorem cnt_one {P P' : Nat → Prop} {k : Nat} : ∀ n, k < n → (∀ i, i ≠ k → (P i ↔ P' i)) → P k → ¬ P' k → cntN P n = cntN P' n + 1
  | 0, h, _, _, _ => absurd h (Nat.not_lt_zero k)
  | n + 1, h, he, h1, h2 => by
    by_cases e : k = n
    · subst e
      rw [cnt_t h1, cnt_f h2, cnt_congr k (fun j hj => he j (by omega))]
    · have ih := cnt_one n (by omega) he h1 h2
      by_cases c : P n
      · rw [cnt_t c, cnt_t ((he n (fun q => e q.symm)).mp c), ih]
      · rw [cnt_f c, cnt_f (fun q => c ((he n (fun q => e q.symm)).mpr q)), ih]
theorem tb_hi {x k i : Nat} (hx : x < 2 ^ k) (hi : k ≤ i) : x.testBit i = false := Nat.testBit_lt_two_pow (Nat.lt_of_lt_of_le hx (Nat.pow_le_pow_right (by decide) hi))
theorem tb_add {x k i : Nat} (hx : x < 2 ^ k) : (2 ^ k + x).testBit i = (decide (i = k) || x.testBit i) := by
  rcases Nat.lt_trichotomy i k with h | h | h
  · rw [Nat.testBit_two_pow_add_gt h]
    simp [show ¬ i = k by omega]
  · subst h
    rw [Nat.testBit_two_pow_add_eq, tb_hi hx (Nat.le_refl i)]
    simp
  · rw [tb_hi (k := k + 1) (by rw [Nat.pow_succ]; omega) (by omega), tb_hi hx (by omega)]
    simp [show ¬ i = k by omega]
theorem pc_add {x k : Nat} (hk : k < 12) (hx : x < 2 ^ k) : pcN (2 ^ k + x) = pcN x + 1 := by
  unfold pcN
  refine cnt_one 12 hk (fun i hi => ?_) ?_ ?_
  · rw [tb_add hx]
    simp [hi]
  · rw [tb_add hx]
    simp
  · rw [tb_hi hx (Nat.le_refl k)]
    decide
/-- a number with bit k, below 2 ^ (k + 1), is 2 ^ k and a rest -/
theorem tb_split {t k : Nat} (ht : t < 2 ^ (k + 1)) (hb : t.testBit k = true) : ∃ x, x < 2 ^ k ∧ t = 2 ^ k + x := by
  rw [Nat.pow_succ] at ht
  rcases Nat.lt_or_ge t (2 ^ k) with h | h
  · rw [tb_hi h (Nat.le_refl k)] at hb
    exact absurd hb (by decide)
  · exact ⟨t - 2 ^ k, by omega, by omega⟩
theorem tb_low {t k : Nat} (ht : t < 2 ^ (k + 1)) (hb : t.testBit k = false) : t < 2 ^ k := by
  rcases Nat.lt_or_ge t (2 ^ k) with h | h
  · exact h
  · obtain ⟨x, hx, rfl⟩ : ∃ x, x < 2 ^ k ∧ t = 2 ^ k + x := ⟨t - 2 ^ k, by rw [Nat.pow_succ] at ht; omega, by omega⟩
    rw [tb_add hx] at hb
    simp at hb
def subN (t w : Nat) : Prop := ∀ i, t.testBit i = true → w.testBit i = true
def Ind (cm : Nat → Nat) (t : Nat) : Prop := ∀ a b, t.testBit a = true → t.testBit b = true → a ≠ b → (cm a).testBit b = false
def Best (cm : Nat → Nat) (w r : Nat) : Prop := subN r w ∧ Ind cm r ∧ ∀ t, subN t w → Ind cm t → pcN t ≤ pcN r ∧ (pcN t = pcN r → r ≤ t)
theorem Best.uniq {cm : Nat → Nat} {w r r' : Nat} (h : Best cm w r) (h' : Best cm w r') : r = r' := by
  have a := h.2.2 r' h'.1 h'.2.1
  have b := h'.2.2 r h.1 h.2.1
  have e : pcN r = pcN r' := Nat.le_antisymm b.1 a.1
  exact Nat.le_antisymm (a.2 e.symm) (b.2 e)
theorem sub_lt {t w k : Nat} (h : subN t w) (hw : w < 2 ^ k) : t < 2 ^ k := by
  rcases Nat.lt_or_ge t (2 ^ k) with q | q
  · exact q
  · obtain ⟨i, hi, hb⟩ := Nat.exists_ge_and_testBit_of_ge_two_pow q
    exact absurd (h i hb) (by rw [tb_hi hw hi]; decide)
theorem best_0 (cm : Nat → Nat) : Best cm 0 0 := ⟨fun i h => h, fun a b h => absurd h (by rw [Nat.zero_testBit]; decide), fun t ht _ => by
  have : t = 0 := Nat.eq_of_testBit_eq (fun i => by
    rw [Nat.zero_testBit]
    cases c : t.testBit i with
    | false => rfl
    | true =>
      have := ht i c
      rw [Nat.zero_testBit] at this
      exact absurd this (by decide))
  rw [this]
  exact ⟨Nat.le_refl _, fun _ => Nat.le_refl _⟩⟩
/-- the recursion: with the highest word, and without it -/
theorem best_step {cm : Nat → Nat} {k o r1 : Nat} (hk : k < 12) (ho : o < 2 ^ k) (hsym : ∀ a b, (cm a).testBit b = (cm b).testBit a) {o1 : Nat} (ho1 : ∀ i, o1.testBit i = (o.testBit i && !(cm k).testBit i)) (h1 : Best cm o1 r1) :
    ((∀ i, ((cm k).testBit i && o.testBit i) = false) → Best cm (2 ^ k + o) (2 ^ k + r1)) ∧ (∀ r2, Best cm o r2 → (pcN (2 ^ k + r1) ≤ pcN r2 → Best cm (2 ^ k + o) r2) ∧ (¬ pcN (2 ^ k + r1) ≤ pcN r2 → Best cm (2 ^ k + o) (2 ^ k + r1))) := by
  have so1 : subN o1 o := fun i h => by
    rw [ho1] at h
    simp at h
    exact h.1
  have hr1o : subN r1 o := fun i h => so1 i (h1.1 i h)
  have hr1 : r1 < 2 ^ k := sub_lt hr1o ho
  have hcl : ∀ i, r1.testBit i = true → (cm k).testBit i = false := fun i h => by
    have := h1.1 i h
    rw [ho1] at this
    simp at this
    exact this.2
  have wsub : subN (2 ^ k + r1) (2 ^ k + o) := fun i h => by
    rw [tb_add hr1] at h
    rw [tb_add ho]
    simp at h ⊢
    exact h.imp id (hr1o i)
  have wind : Ind cm (2 ^ k + r1) := by
    intro a b ha hb hab
    rw [tb_add hr1] at ha hb
    simp at ha hb
    rcases ha with rfl | ha
    · exact hcl b (hb.resolve_left (fun q => hab q.symm))
    · rcases hb with rfl | hb
      · rw [hsym]
        exact hcl a ha
      · exact h1.2.1 a b ha hb hab
  -- sets with the word
  have hin : ∀ t, subN t (2 ^ k + o) → Ind cm t → t.testBit k = true → pcN t ≤ pcN (2 ^ k + r1) ∧ (pcN t = pcN (2 ^ k + r1) → 2 ^ k + r1 ≤ t) := by
    intro t hs hi hb
    have ht : t < 2 ^ (k + 1) := sub_lt hs (by rw [Nat.pow_succ]; omega)
    obtain ⟨x, hx, rfl⟩ := tb_split ht hb
    have hxs : subN x o1 := fun i h => by
      have hik : i ≠ k := fun q => by
        subst q
        rw [tb_hi hx (Nat.le_refl i)] at h
        exact absurd h (by decide)
      have hti : (2 ^ k + x).testBit i = true := by rw [tb_add hx, h]; simp
      have h2 := hs i hti
      rw [tb_add ho] at h2
      simp [hik] at h2
      rw [ho1, h2, hi k i hb hti (fun q => hik q.symm)]
      rfl
    have hxi : Ind cm x := fun a b ha hb' hab => hi a b (by rw [tb_add hx, ha]; simp) (by rw [tb_add hx, hb']; simp) hab
    have := h1.2.2 x hxs hxi
    rw [pc_add hk hx, pc_add hk hr1]
    exact ⟨by omega, fun q => by have := this.2 (by omega); omega⟩
  -- sets without it
  have hout : ∀ t, subN t (2 ^ k + o) → t.testBit k = false → subN t o := by
    intro t hs hb i h
    have h2 := hs i h
    rw [tb_add ho] at h2
    simp at h2
    rcases h2 with rfl | h2
    · rw [h] at hb
      exact absurd hb (by decide)
    · exact h2
  constructor
  · intro hno
    refine ⟨wsub, wind, fun t hs hi => ?_⟩
    cases hb : t.testBit k with
    | true => exact hin t hs hi hb
    | false =>
      have hto := hout t hs hb
      have htl : t < 2 ^ k := sub_lt hto ho
      have ht1 : subN t o1 := fun i h => by
        have := hno i
        rw [hto i h] at this
        simp at this
        rw [ho1, hto i h, this]
        rfl
      have := (h1.2.2 t ht1 hi).1
      rw [pc_add hk hr1]
      exact ⟨by omega, fun q => by omega⟩
  · intro r2 h2
    have hr2 : r2 < 2 ^ k := sub_lt h2.1 ho
    constructor
    · intro hle
      refine ⟨fun i h => by rw [tb_add ho, h2.1 i h]; simp, h2.2.1, fun t hs hi => ?_⟩
      cases hb : t.testBit k with
      | true =>
        have := hin t hs hi hb
        have htk : 2 ^ k ≤ t := Nat.ge_two_pow_of_testBit hb
        exact ⟨by omega, fun _ => by omega⟩
      | false => exact h2.2.2 t (hout t hs hb) hi
    · intro hle
      refine ⟨wsub, wind, fun t hs hi => ?_⟩
      cases hb : t.testBit k with
      | true => exact hin t hs hi hb
      | false =>
        have := (h2.2.2 t (hout t hs hb) hi).1
        exact ⟨by omega, fun q => by omega⟩
