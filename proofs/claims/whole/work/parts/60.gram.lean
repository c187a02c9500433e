/-! readings: words one behind another, counted; pure -/
abbrev Gr : Type := Nat × Nat × (Nat → Nat) × (Nat → Nat) × (Nat → Nat → Prop) × (Nat → Nat → Prop)
/-- many words -/
def gN (g : Gr) : Nat := g.1
/-- the length of what was heard -/
def gn (g : Gr) : Nat := g.2.1
def gz (g : Gr) : Nat → Nat := g.2.2.1
def gs (g : Gr) : Nat → Nat := g.2.2.2.1
def gf (g : Gr) : Nat → Nat → Prop := g.2.2.2.2.1
def ga (g : Gr) : Nat → Nat → Prop := g.2.2.2.2.2
def gOK (g : Gr) : Prop := gN g ≤ 12 ∧ gn g ≤ 60 ∧ (∀ w, w < gN g → 1 ≤ gz g w ∧ gz g w ≤ 10 ∧ gs g w ≤ 2) ∧ (∀ w p, gf g w p → p + gz g w ≤ gn g) ∧ ∀ w, ga g 3 w
noncomputable def Cw (g : Gr) : Nat → Nat → Nat → Nat
  | 0, p, _ => iC (p = gn g) 1 0
  | k + 1, p, a => iC (p = gn g) 1 (sumN (fun w => iC (gf g w p ∧ ga g a w) (Cw g k (p + gz g w) (gs g w)) 0) (gN g))
theorem Cw_n {g : Gr} (k a : Nat) : Cw g k (gn g) a = 1 := by
  cases k with
  | zero => exact iC_t rfl
  | succ k => exact iC_t rfl
theorem Cw_0 {g : Gr} {p a : Nat} (h : p ≠ gn g) : Cw g 0 p a = 0 := iC_f h
theorem Cw_s {g : Gr} {k p a : Nat} (h : p ≠ gn g) : Cw g (k + 1) p a = sumN (fun w => iC (gf g w p ∧ ga g a w) (Cw g k (p + gz g w) (gs g w)) 0) (gN g) := iC_f h
theorem Cw_le {g : Gr} (hN : gN g ≤ 12) : ∀ k p a, Cw g k p a ≤ 12 ^ k := by
  intro k
  induction k with
  | zero =>
    intro p a
    by_cases h : p = gn g
    · rw [h, Cw_n]; decide
    · rw [Cw_0 h]; decide
  | succ k ih =>
    intro p a
    have h1 : 1 ≤ 12 ^ (k + 1) := Nat.one_le_pow _ _ (by decide)
    by_cases h : p = gn g
    · rw [h, Cw_n]; exact h1
    · rw [Cw_s h]
      have := sumN_le (f := fun w => iC (gf g w p ∧ ga g a w) (Cw g k (p + gz g w) (gs g w)) 0) (c := 12 ^ k) (gN g) (fun w _ => by
        show iC (gf g w p ∧ ga g a w) (Cw g k (p + gz g w) (gs g w)) 0 ≤ 12 ^ k
        by_cases c : gf g w p ∧ ga g a w
        · rw [iC_t c]; exact ih _ _
        · rw [iC_f c]; exact Nat.zero_le _)
      have h3 : gN g * 12 ^ k ≤ 12 * 12 ^ k := Nat.mul_le_mul_right _ hN
      rw [Nat.pow_succ]
      omega
theorem Cw_lt {g : Gr} (hN : gN g ≤ 12) {k p a : Nat} (hk : k ≤ 6) : Cw g k p a < 2985985 := by
  have h1 := Cw_le hN k p a
  have h2 : 12 ^ k ≤ 12 ^ 6 := Nat.pow_le_pow_right (by decide) hk
  have h3 : 12 ^ 6 = 2985984 := by decide
  omega
/-- readings from place p that begin with word w, of at most k + 1 words -/
noncomputable def Rw (g : Gr) (k p w : Nat) : Nat := iC (gf g w p) (Cw g k (p + gz g w) (gs g w)) 0
theorem Rw_t {g : Gr} {k p w : Nat} (h : gf g w p) : Rw g k p w = Cw g k (p + gz g w) (gs g w) := iC_t h
theorem Rw_f {g : Gr} {k p w : Nat} (h : ¬ gf g w p) : Rw g k p w = 0 := iC_f h
theorem Rw_lt {g : Gr} (hN : gN g ≤ 12) {k p w : Nat} (hk : k ≤ 6) : Rw g k p w < 2985985 := by
  by_cases h : gf g w p
  · rw [Rw_t h]; exact Cw_lt hN hk
  · rw [Rw_f h]; decide
theorem Cw_R {g : Gr} {k p a : Nat} (h : p ≠ gn g) : Cw g (k + 1) p a = sumN (fun w => iC (ga g a w) (Rw g k p w) 0) (gN g) := by
  rw [Cw_s h]
  refine sumN_congr _ (fun w _ => ?_)
  unfold Rw
  by_cases c : ga g a w
  · rw [iC_t c]
    by_cases d : gf g w p
    · rw [iC_t ⟨d, c⟩, iC_t d]
    · rw [iC_f (fun q => d q.1), iC_f d]
  · rw [iC_f c, iC_f (fun q => c q.2)]
theorem sumN_pos2 {f : Nat → Nat} {k : Nat} : ∀ n, k < n → 0 < f k → 0 < sumN f n
  | 0, h, _ => absurd h (Nat.not_lt_zero k)
  | n + 1, h, hp => by
    show 0 < sumN f n + f n
    by_cases e : k = n
    · subst e; omega
    · have := sumN_pos2 n (by omega) hp
      omega
/-- sorts that can stand ahead of place p behind u words -/
def Rch (g : Gr) : Nat → Nat → Nat → Prop
  | 0, p, a => p = 0 ∧ a = 3
  | u + 1, p', s => ∃ p w a, p < gn g ∧ w < gN g ∧ a < 4 ∧ Rch g u p a ∧ gf g w p ∧ ga g a w ∧ p' = p + gz g w ∧ s = gs g w
/-- the reference's way of reaching -/
def RR (g : Gr) : Nat → Nat → Nat → Prop
  | 0, p, _ => p = 0
  | u + 1, p, w => ∃ p0 w0, p0 < gn g ∧ w0 < gN g ∧ RR g u p0 w0 ∧ 0 < Rw g (5 - u) p0 w0 ∧ p = p0 + gz g w0 ∧ p < gn g ∧ ga g (gs g w0) w
theorem rr_iff {g : Gr} (hg : gOK g) : ∀ u, u < 6 → ∀ p w, p < gn g → w < gN g → 0 < Rw g (5 - u) p w → (RR g u p w ↔ ∃ a, a < 4 ∧ Rch g u p a ∧ ga g a w) := by
  obtain ⟨h1, h2, h3, h4, h5⟩ := hg
  intro u
  induction u with
  | zero =>
    intro _ p w hp hw hr
    exact ⟨fun q => ⟨3, by decide, ⟨q, rfl⟩, h5 w⟩, fun ⟨a, _, q, _⟩ => q.1⟩
  | succ u ih =>
    intro hu p w hp hw hr
    constructor
    · rintro ⟨p0, w0, a1, a2, a3, a4, a5, a6, a7⟩
      obtain ⟨a, b1, b2, b3⟩ := (ih (by omega) p0 w0 a1 a2 a4).mp a3
      have hf : gf g w0 p0 := Classical.byContradiction fun z => by
        rw [Rw_f z] at a4
        exact absurd a4 (by decide)
      exact ⟨gs g w0, by have := (h3 w0 a2).2.2; omega, ⟨p0, w0, a, a1, a2, b1, b2, hf, b3, a5, rfl⟩, a7⟩
    · rintro ⟨s, -, ⟨p0, w0, a, a1, a2, a3, a4, a5, a6, a7, rfl⟩, b3⟩
      have hpos : 0 < Rw g (5 - u) p0 w0 := by
        rw [Rw_t a5, ← a7, show 5 - u = (5 - (u + 1)) + 1 by omega, Cw_R (by omega)]
        refine sumN_pos2 _ hw ?_
        show 0 < iC (ga g (gs g w0) w) (Rw g (5 - (u + 1)) p w) 0
        rw [iC_t b3]
        exact hr
      exact ⟨p0, w0, a1, a2, (ih (by omega) p0 w0 a1 a2 hpos).mpr ⟨a, a3, a4, a6⟩, hpos, a7, hp, b3⟩
/-- words of any reading -/
def Wany (g : Gr) (w : Nat) : Prop := ∃ u p, u < 6 ∧ p < gn g ∧ (∃ a, a < 4 ∧ Rch g u p a ∧ ga g a w) ∧ gf g w p ∧ 0 < Cw g (5 - u) (p + gz g w) (gs g w)
theorem wany_iff {g : Gr} (hg : gOK g) {w : Nat} (hw : w < gN g) : Wany g w ↔ ∃ u p, u < 6 ∧ p < gn g ∧ RR g u p w ∧ 0 < Rw g (5 - u) p w := by
  constructor
  · rintro ⟨u, p, a1, a2, a3, a4, a5⟩
    have hr : 0 < Rw g (5 - u) p w := by rw [Rw_t a4]; exact a5
    exact ⟨u, p, a1, a2, (rr_iff hg u a1 p w a2 hw hr).mpr a3, hr⟩
  · rintro ⟨u, p, a1, a2, a3, a4⟩
    have hf : gf g w p := Classical.byContradiction fun z => by
      rw [Rw_f z] at a4
      exact absurd a4 (by decide)
    exact ⟨u, p, a1, a2, (rr_iff hg u a1 p w a2 hw a4).mp a3, hf, by rw [Rw_t hf] at a4; exact a4⟩
/-- the next word of the first reading -/
def NxC (g : Gr) (u p a w : Nat) : Prop := ga g a w ∧ 0 < Rw g (5 - u) p w
/-- word i of the first reading, u words being had -/
noncomputable def FR (g : Gr) (i : Nat) : Nat → Nat → Nat → Nat → Int32
  | 0, _, _, _ => -1
  | m + 1, u, p, a => iC (p < gn g) (iC (findF (NxC g u p a) (gN g) 0 = -1) (-1) (iC (u = i) (findF (NxC g u p a) (gN g) 0) (FR g i m (u + 1) (p + gz g (Int32.toNatClampNeg (findF (NxC g u p a) (gN g) 0))) (gs g (Int32.toNatClampNeg (findF (NxC g u p a) (gN g) 0)))))) (-1)
theorem findF_eq {C : Nat → Prop} {N : Nat} {r : Int32} (h : Least C N r) : findF C N 0 = r := by
  have := findF_least (C := C) N 0 (fun j hj => absurd hj (Nat.not_lt_zero j))
  rw [Nat.zero_add] at this
  exact Least.uniq this h
theorem Least_congr {C D : Nat → Prop} {N : Nat} {r : Int32} (h : ∀ w, w < N → (C w ↔ D w)) (hl : Least C N r) : Least D N r := by
  rcases hl with ⟨e, q⟩ | ⟨c, h1, h2, h3, e⟩
  · exact Or.inl ⟨e, fun c hc z => q c hc ((h c hc).mpr z)⟩
  · exact Or.inr ⟨c, h1, (h c h1).mp h2, fun j hj z => h3 j hj ((h j (by omega)).mpr z), e⟩
