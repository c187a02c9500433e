/-! lines of the text, what they do: pure -/
abbrev Dr : Type := Int32 × Int32 × Int32 × (Nat → Int32) × Int32 × Int32 × (Nat → Int32) × (Nat → Int32) × (Nat → Int32)
def dV (D : Dr) : Int32 := D.1
def dA (D : Dr) : Int32 := D.2.1
def dH (D : Dr) : Int32 := D.2.2.1
def dT (D : Dr) : Nat → Int32 := D.2.2.2.1
def dN (D : Dr) : Int32 := D.2.2.2.2.1
def dF (D : Dr) : Int32 := D.2.2.2.2.2.1
def dL (D : Dr) : Nat → Int32 := D.2.2.2.2.2.2.1
def dZ (D : Dr) : Nat → Int32 := D.2.2.2.2.2.2.2.1
def dS (D : Dr) : Nat → Int32 := D.2.2.2.2.2.2.2.2
noncomputable def kd (c : Nat → Nat) (n p : Nat) : Nat := iC (isW c n p 0) 0 (iC (isW c n p 1) 1 (iC (isW c n p 2) 2 (iC (isW c n p 3) 3 (iC (isW c n p 4) 5 (iC (isW c n p 5) 6 (iC (isW c n p 6) 7 (iC (isW c n p 7) 8 (iC (isW c n p 8) 4 9))))))))
abbrev Ln : Type := Nat × Nat × Nat × Nat
def num1 (c : Nat → Nat) (n k lo hi p : Nat) : Nat ⊕ Ln := if lo ≤ nmv c n p ∧ nmv c n p ≤ hi then .inr (k, nmv c n p, 0, nx c n p) else .inl (tB c n p)
def num2 (c : Nat → Nat) (n k hi hi2 p : Nat) : Nat ⊕ Ln := if nmv c n p ≤ hi then (if nmv c n (nx c n p) ≤ hi2 then .inr (k, nmv c n p, nmv c n (nx c n p), nx c n (nx c n p)) else .inl (tB c n (nx c n p))) else .inl (tB c n p)
/-- some word has these m letters from b on -/
def toldD (c : Nat → Nat) (D : Dr) (b m : Nat) : Prop := ∃ w, w < Int32.toNatClampNeg (dN D) ∧ Int32.toNatClampNeg (dZ D w) = m ∧ ∀ i, i < m → dL D (10 * w + i) = nI (c (b + i) - 96)
def wordOK (c : Nat → Nat) (n : Nat) (D : Dr) (p : Nat) : Prop := (tB c n p < n ∧ 97 ≤ c (tB c n p) ∧ c (tB c n p) ≤ 122) ∧ nx c n p ≤ tB c n p + 10 ∧ ¬ toldD c D (tB c n p) (nx c n p - tB c n p)
noncomputable def wordL (c : Nat → Nat) (n : Nat) (D : Dr) (p : Nat) : Nat ⊕ Ln :=
  if Int32.toNatClampNeg (dN D) = 12 then .inl (tB c n p) else if nmv c n (nx c n p) ≤ 2 then iC (wordOK c n D (nx c n (nx c n p))) (.inr (1, nmv c n (nx c n p), tB c n (nx c n (nx c n p)), nx c n (nx c n (nx c n p)))) (.inl (tB c n (nx c n (nx c n p)))) else .inl (tB c n (nx c n p))
noncomputable def lineK (c : Nat → Nat) (n : Nat) (D : Dr) (p : Nat) : Nat → Nat ⊕ Ln
  | 0 => num1 c n 0 1 5 (nx c n p)
  | 1 => wordL c n D p
  | 2 => num2 c n 2 2 2 (nx c n p)
  | 3 => .inr (3, 0, 0, nx c n p)
  | 4 => num2 c n 4 (Int32.toNatClampNeg (dV D) - 1) 3 (nx c n p)
  | 5 => num1 c n 5 0 (Int32.toNatClampNeg (dV D) - 1) (nx c n p)
  | 6 => num1 c n 6 0 (Int32.toNatClampNeg (dV D) - 1) (nx c n p)
  | 7 => num1 c n 7 0 (Int32.toNatClampNeg (dV D) - 1) (nx c n p)
  | 8 => num1 c n 8 0 (Int32.toNatClampNeg (dV D) - 1) (nx c n p)
  | _ => .inl (tB c n p)
noncomputable def lineP (c : Nat → Nat) (n : Nat) (D : Dr) (p : Nat) : Nat ⊕ Ln := lineK c n D p (kd c n p)
/-- how many letters from b on -/
def lrow (c : Nat → Nat) (n b : Nat) : Nat := eRow c n 97 122 b - b
def app (c : Nat → Nat) (n : Nat) (D : Dr) : Nat → Nat → Nat → Dr
  | 0, a, _ => (nI a, 0, 0, (fun _ => 0), dN D, dF D, dL D, dZ D, dS D)
  | 1, a, b => (dV D, dA D, dH D, dT D, nI (Int32.toNatClampNeg (dN D) + 1), dF D, rowW (dL D) (10 * Int32.toNatClampNeg (dN D)) (lrow c n b) (fun i => nI (c (b + i) - 96)), upd (dZ D) (Int32.toNatClampNeg (dN D)) (nI (lrow c n b)), upd (dS D) (Int32.toNatClampNeg (dN D)) (nI a))
  | 2, a, b => (dV D, dA D, dH D, dT D, dN D, (dF D) &&& (((1 : Int32) <<< (((3 * nI a) + nI b) &&& 31)) ^^^ (-1)), dL D, dZ D, dS D)
  | 3, _, _ => (dV D, dA D, dH D, dT D, 0, 511, dL D, dZ D, dS D)
  | 4, a, b => (dV D, dA D, dH D, upd (dT D) a (nI b), dN D, dF D, dL D, dZ D, dS D)
  | 5, a, _ => (dV D, (dA D) ||| ((1 : Int32) <<< (nI a &&& 31)), dH D, dT D, dN D, dF D, dL D, dZ D, dS D)
  | 6, a, _ => (dV D, (dA D) &&& (((1 : Int32) <<< (nI a &&& 31)) ^^^ (-1)), dH D, dT D, dN D, dF D, dL D, dZ D, dS D)
  | 7, a, _ => (dV D, dA D, (dH D) ||| ((1 : Int32) <<< (nI a &&& 31)), dT D, dN D, dF D, dL D, dZ D, dS D)
  | _, a, _ => (dV D, dA D, (dH D) &&& (((1 : Int32) <<< (nI a &&& 31)) ^^^ (-1)), dT D, dN D, dF D, dL D, dZ D, dS D)
/-- all is in its bounds -/
def wfD (D : Dr) : Prop := (∃ V : Nat, 1 ≤ V ∧ V ≤ 5 ∧ dV D = nI V) ∧ (∀ j, rg (dT D j) 3) ∧ rg (dN D) 12 ∧ (∀ w, rg (dZ D w) 10) ∧ (∀ w, rg (dS D w) 2) ∧ (∀ j, rg (dL D j) 26) ∧ ∀ w, w < Int32.toNatClampNeg (dN D) → 1 ≤ Int32.toNatClampNeg (dZ D w) ∧ ∀ k, k < Int32.toNatClampNeg (dZ D w) → 1 ≤ Int32.toNatClampNeg (dL D (10 * w + k))
/-- a line that may stand there -/
def okL (c : Nat → Nat) (n : Nat) (D : Dr) (k a b : Nat) : Prop := match k with
  | 0 => 1 ≤ a ∧ a ≤ 5
  | 1 => Int32.toNatClampNeg (dN D) < 12 ∧ a ≤ 2 ∧ b < n ∧ 1 ≤ lrow c n b ∧ lrow c n b ≤ 10
  | 2 => a ≤ 2 ∧ b ≤ 2
  | 3 => True
  | 4 => a < Int32.toNatClampNeg (dV D) ∧ b ≤ 3
  | 5 => a < Int32.toNatClampNeg (dV D)
  | 6 => a < Int32.toNatClampNeg (dV D)
  | 7 => a < Int32.toNatClampNeg (dV D)
  | 8 => a < Int32.toNatClampNeg (dV D)
  | _ => False
def runs (c : Nat → Nat) (n : Nat) : Dr → List (Nat × Nat × Nat) → Dr → Prop
  | D, [], E => E = D
  | D, (k, a, b) :: L, E => okL c n D k a b ∧ runs c n (app c n D k a b) L E
noncomputable def rd (c : Nat → Nat) (n : Nat) : Nat → Nat → Dr → Nat ⊕ (List (Nat × Nat × Nat) × Dr)
  | 0, _, _ => .inl 0
  | m + 1, p, D => match lineP c n D p with
    | .inl f => .inl f
    | .inr (k, a, b, p') => if tB c n p' < n then (if c (tB c n p') = 59 ∧ 0 < m then (match rd c n m (nx c n p') (app c n D k a b) with
        | .inl f => .inl f
        | .inr (L, E) => .inr ((k, a, b) :: L, E)) else .inl (tB c n p')) else .inr ([(k, a, b)], app c n D k a b)
theorem rd_bad {c : Nat → Nat} {n m p f : Nat} {D : Dr} (h : lineP c n D p = .inl f) : rd c n (m + 1) p D = .inl f := by
  rw [rd, h]
theorem rd_end {c : Nat → Nat} {n m p k a b p' : Nat} {D : Dr} (h : lineP c n D p = .inr (k, a, b, p')) (h1 : ¬ tB c n p' < n) : rd c n (m + 1) p D = .inr ([(k, a, b)], app c n D k a b) := by
  rw [rd, h]
  dsimp only
  rw [if_neg h1]
theorem rd_oth {c : Nat → Nat} {n m p k a b p' : Nat} {D : Dr} (h : lineP c n D p = .inr (k, a, b, p')) (h1 : tB c n p' < n) (h2 : ¬ (c (tB c n p') = 59 ∧ 0 < m)) : rd c n (m + 1) p D = .inl (tB c n p') := by
  rw [rd, h]
  dsimp only
  rw [if_pos h1, if_neg h2]
theorem rd_goL {c : Nat → Nat} {n m p k a b p' f : Nat} {D : Dr} (h : lineP c n D p = .inr (k, a, b, p')) (h1 : tB c n p' < n) (h2 : c (tB c n p') = 59 ∧ 0 < m) (h3 : rd c n m (nx c n p') (app c n D k a b) = .inl f) : rd c n (m + 1) p D = .inl f := by
  rw [rd, h]
  dsimp only
  rw [if_pos h1, if_pos h2, h3]
theorem rd_goR {c : Nat → Nat} {n m p k a b p' : Nat} {D E : Dr} {L : List (Nat × Nat × Nat)} (h : lineP c n D p = .inr (k, a, b, p')) (h1 : tB c n p' < n) (h2 : c (tB c n p') = 59 ∧ 0 < m) (h3 : rd c n m (nx c n p') (app c n D k a b) = .inr (L, E)) : rd c n (m + 1) p D = .inr ((k, a, b) :: L, E) := by
  rw [rd, h]
  dsimp only
  rw [if_pos h1, if_pos h2, h3]
theorem num1_l {c : Nat → Nat} {n k lo hi p f : Nat} (hp : p ≤ n) (h : num1 c n k lo hi p = .inl f) : f ≤ n := by
  unfold num1 at h
  split at h
  · exact absurd h (by simp)
  · have := Sum.inl.inj h
    rw [← this]
    exact tB_le hp
theorem num1_r {c : Nat → Nat} {n k lo hi p k' a b p' : Nat} (h : num1 c n k lo hi p = .inr (k', a, b, p')) : (lo ≤ nmv c n p ∧ nmv c n p ≤ hi) ∧ k' = k ∧ a = nmv c n p ∧ b = 0 ∧ p' = nx c n p := by
  unfold num1 at h
  split at h
  · rename_i h1
    have := Sum.inr.inj h
    simp only [Prod.mk.injEq] at this
    exact ⟨h1, this.1.symm, this.2.1.symm, this.2.2.1.symm, this.2.2.2.symm⟩
  · exact absurd h (by simp)
theorem num2_l {c : Nat → Nat} {n k hi hi2 p f : Nat} (hp : p ≤ n) (h : num2 c n k hi hi2 p = .inl f) : f ≤ n := by
  unfold num2 at h
  split at h
  · split at h
    · exact absurd h (by simp)
    · have := Sum.inl.inj h
      rw [← this]
      exact tB_le (nx_le hp)
  · have := Sum.inl.inj h
    rw [← this]
    exact tB_le hp
theorem num2_r {c : Nat → Nat} {n k hi hi2 p k' a b p' : Nat} (h : num2 c n k hi hi2 p = .inr (k', a, b, p')) : nmv c n p ≤ hi ∧ nmv c n (nx c n p) ≤ hi2 ∧ k' = k ∧ a = nmv c n p ∧ b = nmv c n (nx c n p) ∧ p' = nx c n (nx c n p) := by
  unfold num2 at h
  split at h
  · rename_i h1
    split at h
    · rename_i h2
      have := Sum.inr.inj h
      simp only [Prod.mk.injEq] at this
      exact ⟨h1, h2, this.1.symm, this.2.1.symm, this.2.2.1.symm, this.2.2.2.symm⟩
    · exact absurd h (by simp)
  · exact absurd h (by simp)
theorem wordL_l {c : Nat → Nat} {n p f : Nat} {D : Dr} (hp : p ≤ n) (h : wordL c n D p = .inl f) : f ≤ n := by
  unfold wordL at h
  split at h
  · rw [← Sum.inl.inj h]
    exact tB_le hp
  · split at h
    · by_cases h1 : wordOK c n D (nx c n (nx c n p))
      · rw [iC_t h1] at h
        exact absurd h (by simp)
      · rw [iC_f h1] at h
        rw [← Sum.inl.inj h]
        exact tB_le (nx_le (nx_le hp))
    · rw [← Sum.inl.inj h]
      exact tB_le (nx_le hp)
theorem wordL_r {c : Nat → Nat} {n p k a b p' : Nat} {D : Dr} (h : wordL c n D p = .inr (k, a, b, p')) : Int32.toNatClampNeg (dN D) ≠ 12 ∧ nmv c n (nx c n p) ≤ 2 ∧ wordOK c n D (nx c n (nx c n p)) ∧ k = 1 ∧ a = nmv c n (nx c n p) ∧ b = tB c n (nx c n (nx c n p)) ∧ p' = nx c n (nx c n (nx c n p)) := by
  unfold wordL at h
  split at h
  · exact absurd h (by simp)
  · rename_i h0
    split at h
    · rename_i h2
      by_cases h1 : wordOK c n D (nx c n (nx c n p))
      · rw [iC_t h1] at h
        have := Sum.inr.inj h
        simp only [Prod.mk.injEq] at this
        exact ⟨h0, h2, h1, this.1.symm, this.2.1.symm, this.2.2.1.symm, this.2.2.2.symm⟩
      · rw [iC_f h1] at h
        exact absurd h (by simp)
    · exact absurd h (by simp)
theorem kd_le {c : Nat → Nat} {n p : Nat} : kd c n p ≤ 9 := by
  unfold kd
  by_cases h0 : isW c n p 0
  · rw [iC_t h0]; decide
  rw [iC_f h0]
  by_cases h0 : isW c n p 1
  · rw [iC_t h0]; decide
  rw [iC_f h0]
  by_cases h0 : isW c n p 2
  · rw [iC_t h0]; decide
  rw [iC_f h0]
  by_cases h0 : isW c n p 3
  · rw [iC_t h0]; decide
  rw [iC_f h0]
  by_cases h0 : isW c n p 4
  · rw [iC_t h0]; decide
  rw [iC_f h0]
  by_cases h0 : isW c n p 5
  · rw [iC_t h0]; decide
  rw [iC_f h0]
  by_cases h0 : isW c n p 6
  · rw [iC_t h0]; decide
  rw [iC_f h0]
  by_cases h0 : isW c n p 7
  · rw [iC_t h0]; decide
  rw [iC_f h0]
  by_cases h0 : isW c n p 8
  · rw [iC_t h0]; decide
  rw [iC_f h0]
  exact Nat.le_refl _
theorem lineP_l {c : Nat → Nat} {n p f : Nat} {D : Dr} (hp : p ≤ n) (h : lineP c n D p = .inl f) : f ≤ n := by
  unfold lineP at h
  have hk := kd_le (c := c) (n := n) (p := p)
  revert h hk
  generalize kd c n p = k
  intro h hk
  have hq := nx_le (c := c) (n := n) (p := p) hp
  match k, hk, h with
  | 0, _, h => exact num1_l hq h
  | 1, _, h => exact wordL_l hp h
  | 2, _, h => exact num2_l hq h
  | 3, _, h => exact absurd h (by simp [lineK])
  | 4, _, h => exact num2_l hq h
  | 5, _, h => exact num1_l hq h
  | 6, _, h => exact num1_l hq h
  | 7, _, h => exact num1_l hq h
  | 8, _, h => exact num1_l hq h
  | 9, _, h =>
    rw [← Sum.inl.inj h]
    exact tB_le hp
theorem lineP_r {c : Nat → Nat} {n p k a b p' : Nat} {D : Dr} (hp : p ≤ n) (hD : wfD D) (h : lineP c n D p = .inr (k, a, b, p')) : okL c n D k a b ∧ p' ≤ n := by
  unfold lineP at h
  have hk := kd_le (c := c) (n := n) (p := p)
  revert h hk
  generalize kd c n p = kk
  intro h hk
  have hq := nx_le (c := c) (n := n) (p := p) hp
  have hq2 := nx_le (c := c) (n := n) (p := nx c n p) hq
  have hq3 := nx_le (c := c) (n := n) (p := nx c n (nx c n p)) hq2
  obtain ⟨V, v1, v5, ev⟩ := hD.1
  have nv : Int32.toNatClampNeg (dV D) = V := by rw [ev, nnum (by omega)]
  match kk, hk, h with
  | 0, _, h =>
    obtain ⟨h1, rfl, rfl, rfl, rfl⟩ := num1_r h
    exact ⟨h1, hq2⟩
  | 1, _, h =>
    obtain ⟨h0, h1, h2, rfl, rfl, rfl, rfl⟩ := wordL_r h
    obtain ⟨e, h3⟩ := rg_num hD.2.2.1 (by decide)
    obtain ⟨w1, w2, -⟩ := h2
    have e2 : nx c n (nx c n (nx c n p)) = eRow c n 97 122 (tB c n (nx c n (nx c n p))) := tE_let w1
    have e3 : tB c n (nx c n (nx c n p)) < tE c n (tB c n (nx c n (nx c n p))) := tE_gt w1.1
    have e4 : tB c n (nx c n (nx c n p)) < nx c n (nx c n (nx c n p)) := e3
    refine ⟨⟨by omega, h1, w1.1, ?_, ?_⟩, hq3⟩
    · unfold lrow
      omega
    · unfold lrow
      omega
  | 2, _, h =>
    obtain ⟨h1, h2, rfl, rfl, rfl, rfl⟩ := num2_r h
    exact ⟨⟨h1, h2⟩, hq3⟩
  | 3, _, h =>
    have := Sum.inr.inj h
    simp only [Prod.mk.injEq] at this
    obtain ⟨rfl, rfl, rfl, rfl⟩ := this
    exact ⟨trivial, hq⟩
  | 4, _, h =>
    obtain ⟨h1, h2, rfl, rfl, rfl, rfl⟩ := num2_r h
    exact ⟨⟨by omega, h2⟩, hq3⟩
  | 5, _, h =>
    obtain ⟨h1, rfl, rfl, rfl, rfl⟩ := num1_r h
    exact ⟨show _ < Int32.toNatClampNeg (dV D) by omega, hq2⟩
  | 6, _, h =>
    obtain ⟨h1, rfl, rfl, rfl, rfl⟩ := num1_r h
    exact ⟨show _ < Int32.toNatClampNeg (dV D) by omega, hq2⟩
  | 7, _, h =>
    obtain ⟨h1, rfl, rfl, rfl, rfl⟩ := num1_r h
    exact ⟨show _ < Int32.toNatClampNeg (dV D) by omega, hq2⟩
  | 8, _, h =>
    obtain ⟨h1, rfl, rfl, rfl, rfl⟩ := num1_r h
    exact ⟨show _ < Int32.toNatClampNeg (dV D) by omega, hq2⟩
  | 9, _, h => exact absurd h (by simp [lineK])
theorem rg_zero_fun (m : Nat) : ∀ j : Nat, rg ((fun _ => (0 : Int32)) j) m := fun _ => rg0 _
theorem app_wf {c : Nat → Nat} {n k a b : Nat} {D : Dr} (hD : wfD D) (h : okL c n D k a b) (hc : ∀ j, c j ≤ 255) : wfD (app c n D k a b) := by
  obtain ⟨h1, h2, h3, h4, h5, h6, h7⟩ := hD
  match k, h with
  | 0, h => exact ⟨⟨a, h.1, h.2, rfl⟩, rg_zero_fun 3, h3, h4, h5, h6, h7⟩
  | 1, h =>
    obtain ⟨i1, i2, i3, i4, i5⟩ := h
    have hl : ∀ i, i < lrow c n b → 97 ≤ c (b + i) ∧ c (b + i) ≤ 122 := by
      intro i hi
      unfold lrow at hi
      have := eRow_at (c := c) (n := n) (lo := 97) (hi := 122) (p := b) (j := b + i) (by omega) (by omega)
      omega
    refine ⟨h1, h2, rg_mk (by omega), upd_rg h4 (rg_mk i5), upd_rg h5 (rg_mk i2), rowW_rg (f := dL D) (a := 10 * Int32.toNatClampNeg (dN D)) (n := lrow c n b) (g := fun i => nI (c (b + i) - 96)) h6 (fun j hj => rg_mk (by have := hl j hj; omega)), ?_⟩
    intro w hw
    have hw' : w < Int32.toNatClampNeg (nI (Int32.toNatClampNeg (dN D) + 1)) := hw
    rw [nnum (by omega)] at hw'
    show 1 ≤ Int32.toNatClampNeg (upd (dZ D) (Int32.toNatClampNeg (dN D)) (nI (lrow c n b)) w) ∧ ∀ k, k < Int32.toNatClampNeg (upd (dZ D) (Int32.toNatClampNeg (dN D)) (nI (lrow c n b)) w) → 1 ≤ Int32.toNatClampNeg (rowW (dL D) (10 * Int32.toNatClampNeg (dN D)) (lrow c n b) (fun i => nI (c (b + i) - 96)) (10 * w + k))
    by_cases hwn : w = Int32.toNatClampNeg (dN D)
    · rw [hwn, pk_us, nnum (by omega)]
      refine ⟨i4, fun k hk => ?_⟩
      rw [rowW_in hk]
      have := hl k hk
      show 1 ≤ Int32.toNatClampNeg (nI (c (b + k) - 96))
      rw [nnum (by omega)]
      omega
    · rw [pk_un hwn]
      obtain ⟨g1, g2⟩ := h7 w (by omega)
      refine ⟨g1, fun k hk => ?_⟩
      have h10 := (rg_num (h4 w) (by decide)).2
      rw [rowW_out (by omega)]
      exact g2 k hk
  | 2, h => exact ⟨h1, h2, h3, h4, h5, h6, h7⟩
  | 3, h => exact ⟨h1, h2, rg0 _, h4, h5, h6, fun w hw => absurd hw (Nat.not_lt_zero w)⟩
  | 4, h => exact ⟨h1, upd_rg h2 (rg_mk h.2), h3, h4, h5, h6, h7⟩
  | 5, h => exact ⟨h1, h2, h3, h4, h5, h6, h7⟩
  | 6, h => exact ⟨h1, h2, h3, h4, h5, h6, h7⟩
  | 7, h => exact ⟨h1, h2, h3, h4, h5, h6, h7⟩
  | 8, h => exact ⟨h1, h2, h3, h4, h5, h6, h7⟩
theorem rd_l {c : Nat → Nat} {n : Nat} (hc : ∀ j, c j ≤ 255) : ∀ m p D f, 0 < m → p ≤ n → wfD D → rd c n m p D = .inl f → f ≤ n := by
  intro m
  induction m with
  | zero => intro p D f h0; exact absurd h0 (Nat.lt_irrefl 0)
  | succ m ih =>
    intro p D f _ hp hD h
    cases hl : lineP c n D p with
    | inl g =>
      rw [rd_bad hl] at h
      rw [← Sum.inl.inj h]
      exact lineP_l hp hl
    | inr q =>
      obtain ⟨k, a, b, p'⟩ := q
      obtain ⟨h1, h2⟩ := lineP_r hp hD hl
      by_cases h3 : tB c n p' < n
      · by_cases h4 : c (tB c n p') = 59 ∧ 0 < m
        · cases h5 : rd c n m (nx c n p') (app c n D k a b) with
          | inl g =>
            rw [rd_goL hl h3 h4 h5] at h
            rw [← Sum.inl.inj h]
            exact ih _ _ _ h4.2 (nx_le h2) (app_wf hD h1 hc) h5
          | inr q =>
            obtain ⟨L, E⟩ := q
            rw [rd_goR hl h3 h4 h5] at h
            exact absurd h (by simp)
        · rw [rd_oth hl h3 h4] at h
          rw [← Sum.inl.inj h]
          omega
      · rw [rd_end hl h3] at h
        exact absurd h (by simp)
theorem rd_r {c : Nat → Nat} {n : Nat} (hc : ∀ j, c j ≤ 255) : ∀ m p D L E, p ≤ n → wfD D → rd c n m p D = .inr (L, E) → runs c n D L E ∧ L.length ≤ m ∧ wfD E := by
  intro m
  induction m with
  | zero =>
    intro p D L E _ _ h
    exact absurd h (by simp [rd])
  | succ m ih =>
    intro p D L E hp hD h
    cases hl : lineP c n D p with
    | inl g =>
      rw [rd_bad hl] at h
      exact absurd h (by simp)
    | inr q =>
      obtain ⟨k, a, b, p'⟩ := q
      obtain ⟨h1, h2⟩ := lineP_r hp hD hl
      by_cases h3 : tB c n p' < n
      · by_cases h4 : c (tB c n p') = 59 ∧ 0 < m
        · cases h5 : rd c n m (nx c n p') (app c n D k a b) with
          | inl g =>
            rw [rd_goL hl h3 h4 h5] at h
            exact absurd h (by simp)
          | inr q =>
            obtain ⟨L', E'⟩ := q
            rw [rd_goR hl h3 h4 h5] at h
            have := Sum.inr.inj h
            simp only [Prod.mk.injEq] at this
            obtain ⟨rfl, rfl⟩ := this
            obtain ⟨r1, r2, r3⟩ := ih _ _ _ _ (nx_le h2) (app_wf hD h1 hc) h5
            exact ⟨⟨h1, r1⟩, by simp only [List.length_cons]; omega, r3⟩
        · rw [rd_oth hl h3 h4] at h
          exact absurd h (by simp)
      · rw [rd_end hl h3] at h
        have := Sum.inr.inj h
        simp only [Prod.mk.injEq] at this
        obtain ⟨rfl, rfl⟩ := this
        exact ⟨⟨h1, rfl⟩, by simp, app_wf hD h1 hc⟩
