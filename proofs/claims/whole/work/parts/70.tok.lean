/-! the text as tokens: pure -/
def rowE (c : Nat → Nat) (n lo hi : Nat) : Nat → Nat → Nat
  | 0, p => p
  | f + 1, p => if p < n ∧ lo ≤ c p ∧ c p ≤ hi then rowE c n lo hi f (p + 1) else p
def eRow (c : Nat → Nat) (n lo hi p : Nat) : Nat := rowE c n lo hi (n - p) p
theorem eRow_in {c : Nat → Nat} {n lo hi p : Nat} (h : p < n ∧ lo ≤ c p ∧ c p ≤ hi) : eRow c n lo hi p = eRow c n lo hi (p + 1) := by
  unfold eRow
  have e : n - p = (n - (p + 1)) + 1 := by omega
  rw [e, rowE, if_pos h]
theorem eRow_out {c : Nat → Nat} {n lo hi p : Nat} (h : ¬ (p < n ∧ lo ≤ c p ∧ c p ≤ hi)) : eRow c n lo hi p = p := by
  unfold eRow
  cases n - p with
  | zero => rfl
  | succ m => rw [rowE, if_neg h]
theorem eRow_ge {c : Nat → Nat} {n lo hi : Nat} : ∀ m p, n - p = m → p ≤ eRow c n lo hi p ∧ (p ≤ n → eRow c n lo hi p ≤ n) := by
  intro m
  induction m with
  | zero =>
    intro p hm
    rw [eRow_out (by omega)]
    exact ⟨Nat.le_refl _, id⟩
  | succ m ih =>
    intro p hm
    by_cases h : p < n ∧ lo ≤ c p ∧ c p ≤ hi
    · rw [eRow_in h]
      have := ih (p + 1) (by omega)
      exact ⟨by omega, fun _ => this.2 (by omega)⟩
    · rw [eRow_out h]
      exact ⟨Nat.le_refl _, id⟩
theorem eRow_lo {c : Nat → Nat} {n lo hi : Nat} (p : Nat) : p ≤ eRow c n lo hi p := (eRow_ge _ p rfl).1
theorem eRow_le {c : Nat → Nat} {n lo hi p : Nat} (h : p ≤ n) : eRow c n lo hi p ≤ n := (eRow_ge _ p rfl).2 h
theorem eRow_all {c : Nat → Nat} {n lo hi : Nat} : ∀ m p, n - p = m → ∀ j, p ≤ j → j < eRow c n lo hi p → j < n ∧ lo ≤ c j ∧ c j ≤ hi := by
  intro m
  induction m with
  | zero =>
    intro p hm j h1 h2
    rw [eRow_out (by omega)] at h2
    omega
  | succ m ih =>
    intro p hm j h1 h2
    by_cases h : p < n ∧ lo ≤ c p ∧ c p ≤ hi
    · rw [eRow_in h] at h2
      by_cases hj : j = p
      · rw [hj]
        exact h
      · exact ih (p + 1) (by omega) j (by omega) h2
    · rw [eRow_out h] at h2
      omega
theorem eRow_at {c : Nat → Nat} {n lo hi p j : Nat} (h1 : p ≤ j) (h2 : j < eRow c n lo hi p) : j < n ∧ lo ≤ c j ∧ c j ≤ hi := eRow_all _ p rfl j h1 h2
theorem eRow_mid {c : Nat → Nat} {n lo hi : Nat} (p : Nat) : ∀ k, p + k ≤ eRow c n lo hi p → eRow c n lo hi (p + k) = eRow c n lo hi p := by
  intro k
  induction k with
  | zero => intro _; rfl
  | succ k ih =>
    intro h
    have h1 := ih (by omega)
    have h2 := eRow_at (c := c) (n := n) (lo := lo) (hi := hi) (p := p) (j := p + k) (by omega) (by omega)
    rw [← h1, eRow_in h2]
    rfl
theorem eRow_stop {c : Nat → Nat} {n lo hi p k : Nat} (h : p + k = eRow c n lo hi p) : ¬ (p + k < n ∧ lo ≤ c (p + k) ∧ c (p + k) ≤ hi) := by
  intro h2
  have h3 := eRow_mid (c := c) (n := n) (lo := lo) (hi := hi) p k (by omega)
  rw [eRow_in h2] at h3
  have := eRow_lo (c := c) (n := n) (lo := lo) (hi := hi) (p + k + 1)
  omega
/-- where the token behind p begins; where one that begins at b ends; where the token behind p ends -/
def tB (c : Nat → Nat) (n p : Nat) : Nat := eRow c n 32 32 p
def tE (c : Nat → Nat) (n b : Nat) : Nat := if b < n ∧ 97 ≤ c b ∧ c b ≤ 122 then eRow c n 97 122 b else if b < n ∧ 48 ≤ c b ∧ c b ≤ 57 then eRow c n 48 57 b else if b < n then b + 1 else b
def nx (c : Nat → Nat) (n p : Nat) : Nat := tE c n (tB c n p)
theorem tB_le {c : Nat → Nat} {n p : Nat} (h : p ≤ n) : tB c n p ≤ n := eRow_le h
theorem tE_ge {c : Nat → Nat} {n b : Nat} : b ≤ tE c n b := by
  unfold tE
  split
  · exact eRow_lo _
  · split
    · exact eRow_lo _
    · split <;> omega
theorem tE_le {c : Nat → Nat} {n b : Nat} (h : b ≤ n) : tE c n b ≤ n := by
  unfold tE
  split
  · exact eRow_le h
  · split
    · exact eRow_le h
    · split <;> omega
theorem tE_gt {c : Nat → Nat} {n b : Nat} (h : b < n) : b < tE c n b := by
  unfold tE
  split
  · rename_i h1
    rw [eRow_in h1]
    have := eRow_lo (c := c) (n := n) (lo := 97) (hi := 122) (b + 1)
    omega
  · split
    · rename_i h1
      rw [eRow_in h1]
      have := eRow_lo (c := c) (n := n) (lo := 48) (hi := 57) (b + 1)
      omega
    · omega
theorem tE_out {c : Nat → Nat} {n b : Nat} (h : ¬ b < n) : tE c n b = b := by
  unfold tE
  rw [if_neg (by omega), if_neg (by omega), if_neg h]
theorem tE_let {c : Nat → Nat} {n b : Nat} (h : b < n ∧ 97 ≤ c b ∧ c b ≤ 122) : tE c n b = eRow c n 97 122 b := by
  unfold tE
  rw [if_pos h]
theorem tE_dig {c : Nat → Nat} {n b : Nat} (h : b < n ∧ 48 ≤ c b ∧ c b ≤ 57) : tE c n b = eRow c n 48 57 b := by
  unfold tE
  rw [if_neg (by omega), if_pos h]
theorem tE_oth {c : Nat → Nat} {n b : Nat} (h : b < n) (h1 : ¬ (97 ≤ c b ∧ c b ≤ 122)) (h2 : ¬ (48 ≤ c b ∧ c b ≤ 57)) : tE c n b = b + 1 := by
  unfold tE
  rw [if_neg (by omega), if_neg (by omega), if_pos h]
theorem nx_le {c : Nat → Nat} {n p : Nat} (h : p ≤ n) : nx c n p ≤ n := tE_le (tB_le h)
theorem nx_ge {c : Nat → Nat} {n p : Nat} : tB c n p ≤ nx c n p := tE_ge
/-- the number that the token behind p is; 100: none of one or two digits -/
def nmv (c : Nat → Nat) (n p : Nat) : Nat := if tB c n p < n ∧ 48 ≤ c (tB c n p) ∧ c (tB c n p) ≤ 57 ∧ nx c n p ≤ tB c n p + 2 then (if nx c n p = tB c n p + 1 then c (tB c n p) - 48 else 10 * (c (tB c n p) - 48) + (c (tB c n p + 1) - 48)) else 100
theorem nmv_no {c : Nat → Nat} {n p : Nat} (h : ¬ (tB c n p < n ∧ 48 ≤ c (tB c n p) ∧ c (tB c n p) ≤ 57 ∧ nx c n p ≤ tB c n p + 2)) : nmv c n p = 100 := by
  unfold nmv
  rw [if_neg h]
theorem nmv_1 {c : Nat → Nat} {n p : Nat} (h : tB c n p < n ∧ 48 ≤ c (tB c n p) ∧ c (tB c n p) ≤ 57) (h2 : nx c n p = tB c n p + 1) : nmv c n p = c (tB c n p) - 48 := by
  unfold nmv
  rw [if_pos ⟨h.1, h.2.1, h.2.2, by omega⟩, if_pos h2]
theorem nmv_2 {c : Nat → Nat} {n p : Nat} (h : tB c n p < n ∧ 48 ≤ c (tB c n p) ∧ c (tB c n p) ≤ 57) (h2 : nx c n p = tB c n p + 2) : nmv c n p = 10 * (c (tB c n p) - 48) + (c (tB c n p + 1) - 48) := by
  unfold nmv
  rw [if_pos ⟨h.1, h.2.1, h.2.2, by omega⟩, if_neg (by omega)]
theorem dig2 {c : Nat → Nat} {n p : Nat} (h : tB c n p < n ∧ 48 ≤ c (tB c n p) ∧ c (tB c n p) ≤ 57) (h2 : nx c n p = tB c n p + 2) : tB c n p + 1 < n ∧ 48 ≤ c (tB c n p + 1) ∧ c (tB c n p + 1) ≤ 57 := by
  unfold nx at h2
  rw [tE_dig h] at h2
  exact eRow_at (p := tB c n p) (by omega) (by omega)
theorem nmv_le {c : Nat → Nat} {n p : Nat} : nmv c n p ≤ 100 := by
  by_cases h : tB c n p < n ∧ 48 ≤ c (tB c n p) ∧ c (tB c n p) ≤ 57 ∧ nx c n p ≤ tB c n p + 2
  · have h0 := tE_gt (c := c) h.1
    have h3 : tB c n p < nx c n p := h0
    by_cases h1 : nx c n p = tB c n p + 1
    · rw [nmv_1 ⟨h.1, h.2.1, h.2.2.1⟩ h1]
      omega
    · have h2 : nx c n p = tB c n p + 2 := by omega
      have := dig2 ⟨h.1, h.2.1, h.2.2.1⟩ h2
      rw [nmv_2 ⟨h.1, h.2.1, h.2.2.1⟩ h2]
      omega
  · rw [nmv_no h]
    exact Nat.le_refl _
/-! the nine names -/
def wln (i : Nat) : Nat := slen.getD i 0
def wch (i j : Nat) : Nat := Int32.toNatClampNeg (sby (200 + i) j)
def isW (c : Nat → Nat) (n p i : Nat) : Prop := nx c n p = tB c n p + wln i ∧ ∀ j, j < wln i → c (tB c n p + j) = wch i j
theorem wln_le : ∀ i, i < 9 → 3 ≤ wln i ∧ wln i ≤ 6 := by decide +kernel
theorem wch_in : ∀ i, i < 9 → ∀ j, j < 6 → j < wln i → 97 ≤ wch i j ∧ wch i j ≤ 122 := by decide +kernel
theorem wch_is : ∀ i, i < 9 → ∀ j, j < 6 → j < wln i → (Int32.toUInt32 ((sby (200 + i) j) &&& 255) % 65536).toInt32 = nI (wch i j) := by decide +kernel
theorem wln_is : ∀ i, i < 9 → (nI (tlen (100 + i + 100))) >>> ((0 : Int32) &&& 31) = nI (wln i) := by decide +kernel
/-- a row of letters as a number of figures of 27 -/
def tkN (c : Nat → Nat) (b : Nat) : Nat → Nat
  | 0 => 0
  | k + 1 => 27 * tkN c b k + c (b + k) - 96
theorem tkN_pos {c : Nat → Nat} {b k : Nat} (h : ∀ j, j < k + 1 → 97 ≤ c (b + j) ∧ c (b + j) ≤ 122) : 1 ≤ tkN c b (k + 1) := by
  have := h k (Nat.lt_succ_self _)
  rw [tkN]
  omega
theorem tkN_eq {c g : Nat → Nat} {b : Nat} : ∀ m k, (∀ j, j < k → 97 ≤ c (b + j) ∧ c (b + j) ≤ 122) → (∀ j, j < m → 97 ≤ g j ∧ g j ≤ 122) → (tkN c b k = tkN g 0 m ↔ k = m ∧ ∀ j, j < m → c (b + j) = g j) := by
  intro m
  induction m with
  | zero =>
    intro k h1 _
    cases k with
    | zero => exact ⟨fun _ => ⟨rfl, fun j hj => absurd hj (Nat.not_lt_zero j)⟩, fun _ => rfl⟩
    | succ k =>
      constructor
      · intro h
        have := tkN_pos h1
        rw [h] at this
        exact absurd this (Nat.not_succ_le_zero 0)
      · intro h
        exact absurd h.1 (by omega)
  | succ m ih =>
    intro k h1 h2
    cases k with
    | zero =>
      constructor
      · intro h
        have := tkN_pos (c := g) (b := 0) (k := m) (fun j hj => by rw [Nat.zero_add]; exact h2 j hj)
        rw [← h] at this
        exact absurd this (Nat.not_succ_le_zero 0)
      · intro h
        exact absurd h.1 (by omega)
    | succ k =>
      have a1 := h1 k (Nat.lt_succ_self _)
      have a2 := h2 m (Nat.lt_succ_self _)
      have hi := ih k (fun j hj => h1 j (by omega)) (fun j hj => h2 j (by omega))
      rw [tkN, tkN, Nat.zero_add]
      constructor
      · intro h
        have q1 : tkN c b k = tkN g 0 m := by omega
        have q2 : c (b + k) = g m := by omega
        obtain ⟨r1, r2⟩ := hi.mp q1
        refine ⟨by omega, fun j hj => ?_⟩
        by_cases hj2 : j = m
        · rw [hj2, ← r1, q2, r1]
        · exact r2 j (by omega)
      · intro h
        have r1 : k = m := by omega
        have q1 := hi.mpr ⟨r1, fun j hj => h.2 j (by omega)⟩
        have q2 := h.2 m (Nat.lt_succ_self _)
        rw [← r1] at q2
        rw [r1] at q2 q1 ⊢
        omega
theorem tkN_lt {c : Nat → Nat} {b : Nat} : ∀ k, (∀ j, j < k → 97 ≤ c (b + j) ∧ c (b + j) ≤ 122) → tkN c b k < 27 ^ k := by
  intro k
  induction k with
  | zero => intro _; exact Nat.one_pos
  | succ k ih =>
    intro h
    have h1 := ih (fun j hj => h j (by omega))
    have h2 := h k (Nat.lt_succ_self _)
    rw [tkN, Nat.pow_succ]
    omega
def wtk (i : Nat) : Nat := tkN (wch i) 0 (wln i)
theorem lN_inj {a b : Nat} (ha : a < 2 ^ 63) (hb : b < 2 ^ 63) (h : lN a = lN b) : a = b := by
  have h1 : (lN a).toInt = (lN b).toInt := by rw [h]
  unfold lN at h1
  rw [Int64.toInt_ofNat_of_lt ha, Int64.toInt_ofNat_of_lt hb] at h1
  omega
/-- what the reference's token is -/
def tkv (c : Nat → Nat) (n p : Nat) : Int64 :=
  if tB c n p < n then
    (if 97 ≤ c (tB c n p) ∧ c (tB c n p) ≤ 122 then (if tB c n p + 9 < nx c n p then 0 else lN (tkN c (tB c n p) (nx c n p - tB c n p)))
     else if 48 ≤ c (tB c n p) ∧ c (tB c n p) ≤ 57 then (if tB c n p + 2 < nx c n p then -4 else -1)
     else if c (tB c n p) = 59 then -3 else -4)
  else -2
theorem wtk_pos : ∀ i, i < 9 → 0 < wtk i ∧ wtk i < 2 ^ 31 ∧ lN (wtk i) ≠ 0 ∧ lN (wtk i) ≠ -1 ∧ lN (wtk i) ≠ -2 ∧ lN (wtk i) ≠ -3 ∧ lN (wtk i) ≠ -4 := by decide +kernel
theorem tkv_let {c : Nat → Nat} {n p : Nat} (h : tB c n p < n) (h2 : 97 ≤ c (tB c n p) ∧ c (tB c n p) ≤ 122) : tkv c n p = if tB c n p + 9 < nx c n p then 0 else lN (tkN c (tB c n p) (nx c n p - tB c n p)) := by
  unfold tkv
  rw [if_pos h, if_pos h2]
theorem tkv_dig {c : Nat → Nat} {n p : Nat} (h : tB c n p < n) (h2 : 48 ≤ c (tB c n p) ∧ c (tB c n p) ≤ 57) : tkv c n p = if tB c n p + 2 < nx c n p then -4 else -1 := by
  unfold tkv
  rw [if_pos h, if_neg (by omega), if_pos h2]
theorem tkv_oth {c : Nat → Nat} {n p : Nat} (h : tB c n p < n) (h1 : ¬ (97 ≤ c (tB c n p) ∧ c (tB c n p) ≤ 122)) (h2 : ¬ (48 ≤ c (tB c n p) ∧ c (tB c n p) ≤ 57)) : tkv c n p = if c (tB c n p) = 59 then -3 else -4 := by
  unfold tkv
  rw [if_pos h, if_neg h1, if_neg h2]
theorem tkv_end {c : Nat → Nat} {n p : Nat} (h : ¬ tB c n p < n) : tkv c n p = -2 := by
  unfold tkv
  rw [if_neg h]
theorem lets {c : Nat → Nat} {n p : Nat} (h : tB c n p < n) (h2 : 97 ≤ c (tB c n p) ∧ c (tB c n p) ≤ 122) : ∀ j, j < nx c n p - tB c n p → 97 ≤ c (tB c n p + j) ∧ c (tB c n p + j) ≤ 122 := by
  intro j hj
  unfold nx at hj
  rw [tE_let ⟨h, h2.1, h2.2⟩] at hj
  have := eRow_at (c := c) (n := n) (lo := 97) (hi := 122) (p := tB c n p) (j := tB c n p + j) (by omega) (by omega)
  omega
theorem tkN_9 {c : Nat → Nat} {n p : Nat} (h : tB c n p < n) (h2 : 97 ≤ c (tB c n p) ∧ c (tB c n p) ≤ 122) (h3 : ¬ tB c n p + 9 < nx c n p) : tkN c (tB c n p) (nx c n p - tB c n p) < 2 ^ 62 := by
  have h1 := tkN_lt (c := c) (b := tB c n p) (nx c n p - tB c n p) (lets h h2)
  have h4 : 27 ^ (nx c n p - tB c n p) ≤ 27 ^ 9 := Nat.pow_le_pow_right (by decide) (by omega)
  have h5 : (27 : Nat) ^ 9 < 2 ^ 62 := by decide +kernel
  omega
theorem tkv_W {c : Nat → Nat} {n p i : Nat} (hi : i < 9) : tkv c n p = lN (wtk i) ↔ isW c n p i := by
  obtain ⟨w0, w1, n0, n1, n2, n3, n4⟩ := wtk_pos i hi
  obtain ⟨l3, l6⟩ := wln_le i hi
  have nol : ¬ (tB c n p < n ∧ 97 ≤ c (tB c n p) ∧ c (tB c n p) ≤ 122) → ¬ isW c n p i := by
    intro h1 h2
    have h3 := h2.2 0 (by omega)
    have h4 := wch_in i hi 0 (by decide) (by omega)
    rw [Nat.add_zero] at h3
    by_cases h5 : tB c n p < n
    · exact h1 ⟨h5, by omega, by omega⟩
    · have h6 := h2.1
      unfold nx at h6
      rw [tE_out h5] at h6
      omega
  by_cases hB : tB c n p < n
  · by_cases hl : 97 ≤ c (tB c n p) ∧ c (tB c n p) ≤ 122
    · rw [tkv_let hB hl]
      by_cases h9 : tB c n p + 9 < nx c n p
      · rw [if_pos h9]
        exact ⟨fun h => absurd h.symm n0, fun h => by have := h.1; omega⟩
      · rw [if_neg h9]
        have hk := tkN_eq (c := c) (g := wch i) (b := tB c n p) (wln i) (nx c n p - tB c n p) (lets hB hl) (fun j hj => wch_in i hi j (by omega) hj)
        have hge : tB c n p ≤ nx c n p := nx_ge
        have hlt := tkN_9 hB hl h9
        constructor
        · intro h
          obtain ⟨r1, r2⟩ := hk.mp (lN_inj (by omega) (show wtk i < 2 ^ 63 by omega) h)
          exact ⟨by omega, r2⟩
        · intro h
          rw [hk.mpr ⟨by have := h.1; omega, h.2⟩]
          rfl
    · refine ⟨fun h => ?_, fun h => absurd h (nol (fun z => hl z.2))⟩
      by_cases hd : 48 ≤ c (tB c n p) ∧ c (tB c n p) ≤ 57
      · rw [tkv_dig hB hd] at h
        split at h
        · exact absurd h.symm n4
        · exact absurd h.symm n1
      · rw [tkv_oth hB hl hd] at h
        split at h
        · exact absurd h.symm n3
        · exact absurd h.symm n4
  · rw [tkv_end hB]
    exact ⟨fun h => absurd h.symm n2, fun h => absurd h (nol (fun z => hB z.1))⟩
/-- a number: the token's kind -/
theorem tkv_num {c : Nat → Nat} {n p : Nat} : tkv c n p = -1 ↔ (tB c n p < n ∧ 48 ≤ c (tB c n p) ∧ c (tB c n p) ≤ 57 ∧ nx c n p ≤ tB c n p + 2) := by
  by_cases hB : tB c n p < n
  · by_cases hl : 97 ≤ c (tB c n p) ∧ c (tB c n p) ≤ 122
    · refine ⟨fun h => ?_, fun h => by omega⟩
      rw [tkv_let hB hl] at h
      split at h
      · exact absurd h (by decide)
      · rename_i h9
        have hlt := tkN_9 hB hl h9
        have h1 : (lN (tkN c (tB c n p) (nx c n p - tB c n p))).toInt = (-1 : Int64).toInt := by rw [h]
        unfold lN at h1
        rw [Int64.toInt_ofNat_of_lt (by omega)] at h1
        have h2 : (-1 : Int64).toInt = -1 := by decide
        omega
    · by_cases hd : 48 ≤ c (tB c n p) ∧ c (tB c n p) ≤ 57
      · rw [tkv_dig hB hd]
        split
        · exact ⟨fun h => absurd h (by decide), fun h => by omega⟩
        · exact ⟨fun _ => ⟨hB, hd.1, hd.2, by omega⟩, fun _ => rfl⟩
      · rw [tkv_oth hB hl hd]
        refine ⟨fun h => ?_, fun h => absurd ⟨h.2.1, h.2.2.1⟩ hd⟩
        split at h
        · exact absurd h (by decide)
        · exact absurd h (by decide)
  · rw [tkv_end hB]
    exact ⟨fun h => absurd h (by decide), fun h => absurd h.1 hB⟩
theorem tkv_neg {c : Nat → Nat} {n p : Nat} : ¬ tkv c n p < 0 ↔ (tB c n p < n ∧ 97 ≤ c (tB c n p) ∧ c (tB c n p) ≤ 122) := by
  by_cases hB : tB c n p < n
  · by_cases hl : 97 ≤ c (tB c n p) ∧ c (tB c n p) ≤ 122
    · refine ⟨fun _ => ⟨hB, hl⟩, fun _ => ?_⟩
      rw [tkv_let hB hl]
      split
      · decide
      · rename_i h9
        have hlt := tkN_9 hB hl h9
        rw [Int64.lt_iff_toInt_lt]
        unfold lN
        rw [Int64.toInt_ofNat_of_lt (by omega)]
        have h2 : (0 : Int64).toInt = 0 := by decide
        omega
    · refine ⟨fun h => ?_, fun h => absurd h.2 hl⟩
      by_cases hd : 48 ≤ c (tB c n p) ∧ c (tB c n p) ≤ 57
      · rw [tkv_dig hB hd] at h
        split at h
        · exact absurd (by decide) h
        · exact absurd (by decide) h
      · rw [tkv_oth hB hl hd] at h
        split at h
        · exact absurd (by decide) h
        · exact absurd (by decide) h
  · rw [tkv_end hB]
    exact ⟨fun h => absurd (by decide) h, fun h => absurd h.1 hB⟩
theorem tkv_semi {c : Nat → Nat} {n p : Nat} : tkv c n p = -3 ↔ (tB c n p < n ∧ c (tB c n p) = 59) := by
  by_cases hB : tB c n p < n
  · by_cases hl : 97 ≤ c (tB c n p) ∧ c (tB c n p) ≤ 122
    · refine ⟨fun h => ?_, fun h => by omega⟩
      exact absurd (by rw [h]; decide) (tkv_neg.mpr ⟨hB, hl⟩)
    · by_cases hd : 48 ≤ c (tB c n p) ∧ c (tB c n p) ≤ 57
      · rw [tkv_dig hB hd]
        refine ⟨fun h => ?_, fun h => by omega⟩
        split at h
        · exact absurd h (by decide)
        · exact absurd h (by decide)
      · rw [tkv_oth hB hl hd]
        split
        · rename_i h5
          exact ⟨fun _ => ⟨hB, h5⟩, fun _ => rfl⟩
        · rename_i h5
          exact ⟨fun h => absurd h (by decide), fun h => absurd h.2 h5⟩
  · rw [tkv_end hB]
    exact ⟨fun h => absurd h (by decide), fun h => absurd h.1 hB⟩
theorem tkv_fin {c : Nat → Nat} {n p : Nat} : tkv c n p = -2 ↔ ¬ tB c n p < n := by
  refine ⟨fun h hB => ?_, tkv_end⟩
  by_cases hl : 97 ≤ c (tB c n p) ∧ c (tB c n p) ≤ 122
  · exact absurd (by rw [h]; decide) (tkv_neg.mpr ⟨hB, hl⟩)
  · by_cases hd : 48 ≤ c (tB c n p) ∧ c (tB c n p) ≤ 57
    · rw [tkv_dig hB hd] at h
      split at h
      · exact absurd h (by decide)
      · exact absurd h (by decide)
    · rw [tkv_oth hB hl hd] at h
      split at h
      · exact absurd h (by decide)
      · exact absurd h (by decide)
