/-! numbers, ranges, the stores; what the accessors answer at places that are there -/
/-- a number of 0 .. n -/
def rg (x : Int32) (n : Nat) : Prop := ∃ k : Nat, k ≤ n ∧ x = nI k
theorem rg_num {x : Int32} {n : Nat} (h : rg x n) (hn : n < 2 ^ 31) : x = nI (Int32.toNatClampNeg x) ∧ Int32.toNatClampNeg x ≤ n := by
  obtain ⟨k, h1, rfl⟩ := h
  have e : Int32.toNatClampNeg (nI k) = k := nI_clamp (by omega)
  rw [e]
  exact ⟨rfl, h1⟩
theorem rg_mk {k n : Nat} (h : k ≤ n) : rg (nI k) n := ⟨k, h, rfl⟩
theorem rg_mono {x : Int32} {n m : Nat} (h : rg x n) (hm : n ≤ m) : rg x m := by
  obtain ⟨k, h1, h2⟩ := h
  exact ⟨k, by omega, h2⟩
theorem nnum {k : Nat} (h : k < 2 ^ 31) : Int32.toNatClampNeg (nI k) = k := nI_clamp h
theorem nlt {a b : Nat} (ha : a < 2 ^ 31) (hb : b < 2 ^ 31) : nI a < nI b ↔ a < b := nI_ltI ha hb
theorem neq {a b : Nat} (ha : a < 2 ^ 31) (hb : b < 2 ^ 31) : nI a = nI b ↔ a = b := nI_eq ha hb
theorem l0 : (0 : Int32) = nI 0 := rfl
theorem l1 : (1 : Int32) = nI 1 := rfl
theorem nneg (k : Nat) (h : k < 2 ^ 31) : ¬ nI k < 0 := nI_pos h
theorem i_lt (a b : Int32) : a < b ↔ a.toInt < b.toInt := Int32.lt_iff_toInt_lt
theorem i_le (a b : Int32) : a ≤ b ↔ a.toInt ≤ b.toInt := Int32.le_iff_toInt_le
theorem i_eq (a b : Int32) : a = b ↔ a.toInt = b.toInt := ⟨fun h => by rw [h], fun h => Int32.toInt_inj.mp h⟩
theorem nI_i {n : Nat} (h : n < 2 ^ 31) : (nI n).toInt = (n : Int) := nI_toInt h
/-- a place of a row of n that is tested from both sides -/
theorem of_lt {x y : Int32} {n : Nat} (h0 : ¬ x < 0) (h1 : x < y) (hy : rg y n) (hn : n < 2 ^ 31) : ∃ k : Nat, k < Int32.toNatClampNeg y ∧ k < n ∧ x = nI k := by
  obtain ⟨m, hm, rfl⟩ := hy
  obtain ⟨k, hk, rfl⟩ := nI_of h0
  rw [nlt hk (by omega)] at h1
  exact ⟨k, by rw [nnum (by omega)]; exact h1, by omega, rfl⟩
theorem vin {k n : Nat} (h : k < n) (hn : n < 2 ^ 31) : vp_in (nI k) n := vp_in_nI h hn
/-! stores -/
theorem sp_s (s : St) (q k : Nat) (v : Int32) : (sput s q k v).1 q k = v := by simp [sput]
theorem sp_q {s : St} {q k q' k' : Nat} {v : Int32} (h : q' ≠ q) : (sput s q k v).1 q' k' = s.1 q' k' := by simp [sput, h]
theorem sp_k {s : St} {q k q' k' : Nat} {v : Int32} (h : k' ≠ k) : (sput s q k v).1 q' k' = s.1 q' k' := by simp [sput, h]
theorem sp_f {s : St} {q k q' : Nat} {v : Int32} (h : q' ≠ q) : (sput s q k v).1 q' = s.1 q' := by funext j; exact sp_q h
/-- a cell's whole row anew -/
def sarr (s : St) (q : Nat) (f : Nat → Int32) : St := (fun a b => if a = q then f b else s.1 a b, s.2)
theorem sa_s (s : St) (q : Nat) (f : Nat → Int32) : (sarr s q f).1 q = f := by funext j; simp [sarr]
theorem sa_q {s : St} {q q' : Nat} {f : Nat → Int32} (h : q' ≠ q) : (sarr s q f).1 q' = s.1 q' := by funext j; simp [sarr, h]
theorem sa_id (s : St) (q : Nat) : sarr s q (s.1 q) = s := by
  unfold sarr
  refine Prod.ext ?_ rfl
  funext a b
  by_cases h : a = q <;> simp [h]
theorem sa_sa (s : St) (q : Nat) (f g : Nat → Int32) : sarr (sarr s q f) q g = sarr s q g := by
  unfold sarr
  refine Prod.ext ?_ rfl
  funext a b
  by_cases h : a = q <;> simp [h]
theorem sp_sa (s : St) (q k : Nat) (f : Nat → Int32) (v : Int32) : sput (sarr s q f) q k v = sarr s q (upd f k v) := by
  unfold sarr sput
  refine Prod.ext ?_ rfl
  funext a b
  by_cases h : a = q
  · subst h
    by_cases h2 : b = k <;> simp [upd, h2]
  · simp [h]
theorem sp_is (s : St) (q k : Nat) (v : Int32) : sput s q k v = sarr s q (upd (s.1 q) k v) := by
  have := sp_sa s q k (s.1 q) v
  rw [sa_id] at this
  exact this
theorem sa_cm {s : St} {q r : Nat} {f g : Nat → Int32} (h : q ≠ r) : sarr (sarr s q f) r g = sarr (sarr s r g) q f := by
  unfold sarr
  refine Prod.ext ?_ rfl
  funext a b
  by_cases h1 : a = q
  · by_cases h2 : a = r
    · exact absurd (h1.symm.trans h2) h
    · simp [h1, h]
  · by_cases h2 : a = r
    · subst h2
      simp [h1]
    · simp [h1, h2]
/-! ranges of a list of words, of voices -/
def wlR (s : St) (o : Nat) : Prop := rg (s.1 o 3) 12 ∧ (∀ w, rg (s.1 (o + 2) w) 10) ∧ (∀ w, rg (s.1 (o + 3) w) 2) ∧ ∀ j, rg (s.1 (o + 1) j) 26
def chR (s : St) (o : Nat) : Prop := (∃ V : Nat, 1 ≤ V ∧ V ≤ 5 ∧ s.1 o 1 = nI V) ∧ ∀ v, rg (s.1 (o + 1) v) 3
theorem alen_w {o : Nat} (ho : o = 4 ∨ o = 11) : alen (o + 1) = 120 ∧ alen (o + 2) = 12 ∧ alen (o + 3) = 12 := by rcases ho with rfl | rfl <;> exact ⟨rfl, rfl, rfl⟩
theorem alen_c {o : Nat} (ho : o = 8 ∨ o = 15) : alen (o + 1) = 5 := by rcases ho with rfl | rfl <;> rfl
theorem ok_len {s : St} {o : Nat} (ho : o = 4 ∨ o = 11) (hW : wlR s o) (x : Int32) : ok_X9_lengthOf s o x := by
  intro h0 h1
  obtain ⟨k, -, h2, rfl⟩ := of_lt h0 h1 hW.1 (by decide)
  rw [(alen_w ho).2.1]
  exact vin h2 (by decide)
theorem ok_sort {s : St} {o : Nat} (ho : o = 4 ∨ o = 11) (hW : wlR s o) (x : Int32) : ok_X9_sortOf s o x := by
  intro h0 h1
  obtain ⟨k, -, h2, rfl⟩ := of_lt h0 h1 hW.1 (by decide)
  rw [(alen_w ho).2.2]
  exact vin h2 (by decide)
theorem ok_let {s : St} {o : Nat} (ho : o = 4 ∨ o = 11) (hW : wlR s o) (x y : Int32) : ok_X9_letterOf s o x y := by
  intro h0 h1 h2
  obtain ⟨w, -, hw, rfl⟩ := of_lt h0 h1 hW.1 (by decide)
  rw [(alen_w ho).2.1, (alen_w ho).1]
  refine ⟨vin hw (by decide), fun h3 => ?_⟩
  obtain ⟨k, -, hk, rfl⟩ := of_lt h2 h3 (hW.2.1 _) (by decide)
  rw [show (10 : Int32) = nI 10 from rfl, pk_mul, nI_add]
  exact vin (by omega) (by decide)
theorem v_len {s : St} {o w : Nat} (hW : wlR s o) (hw : w < Int32.toNatClampNeg (s.1 o 3)) : v_X9_lengthOf s o (nI w) = s.1 (o + 2) w := by
  obtain ⟨e, h⟩ := rg_num hW.1 (by decide)
  unfold v_X9_lengthOf
  rw [iC_f (nneg w (by omega)), iC_t (by rw [e, nlt (by omega) (by omega)]; exact hw), nnum (by omega)]
theorem v_sort {s : St} {o w : Nat} (hW : wlR s o) (hw : w < Int32.toNatClampNeg (s.1 o 3)) : v_X9_sortOf s o (nI w) = s.1 (o + 3) w := by
  obtain ⟨e, h⟩ := rg_num hW.1 (by decide)
  unfold v_X9_sortOf
  rw [iC_f (nneg w (by omega)), iC_t (by rw [e, nlt (by omega) (by omega)]; exact hw), nnum (by omega)]
theorem v_let {s : St} {o w k : Nat} (hW : wlR s o) (hw : w < Int32.toNatClampNeg (s.1 o 3)) (hk : k < Int32.toNatClampNeg (s.1 (o + 2) w)) : v_X9_letterOf s o (nI w) (nI k) = s.1 (o + 1) (10 * w + k) := by
  obtain ⟨e, h⟩ := rg_num hW.1 (by decide)
  obtain ⟨e2, h2⟩ := rg_num (hW.2.1 w) (by decide)
  unfold v_X9_letterOf
  rw [iC_f (nneg w (by omega)), iC_t (by rw [e, nlt (by omega) (by omega)]; exact hw), iC_f (nneg k (by omega)), nnum (by omega), iC_t (by rw [e2, nlt (by omega) (by omega)]; exact hk), show (10 : Int32) = nI 10 from rfl, pk_mul, nI_add, nnum (by omega), Nat.mul_comm]
theorem v_let_out {s : St} {o w k : Nat} (hW : wlR s o) (hw : w < Int32.toNatClampNeg (s.1 o 3)) (hk : Int32.toNatClampNeg (s.1 (o + 2) w) ≤ k) (hk2 : k < 2 ^ 31) : v_X9_letterOf s o (nI w) (nI k) = -1 := by
  obtain ⟨e, h⟩ := rg_num hW.1 (by decide)
  obtain ⟨e2, h2⟩ := rg_num (hW.2.1 w) (by decide)
  unfold v_X9_letterOf
  rw [iC_f (nneg w (by omega)), iC_t (by rw [e, nlt (by omega) (by omega)]; exact hw), iC_f (nneg k (by omega)), nnum (by omega), iC_f (by rw [e2, nlt (by omega) (by omega)]; omega)]
def rwR (s : St) : Prop := rg (s.1 24 1) 60 ∧ ∀ j, rg (s.1 25 j) 26
theorem ok_row {s : St} (hR : rwR s) (x : Int32) : ok_X7_at s x := by
  intro h0 h1
  obtain ⟨k, -, h2, rfl⟩ := of_lt h0 h1 hR.1 (by decide)
  exact vin h2 (by decide)
theorem v_row {s : St} (hR : rwR s) {i : Nat} (hi : i < Int32.toNatClampNeg (s.1 24 1)) : v_X7_at s (nI i) = s.1 25 i := by
  obtain ⟨e, h⟩ := rg_num hR.1 (by decide)
  unfold v_X7_at
  rw [iC_f (nneg i (by omega)), iC_t (by rw [e, nlt (by omega) (by omega)]; exact hi), nnum (by omega)]
theorem v_len4 {s : St} {w : Nat} (hW : wlR s 4) (hw : w < Int32.toNatClampNeg (s.1 4 3)) : v_X9_lengthOf s 4 (nI w) = s.1 6 w := v_len hW hw
theorem v_sort4 {s : St} {w : Nat} (hW : wlR s 4) (hw : w < Int32.toNatClampNeg (s.1 4 3)) : v_X9_sortOf s 4 (nI w) = s.1 7 w := v_sort hW hw
theorem v_let4 {s : St} {w k : Nat} (hW : wlR s 4) (hw : w < Int32.toNatClampNeg (s.1 4 3)) (hk : k < Int32.toNatClampNeg (s.1 6 w)) : v_X9_letterOf s 4 (nI w) (nI k) = s.1 5 (10 * w + k) := v_let hW hw hk
theorem v_let4o {s : St} {w k : Nat} (hW : wlR s 4) (hw : w < Int32.toNatClampNeg (s.1 4 3)) (hk : Int32.toNatClampNeg (s.1 6 w) ≤ k) (hk2 : k < 2 ^ 31) : v_X9_letterOf s 4 (nI w) (nI k) = -1 := v_let_out hW hw hk hk2
theorem siz4 {s : St} (hW : wlR s 4) : s.1 4 3 = nI (Int32.toNatClampNeg (s.1 4 3)) ∧ Int32.toNatClampNeg (s.1 4 3) ≤ 12 := rg_num hW.1 (by decide)
theorem len4 {s : St} (hW : wlR s 4) (w : Nat) : s.1 6 w = nI (Int32.toNatClampNeg (s.1 6 w)) ∧ Int32.toNatClampNeg (s.1 6 w) ≤ 10 := rg_num (hW.2.1 w) (by decide)
theorem srt4 {s : St} (hW : wlR s 4) (w : Nat) : s.1 7 w = nI (Int32.toNatClampNeg (s.1 7 w)) ∧ Int32.toNatClampNeg (s.1 7 w) ≤ 2 := rg_num (hW.2.2.1 w) (by decide)
theorem let4 {s : St} (hW : wlR s 4) (j : Nat) : s.1 5 j = nI (Int32.toNatClampNeg (s.1 5 j)) ∧ Int32.toNatClampNeg (s.1 5 j) ≤ 26 := rg_num (hW.2.2.2 j) (by decide)
