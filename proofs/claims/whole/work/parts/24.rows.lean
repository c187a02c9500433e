/-! rows that are written from a place on -/
def rowW (f : Nat → Int32) (a n : Nat) (g : Nat → Int32) : Nat → Int32 := fun j => if a ≤ j ∧ j < a + n then g (j - a) else f j
theorem rowW_0 (f : Nat → Int32) (a : Nat) (g : Nat → Int32) : rowW f a 0 g = f := by
  funext j
  unfold rowW
  rw [if_neg (by omega)]
theorem rowW_s (f : Nat → Int32) (a n : Nat) (g : Nat → Int32) : upd (rowW f a n g) (a + n) (g n) = rowW f a (n + 1) g := by
  funext j
  unfold rowW upd
  by_cases h : j = a + n
  · subst h
    rw [if_pos rfl, if_pos (by omega), Nat.add_sub_cancel_left]
  · rw [if_neg h]
    dsimp only
    by_cases h2 : a ≤ j ∧ j < a + n
    · rw [if_pos h2, if_pos (by omega)]
    · rw [if_neg h2, if_neg (by omega)]
theorem rowW_in {f : Nat → Int32} {a n i : Nat} {g : Nat → Int32} (h : i < n) : rowW f a n g (a + i) = g i := by
  unfold rowW
  rw [if_pos (by omega), Nat.add_sub_cancel_left]
theorem rowW_out {f : Nat → Int32} {a n j : Nat} {g : Nat → Int32} (h : j < a ∨ a + n ≤ j) : rowW f a n g j = f j := by
  unfold rowW
  rw [if_neg (by omega)]
theorem rowW_rg {f : Nat → Int32} {a n m : Nat} {g : Nat → Int32} (hf : ∀ j, rg (f j) m) (hg : ∀ j, j < n → rg (g j) m) : ∀ j, rg (rowW f a n g j) m := by
  intro j
  unfold rowW
  split
  · exact hg _ (by omega)
  · exact hf j
theorem upd_rg {f : Nat → Int32} {k m : Nat} {x : Int32} (hf : ∀ j, rg (f j) m) (hx : rg x m) : ∀ j, rg (upd f k x j) m := by
  intro j
  unfold upd
  split
  · exact hx
  · exact hf j
/-- byte i of a packed word -/
def byt (x : Int64) (i : Nat) : Int32 := Int64.toInt32 ((x >>> (Int32.toInt64 (8 * nI i) &&& 63)) &&& 255)
def g_X4_append (s : St) (x1 : Int64) (x2 : Int32) : St := sput (sarr s 2 (rowW (s.1 2) (Int32.toNatClampNeg (s.1 1 1)) (Int32.toNatClampNeg x2) (byt x1))) 1 1 (nI (Int32.toNatClampNeg (s.1 1 1) + Int32.toNatClampNeg x2))
def ok_X4_append (s : St) (_x1 : Int64) (x2 : Int32) : Prop := ∃ L n : Nat, s.1 1 1 = nI L ∧ x2 = nI n ∧ L + n ≤ 200
theorem p_X4_append {l : Launch} {G : Geo} {d : Nat} (x1 : Int64) (x2 : Int32) (s : St) {Q : St → Prop} (hok : ok_X4_append s x1 x2) (h : Q (g_X4_append s x1 x2)) : DoesV l G (d + 1) 54 [.ref 1, .long x1, .int x2] s Q := by
  obtain ⟨L, n, e1, rfl, hl⟩ := hok
  unfold g_X4_append at h
  rw [e1, nnum (by omega), nnum (by omega)] at h
  have loop : ∀ m k, k + m = n → AtA l G (d + 1) sX4_append 3 [.ref 1, .long x1, .null, .int (nI n), .int (nI k)] [] (sput (sarr s 2 (rowW (s.1 2) L k (byt x1))) 1 1 (nI (L + k))) (pV Q) := by
    intro m
    induction m with
    | zero =>
      intro k hk
      have : k = n := by omega
      subst this
      refine r_X4_append_3 _ _ _ _ ⟨fun z => ?_, fun _ => h⟩
      rw [nlt (by omega) (by omega)] at z
      omega
    | succ m ih =>
      intro k hk
      have hst : sput (sput (sput (sarr s 2 (rowW (s.1 2) L k (byt x1))) 1 1 (nI (L + k))) 2 (L + k) (byt x1 k)) 1 1 (nI (L + k) + 1) = sput (sarr s 2 (rowW (s.1 2) L (k + 1) (byt x1))) 1 1 (nI (L + (k + 1))) := by
        rw [← rowW_s, ← sp_sa, nI_1]
        refine Prod.ext ?_ rfl
        funext a b
        simp only [sput]
        by_cases ha : a = 1 ∧ b = 1
        · simp [ha, Nat.add_assoc]
        · simp only [ha, if_false]
      have e2 : (sput (sarr s 2 (rowW (s.1 2) L k (byt x1))) 1 1 (nI (L + k))).1 1 1 = nI (L + k) := sp_s _ _ _ _
      refine r_X4_append_3 _ _ _ _ ⟨fun _ => ?_, fun z => ?_⟩
      · rw [e2]
        refine ⟨fun _ => ⟨vin (show L + k < 200 by omega) (by decide), ?_⟩, fun z => ?_⟩
        · rw [nnum (by omega), nI_1]
          have := ih (k + 1) (by omega)
          rw [← hst] at this
          exact this
        · rw [show (200 : Int32) = nI 200 from rfl, nlt (by omega) (by omega)] at z
          omega
      · rw [nlt (by omega) (by omega)] at z
        omega
  have h0 := loop n 0 (Nat.zero_add _)
  rw [rowW_0, sa_id, show L + 0 = L from rfl, ← e1] at h0
  have e3 : sput s 1 1 (s.1 1 1) = s := by
    refine Prod.ext ?_ rfl
    funext a b
    simp only [sput]
    split
    · rename_i hab
      rw [hab.1, hab.2]
    · rfl
  rw [e3] at h0
  exact r_X4_append _ _ s h0
/-- the reference's text behind a write -/
theorem at_X11_write {l : Launch} {G : Geo} {d : Nat} {x1 : Int64} {s : St} {Q : Int32 → St → Prop} {L n : Nat} (e1 : s.1 51 9 = nI L) (hl : L + n ≤ 200) (h : Q (nI (L + n)) (sput (sarr s 56 (rowW (s.1 56) L n (byt x1))) 51 9 (nI (L + n)))) : AtA l G (d + 2) sX11_write 31 [.ref 51, .long x1, .null, .int (nI n), .int 0] [] s (pI Q) := by
  have loop : ∀ m k, k + m = n → AtA l G (d + 2) sX11_write 31 [.ref 51, .long x1, .null, .int (nI n), .int (nI k)] [] (sarr s 56 (rowW (s.1 56) L k (byt x1))) (pI Q) := by
    intro m
    induction m with
    | zero =>
      intro k hk
      have : k = n := by omega
      subst this
      have e2 : (sarr s 56 (rowW (s.1 56) L k (byt x1))).1 51 9 = nI L := e1
      refine r_X11_write_31 _ _ _ _ ⟨fun z => ?_, fun _ => ?_⟩
      · rw [nlt (by omega) (by omega)] at z
        omega
      · rw [e2, nI_add, sp_s]
        exact h
    | succ m ih =>
      intro k hk
      have e2 : (sarr s 56 (rowW (s.1 56) L k (byt x1))).1 51 9 = nI L := e1
      refine r_X11_write_31 _ _ _ _ ⟨fun _ => ?_, fun z => ?_⟩
      · rw [e2, nI_add, nnum (by omega), nI_1, sp_sa]
        refine ⟨vin (show L + k < 200 by omega) (by decide), ?_⟩
        have := ih (k + 1) (by omega)
        rw [← rowW_s] at this
        exact this
      · rw [nlt (by omega) (by omega)] at z
        omega
  have h0 := loop n 0 (Nat.zero_add _)
  rw [rowW_0, sa_id] at h0
  exact h0
/-- the class's sermon behind a word -/
noncomputable def g_X6_append (s : St) (o : Nat) (x1 : Int32) : St := sput (sput (sput (sarr s (o + 1) (rowW (s.1 (o + 1)) (Int32.toNatClampNeg (s.1 o 1)) (Int32.toNatClampNeg (s.1 6 (Int32.toNatClampNeg x1))) (fun i => s.1 5 (10 * Int32.toNatClampNeg x1 + i)))) o 1 (nI (Int32.toNatClampNeg (s.1 o 1) + Int32.toNatClampNeg (s.1 6 (Int32.toNatClampNeg x1))))) o 2 (s.1 o 2 + 1)) o 3 x1
def ok_X6_append (s : St) (o : Nat) (x1 : Int32) : Prop := o = 18 ∧ wlR s 4 ∧ (∃ w, w < Int32.toNatClampNeg (s.1 4 3) ∧ x1 = nI w ∧ ∃ T, s.1 o 1 = nI T ∧ T + Int32.toNatClampNeg (s.1 6 w) ≤ 60) ∧ b_X6_hasRoom s o (v_X9_lengthOf s 4 x1)
theorem p_X6_append {l : Launch} {G : Geo} {d : Nat} (o : Nat) (x1 : Int32) (ho : o = 18 ∨ o = 20 ∨ o = 22) (s : St) {Q : St → Prop} (hok : ok_X6_append s o x1) (h : Q (g_X6_append s o x1)) : DoesV l G (d + 2) 73 [.ref o, .int x1, .ref 4] s Q := by
  obtain ⟨rfl, hW, ⟨w, hw, rfl, T, e1, hT⟩, hroom⟩ := hok
  obtain ⟨ez, hz⟩ := siz4 hW
  obtain ⟨e2, h2⟩ := len4 hW w
  unfold g_X6_append at h
  rw [e1, nnum (by omega), nnum (by omega)] at h
  have loop : ∀ m k, k + m = Int32.toNatClampNeg (s.1 6 w) → AtA l G (d + 2) sX6_append 18 [.ref 18, .int (nI w), .ref 4, .int (nI (Int32.toNatClampNeg (s.1 6 w))), .int (nI k)] [] (sarr s 19 (rowW (s.1 19) T k (fun i => s.1 5 (10 * w + i)))) (pV Q) := by
    intro m
    induction m with
    | zero =>
      intro k hk
      have : k = Int32.toNatClampNeg (s.1 6 w) := by omega
      subst this
      have e3 : (sarr s 19 (rowW (s.1 19) T (Int32.toNatClampNeg (s.1 6 w)) (fun i => s.1 5 (10 * w + i)))).1 18 1 = nI T := e1
      refine r_X6_append_18 18 _ _ _ (Or.inl rfl) _ ⟨fun z => ?_, fun _ => ?_⟩
      · rw [nlt (by omega) (by omega)] at z
        omega
      · rw [e3, nI_add]
        exact h
    | succ m ih =>
      intro k hk
      have e3 : (sarr s 19 (rowW (s.1 19) T k (fun i => s.1 5 (10 * w + i)))).1 18 1 = nI T := e1
      have hW' : wlR (sarr s 19 (rowW (s.1 19) T k (fun i => s.1 5 (10 * w + i)))) 4 := hW
      have e4 : v_X9_letterOf (sarr s 19 (rowW (s.1 19) T k (fun i => s.1 5 (10 * w + i)))) 4 (nI w) (nI k) = s.1 5 (10 * w + k) := v_let4 (s := sarr s 19 (rowW (s.1 19) T k (fun i => s.1 5 (10 * w + i)))) hW' hw (by show k < Int32.toNatClampNeg (s.1 6 w); omega)
      refine r_X6_append_18 18 _ _ _ (Or.inl rfl) _ ⟨fun _ => ⟨ok_let (Or.inl rfl) hW' _ _, ?_⟩, fun z => ?_⟩
      · rw [e3, e4, nI_add, nnum (by omega), nI_1]
        refine ⟨vin (show T + k < 60 by omega) (by decide), ?_⟩
        have := ih (k + 1) (by omega)
        rw [← rowW_s, ← sp_sa] at this
        exact this
      · rw [nlt (by omega) (by omega)] at z
        omega
  have h0 := loop _ 0 (Nat.zero_add _)
  rw [rowW_0, sa_id] at h0
  refine r_X6_append 18 _ (Or.inl rfl) s ⟨ok_len (Or.inl rfl) hW _, fun z => absurd hroom z, fun _ => ?_⟩
  rw [v_len4 hW hw, e2]
  exact h0
