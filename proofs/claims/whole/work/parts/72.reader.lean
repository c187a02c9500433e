/-! the class's reader: its leaves -/
theorem sp_sp (s : St) (q k : Nat) (a b : Int32) : sput (sput s q k a) q k b = sput s q k b := by
  refine Prod.ext ?_ rfl
  funext x y
  simp only [sput]
  split <;> rfl
def tr (k : Nat) (f : Nat → Int32) : Nat → Int32 := fun j => if j < k then f j else 0
theorem tr_in {k j : Nat} {f : Nat → Int32} (h : j < k) : tr k f j = f j := by unfold tr; rw [if_pos h]
theorem tr_upd {k i : Nat} {f : Nat → Int32} {x : Int32} (h : i < k) : tr k (upd f i x) = upd (tr k f) i x := by
  funext j
  unfold tr upd
  by_cases hj : j = i
  · rw [if_pos hj, if_pos hj, if_pos (by omega)]
  · rw [if_neg hj, if_neg hj]
theorem tr_rowW {k a m : Nat} {f g : Nat → Int32} (h : a + m ≤ k) : tr k (rowW f a m g) = rowW (tr k f) a m g := by
  funext j
  unfold tr rowW
  by_cases hj : a ≤ j ∧ j < a + m
  · rw [if_pos hj, if_pos hj, if_pos (by omega)]
  · rw [if_neg hj, if_neg hj]
def tx (s : St) (c : Nat → Nat) (n : Nat) : Prop := s.1 1 1 = nI n ∧ n ≤ 200 ∧ ∀ j, s.1 2 j = nI (c j) ∧ c j ≤ 255
def atp (s : St) (c : Nat → Nat) (n p : Nat) : Prop := s.1 17 2 = nI (tB c n p) ∧ s.1 17 3 = nI (nx c n p)
def adv (c : Nat → Nat) (n : Nat) (s : St) (p : Nat) : St := sput (sput s 17 2 (nI (tB c n p))) 17 3 (nI (nx c n p))
def drX (s : St) : Dr := (s.1 15 1, s.1 15 2, s.1 15 3, tr 5 (s.1 16), s.1 11 3, s.1 11 4, tr 120 (s.1 12), tr 12 (s.1 13), tr 12 (s.1 14))
theorem adv_atp (c : Nat → Nat) (n : Nat) (s : St) (p : Nat) : atp (adv c n s p) c n p := ⟨rfl, rfl⟩
theorem adv_drX (c : Nat → Nat) (n : Nat) (s : St) (p : Nat) : drX (adv c n s p) = drX s := rfl
theorem adv_tx {c : Nat → Nat} {n p : Nat} {s : St} (h : tx s c n) : tx (adv c n s p) c n := h
theorem tx_at {s : St} {c : Nat → Nat} {n k : Nat} (h : tx s c n) (hk : k < n) : v_X4_at s (nI k) = nI (c k) := by
  have := h.2.1
  unfold v_X4_at
  rw [iC_f (nneg k (by omega)), h.1, iC_t ((nlt (by omega) (by omega)).mpr hk), nnum (by omega), (h.2.2 k).1]
theorem tx_out {s : St} {c : Nat → Nat} {n k : Nat} (h : tx s c n) (hk : n ≤ k) (hk2 : k < 2 ^ 31) : v_X4_at s (nI k) = -1 := by
  unfold v_X4_at
  rw [iC_f (nneg k (by omega)), h.1, iC_f (fun z => by rw [nlt (by omega) (by omega)] at z; omega)]
theorem tx_ok {s : St} {c : Nat → Nat} {n : Nat} (h : tx s c n) (x : Int32) : ok_X4_at s x := by
  intro h0 h1
  have := h.2.1
  obtain ⟨k, hk, rfl⟩ := nI_of h0
  rw [h.1, nlt (by omega) (by omega)] at h1
  exact vin (show k < 200 by omega) (by decide)
theorem p_eor {l : Launch} {G : Geo} {d : Nat} {c : Nat → Nat} {n lo hi p : Nat} {x2 x3 : Int32} (s : St) {Q : Int32 → St → Prop} (hT : tx s c n) (e2 : x2 = nI lo) (e3 : x3 = nI hi) (h2 : lo < 1000) (h3 : hi < 1000) (hp : p < 1000) (h : Q (nI (eRow c n lo hi p)) s) : DoesI l G (d + 1) 57 [.ref 1, .int (nI p), .int x2, .int x3] s Q := by
  have hn := hT.2.1
  have loop : ∀ m q, n - q = m → q < 1000 → Q (nI (eRow c n lo hi q)) s → AtA l G (d + 1) sX4_endOfRow 11 [.ref 1, .int (nI p), .int x2, .int x3, .int (nI q)] [] s (pI Q) := by
    intro m
    induction m with
    | zero =>
      intro q hm hq hQ
      rw [eRow_out (by omega)] at hQ
      refine r_X4_endOfRow_11 _ _ _ _ s ⟨fun z => ?_, fun _ => hQ⟩
      rw [hT.1, nlt (by omega) (by omega)] at z
      omega
    | succ m ih =>
      intro q hm hq hQ
      have hc := (hT.2.2 q).2
      refine r_X4_endOfRow_11 _ _ _ _ s ⟨fun _ => ⟨vin (show q < 200 by omega) (by decide), ?_⟩, fun z => ?_⟩
      · rw [nnum (by omega), (hT.2.2 q).1, e2, e3]
        refine ⟨fun z => ?_, fun z => ⟨vin (show q < 200 by omega) (by decide), fun y => ?_, fun y => ?_⟩⟩
        · rw [nlt (by omega) (by omega)] at z
          rw [eRow_out (by omega)] at hQ
          exact hQ
        · rw [nlt (by omega) (by omega)] at y
          rw [eRow_out (by omega)] at hQ
          exact hQ
        · rw [nlt (by omega) (by omega)] at y z
          rw [eRow_in (by omega)] at hQ
          have := ih (q + 1) (by omega) (by omega) hQ
          rw [e2, e3] at this
          rw [nI_1]
          exact this
      · rw [hT.1, nlt (by omega) (by omega)] at z
        omega
  exact r_X4_endOfRow _ _ _ s ⟨fun z => absurd z (nneg p (by omega)), fun _ => loop _ p rfl hp h⟩
theorem p_adv {l : Launch} {G : Geo} {d : Nat} {c : Nat → Nat} {n p : Nat} (s : St) {Q : St → Prop} (hT : tx s c n) (hp : s.1 17 3 = nI p) (hn : p ≤ n) (h : Q (adv c n s p)) : DoesV l G (d + 2) 41 [.ref 17] s Q := by
  have h200 := hT.2.1
  have hb : tB c n p ≤ n := tB_le hn
  unfold adv nx at h
  refine r_X3_advance s ?_
  rw [hp]
  refine p_eor (c := c) (n := n) (lo := 32) (hi := 32) s hT rfl rfl (by decide) (by decide) (by omega) ?_
  show DoesI l G (d + 1) 57 [.ref 1, .int (nI (tB c n p)), .int 97, .int 122] (sput s 17 2 (nI (tB c n p))) _
  generalize hB : tB c n p = b at *
  refine p_eor (c := c) (n := n) (lo := 97) (hi := 122) (sput s 17 2 (nI b)) hT rfl rfl (by decide) (by decide) (by omega) ?_
  have g1 := eRow_le (c := c) (n := n) (lo := 97) (hi := 122) hb
  have g2 := eRow_le (c := c) (n := n) (lo := 48) (hi := 57) hb
  refine ⟨fun z => ?_, fun z => ?_⟩
  · have z' : nI (eRow c n 97 122 b) = nI b := z
    rw [neq (by omega) (by omega)] at z'
    have nl : ¬ (b < n ∧ 97 ≤ c b ∧ c b ≤ 122) := by
      intro q
      rw [eRow_in q] at z'
      have := eRow_lo (c := c) (n := n) (lo := 97) (hi := 122) (b + 1)
      omega
    show DoesI l G (d + 1) 57 [.ref 1, .int (nI b), .int 48, .int 57] (sput (sput s 17 2 (nI b)) 17 3 (nI (eRow c n 97 122 b))) _
    refine p_eor (c := c) (n := n) (lo := 48) (hi := 57) _ hT rfl rfl (by decide) (by decide) (by omega) ?_
    rw [sp_sp]
    refine ⟨fun y => ?_, fun y => ?_⟩
    · have y' : nI (eRow c n 48 57 b) = nI b := y
      rw [neq (by omega) (by omega)] at y'
      have nd : ¬ (b < n ∧ 48 ≤ c b ∧ c b ≤ 57) := by
        intro q
        rw [eRow_in q] at y'
        have := eRow_lo (c := c) (n := n) (lo := 48) (hi := 57) (b + 1)
        omega
      refine ⟨fun w => ?_, fun w => ?_⟩
      · have w' : nI b < s.1 1 1 := w
        rw [hT.1, nlt (by omega) (by omega)] at w'
        rw [tE_oth w' (fun q => nl ⟨w', q⟩) (fun q => nd ⟨w', q⟩)] at h
        rw [sp_sp]
        show Q (sput (sput s 17 2 (nI b)) 17 3 (nI b + 1))
        rw [nI_1]
        exact h
      · have w' : ¬ nI b < s.1 1 1 := w
        rw [hT.1, nlt (by omega) (by omega)] at w'
        rw [tE_out w', ← y'] at h
        rw [y'] at h ⊢
        exact h
    · have y' : ¬ nI (eRow c n 48 57 b) = nI b := y
      rw [neq (by omega) (by omega)] at y'
      have nd : b < n ∧ 48 ≤ c b ∧ c b ≤ 57 := Classical.byContradiction fun q => y' (eRow_out q)
      rw [tE_dig nd] at h
      exact h
  · have z' : ¬ nI (eRow c n 97 122 b) = nI b := z
    refine ⟨fun y => absurd y z', fun _ => ?_⟩
    rw [neq (by omega) (by omega)] at z'
    have nl : b < n ∧ 97 ≤ c b ∧ c b ≤ 122 := Classical.byContradiction fun q => z' (eRow_out q)
    rw [tE_let nl] at h
    exact h
theorem ar_is : ∀ i, i < 9 → isArr (100 + i + 100) = true ∧ tlen (100 + i + 100) = wln i ∧ blen (100 + i + 100) = wln i := by decide +kernel
theorem p_tokenIs {l : Launch} {G : Geo} {d : Nat} {c : Nat → Nat} {n p : Nat} (i q : Nat) (s : St) {Q : Int32 → St → Prop} (hi : i < 9) (hq : q = 100 + i) (hT : tx s c n) (ha : atp s c n p) (hp : p ≤ n) (h : Q (bI (isW c n p i)) s) : DoesI l G (d + 5) 42 [.ref 17, .ref q] s Q := by
  subst hq
  have h200 := hT.2.1
  obtain ⟨a1, a2⟩ := ha
  obtain ⟨r1, r2, r3⟩ := ar_is i hi
  have hw := wln_le i hi
  have hb : tB c n p ≤ n := tB_le hp
  have hx : nx c n p ≤ n := nx_le hp
  have hg : tB c n p ≤ nx c n p := nx_ge
  have hq : 100 ≤ 100 + i ∧ 100 + i < 109 := by omega
  have okl : ok_J0_length_8abf5 s (100 + i) := ⟨hq, r1, hq, hq⟩
  have vl : v_J0_length_8abf5 s (100 + i) = nI (wln i) := by
    unfold v_J0_length_8abf5 v_J0_coder_7d493
    exact wln_is i hi
  have loop : ∀ m k, k + m = wln i → nx c n p = tB c n p + wln i → (∀ j, j < k → c (tB c n p + j) = wch i j) → AtA l G (d + 5) sX3_tokenIs 20 [.ref 17, .ref (100 + i), .int (nI k)] [] s (pI Q) := by
    intro m
    induction m with
    | zero =>
      intro k hk hn hj
      refine r_X3_tokenIs_20 _ _ s ⟨hq, okl, fun z => ?_, fun _ => ?_⟩
      · rw [vl, nlt (by omega) (by omega)] at z
        omega
      · rw [bI_1 (show isW c n p i from ⟨hn, fun j hj2 => hj j (by omega)⟩)] at h
        exact h
    | succ m ih =>
      intro k hk hn hj
      have hch : f_J0_charAt_5068e s (100 + i) (nI k) = (nI (wch i k), s) := by
        unfold f_J0_charAt_5068e f_J1_charAt_3b067 g_J0_checkIndex_df160
        rw [iC_t (show b_J0_isLatin1_aae02 s (100 + i) from trivial), nnum (by omega)]
        have := wch_is i hi k (by omega) (by omega)
        rw [show 100 + i + 100 = 200 + i by omega, this]
      have okc : ok_J0_charAt_5068e s (100 + i) (nI k) := by
        refine ⟨hq, hq, fun z => absurd trivial z, fun _ => ⟨hq, r1, ⟨fun z => absurd z (nneg k (by omega)), fun _ z => absurd ?_ z⟩, ?_⟩⟩
        · rw [r2]
          exact (nlt (by omega) (by omega)).mpr (by omega)
        · rw [r3]
          exact vin (by omega) (by omega)
      refine r_X3_tokenIs_20 _ _ s ⟨hq, okl, fun _ => ⟨tx_ok hT _, hq, okc, ?_⟩, fun z => ?_⟩
      · rw [hch, a1, nI_add, tx_at hT (by omega)]
        have hc := (hT.2.2 (tB c n p + k)).2
        have hc2 := wch_in i hi k (by omega) (by omega)
        dsimp only
        refine ⟨fun z => ?_, fun z => ?_⟩
        · rw [neq (by omega) (by omega)] at z
          rw [nI_1]
          refine ih (k + 1) (by omega) hn (fun j hj2 => ?_)
          by_cases e : j = k
          · rw [e, z]
          · exact hj j (by omega)
        · rw [neq (by omega) (by omega)] at z
          rw [bI_0 (fun w => z (w.2 k (by omega)))] at h
          exact h
      · rw [vl, nlt (by omega) (by omega)] at z
        omega
  refine r_X3_tokenIs _ s ⟨hq, okl, fun z => ?_, fun z => ?_⟩
  · rw [a1, a2, vl, pk_sub hg, neq (by omega) (by omega)] at z
    exact loop _ 0 (Nat.zero_add _) (by omega) (fun j hj => absurd hj (Nat.not_lt_zero j))
  · rw [a1, a2, vl, pk_sub hg, neq (by omega) (by omega)] at z
    rw [bI_0 (fun w => z (by have := w.1; omega))] at h
    exact h
theorem p_take {l : Launch} {G : Geo} {d : Nat} {c : Nat → Nat} {n p lo hi : Nat} {x1 x2 : Int32} (s : St) {Q : Int32 → St → Prop} (hT : tx s c n) (ha : atp s c n p) (hp : p ≤ n) (e1 : x1 = nI lo) (e2 : x2 = nI hi) (hlo : lo < 100) (hhi : hi < 100) (h1 : lo ≤ nmv c n p ∧ nmv c n p ≤ hi → Q (nI (nmv c n p)) (adv c n s (nx c n p))) (h0 : ¬ (lo ≤ nmv c n p ∧ nmv c n p ≤ hi) → Q (-1) s) : DoesI l G (d + 3) 43 [.ref 17, .int x1, .int x2] s Q := by
  have h200 := hT.2.1
  obtain ⟨a1, a2⟩ := ha
  have hb : tB c n p ≤ n := tB_le hp
  have hx : nx c n p ≤ n := nx_le hp
  have hg : tB c n p ≤ nx c n p := nx_ge
  have fin : ∀ v4, nx c n p = v4 → AtA l G (d + 3) sX3_takeNumber 34 [.ref 17, .int x1, .int x2, .int (nI (nmv c n p)), .int (nI v4), .null] [] s (pI Q) := by
    intro v4 hv
    have hm := nmv_le (c := c) (n := n) (p := p)
    refine r_X3_takeNumber_34 _ _ _ _ s ⟨fun z => ?_, fun _ => ?_⟩
    · rw [a2, nlt (by omega) (by omega)] at z
      omega
    · rw [e1, e2]
      refine ⟨fun z => ?_, fun z => ⟨fun y => ?_, fun y => ?_⟩⟩
      · rw [nlt (by omega) (by omega)] at z
        exact h0 (by omega)
      · rw [nlt (by omega) (by omega)] at y
        exact h0 (by omega)
      · rw [nlt (by omega) (by omega)] at y z
        exact p_adv s hT a2 hx (h1 (by omega))
  have dg : ∀ k, k < n → ((48 ≤ c k ∧ c k ≤ 57 → ¬ (v_X4_at s (nI k) - 48 < 0) ∧ ¬ 9 < v_X4_at s (nI k) - 48 ∧ v_X4_at s (nI k) - 48 = nI (c k - 48)) ∧ (¬ (48 ≤ c k ∧ c k ≤ 57) → v_X4_at s (nI k) - 48 < 0 ∨ 9 < v_X4_at s (nI k) - 48)) := by
    intro k hk
    have hc := (hT.2.2 k).2
    rw [tx_at hT hk, show (48 : Int32) = nI 48 from rfl]
    constructor
    · intro h
      rw [pk_sub h.1, show (9 : Int32) = nI 9 from rfl, nlt (by omega) (by omega)]
      exact ⟨nneg _ (by omega), by omega, rfl⟩
    · intro h
      by_cases h48 : c k < 48
      · exact Or.inl (pk_sneg (by decide) h48)
      · refine Or.inr ?_
        rw [pk_sub (by omega), show (9 : Int32) = nI 9 from rfl, nlt (by omega) (by omega)]
        omega
  have bad : ¬ (tB c n p < n ∧ 48 ≤ c (tB c n p) ∧ c (tB c n p) ≤ 57 ∧ nx c n p ≤ tB c n p + 2) → Q (-1) s := by
    intro hb
    refine h0 (fun z => ?_)
    rw [nmv_no hb] at z
    omega
  refine r_X3_takeNumber _ _ s ⟨fun z => ?_, fun z => ⟨fun y => ?_, fun y => ?_⟩⟩
  · rw [a1, a2, neq (by omega) (by omega)] at z
    refine bad (fun w => ?_)
    have : tB c n p < nx c n p := tE_gt w.1
    omega
  · rw [a1, a2, pk_sub hg, show (2 : Int32) = nI 2 from rfl, nlt (by omega) (by omega)] at y
    exact bad (by omega)
  · rw [a1, a2, neq (by omega) (by omega)] at z
    rw [a1, a2, pk_sub hg, show (2 : Int32) = nI 2 from rfl, nlt (by omega) (by omega)] at y
    have hbn : tB c n p < n := Classical.byContradiction fun w => z (tE_out w)
    obtain ⟨d1, d2⟩ := dg _ hbn
    rw [a1]
    refine r_X3_takeNumber_34 _ _ _ _ s ⟨fun _ => ⟨tx_ok hT _, ?_⟩, fun w => ?_⟩
    · by_cases hd : 48 ≤ c (tB c n p) ∧ c (tB c n p) ≤ 57
      · obtain ⟨d3, d4, d5⟩ := d1 hd
        refine ⟨fun w => absurd w d3, fun _ => ⟨fun w => absurd w d4, fun _ => ?_⟩⟩
        rw [d5, show (10 : Int32) = nI 10 from rfl, l0, pk_mul, nI_add, nI_1, Nat.mul_zero, Nat.zero_add]
        by_cases hn1 : nx c n p = tB c n p + 1
        · rw [← nmv_1 ⟨hbn, hd⟩ hn1]
          exact fin _ hn1
        · have hn2 : nx c n p = tB c n p + 2 := by omega
          have hd2 := dig2 ⟨hbn, hd⟩ hn2
          obtain ⟨f1, -⟩ := dg _ hd2.1
          obtain ⟨f3, f4, f5⟩ := f1 hd2.2
          refine r_X3_takeNumber_34 _ _ _ _ s ⟨fun _ => ⟨tx_ok hT _, fun w => absurd w f3, fun _ => ⟨fun w => absurd w f4, fun _ => ?_⟩⟩, fun w => ?_⟩
          · rw [f5, show (10 : Int32) = nI 10 from rfl, pk_mul, nI_add, nI_1, ← nmv_2 ⟨hbn, hd⟩ hn2]
            exact fin _ hn2
          · rw [a2, nlt (by omega) (by omega)] at w
            omega
      · have hq := bad (fun w => hd ⟨w.2.1, w.2.2.1⟩)
        exact ⟨fun _ => hq, fun _ => ⟨fun _ => hq, fun w => by
          rcases d2 hd with g | g
          · rename_i g0
            exact absurd g g0
          · exact absurd g w⟩⟩
    · rw [a2, nlt (by omega) (by omega)] at w
      omega
