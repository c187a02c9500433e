/-! a word fits a sound, on both sides -/
def fitP (snd : Nat → Int32) (L : Nat) (lt : Nat → Int32) (n w f : Nat) : Prop := f + n ≤ L ∧ ∀ k, k < n → snd (f + k) = 0 ∨ snd (f + k) = lt (10 * w + k)
def b_X7_isFitting (s : St) (x2 x3 : Int32) : Prop := fitP (s.1 25) (Int32.toNatClampNeg (s.1 24 1)) (s.1 5) (Int32.toNatClampNeg (s.1 6 (Int32.toNatClampNeg x2))) (Int32.toNatClampNeg x2) (Int32.toNatClampNeg x3)
def ok_X7_isFitting (s : St) (x2 x3 : Int32) : Prop := wlR s 4 ∧ rwR s ∧ (∃ w, w < Int32.toNatClampNeg (s.1 4 3) ∧ x2 = nI w) ∧ ∃ f, f ≤ Int32.toNatClampNeg (s.1 24 1) ∧ x3 = nI f
theorem p_X7_isFitting {l : Launch} {G : Geo} {d : Nat} (x2 x3 : Int32) (s : St) {Q : Int32 → St → Prop} (hok : ok_X7_isFitting s x2 x3) (h : Q (bI (b_X7_isFitting s x2 x3)) s) : DoesI l G (d + 2) 88 [.ref 24, .ref 4, .int x2, .int x3] s Q := by
  obtain ⟨hW, hR, ⟨w, hw, rfl⟩, f, hf, rfl⟩ := hok
  obtain ⟨e1, h1⟩ := siz4 hW
  obtain ⟨e2, h2⟩ := len4 hW w
  obtain ⟨e3, h3⟩ := rg_num hR.1 (by decide)
  unfold b_X7_isFitting at h
  rw [nnum (by omega), nnum (by omega)] at h
  refine r_X7_isFitting _ _ s ⟨ok_len (Or.inl rfl) hW _, ?_, ?_⟩
  · intro z
    rw [v_len4 hW hw, e3, e2, pk_sub hf, nlt (by omega) (by omega)] at z
    rw [bI_0 (fun hp => by have := hp.1; omega)] at h
    exact h
  · intro z
    rw [v_len4 hW hw, e3, e2, pk_sub hf, nlt (by omega) (by omega)] at z
    have loop : ∀ m j, j + m = Int32.toNatClampNeg (s.1 6 w) → (∀ k, k < j → s.1 25 (f + k) = 0 ∨ s.1 25 (f + k) = s.1 5 (10 * w + k)) → AtA l G (d + 2) sX7_isFitting 23 [.ref 24, .ref 4, .int (nI w), .int (nI f), .int (nI (Int32.toNatClampNeg (s.1 6 w))), .int (nI j), .null] [] s (pI Q) := by
      intro m
      induction m with
      | zero =>
        intro j hj hp
        refine r_X7_isFitting_23 _ _ _ _ s ⟨fun z => ?_, fun z => ?_⟩
        · rw [nlt (by omega) (by omega)] at z
          omega
        · rw [bI_1 ⟨by omega, fun k hk => hp k (by omega)⟩] at h
          exact h
      | succ m ih =>
        intro j hj hp
        have hv : v_X7_at s (nI f + nI j) = s.1 25 (f + j) := by
          rw [nI_add]
          exact v_row hR (by omega)
        have hl : v_X9_letterOf s 4 (nI w) (nI j) = s.1 5 (10 * w + j) := v_let4 hW hw (by omega)
        refine r_X7_isFitting_23 _ _ _ _ s ⟨fun z => ⟨ok_row hR _, fun z2 => ?_, fun z2 => ⟨ok_let (Or.inl rfl) hW _ _, fun z3 => ?_, fun z3 => ?_⟩⟩, fun z => ?_⟩
        · rw [nI_1]
          exact ih (j + 1) (by omega) (lt_s hp (Or.inl (by rw [← hv]; exact z2)))
        · rw [nI_1]
          exact ih (j + 1) (by omega) (lt_s hp (Or.inr (by rw [← hv, ← hl]; exact z3)))
        · rw [bI_0 (fun hq => by
            rcases hq.2 j (by omega) with q | q
            · exact z2 (by rw [hv]; exact q)
            · exact z3 (by rw [hv, hl]; exact q))] at h
          exact h
        · rw [nlt (by omega) (by omega)] at z
          omega
    rw [v_len4 hW hw, e2]
    exact loop _ 0 (Nat.zero_add _) (fun k hk => absurd hk (Nat.not_lt_zero k))
/-- the model's ranges: words, voices, sound -/
def mdR (s : St) : Prop := rg (s.1 51 4) 12 ∧ (∀ w, rg (s.1 54 w) 10) ∧ (∀ w, rg (s.1 53 w) 2) ∧ (∀ j, rg (s.1 55 j) 26) ∧ rg (s.1 51 26) 60 ∧ (∀ j, rg (s.1 61 j) 26) ∧ (∃ V : Nat, 1 ≤ V ∧ V ≤ 5 ∧ s.1 51 0 = nI V) ∧ ∀ v, rg (s.1 52 v) 3
def b_X11_doesFit (s : St) (x1 x2 : Int32) : Prop := fitP (s.1 61) (Int32.toNatClampNeg (s.1 51 26)) (s.1 55) (Int32.toNatClampNeg (s.1 54 (Int32.toNatClampNeg x1))) (Int32.toNatClampNeg x1) (Int32.toNatClampNeg x2)
def ok_X11_doesFit (s : St) (x1 x2 : Int32) : Prop := mdR s ∧ (∃ w, w < Int32.toNatClampNeg (s.1 51 4) ∧ x1 = nI w) ∧ ∃ f, f ≤ Int32.toNatClampNeg (s.1 51 26) ∧ x2 = nI f
theorem p_X11_doesFit {l : Launch} {G : Geo} {d : Nat} (x1 x2 : Int32) (s : St) {Q : Int32 → St → Prop} (hok : ok_X11_doesFit s x1 x2) (h : Q (bI (b_X11_doesFit s x1 x2)) s) : DoesI l G (d + 1) 165 [.ref 51, .int x1, .int x2] s Q := by
  obtain ⟨hM, ⟨w, hw, rfl⟩, f, hf, rfl⟩ := hok
  obtain ⟨e1, h1⟩ := rg_num hM.1 (by decide)
  obtain ⟨e2, h2⟩ := rg_num (hM.2.1 w) (by decide)
  obtain ⟨e3, h3⟩ := rg_num hM.2.2.2.2.1 (by decide)
  unfold b_X11_doesFit at h
  rw [nnum (by omega), nnum (by omega)] at h
  have hin : vp_in (nI w) (alen 54) := vin (show w < 12 by omega) (by decide)
  have end0 : ∀ j, f + Int32.toNatClampNeg (s.1 54 w) ≤ Int32.toNatClampNeg (s.1 51 26) → j < Int32.toNatClampNeg (s.1 54 w) → ¬ (s.1 61 (f + j) = 0 ∨ s.1 61 (f + j) = s.1 55 (10 * w + j)) → Q 0 s := by
    intro j hl hj hn
    rw [bI_0 (fun hq => hn (hq.2 j hj))] at h
    exact h
  have stop : ∀ j, Q 0 s → AtA l G (d + 1) sX11_doesFit 24 [.ref 51, .int (nI w), .int (nI f), .int 0, .int (nI j)] [] s (pI Q) := by
    intro j h9
    exact r_X11_doesFit_24 _ _ _ _ s ⟨hin, fun z => ⟨fun _ => ⟨rfl, h9⟩, fun z2 => absurd rfl z2⟩, fun z => ⟨rfl, h9⟩⟩
  have loop : f + Int32.toNatClampNeg (s.1 54 w) ≤ Int32.toNatClampNeg (s.1 51 26) → ∀ m j, j + m = Int32.toNatClampNeg (s.1 54 w) → (∀ k, k < j → s.1 61 (f + k) = 0 ∨ s.1 61 (f + k) = s.1 55 (10 * w + k)) → AtA l G (d + 1) sX11_doesFit 24 [.ref 51, .int (nI w), .int (nI f), .int 1, .int (nI j)] [] s (pI Q) := by
    intro hle m
    induction m with
    | zero =>
      intro j hj hp
      refine r_X11_doesFit_24 _ _ _ _ s ⟨hin, fun z => ?_, fun z => ⟨rfl, ?_⟩⟩
      · rw [nnum (by omega), e2, nlt (by omega) (by omega)] at z
        omega
      · rw [bI_1 ⟨by omega, fun k hk => hp k (by omega)⟩] at h
        exact h
    | succ m ih =>
      intro j hj hp
      have i1 : vp_in (nI f + nI j) (alen 61) := by rw [nI_add]; exact vin (show f + j < 60 by omega) (by decide)
      have i2 : vp_in (10 * nI w + nI j) (alen 55) := by rw [show (10 : Int32) = nI 10 from rfl, pk_mul, nI_add]; exact vin (show 10 * w + j < 120 by omega) (by decide)
      have hv : s.1 61 (Int32.toNatClampNeg (nI f + nI j)) = s.1 61 (f + j) := by rw [nI_add, nnum (by omega)]
      have hl : s.1 55 (Int32.toNatClampNeg (10 * nI w + nI j)) = s.1 55 (10 * w + j) := by rw [show (10 : Int32) = nI 10 from rfl, pk_mul, nI_add, nnum (by omega)]
      refine r_X11_doesFit_24 _ _ _ _ s ⟨hin, fun z => ⟨fun z1 => absurd z1 (by decide), fun _ => ⟨i1, fun z2 => ?_, fun z2 => ⟨i1, i2, fun z3 => ?_, fun z3 => ?_⟩⟩⟩, fun z => ?_⟩
      · rw [nI_1]
        exact ih (j + 1) (by omega) (lt_s hp (Or.inl (by rw [← hv]; exact z2)))
      · rw [nI_1]
        exact ih (j + 1) (by omega) (lt_s hp (Or.inr (by rw [← hv, ← hl]; exact z3)))
      · rw [nI_1]
        exact stop _ (end0 j hle (by omega) (fun q => by
          rw [hv] at z2 z3
          rw [hl] at z3
          exact q.elim z2 z3))
      · rw [nnum (by omega), e2, nlt (by omega) (by omega)] at z
        omega
  refine r_X11_doesFit _ _ s ⟨hin, fun z => ?_, fun z => ?_⟩
  · rw [nnum (by omega), e2, e3, nI_add, nlt (by omega) (by omega)] at z
    exact stop 0 (by rw [bI_0 (fun hq => by have := hq.1; omega)] at h; exact h)
  · rw [nnum (by omega), e2, e3, nI_add, nlt (by omega) (by omega)] at z
    exact loop (by omega) _ 0 (Nat.zero_add _) (fun k hk => absurd hk (Nat.not_lt_zero k))
