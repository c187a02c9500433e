/-! what holds between the class's cells and the reference's, call by call -/
def sumN (f : Nat → Nat) : Nat → Nat
  | 0 => 0
  | n + 1 => sumN f n + f n
/-- the letter at place i of the words ws k, ws (k + 1), .. (m of them) -/
def latF (sz : Nat → Int32) (lt : Nat → Int32) (ws : Nat → Int32) : Nat → Nat → Nat → Int32
  | 0, _, _ => 0
  | m + 1, k, i => if i < Int32.toNatClampNeg (sz (Int32.toNatClampNeg (ws k))) then lt (10 * Int32.toNatClampNeg (ws k) + i) else latF sz lt ws m (k + 1) (i - Int32.toNatClampNeg (sz (Int32.toNatClampNeg (ws k))))
def totF (sz : Nat → Int32) (ws : Nat → Int32) (p : Nat) : Nat := sumN (fun k => Int32.toNatClampNeg (sz (Int32.toNatClampNeg (ws k)))) p
def blkT (n n' : Int32) (b b' : Nat → Int32) : Prop := rg n 200 ∧ (∀ j, rg (b j) 255) ∧ n' = n ∧ b' = b
def blkC (v a h v' a' h' : Int32) (t t' : Nat → Int32) : Prop := (∃ V : Nat, 1 ≤ V ∧ V ≤ 5 ∧ v = nI V) ∧ (∀ j, rg (t j) 3) ∧ v' = v ∧ a' = a ∧ h' = h ∧ t' = t
def blkW (n f n' f' : Int32) (lt sz so lt' sz' so' : Nat → Int32) : Prop := rg n 12 ∧ (∀ w, rg (sz w) 10) ∧ (∀ w, rg (so w) 2) ∧ (∀ j, rg (lt j) 26) ∧ (∀ w, w < Int32.toNatClampNeg n → 1 ≤ Int32.toNatClampNeg (sz w) ∧ ∀ k, k < Int32.toNatClampNeg (sz w) → 1 ≤ Int32.toNatClampNeg (lt (10 * w + k))) ∧ n' = n ∧ f' = f ∧ lt' = lt ∧ sz' = sz ∧ so' = so
def blkS (n n' : Int32) (b b' : Nat → Int32) : Prop := rg n 60 ∧ (∀ j, rg (b j) 26) ∧ n' = n ∧ b' = b
/-- a sermon of the class (total of letters, of words, last word, said; letters) and one of the reference (preached, gone, words) -/
def blkM (n : Int32) (lt sz : Nat → Int32) (tot cnt last said : Int32) (ls : Nat → Int32) (p g : Int32) (ws : Nat → Int32) : Prop :=
  rg p 6 ∧ (∀ k, k < Int32.toNatClampNeg p → ∃ w, w < Int32.toNatClampNeg n ∧ ws k = nI w) ∧ totF sz ws (Int32.toNatClampNeg p) ≤ 60 ∧ tot = nI (totF sz ws (Int32.toNatClampNeg p)) ∧ cnt = p ∧ said = g ∧ (∃ j, j ≤ totF sz ws (Int32.toNatClampNeg p) ∧ g = nI j) ∧ (∀ i, i < totF sz ws (Int32.toNatClampNeg p) → ls i = latF sz lt ws (Int32.toNatClampNeg p) 0 i) ∧ (Int32.toNatClampNeg p = 0 → last = -1) ∧ (0 < Int32.toNatClampNeg p → last = ws (Int32.toNatClampNeg p - 1))
def kbit (x : Int32) (k : Nat) : Prop := ¬ ((x >>> (nI k &&& 31)) &&& 1) = 0
def RI (s : St) : Prop :=
  blkT (s.1 1 1) (s.1 51 9) (s.1 2) (s.1 56) ∧ blkC (s.1 8 1) (s.1 8 2) (s.1 8 3) (s.1 51 0) (s.1 51 1) (s.1 51 2) (s.1 9) (s.1 52) ∧ blkW (s.1 4 3) (s.1 4 4) (s.1 51 4) (s.1 51 8) (s.1 5) (s.1 6) (s.1 7) (s.1 55) (s.1 54) (s.1 53) ∧ blkS (s.1 24 1) (s.1 51 26) (s.1 25) (s.1 61) ∧
  blkM (s.1 4 3) (s.1 5) (s.1 6) (s.1 18 1) (s.1 18 2) (s.1 18 3) (s.1 18 4) (s.1 19) (s.1 51 23) (s.1 51 25) (s.1 60) ∧
  (kbit (s.1 0 7) 0 ↔ s.1 63 0 = 1) ∧ (kbit (s.1 0 7) 1 ↔ s.1 63 1 = 1) ∧ (s.1 63 0 = 0 ∨ s.1 63 0 = 1) ∧ (s.1 63 1 = 0 ∨ s.1 63 1 = 1) ∧
  (s.1 63 0 = 1 → blkM (s.1 4 3) (s.1 5) (s.1 6) (s.1 20 1) (s.1 20 2) (s.1 20 3) (s.1 20 4) (s.1 21) (s.1 62 0) (s.1 62 1) (fun i => s.1 62 (2 + i))) ∧
  (s.1 63 1 = 1 → blkM (s.1 4 3) (s.1 5) (s.1 6) (s.1 22 1) (s.1 22 2) (s.1 22 3) (s.1 22 4) (s.1 23) (s.1 62 8) (s.1 62 9) (fun i => s.1 62 (10 + i)))
theorem sp_e (s : St) (q k a b : Nat) (v : Int32) : (sput s q k v).1 a b = if a = q ∧ b = k then v else s.1 a b := rfl
def Eqv (l : Launch) (G : Geo) (kx km : Nat) (ar : List Value) (s : St) : Prop := DoesI l G 20 kx (.ref 0 :: ar) s (fun r1 s1 => DoesI l G 20 km (.ref 51 :: ar) s1 (fun r2 s2 => r1 = r2 ∧ RI s2))
theorem ri_wl {s : St} (h : RI s) : wlR s 4 := ⟨h.2.2.1.1, h.2.2.1.2.1, h.2.2.1.2.2.1, h.2.2.1.2.2.2.1⟩
theorem ri_ch {s : St} (h : RI s) : chR s 8 := ⟨h.2.1.1, h.2.1.2.1⟩
theorem ri_rw {s : St} (h : RI s) : rwR s := ⟨h.2.2.2.1.1, h.2.2.2.1.2.1⟩
theorem ri_md {s : St} (h : RI s) : mdR s := by
  obtain ⟨-, ⟨c1, c2, c3, c4, c5, c6⟩, ⟨w1, w2, w3, w4, w5, w6, w7, w8, w9, w10⟩, ⟨s1, s2, s3, s4⟩, -⟩ := h
  refine ⟨by rw [w6]; exact w1, by rw [w9]; exact w2, by rw [w10]; exact w3, by rw [w8]; exact w4, by rw [s3]; exact s1, by rw [s4]; exact s2, by rw [c3]; exact c1, by rw [c6]; exact c2⟩
theorem rg0 (n : Nat) : rg 0 n := ⟨0, Nat.zero_le n, rfl⟩
theorem eq_erase {l : Launch} {G : Geo} {s : St} (h : RI s) : Eqv l G 105 136 [] s := by
  refine p_X10_erase s (p_X11_erase _ ⟨?_, ?_⟩)
  · show s.1 1 1 = (sput s 1 1 0).1 51 9
    rw [sp_q (by decide)]
    exact h.1.2.2.1.symm
  · show RI (sput (sput s 1 1 0) 51 9 0)
    obtain ⟨⟨t1, t2, t3, t4⟩, hr⟩ := h
    exact ⟨⟨rg0 _, t2, rfl, t4⟩, hr⟩
theorem eq_hush {l : Launch} {G : Geo} {s : St} (h : RI s) : Eqv l G 117 164 [] s := by
  refine p_X10_hush s (p_X11_hush _ ⟨?_, ?_⟩)
  · exact h.2.2.2.1.2.2.1.symm
  · show RI (sput (sput s 24 1 0) 51 26 0)
    obtain ⟨h1, h2, h3, ⟨t1, t2, t3, t4⟩, hr⟩ := h
    exact ⟨h1, h2, h3, ⟨rg0 _, t2, rfl, t4⟩, hr⟩
theorem blkM0 {n : Int32} {lt sz ls ws : Nat → Int32} : blkM n lt sz 0 0 (-1) 0 ls 0 0 ws :=
  ⟨rg0 _, fun k hk => absurd hk (Nat.not_lt_zero k), Nat.zero_le _, rfl, rfl, rfl, ⟨0, Nat.zero_le _, rfl⟩, fun i hi => absurd hi (Nat.not_lt_zero i), fun _ => rfl, fun h => absurd h (Nat.lt_irrefl 0)⟩
theorem eq_amen {l : Launch} {G : Geo} {s : St} (h : RI s) : Eqv l G 111 157 [] s := by
  refine p_X10_amen s (p_X11_amen _ ⟨?_, ?_⟩)
  · exact h.2.2.2.2.1.2.2.2.2.1
  · show RI (sput (sput (sput (sput (sput (sput s 18 1 0) 18 2 0) 18 3 (-1)) 18 4 0) 51 23 0) 51 25 0)
    obtain ⟨h1, h2, h3, h4, h5, hr⟩ := h
    exact ⟨h1, h2, h3, h4, blkM0, hr⟩
