/-! the reference's reading: a token -/
def txM (s : St) (c : Nat → Nat) (n : Nat) : Prop := s.1 51 9 = nI n ∧ n ≤ 200 ∧ ∀ j, s.1 56 j = nI (c j) ∧ c j ≤ 255
theorem inN {s : St} {x a b : Nat} (hx : x < 2 ^ 31) (ha : a < 2 ^ 31) (hb : b < 2 ^ 31) : b_X11_in s (nI x) (nI a) (nI b) ↔ a ≤ x ∧ x ≤ b := by
  rw [in_iff, nlt hx ha, nlt hb hx]
  omega
theorem lN_tk {c : Nat → Nat} {b k : Nat} (h : 97 ≤ c (b + k)) (h2 : c (b + k) ≤ 255) : (27 * lN (tkN c b k) + Int32.toInt64 (nI (c (b + k)))) - 96 = lN (tkN c b (k + 1)) := by
  rw [nI_l (by omega), show (27 : Int64) = lN 27 from rfl, show (96 : Int64) = lN 96 from rfl, lN_mul, lN_add, lN_sub (by omega)]
  rfl
/-- the state behind a token -/
def ntk (s : St) (b e : Nat) (dg nm : Int32) (t : Int64) : St := ((sput (sput (sput (sput s 51 12 (nI b)) 51 14 dg) 51 15 nm) 51 11 (nI e)).1, t)
theorem sp_cm {s : St} {q k j : Nat} {a b : Int32} (h : k ≠ j) : sput (sput s q k a) q j b = sput (sput s q j b) q k a := by
  refine Prod.ext ?_ rfl
  funext x y
  simp only [sput]
  by_cases h1 : x = q ∧ y = j
  · by_cases h2 : x = q ∧ y = k
    · exact absurd (h2.2.symm.trans h1.2) h
    · rw [if_pos h1, if_neg h2, if_pos h1]
  · by_cases h2 : x = q ∧ y = k
    · rw [if_neg h1, if_pos h2, if_pos h2]
    · rw [if_neg h1, if_neg h2, if_neg h2, if_neg h1]
theorem p_lets {l : Launch} {G : Geo} {d : Nat} {c : Nat → Nat} {n b : Nat} {dg nm : Int32} (s : St) {Q : St → Prop} (hT : txM s c n) (hbn : b < n) (h : Q (ntk s b (eRow c n 97 122 b) dg nm (if b + 9 < eRow c n 97 122 b then 0 else lN (tkN c b (eRow c n 97 122 b - b))))) : ∀ m q, n - q = m → b ≤ q → q ≤ eRow c n 97 122 b → AtA l G (d + 2) sX11_nextToken 101 [.ref 51] [] (ntk s b q dg nm (lN (tkN c b (q - b)))) (pV Q) := by
  have h200 := hT.2.1
  have he := eRow_le (c := c) (n := n) (lo := 97) (hi := 122) (Nat.le_of_lt hbn)
  have fin : ∀ q, b ≤ q → eRow c n 97 122 b = q → ((9 < nI q - nI b → Q (ntk s b q dg nm 0)) ∧ (¬ 9 < nI q - nI b → Q (ntk s b q dg nm (lN (tkN c b (q - b)))))) := by
    intro q hq e
    rw [e] at h
    rw [e] at he
    rw [pk_sub hq, show (9 : Int32) = nI 9 from rfl, nlt (by omega) (by omega)]
    refine ⟨fun z => ?_, fun z => ?_⟩
    · rw [if_pos (by omega)] at h
      exact h
    · rw [if_neg (by omega)] at h
      exact h
  intro m
  induction m with
  | zero =>
    intro q hm hq hqe
    refine r_X11_nextToken_101 _ ⟨fun z => ?_, fun _ => ?_⟩
    · have z' : nI q < s.1 51 9 := z
      rw [hT.1, nlt (by omega) (by omega)] at z'
      omega
    · exact fin q hq (by omega)
  | succ m ih =>
    intro q hm hq hqe
    have hc := (hT.2.2 q).2
    have hs := eRow_mid (c := c) (n := n) (lo := 97) (hi := 122) b (q - b) (by omega)
    rw [show b + (q - b) = q by omega] at hs
    refine r_X11_nextToken_101 _ ⟨fun _ => ⟨vin (show q < 200 by omega) (by decide), ?_⟩, fun z => ?_⟩
    · show (¬ b_X11_in _ (s.1 56 (Int32.toNatClampNeg (nI q))) 97 122 → _) ∧ (b_X11_in _ (s.1 56 (Int32.toNatClampNeg (nI q))) 97 122 → _)
      rw [nnum (by omega), (hT.2.2 q).1, show (97 : Int32) = nI 97 from rfl, show (122 : Int32) = nI 122 from rfl, inN (by omega) (by omega) (by omega)]
      refine ⟨fun z => ?_, fun z => ⟨vin (show q < 200 by omega) (by decide), ?_⟩⟩
      · refine fin q hq ?_
        rw [← hs, eRow_out (by omega)]
      · have hin := eRow_in (c := c) (n := n) (lo := 97) (hi := 122) (p := q) (by omega)
        have h1 := eRow_lo (c := c) (n := n) (lo := 97) (hi := 122) (q + 1)
        have := ih (q + 1) (by omega) (by omega) (by omega)
        have e1 : lN (tkN c b (q + 1 - b)) = (27 * lN (tkN c b (q - b)) + Int32.toInt64 (s.1 56 (Int32.toNatClampNeg (nI q)))) - 96 := by
          rw [nnum (by omega), (hT.2.2 q).1, show q + 1 - b = q - b + 1 by omega, ← lN_tk (by rw [show b + (q - b) = q by omega]; exact z.1) (by rw [show b + (q - b) = q by omega]; exact hc), show b + (q - b) = q by omega]
        rw [e1] at this
        have e2 : ntk s b (q + 1) dg nm ((27 * lN (tkN c b (q - b)) + Int32.toInt64 (s.1 56 (Int32.toNatClampNeg (nI q)))) - 96) = sput ((ntk s b q dg nm (lN (tkN c b (q - b)))).1, ((27 * lN (tkN c b (q - b)) + Int32.toInt64 (s.1 56 (Int32.toNatClampNeg (nI q)))) - 96)) 51 11 (nI q + 1) := by
          unfold ntk
          rw [nI_1]
          refine Prod.ext ?_ rfl
          show _ = (sput (sput (sput (sput (sput s 51 12 (nI b)) 51 14 dg) 51 15 nm) 51 11 (nI q)) 51 11 (nI (q + 1))).1
          rw [sp_sp]
        rw [e2] at this
        exact this
    · have z' : ¬ nI q < s.1 51 9 := z
      rw [hT.1, nlt (by omega) (by omega)] at z'
      omega
/-- of a row of digits from b on, k of them: the number -/
def dgn (c : Nat → Nat) (b : Nat) : Nat → Nat
  | 0 => 0
  | 1 => c b - 48
  | _ => 10 * (c b - 48) + (c (b + 1) - 48)
theorem p_digs {l : Launch} {G : Geo} {d : Nat} {c : Nat → Nat} {n b : Nat} (s : St) {Q : St → Prop} (hT : txM s c n) (hbn : b < n) (h : Q (ntk s b (eRow c n 48 57 b) (nI (eRow c n 48 57 b - b)) (nI (dgn c b (eRow c n 48 57 b - b))) (if b + 2 < eRow c n 48 57 b then -4 else -1))) (t : Int64) : ∀ m q, n - q = m → b ≤ q → q ≤ eRow c n 48 57 b → AtA l G (d + 2) sX11_nextToken 219 [.ref 51] [] (ntk s b q (nI (q - b)) (nI (dgn c b (q - b))) t) (pV Q) := by
  have h200 := hT.2.1
  have he := eRow_le (c := c) (n := n) (lo := 48) (hi := 57) (Nat.le_of_lt hbn)
  have fin : ∀ q, b ≤ q → eRow c n 48 57 b = q → ((2 < nI (q - b) → Q (ntk s b q (nI (q - b)) (nI (dgn c b (q - b))) (-4))) ∧ (¬ 2 < nI (q - b) → Q (ntk s b q (nI (q - b)) (nI (dgn c b (q - b))) (-1)))) := by
    intro q hq e
    rw [e] at h
    rw [e] at he
    rw [show (2 : Int32) = nI 2 from rfl, nlt (by omega) (by omega)]
    refine ⟨fun z => ?_, fun z => ?_⟩
    · rw [if_pos (by omega)] at h
      exact h
    · rw [if_neg (by omega)] at h
      exact h
  intro m
  induction m with
  | zero =>
    intro q hm hq hqe
    refine r_X11_nextToken_219 _ ⟨fun z => ?_, fun _ => ?_⟩
    · have z' : nI q < s.1 51 9 := z
      rw [hT.1, nlt (by omega) (by omega)] at z'
      omega
    · exact fin q hq (by omega)
  | succ m ih =>
    intro q hm hq hqe
    have hc := (hT.2.2 q).2
    have hs := eRow_mid (c := c) (n := n) (lo := 48) (hi := 57) b (q - b) (by omega)
    rw [show b + (q - b) = q by omega] at hs
    refine r_X11_nextToken_219 _ ⟨fun _ => ⟨vin (show q < 200 by omega) (by decide), ?_⟩, fun z => ?_⟩
    · show (¬ b_X11_in _ (s.1 56 (Int32.toNatClampNeg (nI q))) 48 57 → _) ∧ (b_X11_in _ (s.1 56 (Int32.toNatClampNeg (nI q))) 48 57 → _)
      rw [nnum (by omega), (hT.2.2 q).1, show (48 : Int32) = nI 48 from rfl, show (57 : Int32) = nI 57 from rfl, inN (by omega) (by omega) (by omega)]
      refine ⟨fun z => ?_, fun z => ?_⟩
      · refine fin q hq ?_
        rw [← hs, eRow_out (by omega)]
      · have hin := eRow_in (c := c) (n := n) (lo := 48) (hi := 57) (p := q) (by omega)
        have h1 := eRow_lo (c := c) (n := n) (lo := 48) (hi := 57) (q + 1)
        have := ih (q + 1) (by omega) (by omega) (by omega)
        refine ⟨fun y => ⟨vin (show q < 200 by omega) (by decide), ?_⟩, fun y => ?_⟩
        · have y' : nI (q - b) < 2 := y
          rw [show (2 : Int32) = nI 2 from rfl, nlt (by omega) (by omega)] at y'
          have en : nI (dgn c b (q + 1 - b)) = ((10 * nI (dgn c b (q - b))) + (s.1 56 (Int32.toNatClampNeg (nI q)))) - nI 48 := by
            rw [nnum (by omega), (hT.2.2 q).1, show (10 : Int32) = nI 10 from rfl, pk_mul, nI_add, pk_sub (by omega)]
            congr 1
            by_cases e0 : q = b
            · subst e0
              rw [show q + 1 - q = 1 by omega, Nat.sub_self]
              show c q - 48 = 10 * 0 + c q - 48
              omega
            · have e1 : q = b + 1 := by omega
              subst e1
              have hcb := eRow_at (c := c) (n := n) (lo := 48) (hi := 57) (p := b) (j := b) (Nat.le_refl _) (by omega)
              rw [show b + 1 + 1 - b = 2 by omega, show b + 1 - b = 1 by omega]
              show 10 * (c b - 48) + (c (b + 1) - 48) = 10 * (c b - 48) + c (b + 1) - 48
              omega
          have e2 : ntk s b (q + 1) (nI (q + 1 - b)) (nI (dgn c b (q + 1 - b))) t = sput (sput (sput (ntk s b q (nI (q - b)) (nI (dgn c b (q - b))) t) 51 15 (((10 * nI (dgn c b (q - b))) + (s.1 56 (Int32.toNatClampNeg (nI q)))) - nI 48)) 51 14 (nI (q - b) + 1)) 51 11 (nI q + 1) := by
            rw [en, nI_1, nI_1, show q - b + 1 = q + 1 - b by omega]
            unfold ntk
            refine Prod.ext ?_ rfl
            show _ = (sput (sput (sput (sput (sput (sput (sput s 51 12 (nI b)) 51 14 (nI (q - b))) 51 15 (nI (dgn c b (q - b)))) 51 11 (nI q)) 51 15 _) 51 14 _) 51 11 _).1
            rw [sp_cm (k := 11) (j := 15) (by decide), sp_sp, sp_cm (k := 11) (j := 14) (by decide), sp_cm (k := 15) (j := 14) (by decide), sp_sp, sp_sp]
          rw [e2] at this
          exact this
        · have y' : ¬ nI (q - b) < 2 := y
          rw [show (2 : Int32) = nI 2 from rfl, nlt (by omega) (by omega)] at y'
          have en : dgn c b (q + 1 - b) = dgn c b (q - b) := by
            obtain ⟨k, hk⟩ : ∃ k, q - b = k + 2 := ⟨q - b - 2, by omega⟩
            rw [show q + 1 - b = k + 1 + 2 by omega, hk]
            rfl
          have e2 : ntk s b (q + 1) (nI (q + 1 - b)) (nI (dgn c b (q + 1 - b))) t = sput (sput (sput (ntk s b q (nI (q - b)) (nI (dgn c b (q - b))) t) 51 15 (nI (dgn c b (q - b)))) 51 14 (nI (q - b) + 1)) 51 11 (nI q + 1) := by
            rw [en, nI_1, nI_1, show q - b + 1 = q + 1 - b by omega]
            unfold ntk
            refine Prod.ext ?_ rfl
            show _ = (sput (sput (sput (sput (sput (sput (sput s 51 12 (nI b)) 51 14 (nI (q - b))) 51 15 (nI (dgn c b (q - b)))) 51 11 (nI q)) 51 15 _) 51 14 _) 51 11 _).1
            rw [sp_cm (k := 11) (j := 15) (by decide), sp_sp, sp_cm (k := 11) (j := 14) (by decide), sp_cm (k := 15) (j := 14) (by decide), sp_sp, sp_sp]
          rw [e2] at this
          exact this
    · have z' : ¬ nI q < s.1 51 9 := z
      rw [hT.1, nlt (by omega) (by omega)] at z'
      omega
def ntC (l : Launch) (G : Geo) (d : Nat) (t : St) (Q : St → Prop) : Prop :=
  ((t.1 51 11 = t.1 51 9 → Q (t.1, (-2))) ∧ (¬ t.1 51 11 = t.1 51 9 → ((vp_in (t.1 51 11) (alen 56)) ∧ ((¬ (b_X11_in t (t.1 56 (Int32.toNatClampNeg (t.1 51 11))) 97 122) → ((vp_in (t.1 51 11) (alen 56)) ∧ ((¬ (b_X11_in t (t.1 56 (Int32.toNatClampNeg (t.1 51 11))) 48 57) → ((vp_in (t.1 51 11) (alen 56)) ∧ ((t.1 56 (Int32.toNatClampNeg (t.1 51 11)) = 59 → Q (sput (t.1, (-3)) 51 11 (((t.1, (-3 : Int64)).1 51 11) + 1))) ∧ (¬ t.1 56 (Int32.toNatClampNeg (t.1 51 11)) = 59 → Q (sput (t.1, (-4)) 51 11 (((t.1, (-4 : Int64)).1 51 11) + 1)))))) ∧ ((b_X11_in t (t.1 56 (Int32.toNatClampNeg (t.1 51 11))) 48 57) → AtA l G (d + 2) sX11_nextToken 219 [.ref 51] [] t (pV Q))))) ∧ ((b_X11_in t (t.1 56 (Int32.toNatClampNeg (t.1 51 11))) 97 122) → AtA l G (d + 2) sX11_nextToken 101 [.ref 51] [] (t.1, 0) (pV Q))))))
theorem ntk0 {s : St} {b : Nat} (hb : s.1 51 11 = nI b) (t : Int64) : ((sput (sput (sput s 51 12 (s.1 51 11)) 51 14 0) 51 15 0).1, t) = ntk s b b 0 0 t := by
  unfold ntk
  rw [hb]
  refine Prod.ext ?_ rfl
  funext x y
  simp only [sput]
  by_cases h : x = 51 ∧ y = 11
  · obtain ⟨rfl, rfl⟩ := h
    simp [hb]
  · rw [if_neg h]
theorem p_core {l : Launch} {G : Geo} {d : Nat} {c : Nat → Nat} {n b : Nat} (s : St) {Q : St → Prop} (hT : txM s c n) (hb : s.1 51 11 = nI b) (hbn : b ≤ n)
  (h : ∀ dg nm tv, (tv = (if b < n then (if 97 ≤ c b ∧ c b ≤ 122 then (if b + 9 < tE c n b then 0 else lN (tkN c b (tE c n b - b))) else if 48 ≤ c b ∧ c b ≤ 57 then (if b + 2 < tE c n b then -4 else -1) else if c b = 59 then -3 else -4) else -2)) → (b < n ∧ 48 ≤ c b ∧ c b ≤ 57 → nm = nI (dgn c b (tE c n b - b))) → Q (ntk s b (tE c n b) dg nm tv)) : ntC l G d (sput (sput (sput s 51 12 (s.1 51 11)) 51 14 0) 51 15 0) Q := by
  have h200 := hT.2.1
  unfold ntC
  have t11 : (sput (sput (sput s 51 12 (s.1 51 11)) 51 14 0) 51 15 0).1 51 11 = nI b := hb
  have t9 : (sput (sput (sput s 51 12 (s.1 51 11)) 51 14 0) 51 15 0).1 51 9 = nI n := hT.1
  have t56 : (sput (sput (sput s 51 12 (s.1 51 11)) 51 14 0) 51 15 0).1 56 b = nI (c b) := (hT.2.2 b).1
  have hc := (hT.2.2 b).2
  rw [t11, t9, nnum (by omega), t56, neq (by omega) (by omega), show (97 : Int32) = nI 97 from rfl, show (122 : Int32) = nI 122 from rfl, show (48 : Int32) = nI 48 from rfl, show (57 : Int32) = nI 57 from rfl, show (59 : Int32) = nI 59 from rfl, inN (by omega) (by omega) (by omega), inN (by omega) (by omega) (by omega), neq (by omega) (by omega)]
  refine ⟨fun z => ?_, fun z => ⟨vin (show b < 200 by omega) (by decide), fun z2 => ⟨vin (show b < 200 by omega) (by decide), fun z3 => ⟨vin (show b < 200 by omega) (by decide), fun z4 => ?_, fun z4 => ?_⟩, fun z3 => ?_⟩, fun z2 => ?_⟩⟩
  · have := h 0 0 (-2) (by rw [if_neg (by omega)]) (fun q => by omega)
    rw [tE_out (by omega), ← ntk0 hb] at this
    exact this
  · have hlt : b < n := by omega
    have := h 0 0 (-3) (by rw [if_pos hlt, if_neg z2, if_neg z3, if_pos z4]) (fun q => absurd q.2 z3)
    rw [tE_oth hlt z2 z3] at this
    have e : ntk s b (b + 1) 0 0 (-3) = sput ((sput (sput (sput s 51 12 (s.1 51 11)) 51 14 0) 51 15 0).1, (-3)) 51 11 (nI b + 1) := by
      rw [ntk0 hb, nI_1]
      unfold ntk
      refine Prod.ext ?_ rfl
      show _ = (sput (sput (sput (sput (sput s 51 12 (nI b)) 51 14 0) 51 15 0) 51 11 (nI b)) 51 11 (nI (b + 1))).1
      rw [sp_sp]
    rw [e] at this
    exact this
  · have hlt : b < n := by omega
    have := h 0 0 (-4) (by rw [if_pos hlt, if_neg z2, if_neg z3, if_neg z4]) (fun q => absurd q.2 z3)
    rw [tE_oth hlt z2 z3] at this
    have e : ntk s b (b + 1) 0 0 (-4) = sput ((sput (sput (sput s 51 12 (s.1 51 11)) 51 14 0) 51 15 0).1, (-4)) 51 11 (nI b + 1) := by
      rw [ntk0 hb, nI_1]
      unfold ntk
      refine Prod.ext ?_ rfl
      show _ = (sput (sput (sput (sput (sput s 51 12 (nI b)) 51 14 0) 51 15 0) 51 11 (nI b)) 51 11 (nI (b + 1))).1
      rw [sp_sp]
    rw [e] at this
    exact this
  · have hlt : b < n := by omega
    have hd : b < n ∧ 48 ≤ c b ∧ c b ≤ 57 := ⟨hlt, z3⟩
    have := h (nI (tE c n b - b)) (nI (dgn c b (tE c n b - b))) (if b + 2 < tE c n b then -4 else -1) (by rw [if_pos hlt, if_neg z2, if_pos z3]) (fun _ => rfl)
    rw [tE_dig hd] at this
    have := p_digs (l := l) (G := G) (d := d) s hT hlt this s.2 _ b rfl (Nat.le_refl _) (eRow_lo b)
    rw [Nat.sub_self] at this
    have e : ntk s b b (nI 0) (nI (dgn c b 0)) s.2 = sput (sput (sput s 51 12 (s.1 51 11)) 51 14 0) 51 15 0 := (ntk0 hb s.2).symm
    rw [e] at this
    exact this
  · have hlt : b < n := by omega
    have hd : b < n ∧ 97 ≤ c b ∧ c b ≤ 122 := ⟨hlt, z2⟩
    have := h 0 0 (if b + 9 < tE c n b then 0 else lN (tkN c b (tE c n b - b))) (by rw [if_pos hlt, if_pos z2]) (fun q => by omega)
    rw [tE_let hd] at this
    have := p_lets (l := l) (G := G) (d := d) s hT hlt this _ b rfl (Nat.le_refl _) (eRow_lo b)
    rw [Nat.sub_self] at this
    have e : ntk s b b 0 0 (lN (tkN c b 0)) = ((sput (sput (sput s 51 12 (s.1 51 11)) 51 14 0) 51 15 0).1, 0) := (ntk0 hb 0).symm
    rw [e] at this
    exact this
theorem dgn_nmv {c : Nat → Nat} {n p : Nat} (h : tkv c n p = -1) : dgn c (tB c n p) (nx c n p - tB c n p) = nmv c n p := by
  have hh := tkv_num.mp h
  have h0 : tB c n p < tE c n (tB c n p) := tE_gt hh.1
  have h1 : tB c n p < nx c n p := h0
  by_cases e : nx c n p = tB c n p + 1
  · rw [nmv_1 ⟨hh.1, hh.2.1, hh.2.2.1⟩ e, e, Nat.add_sub_cancel_left]
    rfl
  · have e2 : nx c n p = tB c n p + 2 := by omega
    rw [nmv_2 ⟨hh.1, hh.2.1, hh.2.2.1⟩ e2, e2, Nat.add_sub_cancel_left]
    rfl
theorem p_nt {l : Launch} {G : Geo} {d : Nat} {c : Nat → Nat} {n p : Nat} (s : St) {Q : St → Prop} (hT : txM s c n) (hp : s.1 51 11 = nI p) (hn : p ≤ n) (h : ∀ dg nm, (tkv c n p = -1 → nm = nI (nmv c n p)) → Q (ntk s (tB c n p) (nx c n p) dg nm (tkv c n p))) : DoesV l G (d + 2) 137 [.ref 51] s Q := by
  have h200 := hT.2.1
  have hbn := tB_le (c := c) hn
  have core : ∀ q, eRow c n 32 32 p = q → q ≤ n → ntC l G d (sput (sput (sput (sput s 51 11 (nI q)) 51 12 ((sput s 51 11 (nI q)).1 51 11)) 51 14 0) 51 15 0) Q := by
    intro q hq hqn
    refine p_core (c := c) (n := n) (b := q) (sput s 51 11 (nI q)) hT rfl hqn (fun dg nm tv e1 e2 => ?_)
    have eb : q = tB c n p := hq.symm
    subst eb
    have e3 : tv = tkv c n p := by
      rw [e1]
      rfl
    subst e3
    have := h dg nm (fun z => by
      have hh := tkv_num.mp z
      rw [e2 ⟨hh.1, hh.2.1, hh.2.2.1⟩, ← dgn_nmv z]
      rfl)
    have e4 : ntk (sput s 51 11 (nI (tB c n p))) (tB c n p) (tE c n (tB c n p)) dg nm (tkv c n p) = ntk s (tB c n p) (nx c n p) dg nm (tkv c n p) := by
      unfold ntk nx
      rw [sp_cm (k := 11) (j := 12) (by decide), sp_cm (k := 11) (j := 14) (by decide), sp_cm (k := 11) (j := 15) (by decide), sp_sp]
    rw [e4]
    exact this
  have loop : ∀ m q, n - q = m → p ≤ q → q ≤ eRow c n 32 32 p → AtA l G (d + 2) sX11_nextToken 0 [.ref 51] [] (sput s 51 11 (nI q)) (pV Q) := by
    have hen := eRow_le (c := c) (n := n) (lo := 32) (hi := 32) hn
    intro m
    induction m with
    | zero =>
      intro q hm hq hqe
      refine r_X11_nextToken_0 _ ⟨fun z => ?_, fun _ => core q (by omega) (by omega)⟩
      have z' : nI q < s.1 51 9 := z
      rw [hT.1, nlt (by omega) (by omega)] at z'
      omega
    | succ m ih =>
      intro q hm hq hqe
      have hc := (hT.2.2 q).2
      have hs := eRow_mid (c := c) (n := n) (lo := 32) (hi := 32) p (q - p) (by omega)
      rw [show p + (q - p) = q by omega] at hs
      refine r_X11_nextToken_0 _ ⟨fun _ => ⟨vin (show q < 200 by omega) (by decide), fun z => ?_, fun z => ?_⟩, fun z => ?_⟩
      · have z' : s.1 56 (Int32.toNatClampNeg (nI q)) = nI 32 := z
        rw [nnum (by omega), (hT.2.2 q).1, neq (by omega) (by omega)] at z'
        have hin := eRow_in (c := c) (n := n) (lo := 32) (hi := 32) (p := q) (by omega)
        have h1 := eRow_lo (c := c) (n := n) (lo := 32) (hi := 32) (q + 1)
        rw [sp_sp]
        show AtA l G (d + 2) sX11_nextToken 0 [.ref 51] [] (sput s 51 11 (nI q + 1)) (pV Q)
        rw [nI_1]
        exact ih (q + 1) (by omega) (by omega) (by omega)
      · have z' : ¬ s.1 56 (Int32.toNatClampNeg (nI q)) = nI 32 := z
        rw [nnum (by omega), (hT.2.2 q).1, neq (by omega) (by omega)] at z'
        refine core q ?_ (by omega)
        rw [← hs, eRow_out (by omega)]
      · have z' : ¬ nI q < s.1 51 9 := z
        rw [hT.1, nlt (by omega) (by omega)] at z'
        omega
  have e0 : sput s 51 11 (nI p) = s := by
    rw [← hp]
    refine Prod.ext ?_ rfl
    funext x y
    simp only [sput]
    by_cases h : x = 51 ∧ y = 11
    · obtain ⟨rfl, rfl⟩ := h
      simp
    · rw [if_neg h]
  have hc := (hT.2.2 p).2
  have core' := core p
  rw [e0] at core'
  refine r_X11_nextToken s ⟨fun z => ?_, fun z => ?_⟩
  · have z' := z
    rw [hp, hT.1, nlt (by omega) (by omega)] at z'
    refine ⟨by rw [hp]; exact vin (show p < 200 by omega) (by decide), fun y => ?_, fun y => ?_⟩
    · rw [hp, nnum (by omega), (hT.2.2 p).1, show (32 : Int32) = nI 32 from rfl, neq (by omega) (by omega)] at y
      have hin := eRow_in (c := c) (n := n) (lo := 32) (hi := 32) (p := p) (by omega)
      have h1 := eRow_lo (c := c) (n := n) (lo := 32) (hi := 32) (p + 1)
      have := loop _ (p + 1) rfl (by omega) (by omega)
      rw [hp, nI_1]
      exact this
    · rw [hp, nnum (by omega), (hT.2.2 p).1, show (32 : Int32) = nI 32 from rfl, neq (by omega) (by omega)] at y
      exact core' (eRow_out (by omega)) hn
  · have z' := z
    rw [hp, hT.1, nlt (by omega) (by omega)] at z'
    exact core' (eRow_out (by omega)) hn
