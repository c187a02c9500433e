noncomputable def g_X6_sayMore (s : St) (o : Nat) (x1 : Int32) : St := (sput s o 4 ((s.1 o 4) + (if ((s.1 o 1) - (s.1 o 4)) < x1 then ((s.1 o 1) - (s.1 o 4)) else x1)))
theorem p_X6_sayMore {l : Launch} {G : Geo} {d : Nat} (o : Nat) (x1 : Int32) (ho : o = 18 ∨ o = 20 ∨ o = 22) (s : St) {Q : St → Prop} (h : Q (g_X6_sayMore s o x1)) : DoesV l G (d + 1) 74 [.ref o, .int x1] s Q := by
  have key : Q (sput s o 4 ((s.1 o 4) + (if ((s.1 o 1) - (s.1 o 4)) < x1 then ((s.1 o 1) - (s.1 o 4)) else x1))) := (lfV (by rw [g_X6_sayMore]) h)
  rcases ho with rfl | rfl | rfl
  all_goals exact does_wp 14 (g := sX6_sayMore) (rt := .int) (stops := []) (tbl := tX6_sayMore) rfl oX6_sayMore rk_X6_sayMore (Nat.le_of_ble_eq_true rfl) key
noncomputable def v_X6_letterAt (s : St) (o : Nat) (x1 : Int32) : Int32 := (iC (x1 < 0) 0 (iC (x1 < (s.1 o 1)) (s.1 (o + 1) (Int32.toNatClampNeg x1)) 0))
def ok_X6_letterAt (s : St) (o : Nat) (x1 : Int32) : Prop := (¬ x1 < 0 → (x1 < (s.1 o 1) → (vp_in x1 (alen (o + 1)))))
theorem p_X6_letterAt {l : Launch} {G : Geo} {d : Nat} (o : Nat) (x1 : Int32) (ho : o = 18 ∨ o = 20 ∨ o = 22) (s : St) {Q : Int32 → St → Prop} (hok : ok_X6_letterAt s o x1) (h : Q (v_X6_letterAt s o x1) s) : DoesI l G (d + 1) 75 [.ref o, .int x1] s Q := by
  unfold ok_X6_letterAt at hok
  have key : ((x1 < 0 → Q 0 s) ∧ (¬ x1 < 0 → ((x1 < (s.1 o 1) → ((vp_in x1 (alen (o + 1))) ∧ Q (s.1 (o + 1) (Int32.toNatClampNeg x1)) s)) ∧ (¬ x1 < (s.1 o 1) → Q 0 s)))) := ⟨fun z1 => (lfI (by rw [v_X6_letterAt, iC_t z1]) h), fun z1 => ⟨fun z2 => ⟨((hok z1) z2), (lfI (by rw [v_X6_letterAt, iC_f z1, iC_t z2]) h)⟩, fun z2 => (lfI (by rw [v_X6_letterAt, iC_f z1, iC_f z2]) h)⟩⟩
  rcases ho with rfl | rfl | rfl
  all_goals exact does_wp 12 (g := sX6_letterAt) (rt := .int) (stops := []) (tbl := tX6_letterAt) rfl oX6_letterAt rk_X6_letterAt (Nat.le_of_ble_eq_true rfl) key
noncomputable def v_X7_length (s : St)  : Int32 := (s.1 24 1)
theorem p_X7_length {l : Launch} {G : Geo} {d : Nat}   (s : St) {Q : Int32 → St → Prop} (h : Q (v_X7_length s) s) : DoesI l G (d + 1) 83 [.ref 24] s Q := by
  have key : Q (s.1 24 1) s := (lfI (by rw [v_X7_length]) h)
  all_goals exact does_wp 4 (g := sX7_length) (rt := .int) (stops := []) (tbl := tX7_length) rfl oX7_length rk_X7_length (Nat.le_of_ble_eq_true rfl) key
noncomputable def b_X7_isFull (s : St)  : Prop := (iP ((s.1 24 1) < 60) False True)
theorem p_X7_isFull {l : Launch} {G : Geo} {d : Nat}   (s : St) {Q : Int32 → St → Prop} (h : Q (bI (b_X7_isFull s)) s) : DoesI l G (d + 1) 84 [.ref 24] s Q := by
  have key : (((s.1 24 1) < 60 → (narrow .boolean (.int 0) = .int 0 ∧ Q 0 s)) ∧ (¬ (s.1 24 1) < 60 → (narrow .boolean (.int 1) = .int 1 ∧ Q 1 s))) := ⟨fun z1 => ⟨rfl, (lfI (by rw [b_X7_isFull, iP_t z1, bI_F]) h)⟩, fun z1 => ⟨rfl, (lfI (by rw [b_X7_isFull, iP_f z1, bI_T]) h)⟩⟩
  all_goals exact does_wp 8 (g := sX7_isFull) (rt := .boolean) (stops := []) (tbl := tX7_isFull) rfl oX7_isFull rk_X7_isFull (Nat.le_of_ble_eq_true rfl) key
noncomputable def f_X7_makeEmpty (s : St)  : Int32 × St := ((s.1 24 1), (sput s 24 1 0))
theorem p_X7_makeEmpty {l : Launch} {G : Geo} {d : Nat}   (s : St) {Q : Int32 → St → Prop} (h : Q (f_X7_makeEmpty s).1 (f_X7_makeEmpty s).2) : DoesI l G (d + 1) 85 [.ref 24] s Q := by
  have key : Q (s.1 24 1) (sput s 24 1 0) := (lfF (by rw [f_X7_makeEmpty]) h)
  all_goals exact does_wp 9 (g := sX7_makeEmpty) (rt := .int) (stops := []) (tbl := tX7_makeEmpty) rfl oX7_makeEmpty rk_X7_makeEmpty (Nat.le_of_ble_eq_true rfl) key
noncomputable def v_X7_at (s : St) (x1 : Int32) : Int32 := (iC (x1 < 0) (-1) (iC (x1 < (s.1 24 1)) (s.1 25 (Int32.toNatClampNeg x1)) (-1)))
def ok_X7_at (s : St) (x1 : Int32) : Prop := (¬ x1 < 0 → (x1 < (s.1 24 1) → (vp_in x1 (alen 25))))
theorem p_X7_at {l : Launch} {G : Geo} {d : Nat} (x1 : Int32)  (s : St) {Q : Int32 → St → Prop} (hok : ok_X7_at s x1) (h : Q (v_X7_at s x1) s) : DoesI l G (d + 1) 87 [.ref 24, .int x1] s Q := by
  unfold ok_X7_at at hok
  have key : ((x1 < 0 → Q (-1) s) ∧ (¬ x1 < 0 → ((x1 < (s.1 24 1) → ((vp_in x1 (alen 25)) ∧ Q (s.1 25 (Int32.toNatClampNeg x1)) s)) ∧ (¬ x1 < (s.1 24 1) → Q (-1) s)))) := ⟨fun z1 => (lfI (by rw [v_X7_at, iC_t z1]) h), fun z1 => ⟨fun z2 => ⟨((hok z1) z2), (lfI (by rw [v_X7_at, iC_f z1, iC_t z2]) h)⟩, fun z2 => (lfI (by rw [v_X7_at, iC_f z1, iC_f z2]) h)⟩⟩
  all_goals exact does_wp 12 (g := sX7_at) (rt := .int) (stops := []) (tbl := tX7_at) rfl oX7_at rk_X7_at (Nat.le_of_ble_eq_true rfl) key
noncomputable def g_X9_copyFrom (s : St) (o : Nat) (p : Nat) : St := (sput (sput (scpy (scpy (scpy s (p + 1) (Int32.toNatClampNeg 0) (o + 1) (Int32.toNatClampNeg 0) (Int32.toNatClampNeg (nI (tlen (o + 1))))) (p + 2) (Int32.toNatClampNeg 0) (o + 2) (Int32.toNatClampNeg 0) (Int32.toNatClampNeg (nI (tlen (o + 2))))) (p + 3) (Int32.toNatClampNeg 0) (o + 3) (Int32.toNatClampNeg 0) (Int32.toNatClampNeg (nI (tlen (o + 3))))) o 3 ((scpy (scpy (scpy s (p + 1) (Int32.toNatClampNeg 0) (o + 1) (Int32.toNatClampNeg 0) (Int32.toNatClampNeg (nI (tlen (o + 1))))) (p + 2) (Int32.toNatClampNeg 0) (o + 2) (Int32.toNatClampNeg 0) (Int32.toNatClampNeg (nI (tlen (o + 2))))) (p + 3) (Int32.toNatClampNeg 0) (o + 3) (Int32.toNatClampNeg 0) (Int32.toNatClampNeg (nI (tlen (o + 3))))).1 p 3)) o 4 ((sput (scpy (scpy (scpy s (p + 1) (Int32.toNatClampNeg 0) (o + 1) (Int32.toNatClampNeg 0) (Int32.toNatClampNeg (nI (tlen (o + 1))))) (p + 2) (Int32.toNatClampNeg 0) (o + 2) (Int32.toNatClampNeg 0) (Int32.toNatClampNeg (nI (tlen (o + 2))))) (p + 3) (Int32.toNatClampNeg 0) (o + 3) (Int32.toNatClampNeg 0) (Int32.toNatClampNeg (nI (tlen (o + 3))))) o 3 ((scpy (scpy (scpy s (p + 1) (Int32.toNatClampNeg 0) (o + 1) (Int32.toNatClampNeg 0) (Int32.toNatClampNeg (nI (tlen (o + 1))))) (p + 2) (Int32.toNatClampNeg 0) (o + 2) (Int32.toNatClampNeg 0) (Int32.toNatClampNeg (nI (tlen (o + 2))))) (p + 3) (Int32.toNatClampNeg 0) (o + 3) (Int32.toNatClampNeg 0) (Int32.toNatClampNeg (nI (tlen (o + 3))))).1 p 3)).1 p 4))
def ok_X9_copyFrom (s : St) (o : Nat) (p : Nat) : Prop := (((0 < alen (p + 1) ∧ 0 < alen (o + 1) ∧ ¬ (0 : Int32) < 0 ∧ ¬ (0 : Int32) < 0 ∧ ¬ ((nI (tlen (o + 1))) : Int32) < 0 ∧ Int32.toNatClampNeg 0 + Int32.toNatClampNeg (nI (tlen (o + 1))) ≤ alen (p + 1) ∧ Int32.toNatClampNeg 0 + Int32.toNatClampNeg (nI (tlen (o + 1))) ≤ alen (o + 1))) ∧ (((0 < alen (p + 2) ∧ 0 < alen (o + 2) ∧ ¬ (0 : Int32) < 0 ∧ ¬ (0 : Int32) < 0 ∧ ¬ ((nI (tlen (o + 2))) : Int32) < 0 ∧ Int32.toNatClampNeg 0 + Int32.toNatClampNeg (nI (tlen (o + 2))) ≤ alen (p + 2) ∧ Int32.toNatClampNeg 0 + Int32.toNatClampNeg (nI (tlen (o + 2))) ≤ alen (o + 2))) ∧ ((0 < alen (p + 3) ∧ 0 < alen (o + 3) ∧ ¬ (0 : Int32) < 0 ∧ ¬ (0 : Int32) < 0 ∧ ¬ ((nI (tlen (o + 3))) : Int32) < 0 ∧ Int32.toNatClampNeg 0 + Int32.toNatClampNeg (nI (tlen (o + 3))) ≤ alen (p + 3) ∧ Int32.toNatClampNeg 0 + Int32.toNatClampNeg (nI (tlen (o + 3))) ≤ alen (o + 3)))))
theorem p_X9_copyFrom {l : Launch} {G : Geo} {d : Nat} (o : Nat) (p : Nat) (ho : (o = 4 ∧ p = 11) ∨ (o = 11 ∧ p = 4)) (s : St) {Q : St → Prop} (hok : ok_X9_copyFrom s o p) (h : Q (g_X9_copyFrom s o p)) : DoesV l G (d + 1) 90 [.ref o, .ref p] s Q := by
  unfold ok_X9_copyFrom at hok
  have key : ((isArr (o + 1) = true) ∧ (((0 < alen (p + 1) ∧ 0 < alen (o + 1) ∧ ¬ (0 : Int32) < 0 ∧ ¬ (0 : Int32) < 0 ∧ ¬ ((nI (tlen (o + 1))) : Int32) < 0 ∧ Int32.toNatClampNeg 0 + Int32.toNatClampNeg (nI (tlen (o + 1))) ≤ alen (p + 1) ∧ Int32.toNatClampNeg 0 + Int32.toNatClampNeg (nI (tlen (o + 1))) ≤ alen (o + 1))) ∧ ((isArr (o + 2) = true) ∧ (((0 < alen (p + 2) ∧ 0 < alen (o + 2) ∧ ¬ (0 : Int32) < 0 ∧ ¬ (0 : Int32) < 0 ∧ ¬ ((nI (tlen (o + 2))) : Int32) < 0 ∧ Int32.toNatClampNeg 0 + Int32.toNatClampNeg (nI (tlen (o + 2))) ≤ alen (p + 2) ∧ Int32.toNatClampNeg 0 + Int32.toNatClampNeg (nI (tlen (o + 2))) ≤ alen (o + 2))) ∧ ((isArr (o + 3) = true) ∧ (((0 < alen (p + 3) ∧ 0 < alen (o + 3) ∧ ¬ (0 : Int32) < 0 ∧ ¬ (0 : Int32) < 0 ∧ ¬ ((nI (tlen (o + 3))) : Int32) < 0 ∧ Int32.toNatClampNeg 0 + Int32.toNatClampNeg (nI (tlen (o + 3))) ≤ alen (p + 3) ∧ Int32.toNatClampNeg 0 + Int32.toNatClampNeg (nI (tlen (o + 3))) ≤ alen (o + 3))) ∧ Q (sput (sput (scpy (scpy (scpy s (p + 1) (Int32.toNatClampNeg 0) (o + 1) (Int32.toNatClampNeg 0) (Int32.toNatClampNeg (nI (tlen (o + 1))))) (p + 2) (Int32.toNatClampNeg 0) (o + 2) (Int32.toNatClampNeg 0) (Int32.toNatClampNeg (nI (tlen (o + 2))))) (p + 3) (Int32.toNatClampNeg 0) (o + 3) (Int32.toNatClampNeg 0) (Int32.toNatClampNeg (nI (tlen (o + 3))))) o 3 ((scpy (scpy (scpy s (p + 1) (Int32.toNatClampNeg 0) (o + 1) (Int32.toNatClampNeg 0) (Int32.toNatClampNeg (nI (tlen (o + 1))))) (p + 2) (Int32.toNatClampNeg 0) (o + 2) (Int32.toNatClampNeg 0) (Int32.toNatClampNeg (nI (tlen (o + 2))))) (p + 3) (Int32.toNatClampNeg 0) (o + 3) (Int32.toNatClampNeg 0) (Int32.toNatClampNeg (nI (tlen (o + 3))))).1 p 3)) o 4 ((sput (scpy (scpy (scpy s (p + 1) (Int32.toNatClampNeg 0) (o + 1) (Int32.toNatClampNeg 0) (Int32.toNatClampNeg (nI (tlen (o + 1))))) (p + 2) (Int32.toNatClampNeg 0) (o + 2) (Int32.toNatClampNeg 0) (Int32.toNatClampNeg (nI (tlen (o + 2))))) (p + 3) (Int32.toNatClampNeg 0) (o + 3) (Int32.toNatClampNeg 0) (Int32.toNatClampNeg (nI (tlen (o + 3))))) o 3 ((scpy (scpy (scpy s (p + 1) (Int32.toNatClampNeg 0) (o + 1) (Int32.toNatClampNeg 0) (Int32.toNatClampNeg (nI (tlen (o + 1))))) (p + 2) (Int32.toNatClampNeg 0) (o + 2) (Int32.toNatClampNeg 0) (Int32.toNatClampNeg (nI (tlen (o + 2))))) (p + 3) (Int32.toNatClampNeg 0) (o + 3) (Int32.toNatClampNeg 0) (Int32.toNatClampNeg (nI (tlen (o + 3))))).1 p 3)).1 p 4)))))))) := ⟨(by rcases ho with ⟨rfl, rfl⟩ | ⟨rfl, rfl⟩ <;> rfl), ⟨hok.1, ⟨(by rcases ho with ⟨rfl, rfl⟩ | ⟨rfl, rfl⟩ <;> rfl), ⟨hok.2.1, ⟨(by rcases ho with ⟨rfl, rfl⟩ | ⟨rfl, rfl⟩ <;> rfl), ⟨hok.2.2, (lfV (by rw [g_X9_copyFrom]) h)⟩⟩⟩⟩⟩⟩
  rcases ho with ⟨rfl, rfl⟩ | ⟨rfl, rfl⟩
  all_goals exact does_wp 40 (g := sX9_copyFrom) (rt := .int) (stops := []) (tbl := tX9_copyFrom) rfl oX9_copyFrom rk_X9_copyFrom (Nat.le_of_ble_eq_true rfl) key
noncomputable def v_X9_size (s : St) (o : Nat) : Int32 := (s.1 o 3)
theorem p_X9_size {l : Launch} {G : Geo} {d : Nat} (o : Nat) (ho : o = 4 ∨ o = 11) (s : St) {Q : Int32 → St → Prop} (h : Q (v_X9_size s o) s) : DoesI l G (d + 1) 91 [.ref o] s Q := by
  have key : Q (s.1 o 3) s := (lfI (by rw [v_X9_size]) h)
  rcases ho with rfl | rfl
  all_goals exact does_wp 4 (g := sX9_size) (rt := .int) (stops := []) (tbl := tX9_size) rfl oX9_size rk_X9_size (Nat.le_of_ble_eq_true rfl) key
noncomputable def b_X9_isFull (s : St) (o : Nat) : Prop := (iP ((s.1 o 3) < 12) False True)
theorem p_X9_isFull {l : Launch} {G : Geo} {d : Nat} (o : Nat) (ho : o = 4 ∨ o = 11) (s : St) {Q : Int32 → St → Prop} (h : Q (bI (b_X9_isFull s o)) s) : DoesI l G (d + 1) 92 [.ref o] s Q := by
  have key : (((s.1 o 3) < 12 → (narrow .boolean (.int 0) = .int 0 ∧ Q 0 s)) ∧ (¬ (s.1 o 3) < 12 → (narrow .boolean (.int 1) = .int 1 ∧ Q 1 s))) := ⟨fun z1 => ⟨rfl, (lfI (by rw [b_X9_isFull, iP_t z1, bI_F]) h)⟩, fun z1 => ⟨rfl, (lfI (by rw [b_X9_isFull, iP_f z1, bI_T]) h)⟩⟩
  rcases ho with rfl | rfl
  all_goals exact does_wp 8 (g := sX9_isFull) (rt := .boolean) (stops := []) (tbl := tX9_isFull) rfl oX9_isFull rk_X9_isFull (Nat.le_of_ble_eq_true rfl) key
noncomputable def b_X9_has (s : St) (o : Nat) (x1 : Int32) : Prop := (iP (x1 < 0) False (iP (x1 < (s.1 o 3)) True False))
theorem p_X9_has {l : Launch} {G : Geo} {d : Nat} (o : Nat) (x1 : Int32) (ho : o = 4 ∨ o = 11) (s : St) {Q : Int32 → St → Prop} (h : Q (bI (b_X9_has s o x1)) s) : DoesI l G (d + 1) 93 [.ref o, .int x1] s Q := by
  have key : ((x1 < 0 → (narrow .boolean (.int 0) = .int 0 ∧ Q 0 s)) ∧ (¬ x1 < 0 → ((x1 < (s.1 o 3) → (narrow .boolean (.int 1) = .int 1 ∧ Q 1 s)) ∧ (¬ x1 < (s.1 o 3) → (narrow .boolean (.int 0) = .int 0 ∧ Q 0 s))))) := ⟨fun z1 => ⟨rfl, (lfI (by rw [b_X9_has, iP_t z1, bI_F]) h)⟩, fun z1 => ⟨fun z2 => ⟨rfl, (lfI (by rw [b_X9_has, iP_f z1, iP_t z2, bI_T]) h)⟩, fun z2 => ⟨rfl, (lfI (by rw [b_X9_has, iP_f z1, iP_f z2, bI_F]) h)⟩⟩⟩
  rcases ho with rfl | rfl
  all_goals exact does_wp 10 (g := sX9_has) (rt := .boolean) (stops := []) (tbl := tX9_has) rfl oX9_has rk_X9_has (Nat.le_of_ble_eq_true rfl) key
noncomputable def v_X9_lengthOf (s : St) (o : Nat) (x1 : Int32) : Int32 := (iC (x1 < 0) 0 (iC (x1 < (s.1 o 3)) (s.1 (o + 2) (Int32.toNatClampNeg x1)) 0))
def ok_X9_lengthOf (s : St) (o : Nat) (x1 : Int32) : Prop := (¬ x1 < 0 → (x1 < (s.1 o 3) → (vp_in x1 (alen (o + 2)))))
theorem p_X9_lengthOf {l : Launch} {G : Geo} {d : Nat} (o : Nat) (x1 : Int32) (ho : o = 4 ∨ o = 11) (s : St) {Q : Int32 → St → Prop} (hok : ok_X9_lengthOf s o x1) (h : Q (v_X9_lengthOf s o x1) s) : DoesI l G (d + 1) 94 [.ref o, .int x1] s Q := by
  unfold ok_X9_lengthOf at hok
  have key : ((x1 < 0 → Q 0 s) ∧ (¬ x1 < 0 → ((x1 < (s.1 o 3) → ((vp_in x1 (alen (o + 2))) ∧ Q (s.1 (o + 2) (Int32.toNatClampNeg x1)) s)) ∧ (¬ x1 < (s.1 o 3) → Q 0 s)))) := ⟨fun z1 => (lfI (by rw [v_X9_lengthOf, iC_t z1]) h), fun z1 => ⟨fun z2 => ⟨((hok z1) z2), (lfI (by rw [v_X9_lengthOf, iC_f z1, iC_t z2]) h)⟩, fun z2 => (lfI (by rw [v_X9_lengthOf, iC_f z1, iC_f z2]) h)⟩⟩
  rcases ho with rfl | rfl
  all_goals exact does_wp 12 (g := sX9_lengthOf) (rt := .int) (stops := []) (tbl := tX9_lengthOf) rfl oX9_lengthOf rk_X9_lengthOf (Nat.le_of_ble_eq_true rfl) key
noncomputable def v_X9_sortOf (s : St) (o : Nat) (x1 : Int32) : Int32 := (iC (x1 < 0) 0 (iC (x1 < (s.1 o 3)) (s.1 (o + 3) (Int32.toNatClampNeg x1)) 0))
def ok_X9_sortOf (s : St) (o : Nat) (x1 : Int32) : Prop := (¬ x1 < 0 → (x1 < (s.1 o 3) → (vp_in x1 (alen (o + 3)))))
theorem p_X9_sortOf {l : Launch} {G : Geo} {d : Nat} (o : Nat) (x1 : Int32) (ho : o = 4 ∨ o = 11) (s : St) {Q : Int32 → St → Prop} (hok : ok_X9_sortOf s o x1) (h : Q (v_X9_sortOf s o x1) s) : DoesI l G (d + 1) 95 [.ref o, .int x1] s Q := by
  unfold ok_X9_sortOf at hok
  have key : ((x1 < 0 → Q 0 s) ∧ (¬ x1 < 0 → ((x1 < (s.1 o 3) → ((vp_in x1 (alen (o + 3))) ∧ Q (s.1 (o + 3) (Int32.toNatClampNeg x1)) s)) ∧ (¬ x1 < (s.1 o 3) → Q 0 s)))) := ⟨fun z1 => (lfI (by rw [v_X9_sortOf, iC_t z1]) h), fun z1 => ⟨fun z2 => ⟨((hok z1) z2), (lfI (by rw [v_X9_sortOf, iC_f z1, iC_t z2]) h)⟩, fun z2 => (lfI (by rw [v_X9_sortOf, iC_f z1, iC_f z2]) h)⟩⟩
  rcases ho with rfl | rfl
  all_goals exact does_wp 12 (g := sX9_sortOf) (rt := .int) (stops := []) (tbl := tX9_sortOf) rfl oX9_sortOf rk_X9_sortOf (Nat.le_of_ble_eq_true rfl) key
noncomputable def v_X9_letterOf (s : St) (o : Nat) (x1 : Int32) (x2 : Int32) : Int32 := (iC (x1 < 0) (-1) (iC (x1 < (s.1 o 3)) (iC (x2 < 0) (-1) (iC (x2 < (s.1 (o + 2) (Int32.toNatClampNeg x1))) (s.1 (o + 1) (Int32.toNatClampNeg ((x1 * 10) + x2))) (-1))) (-1)))
def ok_X9_letterOf (s : St) (o : Nat) (x1 : Int32) (x2 : Int32) : Prop := (¬ x1 < 0 → (x1 < (s.1 o 3) → (¬ x2 < 0 → ((vp_in x1 (alen (o + 2))) ∧ (x2 < (s.1 (o + 2) (Int32.toNatClampNeg x1)) → (vp_in ((x1 * 10) + x2) (alen (o + 1))))))))
theorem p_X9_letterOf {l : Launch} {G : Geo} {d : Nat} (o : Nat) (x1 : Int32) (x2 : Int32) (ho : o = 4 ∨ o = 11) (s : St) {Q : Int32 → St → Prop} (hok : ok_X9_letterOf s o x1 x2) (h : Q (v_X9_letterOf s o x1 x2) s) : DoesI l G (d + 1) 96 [.ref o, .int x1, .int x2] s Q := by
  unfold ok_X9_letterOf at hok
  have key : ((x1 < 0 → Q (-1) s) ∧ (¬ x1 < 0 → ((x1 < (s.1 o 3) → ((x2 < 0 → Q (-1) s) ∧ (¬ x2 < 0 → ((vp_in x1 (alen (o + 2))) ∧ ((x2 < (s.1 (o + 2) (Int32.toNatClampNeg x1)) → ((vp_in ((x1 * 10) + x2) (alen (o + 1))) ∧ Q (s.1 (o + 1) (Int32.toNatClampNeg ((x1 * 10) + x2))) s)) ∧ (¬ x2 < (s.1 (o + 2) (Int32.toNatClampNeg x1)) → Q (-1) s)))))) ∧ (¬ x1 < (s.1 o 3) → Q (-1) s)))) := ⟨fun z1 => (lfI (by rw [v_X9_letterOf, iC_t z1]) h), fun z1 => ⟨fun z2 => ⟨fun z3 => (lfI (by rw [v_X9_letterOf, iC_f z1, iC_t z2, iC_t z3]) h), fun z3 => ⟨(((hok z1) z2) z3).1, ⟨fun z4 => ⟨((((hok z1) z2) z3).2 z4), (lfI (by rw [v_X9_letterOf, iC_f z1, iC_t z2, iC_f z3, iC_t z4]) h)⟩, fun z4 => (lfI (by rw [v_X9_letterOf, iC_f z1, iC_t z2, iC_f z3, iC_f z4]) h)⟩⟩⟩, fun z2 => (lfI (by rw [v_X9_letterOf, iC_f z1, iC_f z2]) h)⟩⟩
  rcases ho with rfl | rfl
  all_goals exact does_wp 24 (g := sX9_letterOf) (rt := .int) (stops := []) (tbl := tX9_letterOf) rfl oX9_letterOf rk_X9_letterOf (Nat.le_of_ble_eq_true rfl) key
noncomputable def v_X9_followBits (s : St) (o : Nat) : Int32 := (s.1 o 4)
theorem p_X9_followBits {l : Launch} {G : Geo} {d : Nat} (o : Nat) (ho : o = 4 ∨ o = 11) (s : St) {Q : Int32 → St → Prop} (h : Q (v_X9_followBits s o) s) : DoesI l G (d + 1) 97 [.ref o] s Q := by
  have key : Q (s.1 o 4) s := (lfI (by rw [v_X9_followBits]) h)
  rcases ho with rfl | rfl
  all_goals exact does_wp 4 (g := sX9_followBits) (rt := .int) (stops := []) (tbl := tX9_followBits) rfl oX9_followBits rk_X9_followBits (Nat.le_of_ble_eq_true rfl) key
noncomputable def b_X9_mayFollow (s : St) (o : Nat) (x1 : Int32) (x2 : Int32) : Prop := (iP ((((s.1 o 4) >>> (((3 * x1) + x2) &&& 31)) &&& 1) = 0) False True)
theorem p_X9_mayFollow {l : Launch} {G : Geo} {d : Nat} (o : Nat) (x1 : Int32) (x2 : Int32) (ho : o = 4 ∨ o = 11) (s : St) {Q : Int32 → St → Prop} (h : Q (bI (b_X9_mayFollow s o x1 x2)) s) : DoesI l G (d + 1) 98 [.ref o, .int x1, .int x2] s Q := by
  have key : (((((s.1 o 4) >>> (((3 * x1) + x2) &&& 31)) &&& 1) = 0 → (narrow .boolean (.int 0) = .int 0 ∧ Q 0 s)) ∧ (¬ (((s.1 o 4) >>> (((3 * x1) + x2) &&& 31)) &&& 1) = 0 → (narrow .boolean (.int 1) = .int 1 ∧ Q 1 s))) := ⟨fun z1 => ⟨rfl, (lfI (by rw [b_X9_mayFollow, iP_t z1, bI_F]) h)⟩, fun z1 => ⟨rfl, (lfI (by rw [b_X9_mayFollow, iP_f z1, bI_T]) h)⟩⟩
  rcases ho with rfl | rfl
  all_goals exact does_wp 15 (g := sX9_mayFollow) (rt := .boolean) (stops := []) (tbl := tX9_mayFollow) rfl oX9_mayFollow rk_X9_mayFollow (Nat.le_of_ble_eq_true rfl) key
noncomputable def g_X9_forbid (s : St) (o : Nat) (x1 : Int32) (x2 : Int32) : St := (sput s o 4 ((s.1 o 4) &&& (((1 : Int32) <<< (((3 * x1) + x2) &&& 31)) ^^^ (-1))))
theorem p_X9_forbid {l : Launch} {G : Geo} {d : Nat} (o : Nat) (x1 : Int32) (x2 : Int32) (ho : o = 4 ∨ o = 11) (s : St) {Q : St → Prop} (h : Q (g_X9_forbid s o x1 x2)) : DoesV l G (d + 1) 99 [.ref o, .int x1, .int x2] s Q := by
  have key : Q (sput s o 4 ((s.1 o 4) &&& (((1 : Int32) <<< (((3 * x1) + x2) &&& 31)) ^^^ (-1)))) := (lfV (by rw [g_X9_forbid]) h)
  rcases ho with rfl | rfl
  all_goals exact does_wp 16 (g := sX9_forbid) (rt := .int) (stops := []) (tbl := tX9_forbid) rfl oX9_forbid rk_X9_forbid (Nat.le_of_ble_eq_true rfl) key
noncomputable def g_X9_makeFree (s : St) (o : Nat) : St := (sput (sput s o 3 0) o 4 511)
theorem p_X9_makeFree {l : Launch} {G : Geo} {d : Nat} (o : Nat) (ho : o = 4 ∨ o = 11) (s : St) {Q : St → Prop} (h : Q (g_X9_makeFree s o)) : DoesV l G (d + 1) 100 [.ref o] s Q := by
  have key : Q (sput (sput s o 3 0) o 4 511) := (lfV (by rw [g_X9_makeFree]) h)
  rcases ho with rfl | rfl
  all_goals exact does_wp 8 (g := sX9_makeFree) (rt := .int) (stops := []) (tbl := tX9_makeFree) rfl oX9_makeFree rk_X9_makeFree (Nat.le_of_ble_eq_true rfl) key
noncomputable def b_X11_in (s : St) (x1 : Int32) (x2 : Int32) (x3 : Int32) : Prop := (iP (x1 < x2) False (iP (x3 < x1) False True))
theorem p_X11_in {l : Launch} {G : Geo} {d : Nat} (x1 : Int32) (x2 : Int32) (x3 : Int32)  (s : St) {Q : Int32 → St → Prop} (h : Q (bI (b_X11_in s x1 x2 x3)) s) : DoesI l G (d + 1) 131 [.int x1, .int x2, .int x3] s Q := by
  have key : ((x1 < x2 → (narrow .boolean (.int 0) = .int 0 ∧ Q 0 s)) ∧ (¬ x1 < x2 → ((x3 < x1 → (narrow .boolean (.int 0) = .int 0 ∧ Q 0 s)) ∧ (¬ x3 < x1 → (narrow .boolean (.int 1) = .int 1 ∧ Q 1 s))))) := ⟨fun z1 => ⟨rfl, (lfI (by rw [b_X11_in, iP_t z1, bI_F]) h)⟩, fun z1 => ⟨fun z2 => ⟨rfl, (lfI (by rw [b_X11_in, iP_f z1, iP_t z2, bI_F]) h)⟩, fun z2 => ⟨rfl, (lfI (by rw [b_X11_in, iP_f z1, iP_f z2, bI_T]) h)⟩⟩⟩
  all_goals exact does_wp 10 (g := sX11_in) (rt := .boolean) (stops := []) (tbl := tX11_in) rfl oX11_in rk_X11_in (Nat.le_of_ble_eq_true rfl) key
noncomputable def b_X11_has (s : St) (x1 : Int32) (x2 : Int32) : Prop := (iP (((x1 >>> (x2 &&& 31)) &&& 1) = 1) True False)
theorem p_X11_has {l : Launch} {G : Geo} {d : Nat} (x1 : Int32) (x2 : Int32)  (s : St) {Q : Int32 → St → Prop} (h : Q (bI (b_X11_has s x1 x2)) s) : DoesI l G (d + 1) 132 [.int x1, .int x2] s Q := by
  have key : ((((x1 >>> (x2 &&& 31)) &&& 1) = 1 → (narrow .boolean (.int 1) = .int 1 ∧ Q 1 s)) ∧ (¬ ((x1 >>> (x2 &&& 31)) &&& 1) = 1 → (narrow .boolean (.int 0) = .int 0 ∧ Q 0 s))) := ⟨fun z1 => ⟨rfl, (lfI (by rw [b_X11_has, iP_t z1, bI_T]) h)⟩, fun z1 => ⟨rfl, (lfI (by rw [b_X11_has, iP_f z1, bI_F]) h)⟩⟩
  all_goals exact does_wp 11 (g := sX11_has) (rt := .boolean) (stops := []) (tbl := tX11_has) rfl oX11_has rk_X11_has (Nat.le_of_ble_eq_true rfl) key
noncomputable def f_X11_erase (s : St)  : Int32 × St := ((s.1 51 9), (sput s 51 9 0))
theorem p_X11_erase {l : Launch} {G : Geo} {d : Nat}   (s : St) {Q : Int32 → St → Prop} (h : Q (f_X11_erase s).1 (f_X11_erase s).2) : DoesI l G (d + 1) 136 [.ref 51] s Q := by
  have key : Q (s.1 51 9) (sput s 51 9 0) := (lfF (by rw [f_X11_erase]) h)
  all_goals exact does_wp 9 (g := sX11_erase) (rt := .int) (stops := []) (tbl := tX11_erase) rfl oX11_erase rk_X11_erase (Nat.le_of_ble_eq_true rfl) key
noncomputable def f_X11_fails (s : St)  : Int32 × St := (0, (sput s 51 16 (s.1 51 12)))
theorem p_X11_fails {l : Launch} {G : Geo} {d : Nat}   (s : St) {Q : Int32 → St → Prop} (h : Q (f_X11_fails s).1 (f_X11_fails s).2) : DoesI l G (d + 1) 138 [.ref 51] s Q := by
  have key : (narrow .boolean (.int 0) = .int 0 ∧ Q 0 (sput s 51 16 (s.1 51 12))) := ⟨rfl, (lfF (by rw [f_X11_fails]) h)⟩
  all_goals exact does_wp 7 (g := sX11_fails) (rt := .boolean) (stops := []) (tbl := tX11_fails) rfl oX11_fails rk_X11_fails (Nat.le_of_ble_eq_true rfl) key
noncomputable def f_X11_amen (s : St)  : Int32 × St := ((s.1 51 23), (sput (sput s 51 23 0) 51 25 0))
theorem p_X11_amen {l : Launch} {G : Geo} {d : Nat}   (s : St) {Q : Int32 → St → Prop} (h : Q (f_X11_amen s).1 (f_X11_amen s).2) : DoesI l G (d + 1) 157 [.ref 51] s Q := by
  have key : Q (s.1 51 23) (sput (sput s 51 23 0) 51 25 0) := (lfF (by rw [f_X11_amen]) h)
  all_goals exact does_wp 12 (g := sX11_amen) (rt := .int) (stops := []) (tbl := tX11_amen) rfl oX11_amen rk_X11_amen (Nat.le_of_ble_eq_true rfl) key
noncomputable def f_X11_hush (s : St)  : Int32 × St := ((s.1 51 26), (sput s 51 26 0))
theorem p_X11_hush {l : Launch} {G : Geo} {d : Nat}   (s : St) {Q : Int32 → St → Prop} (h : Q (f_X11_hush s).1 (f_X11_hush s).2) : DoesI l G (d + 1) 164 [.ref 51] s Q := by
  have key : Q (s.1 51 26) (sput s 51 26 0) := (lfF (by rw [f_X11_hush]) h)
  all_goals exact does_wp 9 (g := sX11_hush) (rt := .int) (stops := []) (tbl := tX11_hush) rfl oX11_hush rk_X11_hush (Nat.le_of_ble_eq_true rfl) key
noncomputable def v_X11_waysAt (s : St) (x1 : Int32) (x2 : Int32) (x3 : Int32) : Int32 := ((((x1 * 61) + x2) * 12) + x3)
theorem p_X11_waysAt {l : Launch} {G : Geo} {d : Nat} (x1 : Int32) (x2 : Int32) (x3 : Int32)  (s : St) {Q : Int32 → St → Prop} (h : Q (v_X11_waysAt s x1 x2 x3) s) : DoesI l G (d + 1) 167 [.ref 51, .int x1, .int x2, .int x3] s Q := by
  have key : Q ((((x1 * 61) + x2) * 12) + x3) s := (lfI (by rw [v_X11_waysAt]) h)
  all_goals exact does_wp 11 (g := sX11_waysAt) (rt := .int) (stops := []) (tbl := tX11_waysAt) rfl oX11_waysAt rk_X11_waysAt (Nat.le_of_ble_eq_true rfl) key
noncomputable def g_X0_setLate (s : St) (o : Nat) (x1 : Int32) (x2 : Int32) : St := (iC (b_X0_has s o x1) (sput s (o + 1) (Int32.toNatClampNeg x1) x2) s)
def ok_X0_setLate (s : St) (o : Nat) (x1 : Int32) (x2 : Int32) : Prop := ((b_X0_has s o x1) → (vp_in x1 (alen (o + 1))))
theorem p_X0_setLate {l : Launch} {G : Geo} {d : Nat} (o : Nat) (x1 : Int32) (x2 : Int32) (ho : o = 8 ∨ o = 15) (s : St) {Q : St → Prop} (hok : ok_X0_setLate s o x1 x2) (h : Q (g_X0_setLate s o x1 x2)) : DoesV l G (d + 2) 10 [.ref o, .int x1, .int x2] s Q := by
  unfold ok_X0_setLate at hok
  have key : DoesI l G (d + 1) 4 [.ref o, .int x1] s (fun r1 s1 => ((r1 = 0 → Q s1) ∧ (¬ r1 = 0 → ((vp_in x1 (alen (o + 1))) ∧ Q (sput s1 (o + 1) (Int32.toNatClampNeg x1) x2))))) := (p_X0_has o x1 (by omega) s ⟨fun z1 => (lfV (by rw [g_X0_setLate, iC_f (bI_n z1)]) h), fun z1 => ⟨(hok (bI_p z1)), (lfV (by rw [g_X0_setLate, iC_t (bI_p z1)]) h)⟩⟩)
  rcases ho with rfl | rfl
  all_goals exact does_wp 11 (g := sX0_setLate) (rt := .int) (stops := []) (tbl := tX0_setLate) rfl oX0_setLate rk_X0_setLate (Nat.le_of_ble_eq_true rfl) key
