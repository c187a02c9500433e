set_option maxRecDepth 100000 in
theorem r_X6_firstLateRow {l : Launch} {G : Geo} {d : Nat} (o : Nat) (x2 : Int32) (ho : o = 18 ∨ o = 20 ∨ o = 22) (s : St) {Q : Int32 → St → Prop} (h : AtA l G (d + 4) sX6_firstLateRow 5 [.ref o, .ref 24, .int x2, .int 0, .int 0, .null] [] s (pI Q)) : DoesI l G (d + 4) 80 [.ref o, .ref 24, .int x2] s Q := by
  have key : AtA l G (d + 4) sX6_firstLateRow 5 [.ref o, .ref 24, .int x2, .int 0, .int 0, .null] [] s (pI Q) := h
  rcases ho with rfl | rfl | rfl
  all_goals exact does_wp 6 (g := sX6_firstLateRow) (rt := .int) (stops := [5]) (tbl := tX6_firstLateRow) rfl oX6_firstLateRow rk_X6_firstLateRow (Nat.le_of_ble_eq_true rfl) key
set_option maxRecDepth 100000 in
theorem r_X6_firstLateRow_5 {l : Launch} {G : Geo} {d : Nat} (o : Nat) (v2 : Int32) (v3 : Int32) (v4 : Int32) (ho : o = 18 ∨ o = 20 ∨ o = 22) (s : St) {Q : Int32 → St → Prop} (h : ((v4 < v2 → (ok_X6_leastLate s o v2 v4 ∧ (((v_X6_leastLate s o v2 v4) = (-1) → Q (-1) s) ∧ (¬ (v_X6_leastLate s o v2 v4) = (-1) → AtA l G (d + 4) sX6_firstLateRow 5 [.ref o, .ref 24, .int v2, .int ((4 * v3) + (v_X6_leastLate s o v2 v4)), .int (v4 + 1), .null] [] s (pI Q))))) ∧ (¬ v4 < v2 → Q v3 s))) : AtA l G (d + 4) sX6_firstLateRow 5 [.ref o, .ref 24, .int v2, .int v3, .int v4, .null] [] s (pI Q) := by
  have key : ((v4 < v2 → DoesI l G (d + 3) 81 [.ref o, .ref 24, .int v2, .int v4] s (fun r1 s1 => ((r1 = (-1) → Q (-1) s1) ∧ (¬ r1 = (-1) → AtA l G (d + 4) sX6_firstLateRow 5 [.ref o, .ref 24, .int v2, .int ((4 * v3) + r1), .int (v4 + 1), .int r1] [] s1 (pI Q))))) ∧ (¬ v4 < v2 → Q v3 s)) := ⟨fun z1 => (p_X6_leastLate o v2 v4 (by omega) s (h.1 z1).1 ⟨fun z2 => ((h.1 z1).2.1 z2), fun z2 => (at_weak2 ((h.1 z1).2.2 z2) (by simp [wk]))⟩), fun z1 => (h.2 z1)⟩
  rcases ho with rfl | rfl | rfl
  all_goals exact wp_sound (rt := .int) (stops := [5]) (tbl := tX6_firstLateRow) oX6_firstLateRow rk_X6_firstLateRow 22 5 _ _ _ key
