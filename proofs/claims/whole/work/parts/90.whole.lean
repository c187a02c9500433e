set_option maxHeartbeats 8000000 in
set_option maxRecDepth 100000 in
/-- THE LAW, from its entry -/
theorem whole_start {p : Program} {e : Env} {s : State} {m : MethodId} {below : List Frame} {meth : Method} {c : Code} (l : Launch) {b L : Nat} {xs : Nat → Int32} (hL : L ≤ 2048) (C0 : lw_At p s m meth c b L xs) : W p l e room_1 s m #[Value.ref b] below meth c s.heap [] 0 0 (lw_Z below #[Value.ref b] s) (entryFrame m ([Value.ref b] : List Value).toArray 4) := by
  obtain ⟨hx, hb, hr, hml, hown, hts, hX, hbl, hlocks, hgv⟩ := id C0
  have htg : ∀ w ∈ gtbl, w.before #[Value.ref b] s = true := fun w hw => hts w (List.mem_filter.mp hw).1
  have hA : ∀ q : Nat, s.heap.size ≤ q → (fun q : Nat => s.heap.size ≤ q) q := fun _ h => h
  obtain ⟨aK, aV, f, z, g1, g2, g3, g4⟩ := lw_str hgv hts
  have hcl : ∀ k : Nat, ∃ w : ClassId × (Nat → Nat), ∀ q : vw_C, cls[k]? = some q → u_Kn s q.1 q.2.1 q.2.2 w.1 w.2 := by
    intro k
    cases hq : cls[k]? with
    | none => exact ⟨(0, fun _ => 0), fun q h => by cases h⟩
    | some q =>
      have hm := List.mem_of_getElem? hq
      obtain ⟨cC, iS, h⟩ := u_known (C := q.1) (T := q.2.1) (N := q.2.2) (n := q.2.2) htg (cl_ok q hm).1 (hts _ (cl_inst q hm))
      exact ⟨(cC, iS), fun q' h' => by cases h'; exact h⟩
  obtain ⟨dw, hdw⟩ := Classical.axiomOfChoice hcl
  obtain ⟨D, hKc⟩ : ∃ D : va_G, ∀ (k : Nat) (q : vw_C), cls[k]? = some q → u_Kn s q.1 q.2.1 q.2.2 (D.1 k) (D.2 k) := ⟨(fun k => (dw k).1, fun k => (dw k).2), fun k q hq => hdw k q hq⟩
  obtain ⟨cI, kI, ccI, fI, hkI, hkindI⟩ := Cond.arrayClass_spec (hts (.arrayClass .int) (by decide +kernel))
  obtain ⟨cZ, kZ, ccZ, fZ, hkZ, hkindZ⟩ := Cond.arrayClass_spec (hts (.arrayClass .boolean) (by decide +kernel))
  obtain ⟨cB, cQ, kQ, fB, hkQ, hkindQ, fQ⟩ := w_over (hts (.arrayOver (.array .int)) (by decide +kernel))
  have hK : va_K D cls (tyq cI cZ cQ) s := by
    refine ⟨hKc, fun k q hq => ?_⟩
    match k, hq with
    | 0, hq =>
      cases hq
      exact ⟨fun n y => ⟨fun k h => (by cases h), kI, hkI, ccI, hkindI⟩, fI⟩
    | 1, hq =>
      cases hq
      exact ⟨fun n y => ⟨fun k h => (by cases h), kZ, hkZ, ccZ, hkindZ⟩, fZ⟩
    | 2, hq =>
      cases hq
      exact ⟨fun n y => ⟨fun k h => (by cases h), kQ, hkQ, cB, hkindQ⟩, fQ⟩
    | k + 3, hq => cases hq
  have hN : nW s := ⟨va_Nw.of rfl (hts (.methodLinkNest RX10 9 yX4_init RX10) (List.mem_of_getElem? (i := 95) (by decide +kernel))), va_Nw.of rfl (hts (.methodLinkNest RX10 18 yX8_init RX10) (List.mem_of_getElem? (i := 109) (by decide +kernel))), va_Nw.of rfl (hts (.methodLinkNest RX8 9 yX9_init RX10) (List.mem_of_getElem? (i := 115) (by decide +kernel))), va_Nw.of rfl (hts (.methodLinkNest RX8 18 yX0_init RX10) (List.mem_of_getElem? (i := 137) (by decide +kernel))), va_Nw.of rfl (hts (.methodLinkNest RX10 37 yX6_init RX10) (List.mem_of_getElem? (i := 193) (by decide +kernel))), va_Nw.of rfl (hts (.methodLinkNest RX10 50 yX7_init RX10) (List.mem_of_getElem? (i := 215) (by decide +kernel))), nA_vm rfl (hts (.arrayOver (.array .int)) (by decide +kernel))⟩
  have hS : va_S (fun q : Nat => s.heap.size ≤ q) s.heap s.heap [] := va_S.rf
  have hP : va_P D cls [] s.heap := fun k q h => by simp at h
  have hD : va_D (fun q : Nat => s.heap.size ≤ q) [] := ⟨fun i j p q h => by simp at h, fun k q h => by simp at h⟩
  have hl := lv_entry ([.ref b]) (n := 4) (Nat.le_of_ble_eq_true rfl)
  rw [lg_entry_eq]
  generalize (lg_sl ([.ref b]) ++ List.replicate (4 - (lg_sl ([.ref b])).length) Slot.unset).toArray = ls at hl ⊢
  have hl : lv_has ls 4 [(0, .ref b)] := hl
  refine va_new (ci := 10) (fs := [.null, .null, .null, .null, .null, .null, .null, .int 0, .null, .null, .null, .null]) (C := RX10) (T := TX10) (N := 12) hx hb htg (cl_ok (RX10, TX10, 12) (List.mem_of_getElem? (i := 10) rfl)).1 tyX10 tyX10_ok hown (htg _ (gt_has (i := 85) (w := .classLink R_law 7 RX10) (by decide +kernel))) (htg _ (gt_has (i := 86) (w := .instantiable RX10 12) (by decide +kernel))) (htg _ (gt_has (i := 66) (w := .initialized RX10) (by decide +kernel))) hK hP hD hS hA rfl (fun j hj => by rcases (show j = 0 ∨ j = 1 ∨ j = 2 ∨ j = 3 ∨ j = 4 ∨ j = 5 ∨ j = 6 ∨ j = 7 ∨ j = 8 ∨ j = 9 ∨ j = 10 ∨ j = 11 by omega) with rfl | rfl | rfl | rfl | rfl | rfl | rfl | rfl | rfl | rfl | rfl | rfl <;> rfl) (Nat.le_of_ble_eq_true rfl) (Nat.le_of_ble_eq_true rfl) d_law_0 (fun q0 H hP hD hS => ?_)
  have hP : va_P D cls [(q0, .inr (10, [.null, .null, .null, .null, .null, .null, .null, .int 0, .null, .null, .null, .null]))] H := hP
  have hD : va_D (fun q : Nat => s.heap.size ≤ q) [(q0, .inr (10, [.null, .null, .null, .null, .null, .null, .null, .int 0, .null, .null, .null, .null]))] := hD
  refine W.widen (k := 1) (n := 12) (by omega) (by omega) ?_
  refine lv_dup hx hb d_law_3 rfl ?_
  have hPc := hP.sub (ws' := [(q0, .inr (10, [.null, .null, .null, .null, .null, .null, .null, .int 0, .null, .null, .null, .null]))]) [0] rfl
  have hDc := hD.sub (ws' := [(q0, .inr (10, [.null, .null, .null, .null, .null, .null, .null, .int 0, .null, .null, .null, .null]))]) [0] (by decide) rfl
  have hFc := va_free (wc := [(q0, .inr (10, [.null, .null, .null, .null, .null, .null, .null, .int 0, .null, .null, .null, .null]))]) hD hS hA [0] rfl
  refine va_callv (va_runI (As := []) (rest := [.ref q0]) ⟨hx, hb, hml, hown, htg⟩ (kX10_init l D cI cZ cQ q0 H.size) (cwI 0 htg (gt_good (g := (yX10_init, cX10_init, 1, none)) (ws := []) (gt_has (i := 89) (by decide +kernel)) (fun w h => absurd h List.not_mem_nil)) rfl rfl rfl (htg _ (gt_has (i := 66) (w := .initialized RX10) (by decide +kernel))) (htg _ (gt_has (i := 87) (w := .methodLink R_law 9 yX10_init) (by decide +kernel))) (htg _ (gt_has (i := 88) (w := .instanceMethod yX10_init) (by decide +kernel))) rfl (by decide +kernel) ⟨Nat.le_of_ble_eq_true rfl, Nat.le_of_ble_eq_true rfl⟩) ⟨fun a U g mk q => by obtain ⟨q0, q1, qP, qK, qD, qN⟩ := q; exact ⟨q0, q1, qP, va_K.moved (u := U) (U := U.calling g mk a) (Vm.Alike.refl U.vm) qK, qD, qN.same rfl⟩, fun U hU hW => ⟨rfl, by rw [hU], by rw [hU]; exact hPc, va_K.moved hW.alike hK, hDc.weaken (fun _ _ _ _ => trivial), hN.warm hW⟩⟩ rfl rfl hl.1 rfl (lv_room (Nat.le_of_ble_eq_true rfl)) d_law_4 ⟨Nat.le_of_ble_eq_true rfl, Nat.le_of_ble_eq_true rfl⟩) hS (fun q _ h => hFc q h) hFc (fun u t H1 locs ht hvm hw hB hz1 hk1 hS => ?_)
  obtain ⟨hP1, hD1⟩ := hB
  rw [ht] at hP1
  obtain ⟨hP, hD⟩ := va_join (wr := []) (w1 := wo10 cI cZ cQ q0 u) hP hD [0] [] rfl rfl (by decide) (by decide) hk1 hFc hP1 hD1
  generalize H1 = H at hP hS ⊢
  have hP : va_P D cls (wo10 cI cZ cQ q0 u) H := hP
  have hD : va_D (fun q : Nat => s.heap.size ≤ q) (wo10 cI cZ cQ q0 u) := hD
  refine W.widen (k := 51) (n := 3079) (by omega) (by omega) ?_
  refine lv_astore_n (lv' := [(1, .ref q0), (0, .ref b)]) hx hb d_law_7 rfl hl (by decide) rfl (fun ls hl => ?_)
  refine va_new (ci := 11) (fs := [.int 0, .int 0, .int 0, .null, .int 0, .null, .null, .null, .int 0, .int 0, .null, .int 0, .int 0, .long 0, .int 0, .int 0, .int 0, .int 0, .int 0, .int 0, .null, .null, .null, .int 0, .null, .int 0, .int 0, .null, .null, .null, .null, .null, .null, .null]) (C := RX11) (T := TX11) (N := 34) hx hb htg (cl_ok (RX11, TX11, 34) (List.mem_of_getElem? (i := 11) rfl)).1 tyX11 tyX11_ok hown (htg _ (gt_has (i := 969) (w := .classLink R_law 10 RX11) (by decide +kernel))) (htg _ (gt_has (i := 970) (w := .instantiable RX11 34) (by decide +kernel))) (htg _ (gt_has (i := 77) (w := .initialized RX11) (by decide +kernel))) hK hP hD hS hA rfl (fun j hj => by rcases (show j = 0 ∨ j = 1 ∨ j = 2 ∨ j = 3 ∨ j = 4 ∨ j = 5 ∨ j = 6 ∨ j = 7 ∨ j = 8 ∨ j = 9 ∨ j = 10 ∨ j = 11 ∨ j = 12 ∨ j = 13 ∨ j = 14 ∨ j = 15 ∨ j = 16 ∨ j = 17 ∨ j = 18 ∨ j = 19 ∨ j = 20 ∨ j = 21 ∨ j = 22 ∨ j = 23 ∨ j = 24 ∨ j = 25 ∨ j = 26 ∨ j = 27 ∨ j = 28 ∨ j = 29 ∨ j = 30 ∨ j = 31 ∨ j = 32 ∨ j = 33 by omega) with rfl | rfl | rfl | rfl | rfl | rfl | rfl | rfl | rfl | rfl | rfl | rfl | rfl | rfl | rfl | rfl | rfl | rfl | rfl | rfl | rfl | rfl | rfl | rfl | rfl | rfl | rfl | rfl | rfl | rfl | rfl | rfl | rfl | rfl <;> rfl) (Nat.le_of_ble_eq_true rfl) (Nat.le_of_ble_eq_true rfl) d_law_8 (fun q8 H hP hD hS => ?_)
  refine W.widen (k := 52) (n := 3113) (by omega) (by omega) ?_
  refine lv_dup hx hb d_law_11 rfl ?_
  have hPc := hP.sub (ws' := [(q8, .inr (11, [.int 0, .int 0, .int 0, .null, .int 0, .null, .null, .null, .int 0, .int 0, .null, .int 0, .int 0, .long 0, .int 0, .int 0, .int 0, .int 0, .int 0, .int 0, .null, .null, .null, .int 0, .null, .int 0, .int 0, .null, .null, .null, .null, .null, .null, .null]))]) [51] rfl
  have hDc := hD.sub (ws' := [(q8, .inr (11, [.int 0, .int 0, .int 0, .null, .int 0, .null, .null, .null, .int 0, .int 0, .null, .int 0, .int 0, .long 0, .int 0, .int 0, .int 0, .int 0, .int 0, .int 0, .null, .null, .null, .int 0, .null, .int 0, .int 0, .null, .null, .null, .null, .null, .null, .null]))]) [51] (by decide) rfl
  have hFc := va_free (wc := [(q8, .inr (11, [.int 0, .int 0, .int 0, .null, .int 0, .null, .null, .null, .int 0, .int 0, .null, .int 0, .int 0, .long 0, .int 0, .int 0, .int 0, .int 0, .int 0, .int 0, .null, .null, .null, .int 0, .null, .int 0, .int 0, .null, .null, .null, .null, .null, .null, .null]))]) hD hS hA [51] rfl
  refine va_callv (va_runI (As := []) (rest := [.ref q8]) ⟨hx, hb, hml, hown, htg⟩ (kX11_init l D cI cZ cQ q8 H.size) (cwI 0 htg (gt_good (g := (yX11_init, cX11_init, 1, none)) (ws := []) (gt_has (i := 973) (by decide +kernel)) (fun w h => absurd h List.not_mem_nil)) rfl rfl rfl (htg _ (gt_has (i := 77) (w := .initialized RX11) (by decide +kernel))) (htg _ (gt_has (i := 971) (w := .methodLink R_law 12 yX11_init) (by decide +kernel))) (htg _ (gt_has (i := 972) (w := .instanceMethod yX11_init) (by decide +kernel))) rfl (by decide +kernel) ⟨Nat.le_of_ble_eq_true rfl, Nat.le_of_ble_eq_true rfl⟩) ⟨fun a U g mk q => by obtain ⟨q0, q1, qP, qK, qD, qN⟩ := q; exact ⟨q0, q1, qP, va_K.moved (u := U) (U := U.calling g mk a) (Vm.Alike.refl U.vm) qK, qD, qN.same rfl⟩, fun U hU hW => ⟨rfl, by rw [hU], by rw [hU]; exact hPc, va_K.moved hW.alike hK, hDc.weaken (fun _ _ _ _ => trivial), hN.warm hW⟩⟩ rfl rfl hl.1 rfl (lv_room (Nat.le_of_ble_eq_true rfl)) d_law_12 ⟨Nat.le_of_ble_eq_true rfl, Nat.le_of_ble_eq_true rfl⟩) hS (fun q _ h => hFc q h) hFc (fun v t H1 locs ht hvm hw hB hz1 hk1 hS => ?_)
  obtain ⟨hP1, hD1⟩ := hB
  rw [ht] at hP1
  obtain ⟨hP, hD⟩ := va_join (wr := wo10 cI cZ cQ q0 u) (w1 := wo11 cI cZ cQ q8 v) hP hD [51] [0, 1, 2, 3, 4, 5, 6, 7, 8, 9, 10, 11, 12, 13, 14, 15, 16, 17, 18, 19, 20, 21, 22, 23, 24, 25, 26, 27, 28, 29, 30, 31, 32, 33, 34, 35, 36, 37, 38, 39, 40, 41, 42, 43, 44, 45, 46, 47, 48, 49, 50] rfl rfl (by decide) (by decide) hk1 hFc hP1 hD1
  generalize H1 = H at hP hS ⊢
  refine W.widen (k := 68) (n := 14111) (by omega) (by omega) ?_
  refine lv_astore_n (lv' := [(2, .ref q8), (1, .ref q0), (0, .ref b)]) hx hb d_law_15 rfl hl (by decide) rfl (fun ls hl => ?_)
  refine lv_iconst (v := 0) hx hb d_law_16 (by decide) ?_
  refine lv_istore_n (lv' := [(3, .int 0), (2, .ref q8), (1, .ref q0), (0, .ref b)]) hx hb d_law_17 rfl hl (by decide) rfl (fun ls hl => ?_)
  refine va_forget (fun q hq => hS.2.2 q hq) ?_
  have hge := gs_A (D := D) (aK := aK) (aV := aV) (f := f) (z := z) hD
  refine law_loop (G := gG D cI cZ cQ q0 u q8 v aK aV f z) ⟨C0, hK, gs_dst hD, gs_strs hge g1 g2 g3 g4, hge⟩ hL (by decide) (by decide) rfl (L + 1) 0 s0L H [] ls 0 (by omega) (by omega) rfl ri_start (gs_P hP) ⟨hS.1, fun q h1 _ => hS.2.1 q h1 (Nat.not_le.mpr h1), fun q h => absurd h List.not_mem_nil⟩ hl
