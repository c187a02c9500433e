theorem dX8_init_0 : decode cX8_init 0 = .ok (.aload_n 0, 1) := by decide +kernel
theorem dX8_init_1 : decode cX8_init 1 = .ok (.invokespecial 1, 3) := by decide +kernel
theorem dX8_init_4 : decode cX8_init 4 = .ok (.aload_n 0, 1) := by decide +kernel
theorem dX8_init_5 : decode cX8_init 5 = .ok (.new 7, 3) := by decide +kernel
theorem dX8_init_8 : decode cX8_init 8 = .ok (.dup, 1) := by decide +kernel
theorem dX8_init_9 : decode cX8_init 9 = .ok (.invokespecial 9, 3) := by decide +kernel
theorem dX8_init_12 : decode cX8_init 12 = .ok (.putfield 10, 3) := by decide +kernel
theorem dX8_init_15 : decode cX8_init 15 = .ok (.aload_n 0, 1) := by decide +kernel
theorem dX8_init_16 : decode cX8_init 16 = .ok (.new 16, 3) := by decide +kernel
theorem dX8_init_19 : decode cX8_init 19 = .ok (.dup, 1) := by decide +kernel
theorem dX8_init_20 : decode cX8_init 20 = .ok (.invokespecial 18, 3) := by decide +kernel
theorem dX8_init_23 : decode cX8_init 23 = .ok (.putfield 19, 3) := by decide +kernel
theorem dX8_init_26 : decode cX8_init 26 = .ok (.return_, 1) := by decide +kernel
def wt8 (cI : ClassId) (u : Nat → Nat) : va_W := [(u 0, .inr (9, [.ref (u 1), .ref (u 2), .ref (u 3), .int 0, .int 511])), (u 1, .inl (cI, 120, .inl (fun _ => 0))), (u 2, .inl (cI, 12, .inl (fun _ => 0))), (u 3, .inl (cI, 12, .inl (fun _ => 0))), (u 4, .inr (0, [.ref (u 5), .int 3, .int 0, .int 0])), (u 5, .inl (cI, 5, .inl (fun _ => 0)))]
def wo8 (cI cZ cQ : ClassId) (h0 : Nat) (u : Nat → Nat) : va_W := (h0, .inr (8, [.ref (u 0), .ref (u 4)])) :: wt8 cI u
set_option maxHeartbeats 8000000 in
set_option maxRecDepth 100000 in
theorem kX8_init (l : Launch) (D : va_G) (cI cZ cQ : ClassId) (h0 : Nat) (sz : Nat) : Met l yX8_init (Cond.code yX8_init cX8_init 1 none :: gtbl) ({ frames := 2, cells := 6, slots := 158, locals := 128 } : Room) (va_Pc [.ref h0] (fun U => U.heap.size = sz ∧ va_P D cls [(h0, .inr (8, [.null, .null]))] U.heap ∧ va_K D cls (tyq cI cZ cQ) U ∧ va_D (fun _ => True) [(h0, .inr (8, [.null, .null]))] ∧ nW U)) (va_Qv (fun _ : Nat → Nat => True) (fun u t => va_P D cls (wo8 cI cZ cQ h0 u) t.heap ∧ va_D (va_A [(h0, .inr (8, [.null, .null]))] sz) (wo8 cI cZ cQ h0 u)) (va_A [(h0, .inr (8, [.null, .null]))] sz)) 6 158 (va_A [(h0, .inr (8, [.null, .null]))] sz) := by
  refine Met.ofW (cc := cX8_init) (maxL := 1) (ret := none) (by decide) rfl ?_
  intro p e s m args below meth c s₁ B hml hv
  obtain ⟨rfl, hsz, hP, hK, hD0, hN⟩ := hv
  have hx := B.exec
  have hb := B.bytes
  have hr := B.returns
  have hts0 := atoms_spec (ws := Cond.code yX8_init cX8_init 1 none :: gtbl) B.pre
  have hts : ∀ w ∈ gtbl, w.before ([.ref h0] : List Value).toArray s = true := fun w hw => hts0 w (List.mem_cons_of_mem _ hw)
  have hown : s.vm.findClass RX8 = some m.cls := findClass_of_methodNamed B.named
  have hlocks := B.notSynchronized
  have hin : meth.name = "<init>" := (name_of_methodNamed B.named B.method).1
  subst hsz
  have hD := hD0.self (sz := s.heap.size)
  generalize hAe : va_A [(h0, .inr (8, [.null, .null]))] s.heap.size = A at hD ⊢
  have hA : ∀ q : Nat, s.heap.size ≤ q → A q := fun q h => by rw [← hAe]; exact Or.inr h
  have hS : va_S A s.heap s.heap [] := va_S.rf
  have hP : va_P D cls [(h0, .inr (8, [.null, .null]))] s.heap := hP
  have hl := lv_entry ([.ref h0]) (n := 1) (Nat.le_of_ble_eq_true rfl)
  rw [lg_entry_eq]
  generalize (lg_sl ([.ref h0]) ++ List.replicate (1 - (lg_sl ([.ref h0])).length) Slot.unset).toArray = ls at hl ⊢
  have hl : lv_has ls 1 [(0, .ref h0)] := hl
  refine lv_aload_n hx hb dX8_init_0 rfl (lv_at hl 0 rfl) ?_
  refine W.objInit hx hb hown (hts _ (gt_has (i := 112) (w := .methodLink RX8 1 Lib.objectInit) (by decide +kernel))) (hts _ (gt_has (i := 91) (w := .instanceMethod Lib.objectInit) (by decide +kernel))) (hts _ (gt_has (i := 92) (w := .code Lib.objectInit object_method_1_code 1 none) (by decide +kernel))) rfl (by rw [hml]; exact hl.1) rfl dX8_init_1 (Nat.le_of_ble_eq_true rfl) (Nat.le_of_ble_eq_true rfl) ?_
  refine W.eq (g2 := F0 m 4 ls []) rfl ?_
  refine lv_aload_n hx hb dX8_init_4 rfl (lv_at hl 0 rfl) ?_
  refine va_new (ci := 9) (fs := [.null, .null, .null, .int 0, .int 0]) (C := RX9) (T := TX9) (N := 5) hx hb hts (cl_ok (RX9, TX9, 5) (List.mem_of_getElem? (i := 9) rfl)).1 tyX9 tyX9_ok hown (hts _ (gt_has (i := 113) (w := .classLink RX8 7 RX9) (by decide +kernel))) (hts _ (gt_has (i := 114) (w := .instantiable RX9 5) (by decide +kernel))) (hts _ (gt_has (i := 69) (w := .initialized RX9) (by decide +kernel))) hK hP hD hS hA rfl (fun j hj => by rcases (show j = 0 ∨ j = 1 ∨ j = 2 ∨ j = 3 ∨ j = 4 by omega) with rfl | rfl | rfl | rfl | rfl <;> rfl) (Nat.le_of_ble_eq_true rfl) (Nat.le_of_ble_eq_true rfl) dX8_init_5 (fun q5 H hP hD hS => ?_)
  refine W.widen (k := 1) (n := 5) (by omega) (by omega) ?_
  refine lv_dup hx hb dX8_init_8 rfl ?_
  have hPc := hP.sub (ws' := [(q5, .inr (9, [.null, .null, .null, .int 0, .int 0]))]) [1] rfl
  have hDc := hD.sub (ws' := [(q5, .inr (9, [.null, .null, .null, .int 0, .int 0]))]) [1] (by decide) rfl
  have hFc := va_free (wc := [(q5, .inr (9, [.null, .null, .null, .int 0, .int 0]))]) hD hS hA [1] rfl
  refine va_callv (va_runIN (As := []) (rest := [.ref q5, .ref h0]) ⟨hx, hb, hml, hown, hts⟩ (kX9_init l D cI cZ cQ q5 H.size) ⟨va_cnB 0 hts (gt_good (g := (yX9_init, cX9_init, 1, none)) (ws := []) (gt_has (i := 117) (by decide +kernel)) (fun w h => absurd h List.not_mem_nil)) rfl rfl rfl (hN.2.2.1) (hts _ (gt_has (i := 69) (w := .initialized RX9) (by decide +kernel))) (by decide +kernel) ⟨Nat.le_of_ble_eq_true rfl, Nat.le_of_ble_eq_true rfl⟩, rfl, (hts _ (gt_has (i := 116) (w := .instanceMethod yX9_init) (by decide +kernel)))⟩ ⟨fun a U g mk q => by obtain ⟨q0, q1, qP, qK, qD, qN⟩ := q; exact ⟨q0, q1, qP, va_K.moved (u := U) (U := U.calling g mk a) (Vm.Alike.refl U.vm) qK, qD, qN.same rfl⟩, fun U hU hW => ⟨rfl, by rw [hU], by rw [hU]; exact hPc, va_K.moved hW.alike hK, hDc.weaken (fun _ _ _ _ => trivial), hN.warm hW⟩⟩ rfl rfl hl.1 rfl (lv_room (Nat.le_of_ble_eq_true rfl)) dX8_init_9 ⟨Nat.le_of_ble_eq_true rfl, Nat.le_of_ble_eq_true rfl⟩) hS (fun q _ h => hFc q h) hFc (fun u0x t H1 locs ht hvm hw hB hz1 hk1 hS => ?_)
  obtain ⟨hP1, hD1⟩ := hB
  rw [ht] at hP1
  obtain ⟨hP, hD⟩ := va_join (wr := [(h0, .inr (8, [.null, .null]))]) (w1 := wo9 cI cZ cQ q5 u0x) hP hD [1] [0] rfl rfl (by decide) (by decide) hk1 hFc hP1 hD1
  generalize H1 = H at hP hS ⊢
  have hP : va_P D cls ([(h0, .inr (8, [.null, .null]))] ++ (wo9 cI cZ cQ q5 u0x)) H := hP
  have hD : va_D A ([(h0, .inr (8, [.null, .null]))] ++ (wo9 cI cZ cQ q5 u0x)) := hD
  refine W.widen (k := 4) (n := 149) (by omega) (by omega) ?_
  refine va_putF (D := D) (ci := 8) (v := .ref q5) (ty := (.object "ThirdLetter$WordList")) (C := RX8) (T := TX8) (N := 2) hx hb hts (cl_ok (RX8, TX8, 2) (List.mem_of_getElem? (i := 8) rfl)).1 tyX8 tyX8_ok nmX8 hown hK hP hD hS 0 rfl rfl 0 (by decide) (hts _ (gt_has (i := 154) (w := .fieldLink RX8 10 "ThirdLetter$Told" "list" "LThirdLetter$WordList;") (by decide +kernel))) (fun _ h9 => h9) rfl hin rfl (by decide +kernel) rfl rfl (Nat.le_of_ble_eq_true rfl) dX8_init_12 (fun H locs hP hD hS => ?_)
  have hP : va_P D cls ([(h0, .inr (8, [.ref q5, .null]))] ++ (wo9 cI cZ cQ q5 u0x)) H := hP
  have hD : va_D A ([(h0, .inr (8, [.ref q5, .null]))] ++ (wo9 cI cZ cQ q5 u0x)) := hD
  refine lv_aload_n hx hb dX8_init_15 rfl (lv_at hl 0 rfl) ?_
  refine va_new (ci := 0) (fs := [.null, .int 0, .int 0, .int 0]) (C := RX0) (T := TX0) (N := 4) hx hb hts (cl_ok (RX0, TX0, 4) (List.mem_of_getElem? (i := 0) rfl)).1 tyX0 tyX0_ok hown (hts _ (gt_has (i := 135) (w := .classLink RX8 16 RX0) (by decide +kernel))) (hts _ (gt_has (i := 136) (w := .instantiable RX0 4) (by decide +kernel))) (hts _ (gt_has (i := 70) (w := .initialized RX0) (by decide +kernel))) hK hP hD hS hA rfl (fun j hj => by rcases (show j = 0 ∨ j = 1 ∨ j = 2 ∨ j = 3 by omega) with rfl | rfl | rfl | rfl <;> rfl) (Nat.le_of_ble_eq_true rfl) (Nat.le_of_ble_eq_true rfl) dX8_init_16 (fun q16 H hP hD hS => ?_)
  refine W.widen (k := 5) (n := 153) (by omega) (by omega) ?_
  refine lv_dup hx hb dX8_init_19 rfl ?_
  have hPc := hP.sub (ws' := [(q16, .inr (0, [.null, .int 0, .int 0, .int 0]))]) [5] rfl
  have hDc := hD.sub (ws' := [(q16, .inr (0, [.null, .int 0, .int 0, .int 0]))]) [5] (by decide) rfl
  have hFc := va_free (wc := [(q16, .inr (0, [.null, .int 0, .int 0, .int 0]))]) hD hS hA [5] rfl
  refine va_callv (va_runIN (As := []) (rest := [.ref q16, .ref h0]) ⟨hx, hb, hml, hown, hts⟩ (kX0_init l D cI cZ cQ q16 H.size) ⟨va_cnB 0 hts (gt_good (g := (yX0_init, cX0_init, 1, none)) (ws := []) (gt_has (i := 139) (by decide +kernel)) (fun w h => absurd h List.not_mem_nil)) rfl rfl rfl (hN.2.2.2.1) (hts _ (gt_has (i := 70) (w := .initialized RX0) (by decide +kernel))) (by decide +kernel) ⟨Nat.le_of_ble_eq_true rfl, Nat.le_of_ble_eq_true rfl⟩, rfl, (hts _ (gt_has (i := 138) (w := .instanceMethod yX0_init) (by decide +kernel)))⟩ ⟨fun a U g mk q => by obtain ⟨q0, q1, qP, qK, qD, qN⟩ := q; exact ⟨q0, q1, qP, va_K.moved (u := U) (U := U.calling g mk a) (Vm.Alike.refl U.vm) qK, qD, qN.same rfl⟩, fun U hU hW => ⟨rfl, by rw [hU], by rw [hU]; exact hPc, va_K.moved hW.alike hK, hDc.weaken (fun _ _ _ _ => trivial), hN.warm hW⟩⟩ rfl rfl hl.1 rfl (lv_room (Nat.le_of_ble_eq_true rfl)) dX8_init_20 ⟨Nat.le_of_ble_eq_true rfl, Nat.le_of_ble_eq_true rfl⟩) hS (fun q _ h => hFc q h) hFc (fun u1x t H1 locs ht hvm hw hB hz1 hk1 hS => ?_)
  obtain ⟨hP1, hD1⟩ := hB
  rw [ht] at hP1
  obtain ⟨hP, hD⟩ := va_join (wr := ([(h0, .inr (8, [.ref q5, .null]))] ++ (wo9 cI cZ cQ q5 u0x))) (w1 := wo0 cI cZ cQ q16 u1x) hP hD [5] [0, 1, 2, 3, 4] rfl rfl (by decide) (by decide) hk1 hFc hP1 hD1
  generalize H1 = H at hP hS ⊢
  have hP : va_P D cls (([(h0, .inr (8, [.ref q5, .null]))] ++ (wo9 cI cZ cQ q5 u0x)) ++ (wo0 cI cZ cQ q16 u1x)) H := hP
  have hD : va_D A (([(h0, .inr (8, [.ref q5, .null]))] ++ (wo9 cI cZ cQ q5 u0x)) ++ (wo0 cI cZ cQ q16 u1x)) := hD
  refine W.widen (k := 6) (n := 158) (by omega) (by omega) ?_
  refine va_putF (D := D) (ci := 8) (v := .ref q16) (ty := (.object "ThirdLetter$Choir")) (C := RX8) (T := TX8) (N := 2) hx hb hts (cl_ok (RX8, TX8, 2) (List.mem_of_getElem? (i := 8) rfl)).1 tyX8 tyX8_ok nmX8 hown hK hP hD hS 0 rfl rfl 1 (by decide) (hts _ (gt_has (i := 160) (w := .fieldLink RX8 19 "ThirdLetter$Told" "choir" "LThirdLetter$Choir;") (by decide +kernel))) (fun _ h9 => h9) rfl hin rfl (by decide +kernel) rfl rfl (Nat.le_of_ble_eq_true rfl) dX8_init_23 (fun H locs hP hD hS => ?_)
  have hP : va_P D cls (([(h0, .inr (8, [.ref q5, .ref q16]))] ++ (wo9 cI cZ cQ q5 u0x)) ++ (wo0 cI cZ cQ q16 u1x)) H := hP
  have hD : va_D A (([(h0, .inr (8, [.ref q5, .ref q16]))] ++ (wo9 cI cZ cQ q5 u0x)) ++ (wo0 cI cZ cQ q16 u1x)) := hD
  refine W.widen (k := 6) (n := 158) (by omega) (by omega) ?_
  exact W.vret hx hb hr (fun t ht hW => ⟨⟨fun j => ([q5, u0x 0, u0x 1, u0x 2, q16, u1x 0] : List Nat).getD j 0, rfl, trivial, by rw [ht]; exact hP, hD⟩, hS.F ht⟩) hS.2.2 dX8_init_26
def wn2 (cI cZ cQ : ClassId) (h0 x1 y1 y2 : Nat) (u : Nat → Nat) : va_W := [(h0, .inr (2, [.ref (u 0), .ref y1, .ref y2])), (u 0, .inl (cI, 12, .inl (fun _ => 0)))]
def wn5 (cI cZ cQ : ClassId) (h0 x1 y1 y2 : Nat) (u : Nat → Nat) : va_W := [(h0, .inr (5, [.ref (u 0), .ref (u 1), .ref (u 2), .ref y1, .ref y2])), (u 0, .inl (cI, 5, .inl (fun _ => 0))), (u 1, .inl (cI, 5, .inl (fun _ => 0))), (u 2, .inl (cI, 32, .inl (fun _ => 0)))]
