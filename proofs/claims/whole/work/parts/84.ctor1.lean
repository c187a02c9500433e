/-! the constructors: contracts over the machine, printed by wip/gen/gen_ctor.py -/
def tyq (cI cZ cQ : ClassId) : List (ClassId × FieldType) := [(cI, .int), (cZ, .boolean), (cQ, .array .int)]
def nW (U : State) : Prop := va_Nw (.methodLinkNest RX10 9 yX4_init RX10) U ∧ va_Nw (.methodLinkNest RX10 18 yX8_init RX10) U ∧ va_Nw (.methodLinkNest RX8 9 yX9_init RX10) U ∧ va_Nw (.methodLinkNest RX8 18 yX0_init RX10) U ∧ va_Nw (.methodLinkNest RX10 37 yX6_init RX10) U ∧ va_Nw (.methodLinkNest RX10 50 yX7_init RX10) U ∧ (Cond.arrayOver (.array .int)).before #[] U = true
theorem nA_vm {a a1 : Array Value} {u U : State} (h : u.vm = U.vm) (hb : (Cond.arrayOver (.array .int)).before a u = true) : (Cond.arrayOver (.array .int)).before a1 U = true := by
  simp only [Cond.before, Cond.holds, Cond.value, h] at hb ⊢
  exact hb
theorem nW.same {u U : State} (h : u.vm = U.vm) (hZ : nW u) : nW U := by
  obtain ⟨h0, h1, h2, h3, h4, h5, h6⟩ := hZ
  exact ⟨h0.same rfl h, h1.same rfl h, h2.same rfl h, h3.same rfl h, h4.same rfl h, h5.same rfl h, nA_vm h h6⟩
theorem nW.warm {s U : State} (hW : s.WarmedH U.vm) (hZ : nW s) : nW U := by
  obtain ⟨h0, h1, h2, h3, h4, h5, h6⟩ := hZ
  exact ⟨h0.warmM hW, h1.warmM hW, h2.warmM hW, h3.warmM hW, h4.warmM hW, h5.warmM hW, nA_vm (u := s.setVm U.vm) rfl (by rw [Cond.arrayOver_setVmC hW.alike]; exact h6)⟩
section WNA
variable {p : Program} {l : Launch} {e : Jvm.Env} {R : Room} {s : State} {m : MethodId} {args : Array Value} {below : List Frame} {meth : Method} {c : Code} {H : Heap} {locs : List Loc} {cells slots : Nat} {Q : State → Prop}
variable {cc : ByteArray} {pc : Nat} {ls : Array Slot} {rest : List Value} {D : va_G} {cl : List vw_C} {A : Nat → Prop} {ws : va_W} {H0 : Heap} {cI cZ cQ : ClassId}
theorem w_newI (hexec : p.tables.exec = Jvm.exec) (hb : c.code = cc) (harr : (Cond.arrayClass .int).before args s = true) (hK : va_K D cl (tyq cI cZ cQ) s) (hP : va_P D cl ws H) (hD : va_D A ws) (hS : va_S A H0 H locs) (hA : ∀ q, H0.size ≤ q → A q) {n : Int32} {N' : Nat} (hn : ¬ n < 0) (hN : n.toNatClampNeg = N') (hbytes : N' * 4 ≤ 536870912) (hcells : cells + 1 ≤ R.cells) (hslots : slots + N' ≤ R.slots) (hdg : decode cc pc = .ok (.newarray .int, 2))
    (kk : ∀ (q : Nat) (H1 : Heap), va_P D cl (ws ++ [(q, .inl (cI, N', .inl (fun _ => 0)))]) H1 → va_D A (ws ++ [(q, .inl (cI, N', .inl (fun _ => 0)))]) → va_S A H0 H1 locs → W p l e R s m args below meth c H1 locs (cells + 1) (slots + N') Q (F0 m (pc + 2) ls (.ref q :: rest))) : W p l e R s m args below meth c H locs cells slots Q (F0 m pc ls (.int n :: rest)) := by
  refine va_newa (atype := .int) (ty := .int) (a0 := (N', .inl (fun _ => 0))) hexec hb harr rfl hK hP hD hS hA (fun cA => rfl) hn hN hbytes hcells hslots hdg (fun q cA H1 hK1 hP1 hD1 hS1 => ?_)
  have h1 := (hK1.2 3 (cA, .int) rfl).2
  have h2 := (hK.2 0 (cI, .int) rfl).2
  cases Option.some.inj (h1.symm.trans h2)
  exact kk q H1 hP1 hD1 hS1
theorem w_newZ (hexec : p.tables.exec = Jvm.exec) (hb : c.code = cc) (harr : (Cond.arrayClass .boolean).before args s = true) (hK : va_K D cl (tyq cI cZ cQ) s) (hP : va_P D cl ws H) (hD : va_D A ws) (hS : va_S A H0 H locs) (hA : ∀ q, H0.size ≤ q → A q) {n : Int32} {N' : Nat} (hn : ¬ n < 0) (hN : n.toNatClampNeg = N') (hbytes : N' * 1 ≤ 536870912) (hcells : cells + 1 ≤ R.cells) (hslots : slots + N' ≤ R.slots) (hdg : decode cc pc = .ok (.newarray .boolean, 2))
    (kk : ∀ (q : Nat) (H1 : Heap), va_P D cl (ws ++ [(q, .inl (cZ, N', .inl (fun _ => 0)))]) H1 → va_D A (ws ++ [(q, .inl (cZ, N', .inl (fun _ => 0)))]) → va_S A H0 H1 locs → W p l e R s m args below meth c H1 locs (cells + 1) (slots + N') Q (F0 m (pc + 2) ls (.ref q :: rest))) : W p l e R s m args below meth c H locs cells slots Q (F0 m pc ls (.int n :: rest)) := by
  refine va_newa (atype := .boolean) (ty := .boolean) (a0 := (N', .inl (fun _ => 0))) hexec hb harr rfl hK hP hD hS hA (fun cA => rfl) hn hN hbytes hcells hslots hdg (fun q cA H1 hK1 hP1 hD1 hS1 => ?_)
  have h1 := (hK1.2 3 (cA, .boolean) rfl).2
  have h2 := (hK.2 1 (cZ, .boolean) rfl).2
  cases Option.some.inj (h1.symm.trans h2)
  exact kk q H1 hP1 hD1 hS1
end WNA
theorem dX0_init_0 : decode cX0_init 0 = .ok (.aload_n 0, 1) := by decide +kernel
theorem dX0_init_1 : decode cX0_init 1 = .ok (.invokespecial 3, 3) := by decide +kernel
theorem dX0_init_4 : decode cX0_init 4 = .ok (.aload_n 0, 1) := by decide +kernel
theorem dX0_init_5 : decode cX0_init 5 = .ok (.iconst 5, 1) := by decide +kernel
theorem dX0_init_6 : decode cX0_init 6 = .ok (.newarray .int, 2) := by decide +kernel
theorem dX0_init_8 : decode cX0_init 8 = .ok (.putfield 9, 3) := by decide +kernel
theorem dX0_init_11 : decode cX0_init 11 = .ok (.aload_n 0, 1) := by decide +kernel
theorem dX0_init_12 : decode cX0_init 12 = .ok (.iconst 3, 1) := by decide +kernel
theorem dX0_init_13 : decode cX0_init 13 = .ok (.putfield 15, 3) := by decide +kernel
theorem dX0_init_16 : decode cX0_init 16 = .ok (.return_, 1) := by decide +kernel
def wo0 (cI cZ cQ : ClassId) (h0 : Nat) (u : Nat → Nat) : va_W := [(h0, .inr (0, [.ref (u 0), .int 3, .int 0, .int 0])), ((u 0), .inl (cI, 5, .inl (fun _ => 0)))]
set_option maxHeartbeats 8000000 in
set_option maxRecDepth 100000 in
theorem kX0_init (l : Launch) (D : va_G) (cI cZ cQ : ClassId) (h0 : Nat) (sz : Nat) : Met l yX0_init (Cond.code yX0_init cX0_init 1 none :: gtbl) ({ frames := 1, cells := 1, slots := 5, locals := 64 } : Room) (va_Pc [.ref h0] (fun U => U.heap.size = sz ∧ va_P D cls [(h0, .inr (0, [.null, .int 0, .int 0, .int 0]))] U.heap ∧ va_K D cls (tyq cI cZ cQ) U ∧ va_D (fun _ => True) [(h0, .inr (0, [.null, .int 0, .int 0, .int 0]))] ∧ nW U)) (va_Qv (fun _ : Nat → Nat => True) (fun u t => va_P D cls (wo0 cI cZ cQ h0 u) t.heap ∧ va_D (va_A [(h0, .inr (0, [.null, .int 0, .int 0, .int 0]))] sz) (wo0 cI cZ cQ h0 u)) (va_A [(h0, .inr (0, [.null, .int 0, .int 0, .int 0]))] sz)) 1 5 (va_A [(h0, .inr (0, [.null, .int 0, .int 0, .int 0]))] sz) := by
  refine Met.ofW (cc := cX0_init) (maxL := 1) (ret := none) (by decide) rfl ?_
  intro p e s m args below meth c s₁ B hml hv
  obtain ⟨rfl, hsz, hP, hK, hD0, hN⟩ := hv
  have hx := B.exec
  have hb := B.bytes
  have hr := B.returns
  have hts0 := atoms_spec (ws := Cond.code yX0_init cX0_init 1 none :: gtbl) B.pre
  have hts : ∀ w ∈ gtbl, w.before ([.ref h0] : List Value).toArray s = true := fun w hw => hts0 w (List.mem_cons_of_mem _ hw)
  have hown : s.vm.findClass RX0 = some m.cls := findClass_of_methodNamed B.named
  have hlocks := B.notSynchronized
  have hin : meth.name = "<init>" := (name_of_methodNamed B.named B.method).1
  subst hsz
  have hD := hD0.self (sz := s.heap.size)
  generalize hAe : va_A [(h0, .inr (0, [.null, .int 0, .int 0, .int 0]))] s.heap.size = A at hD ⊢
  have hA : ∀ q : Nat, s.heap.size ≤ q → A q := fun q h => by rw [← hAe]; exact Or.inr h
  have hS : va_S A s.heap s.heap [] := va_S.rf
  have hP : va_P D cls [(h0, .inr (0, [.null, .int 0, .int 0, .int 0]))] s.heap := hP
  have hl := lv_entry ([.ref h0]) (n := 1) (Nat.le_of_ble_eq_true rfl)
  rw [lg_entry_eq]
  generalize (lg_sl ([.ref h0]) ++ List.replicate (1 - (lg_sl ([.ref h0])).length) Slot.unset).toArray = ls at hl ⊢
  have hl : lv_has ls 1 [(0, .ref h0)] := hl
  refine lv_aload_n hx hb dX0_init_0 rfl (lv_at hl 0 rfl) ?_
  refine W.objInit hx hb hown (hts _ (gt_has (i := 140) (w := .methodLink RX0 3 Lib.objectInit) (by decide +kernel))) (hts _ (gt_has (i := 91) (w := .instanceMethod Lib.objectInit) (by decide +kernel))) (hts _ (gt_has (i := 92) (w := .code Lib.objectInit object_method_1_code 1 none) (by decide +kernel))) rfl (by rw [hml]; exact hl.1) rfl dX0_init_1 (Nat.le_of_ble_eq_true rfl) (Nat.le_of_ble_eq_true rfl) ?_
  refine W.eq (g2 := F0 m 4 ls []) rfl ?_
  refine lv_aload_n hx hb dX0_init_4 rfl (lv_at hl 0 rfl) ?_
  refine lv_iconst (v := 5) hx hb dX0_init_5 (by decide) ?_
  refine w_newI (N' := 5) hx hb (hts _ (gt_has (i := 106) (w := .arrayClass .int) (by decide +kernel))) hK hP hD hS hA (by decide) (by decide +kernel) (Nat.le_of_ble_eq_true rfl) (Nat.le_of_ble_eq_true rfl) (Nat.le_of_ble_eq_true rfl) dX0_init_6 (fun q6 H hP hD hS => ?_)
  have hP : va_P D cls [(h0, .inr (0, [.null, .int 0, .int 0, .int 0])), (q6, .inl (cI, 5, .inl (fun _ => 0)))] H := hP
  have hD : va_D A [(h0, .inr (0, [.null, .int 0, .int 0, .int 0])), (q6, .inl (cI, 5, .inl (fun _ => 0)))] := hD
  refine W.widen (k := 1) (n := 5) (by omega) (by omega) ?_
  refine va_putF (D := D) (ci := 0) (v := .ref q6) (ty := (.array .int)) (C := RX0) (T := TX0) (N := 4) hx hb hts (cl_ok (RX0, TX0, 4) (List.mem_of_getElem? (i := 0) rfl)).1 tyX0 tyX0_ok nmX0 hown hK hP hD hS 0 rfl rfl 0 (by decide) (hts _ (gt_has (i := 141) (w := .fieldLink RX0 9 "ThirdLetter$Choir" "late" "[I") (by decide +kernel))) (fun _ h9 => h9) rfl hin rfl (by decide +kernel) rfl rfl (Nat.le_of_ble_eq_true rfl) dX0_init_8 (fun H locs hP hD hS => ?_)
  have hP : va_P D cls [(h0, .inr (0, [.ref q6, .int 0, .int 0, .int 0])), (q6, .inl (cI, 5, .inl (fun _ => 0)))] H := hP
  have hD : va_D A [(h0, .inr (0, [.ref q6, .int 0, .int 0, .int 0])), (q6, .inl (cI, 5, .inl (fun _ => 0)))] := hD
  refine lv_aload_n hx hb dX0_init_11 rfl (lv_at hl 0 rfl) ?_
  refine lv_iconst (v := 3) hx hb dX0_init_12 (by decide) ?_
  refine va_put (D := D) (ci := 0) (v := .int 3) (ty := .int) (C := RX0) (T := TX0) (N := 4) hx hb hts (cl_ok (RX0, TX0, 4) (List.mem_of_getElem? (i := 0) rfl)).1 tyX0 tyX0_ok nmX0 hown hK hP hD hS 0 rfl rfl 1 (by decide) (hts _ (gt_has (i := 142) (w := .fieldLink RX0 15 "ThirdLetter$Choir" "size" "I") (by decide +kernel))) (fun _ h9 => h9) rfl (by decide +kernel) rfl rfl (Nat.le_of_ble_eq_true rfl) dX0_init_13 (fun H locs hP hD hS => ?_)
  have hP : va_P D cls [(h0, .inr (0, [.ref q6, .int 3, .int 0, .int 0])), (q6, .inl (cI, 5, .inl (fun _ => 0)))] H := hP
  have hD : va_D A [(h0, .inr (0, [.ref q6, .int 3, .int 0, .int 0])), (q6, .inl (cI, 5, .inl (fun _ => 0)))] := hD
  refine W.widen (k := 1) (n := 5) (by omega) (by omega) ?_
  exact W.vret hx hb hr (fun t ht hW => ⟨⟨fun j => ([q6] : List Nat).getD j 0, rfl, trivial, by rw [ht]; exact hP, hD⟩, hS.F ht⟩) hS.2.2 dX0_init_16
theorem dX9_init_0 : decode cX9_init 0 = .ok (.aload_n 0, 1) := by decide +kernel
theorem dX9_init_1 : decode cX9_init 1 = .ok (.invokespecial 3, 3) := by decide +kernel
theorem dX9_init_4 : decode cX9_init 4 = .ok (.aload_n 0, 1) := by decide +kernel
theorem dX9_init_5 : decode cX9_init 5 = .ok (.bipush 120, 2) := by decide +kernel
theorem dX9_init_7 : decode cX9_init 7 = .ok (.newarray .int, 2) := by decide +kernel
theorem dX9_init_9 : decode cX9_init 9 = .ok (.putfield 9, 3) := by decide +kernel
theorem dX9_init_12 : decode cX9_init 12 = .ok (.aload_n 0, 1) := by decide +kernel
theorem dX9_init_13 : decode cX9_init 13 = .ok (.bipush 12, 2) := by decide +kernel
theorem dX9_init_15 : decode cX9_init 15 = .ok (.newarray .int, 2) := by decide +kernel
theorem dX9_init_17 : decode cX9_init 17 = .ok (.putfield 15, 3) := by decide +kernel
theorem dX9_init_20 : decode cX9_init 20 = .ok (.aload_n 0, 1) := by decide +kernel
theorem dX9_init_21 : decode cX9_init 21 = .ok (.bipush 12, 2) := by decide +kernel
theorem dX9_init_23 : decode cX9_init 23 = .ok (.newarray .int, 2) := by decide +kernel
theorem dX9_init_25 : decode cX9_init 25 = .ok (.putfield 18, 3) := by decide +kernel
theorem dX9_init_28 : decode cX9_init 28 = .ok (.aload_n 0, 1) := by decide +kernel
theorem dX9_init_29 : decode cX9_init 29 = .ok (.sipush 511, 3) := by decide +kernel
theorem dX9_init_32 : decode cX9_init 32 = .ok (.putfield 21, 3) := by decide +kernel
theorem dX9_init_35 : decode cX9_init 35 = .ok (.return_, 1) := by decide +kernel
def wo9 (cI cZ cQ : ClassId) (h0 : Nat) (u : Nat → Nat) : va_W := [(h0, .inr (9, [.ref (u 0), .ref (u 1), .ref (u 2), .int 0, .int 511])), ((u 0), .inl (cI, 120, .inl (fun _ => 0))), ((u 1), .inl (cI, 12, .inl (fun _ => 0))), ((u 2), .inl (cI, 12, .inl (fun _ => 0)))]
set_option maxHeartbeats 8000000 in
set_option maxRecDepth 100000 in
theorem kX9_init (l : Launch) (D : va_G) (cI cZ cQ : ClassId) (h0 : Nat) (sz : Nat) : Met l yX9_init (Cond.code yX9_init cX9_init 1 none :: gtbl) ({ frames := 1, cells := 3, slots := 144, locals := 64 } : Room) (va_Pc [.ref h0] (fun U => U.heap.size = sz ∧ va_P D cls [(h0, .inr (9, [.null, .null, .null, .int 0, .int 0]))] U.heap ∧ va_K D cls (tyq cI cZ cQ) U ∧ va_D (fun _ => True) [(h0, .inr (9, [.null, .null, .null, .int 0, .int 0]))] ∧ nW U)) (va_Qv (fun _ : Nat → Nat => True) (fun u t => va_P D cls (wo9 cI cZ cQ h0 u) t.heap ∧ va_D (va_A [(h0, .inr (9, [.null, .null, .null, .int 0, .int 0]))] sz) (wo9 cI cZ cQ h0 u)) (va_A [(h0, .inr (9, [.null, .null, .null, .int 0, .int 0]))] sz)) 3 144 (va_A [(h0, .inr (9, [.null, .null, .null, .int 0, .int 0]))] sz) := by
  refine Met.ofW (cc := cX9_init) (maxL := 1) (ret := none) (by decide) rfl ?_
  intro p e s m args below meth c s₁ B hml hv
  obtain ⟨rfl, hsz, hP, hK, hD0, hN⟩ := hv
  have hx := B.exec
  have hb := B.bytes
  have hr := B.returns
  have hts0 := atoms_spec (ws := Cond.code yX9_init cX9_init 1 none :: gtbl) B.pre
  have hts : ∀ w ∈ gtbl, w.before ([.ref h0] : List Value).toArray s = true := fun w hw => hts0 w (List.mem_cons_of_mem _ hw)
  have hown : s.vm.findClass RX9 = some m.cls := findClass_of_methodNamed B.named
  have hlocks := B.notSynchronized
  have hin : meth.name = "<init>" := (name_of_methodNamed B.named B.method).1
  subst hsz
  have hD := hD0.self (sz := s.heap.size)
  generalize hAe : va_A [(h0, .inr (9, [.null, .null, .null, .int 0, .int 0]))] s.heap.size = A at hD ⊢
  have hA : ∀ q : Nat, s.heap.size ≤ q → A q := fun q h => by rw [← hAe]; exact Or.inr h
  have hS : va_S A s.heap s.heap [] := va_S.rf
  have hP : va_P D cls [(h0, .inr (9, [.null, .null, .null, .int 0, .int 0]))] s.heap := hP
  have hl := lv_entry ([.ref h0]) (n := 1) (Nat.le_of_ble_eq_true rfl)
  rw [lg_entry_eq]
  generalize (lg_sl ([.ref h0]) ++ List.replicate (1 - (lg_sl ([.ref h0])).length) Slot.unset).toArray = ls at hl ⊢
  have hl : lv_has ls 1 [(0, .ref h0)] := hl
  refine lv_aload_n hx hb dX9_init_0 rfl (lv_at hl 0 rfl) ?_
  refine W.objInit hx hb hown (hts _ (gt_has (i := 118) (w := .methodLink RX9 3 Lib.objectInit) (by decide +kernel))) (hts _ (gt_has (i := 91) (w := .instanceMethod Lib.objectInit) (by decide +kernel))) (hts _ (gt_has (i := 92) (w := .code Lib.objectInit object_method_1_code 1 none) (by decide +kernel))) rfl (by rw [hml]; exact hl.1) rfl dX9_init_1 (Nat.le_of_ble_eq_true rfl) (Nat.le_of_ble_eq_true rfl) ?_
  refine W.eq (g2 := F0 m 4 ls []) rfl ?_
  refine lv_aload_n hx hb dX9_init_4 rfl (lv_at hl 0 rfl) ?_
  refine lv_bipush (v := 120) hx hb dX9_init_5 (by decide) ?_
  refine w_newI (N' := 120) hx hb (hts _ (gt_has (i := 106) (w := .arrayClass .int) (by decide +kernel))) hK hP hD hS hA (by decide) (by decide +kernel) (Nat.le_of_ble_eq_true rfl) (Nat.le_of_ble_eq_true rfl) (Nat.le_of_ble_eq_true rfl) dX9_init_7 (fun q7 H hP hD hS => ?_)
  have hP : va_P D cls [(h0, .inr (9, [.null, .null, .null, .int 0, .int 0])), (q7, .inl (cI, 120, .inl (fun _ => 0)))] H := hP
  have hD : va_D A [(h0, .inr (9, [.null, .null, .null, .int 0, .int 0])), (q7, .inl (cI, 120, .inl (fun _ => 0)))] := hD
  refine W.widen (k := 1) (n := 120) (by omega) (by omega) ?_
  refine va_putF (D := D) (ci := 9) (v := .ref q7) (ty := (.array .int)) (C := RX9) (T := TX9) (N := 5) hx hb hts (cl_ok (RX9, TX9, 5) (List.mem_of_getElem? (i := 9) rfl)).1 tyX9 tyX9_ok nmX9 hown hK hP hD hS 0 rfl rfl 0 (by decide) (hts _ (gt_has (i := 119) (w := .fieldLink RX9 9 "ThirdLetter$WordList" "letters" "[I") (by decide +kernel))) (fun _ h9 => h9) rfl hin rfl (by decide +kernel) rfl rfl (Nat.le_of_ble_eq_true rfl) dX9_init_9 (fun H locs hP hD hS => ?_)
  have hP : va_P D cls [(h0, .inr (9, [.ref q7, .null, .null, .int 0, .int 0])), (q7, .inl (cI, 120, .inl (fun _ => 0)))] H := hP
  have hD : va_D A [(h0, .inr (9, [.ref q7, .null, .null, .int 0, .int 0])), (q7, .inl (cI, 120, .inl (fun _ => 0)))] := hD
  refine lv_aload_n hx hb dX9_init_12 rfl (lv_at hl 0 rfl) ?_
  refine lv_bipush (v := 12) hx hb dX9_init_13 (by decide) ?_
  refine w_newI (N' := 12) hx hb (hts _ (gt_has (i := 106) (w := .arrayClass .int) (by decide +kernel))) hK hP hD hS hA (by decide) (by decide +kernel) (Nat.le_of_ble_eq_true rfl) (Nat.le_of_ble_eq_true rfl) (Nat.le_of_ble_eq_true rfl) dX9_init_15 (fun q15 H hP hD hS => ?_)
  have hP : va_P D cls [(h0, .inr (9, [.ref q7, .null, .null, .int 0, .int 0])), (q7, .inl (cI, 120, .inl (fun _ => 0))), (q15, .inl (cI, 12, .inl (fun _ => 0)))] H := hP
  have hD : va_D A [(h0, .inr (9, [.ref q7, .null, .null, .int 0, .int 0])), (q7, .inl (cI, 120, .inl (fun _ => 0))), (q15, .inl (cI, 12, .inl (fun _ => 0)))] := hD
  refine W.widen (k := 2) (n := 132) (by omega) (by omega) ?_
  refine va_putF (D := D) (ci := 9) (v := .ref q15) (ty := (.array .int)) (C := RX9) (T := TX9) (N := 5) hx hb hts (cl_ok (RX9, TX9, 5) (List.mem_of_getElem? (i := 9) rfl)).1 tyX9 tyX9_ok nmX9 hown hK hP hD hS 0 rfl rfl 1 (by decide) (hts _ (gt_has (i := 120) (w := .fieldLink RX9 15 "ThirdLetter$WordList" "lengths" "[I") (by decide +kernel))) (fun _ h9 => h9) rfl hin rfl (by decide +kernel) rfl rfl (Nat.le_of_ble_eq_true rfl) dX9_init_17 (fun H locs hP hD hS => ?_)
  have hP : va_P D cls [(h0, .inr (9, [.ref q7, .ref q15, .null, .int 0, .int 0])), (q7, .inl (cI, 120, .inl (fun _ => 0))), (q15, .inl (cI, 12, .inl (fun _ => 0)))] H := hP
  have hD : va_D A [(h0, .inr (9, [.ref q7, .ref q15, .null, .int 0, .int 0])), (q7, .inl (cI, 120, .inl (fun _ => 0))), (q15, .inl (cI, 12, .inl (fun _ => 0)))] := hD
  refine lv_aload_n hx hb dX9_init_20 rfl (lv_at hl 0 rfl) ?_
  refine lv_bipush (v := 12) hx hb dX9_init_21 (by decide) ?_
  refine w_newI (N' := 12) hx hb (hts _ (gt_has (i := 106) (w := .arrayClass .int) (by decide +kernel))) hK hP hD hS hA (by decide) (by decide +kernel) (Nat.le_of_ble_eq_true rfl) (Nat.le_of_ble_eq_true rfl) (Nat.le_of_ble_eq_true rfl) dX9_init_23 (fun q23 H hP hD hS => ?_)
  have hP : va_P D cls [(h0, .inr (9, [.ref q7, .ref q15, .null, .int 0, .int 0])), (q7, .inl (cI, 120, .inl (fun _ => 0))), (q15, .inl (cI, 12, .inl (fun _ => 0))), (q23, .inl (cI, 12, .inl (fun _ => 0)))] H := hP
  have hD : va_D A [(h0, .inr (9, [.ref q7, .ref q15, .null, .int 0, .int 0])), (q7, .inl (cI, 120, .inl (fun _ => 0))), (q15, .inl (cI, 12, .inl (fun _ => 0))), (q23, .inl (cI, 12, .inl (fun _ => 0)))] := hD
  refine W.widen (k := 3) (n := 144) (by omega) (by omega) ?_
  refine va_putF (D := D) (ci := 9) (v := .ref q23) (ty := (.array .int)) (C := RX9) (T := TX9) (N := 5) hx hb hts (cl_ok (RX9, TX9, 5) (List.mem_of_getElem? (i := 9) rfl)).1 tyX9 tyX9_ok nmX9 hown hK hP hD hS 0 rfl rfl 2 (by decide) (hts _ (gt_has (i := 121) (w := .fieldLink RX9 18 "ThirdLetter$WordList" "sorts" "[I") (by decide +kernel))) (fun _ h9 => h9) rfl hin rfl (by decide +kernel) rfl rfl (Nat.le_of_ble_eq_true rfl) dX9_init_25 (fun H locs hP hD hS => ?_)
  have hP : va_P D cls [(h0, .inr (9, [.ref q7, .ref q15, .ref q23, .int 0, .int 0])), (q7, .inl (cI, 120, .inl (fun _ => 0))), (q15, .inl (cI, 12, .inl (fun _ => 0))), (q23, .inl (cI, 12, .inl (fun _ => 0)))] H := hP
  have hD : va_D A [(h0, .inr (9, [.ref q7, .ref q15, .ref q23, .int 0, .int 0])), (q7, .inl (cI, 120, .inl (fun _ => 0))), (q15, .inl (cI, 12, .inl (fun _ => 0))), (q23, .inl (cI, 12, .inl (fun _ => 0)))] := hD
  refine lv_aload_n hx hb dX9_init_28 rfl (lv_at hl 0 rfl) ?_
  refine lv_sipush (v := 511) hx hb dX9_init_29 (by decide) ?_
  refine va_put (D := D) (ci := 9) (v := .int 511) (ty := .int) (C := RX9) (T := TX9) (N := 5) hx hb hts (cl_ok (RX9, TX9, 5) (List.mem_of_getElem? (i := 9) rfl)).1 tyX9 tyX9_ok nmX9 hown hK hP hD hS 0 rfl rfl 4 (by decide) (hts _ (gt_has (i := 123) (w := .fieldLink RX9 21 "ThirdLetter$WordList" "follow" "I") (by decide +kernel))) (fun _ h9 => h9) rfl (by decide +kernel) rfl rfl (Nat.le_of_ble_eq_true rfl) dX9_init_32 (fun H locs hP hD hS => ?_)
  have hP : va_P D cls [(h0, .inr (9, [.ref q7, .ref q15, .ref q23, .int 0, .int 511])), (q7, .inl (cI, 120, .inl (fun _ => 0))), (q15, .inl (cI, 12, .inl (fun _ => 0))), (q23, .inl (cI, 12, .inl (fun _ => 0)))] H := hP
  have hD : va_D A [(h0, .inr (9, [.ref q7, .ref q15, .ref q23, .int 0, .int 511])), (q7, .inl (cI, 120, .inl (fun _ => 0))), (q15, .inl (cI, 12, .inl (fun _ => 0))), (q23, .inl (cI, 12, .inl (fun _ => 0)))] := hD
  refine W.widen (k := 3) (n := 144) (by omega) (by omega) ?_
  exact W.vret hx hb hr (fun t ht hW => ⟨⟨fun j => ([q7, q15, q23] : List Nat).getD j 0, rfl, trivial, by rw [ht]; exact hP, hD⟩, hS.F ht⟩) hS.2.2 dX9_init_35
theorem dX4_init_0 : decode cX4_init 0 = .ok (.aload_n 0, 1) := by decide +kernel
theorem dX4_init_1 : decode cX4_init 1 = .ok (.invokespecial 3, 3) := by decide +kernel
theorem dX4_init_4 : decode cX4_init 4 = .ok (.aload_n 0, 1) := by decide +kernel
theorem dX4_init_5 : decode cX4_init 5 = .ok (.sipush 200, 3) := by decide +kernel
theorem dX4_init_8 : decode cX4_init 8 = .ok (.newarray .int, 2) := by decide +kernel
theorem dX4_init_10 : decode cX4_init 10 = .ok (.putfield 9, 3) := by decide +kernel
theorem dX4_init_13 : decode cX4_init 13 = .ok (.return_, 1) := by decide +kernel
def wo4 (cI cZ cQ : ClassId) (h0 : Nat) (u : Nat → Nat) : va_W := [(h0, .inr (4, [.ref (u 0), .int 0])), ((u 0), .inl (cI, 200, .inl (fun _ => 0)))]
set_option maxHeartbeats 8000000 in
set_option maxRecDepth 100000 in
theorem kX4_init (l : Launch) (D : va_G) (cI cZ cQ : ClassId) (h0 : Nat) (sz : Nat) : Met l yX4_init (Cond.code yX4_init cX4_init 1 none :: gtbl) ({ frames := 1, cells := 1, slots := 200, locals := 64 } : Room) (va_Pc [.ref h0] (fun U => U.heap.size = sz ∧ va_P D cls [(h0, .inr (4, [.null, .int 0]))] U.heap ∧ va_K D cls (tyq cI cZ cQ) U ∧ va_D (fun _ => True) [(h0, .inr (4, [.null, .int 0]))] ∧ nW U)) (va_Qv (fun _ : Nat → Nat => True) (fun u t => va_P D cls (wo4 cI cZ cQ h0 u) t.heap ∧ va_D (va_A [(h0, .inr (4, [.null, .int 0]))] sz) (wo4 cI cZ cQ h0 u)) (va_A [(h0, .inr (4, [.null, .int 0]))] sz)) 1 200 (va_A [(h0, .inr (4, [.null, .int 0]))] sz) := by
  refine Met.ofW (cc := cX4_init) (maxL := 1) (ret := none) (by decide) rfl ?_
  intro p e s m args below meth c s₁ B hml hv
  obtain ⟨rfl, hsz, hP, hK, hD0, hN⟩ := hv
  have hx := B.exec
  have hb := B.bytes
  have hr := B.returns
  have hts0 := atoms_spec (ws := Cond.code yX4_init cX4_init 1 none :: gtbl) B.pre
  have hts : ∀ w ∈ gtbl, w.before ([.ref h0] : List Value).toArray s = true := fun w hw => hts0 w (List.mem_cons_of_mem _ hw)
  have hown : s.vm.findClass RX4 = some m.cls := findClass_of_methodNamed B.named
  have hlocks := B.notSynchronized
  have hin : meth.name = "<init>" := (name_of_methodNamed B.named B.method).1
  subst hsz
  have hD := hD0.self (sz := s.heap.size)
  generalize hAe : va_A [(h0, .inr (4, [.null, .int 0]))] s.heap.size = A at hD ⊢
  have hA : ∀ q : Nat, s.heap.size ≤ q → A q := fun q h => by rw [← hAe]; exact Or.inr h
  have hS : va_S A s.heap s.heap [] := va_S.rf
  have hP : va_P D cls [(h0, .inr (4, [.null, .int 0]))] s.heap := hP
  have hl := lv_entry ([.ref h0]) (n := 1) (Nat.le_of_ble_eq_true rfl)
  rw [lg_entry_eq]
  generalize (lg_sl ([.ref h0]) ++ List.replicate (1 - (lg_sl ([.ref h0])).length) Slot.unset).toArray = ls at hl ⊢
  have hl : lv_has ls 1 [(0, .ref h0)] := hl
  refine lv_aload_n hx hb dX4_init_0 rfl (lv_at hl 0 rfl) ?_
  refine W.objInit hx hb hown (hts _ (gt_has (i := 98) (w := .methodLink RX4 3 Lib.objectInit) (by decide +kernel))) (hts _ (gt_has (i := 91) (w := .instanceMethod Lib.objectInit) (by decide +kernel))) (hts _ (gt_has (i := 92) (w := .code Lib.objectInit object_method_1_code 1 none) (by decide +kernel))) rfl (by rw [hml]; exact hl.1) rfl dX4_init_1 (Nat.le_of_ble_eq_true rfl) (Nat.le_of_ble_eq_true rfl) ?_
  refine W.eq (g2 := F0 m 4 ls []) rfl ?_
  refine lv_aload_n hx hb dX4_init_4 rfl (lv_at hl 0 rfl) ?_
  refine lv_sipush (v := 200) hx hb dX4_init_5 (by decide) ?_
  refine w_newI (N' := 200) hx hb (hts _ (gt_has (i := 106) (w := .arrayClass .int) (by decide +kernel))) hK hP hD hS hA (by decide) (by decide +kernel) (Nat.le_of_ble_eq_true rfl) (Nat.le_of_ble_eq_true rfl) (Nat.le_of_ble_eq_true rfl) dX4_init_8 (fun q8 H hP hD hS => ?_)
  have hP : va_P D cls [(h0, .inr (4, [.null, .int 0])), (q8, .inl (cI, 200, .inl (fun _ => 0)))] H := hP
  have hD : va_D A [(h0, .inr (4, [.null, .int 0])), (q8, .inl (cI, 200, .inl (fun _ => 0)))] := hD
  refine W.widen (k := 1) (n := 200) (by omega) (by omega) ?_
  refine va_putF (D := D) (ci := 4) (v := .ref q8) (ty := (.array .int)) (C := RX4) (T := TX4) (N := 2) hx hb hts (cl_ok (RX4, TX4, 2) (List.mem_of_getElem? (i := 4) rfl)).1 tyX4 tyX4_ok nmX4 hown hK hP hD hS 0 rfl rfl 0 (by decide) (hts _ (gt_has (i := 99) (w := .fieldLink RX4 9 "ThirdLetter$Script" "bytes" "[I") (by decide +kernel))) (fun _ h9 => h9) rfl hin rfl (by decide +kernel) rfl rfl (Nat.le_of_ble_eq_true rfl) dX4_init_10 (fun H locs hP hD hS => ?_)
  have hP : va_P D cls [(h0, .inr (4, [.ref q8, .int 0])), (q8, .inl (cI, 200, .inl (fun _ => 0)))] H := hP
  have hD : va_D A [(h0, .inr (4, [.ref q8, .int 0])), (q8, .inl (cI, 200, .inl (fun _ => 0)))] := hD
  refine W.widen (k := 1) (n := 200) (by omega) (by omega) ?_
  exact W.vret hx hb hr (fun t ht hW => ⟨⟨fun j => ([q8] : List Nat).getD j 0, rfl, trivial, by rw [ht]; exact hP, hD⟩, hS.F ht⟩) hS.2.2 dX4_init_13
theorem dX6_init_0 : decode cX6_init 0 = .ok (.aload_n 0, 1) := by decide +kernel
theorem dX6_init_1 : decode cX6_init 1 = .ok (.invokespecial 3, 3) := by decide +kernel
theorem dX6_init_4 : decode cX6_init 4 = .ok (.aload_n 0, 1) := by decide +kernel
theorem dX6_init_5 : decode cX6_init 5 = .ok (.bipush 60, 2) := by decide +kernel
theorem dX6_init_7 : decode cX6_init 7 = .ok (.newarray .int, 2) := by decide +kernel
theorem dX6_init_9 : decode cX6_init 9 = .ok (.putfield 9, 3) := by decide +kernel
theorem dX6_init_12 : decode cX6_init 12 = .ok (.aload_n 0, 1) := by decide +kernel
theorem dX6_init_13 : decode cX6_init 13 = .ok (.iconst (-1), 1) := by decide +kernel
theorem dX6_init_14 : decode cX6_init 14 = .ok (.putfield 15, 3) := by decide +kernel
theorem dX6_init_17 : decode cX6_init 17 = .ok (.return_, 1) := by decide +kernel
def wo6 (cI cZ cQ : ClassId) (h0 : Nat) (u : Nat → Nat) : va_W := [(h0, .inr (6, [.ref (u 0), .int 0, .int 0, .int (-1), .int 0])), ((u 0), .inl (cI, 60, .inl (fun _ => 0)))]
set_option maxHeartbeats 8000000 in
set_option maxRecDepth 100000 in
theorem kX6_init (l : Launch) (D : va_G) (cI cZ cQ : ClassId) (h0 : Nat) (sz : Nat) : Met l yX6_init (Cond.code yX6_init cX6_init 1 none :: gtbl) ({ frames := 1, cells := 1, slots := 60, locals := 64 } : Room) (va_Pc [.ref h0] (fun U => U.heap.size = sz ∧ va_P D cls [(h0, .inr (6, [.null, .int 0, .int 0, .int 0, .int 0]))] U.heap ∧ va_K D cls (tyq cI cZ cQ) U ∧ va_D (fun _ => True) [(h0, .inr (6, [.null, .int 0, .int 0, .int 0, .int 0]))] ∧ nW U)) (va_Qv (fun _ : Nat → Nat => True) (fun u t => va_P D cls (wo6 cI cZ cQ h0 u) t.heap ∧ va_D (va_A [(h0, .inr (6, [.null, .int 0, .int 0, .int 0, .int 0]))] sz) (wo6 cI cZ cQ h0 u)) (va_A [(h0, .inr (6, [.null, .int 0, .int 0, .int 0, .int 0]))] sz)) 1 60 (va_A [(h0, .inr (6, [.null, .int 0, .int 0, .int 0, .int 0]))] sz) := by
  refine Met.ofW (cc := cX6_init) (maxL := 1) (ret := none) (by decide) rfl ?_
  intro p e s m args below meth c s₁ B hml hv
  obtain ⟨rfl, hsz, hP, hK, hD0, hN⟩ := hv
  have hx := B.exec
  have hb := B.bytes
  have hr := B.returns
  have hts0 := atoms_spec (ws := Cond.code yX6_init cX6_init 1 none :: gtbl) B.pre
  have hts : ∀ w ∈ gtbl, w.before ([.ref h0] : List Value).toArray s = true := fun w hw => hts0 w (List.mem_cons_of_mem _ hw)
  have hown : s.vm.findClass RX6 = some m.cls := findClass_of_methodNamed B.named
  have hlocks := B.notSynchronized
  have hin : meth.name = "<init>" := (name_of_methodNamed B.named B.method).1
  subst hsz
  have hD := hD0.self (sz := s.heap.size)
  generalize hAe : va_A [(h0, .inr (6, [.null, .int 0, .int 0, .int 0, .int 0]))] s.heap.size = A at hD ⊢
  have hA : ∀ q : Nat, s.heap.size ≤ q → A q := fun q h => by rw [← hAe]; exact Or.inr h
  have hS : va_S A s.heap s.heap [] := va_S.rf
  have hP : va_P D cls [(h0, .inr (6, [.null, .int 0, .int 0, .int 0, .int 0]))] s.heap := hP
  have hl := lv_entry ([.ref h0]) (n := 1) (Nat.le_of_ble_eq_true rfl)
  rw [lg_entry_eq]
  generalize (lg_sl ([.ref h0]) ++ List.replicate (1 - (lg_sl ([.ref h0])).length) Slot.unset).toArray = ls at hl ⊢
  have hl : lv_has ls 1 [(0, .ref h0)] := hl
  refine lv_aload_n hx hb dX6_init_0 rfl (lv_at hl 0 rfl) ?_
  refine W.objInit hx hb hown (hts _ (gt_has (i := 196) (w := .methodLink RX6 3 Lib.objectInit) (by decide +kernel))) (hts _ (gt_has (i := 91) (w := .instanceMethod Lib.objectInit) (by decide +kernel))) (hts _ (gt_has (i := 92) (w := .code Lib.objectInit object_method_1_code 1 none) (by decide +kernel))) rfl (by rw [hml]; exact hl.1) rfl dX6_init_1 (Nat.le_of_ble_eq_true rfl) (Nat.le_of_ble_eq_true rfl) ?_
  refine W.eq (g2 := F0 m 4 ls []) rfl ?_
  refine lv_aload_n hx hb dX6_init_4 rfl (lv_at hl 0 rfl) ?_
  refine lv_bipush (v := 60) hx hb dX6_init_5 (by decide) ?_
  refine w_newI (N' := 60) hx hb (hts _ (gt_has (i := 106) (w := .arrayClass .int) (by decide +kernel))) hK hP hD hS hA (by decide) (by decide +kernel) (Nat.le_of_ble_eq_true rfl) (Nat.le_of_ble_eq_true rfl) (Nat.le_of_ble_eq_true rfl) dX6_init_7 (fun q7 H hP hD hS => ?_)
  have hP : va_P D cls [(h0, .inr (6, [.null, .int 0, .int 0, .int 0, .int 0])), (q7, .inl (cI, 60, .inl (fun _ => 0)))] H := hP
  have hD : va_D A [(h0, .inr (6, [.null, .int 0, .int 0, .int 0, .int 0])), (q7, .inl (cI, 60, .inl (fun _ => 0)))] := hD
  refine W.widen (k := 1) (n := 60) (by omega) (by omega) ?_
  refine va_putF (D := D) (ci := 6) (v := .ref q7) (ty := (.array .int)) (C := RX6) (T := TX6) (N := 5) hx hb hts (cl_ok (RX6, TX6, 5) (List.mem_of_getElem? (i := 6) rfl)).1 tyX6 tyX6_ok nmX6 hown hK hP hD hS 0 rfl rfl 0 (by decide) (hts _ (gt_has (i := 197) (w := .fieldLink RX6 9 "ThirdLetter$Sermon" "letters" "[I") (by decide +kernel))) (fun _ h9 => h9) rfl hin rfl (by decide +kernel) rfl rfl (Nat.le_of_ble_eq_true rfl) dX6_init_9 (fun H locs hP hD hS => ?_)
  have hP : va_P D cls [(h0, .inr (6, [.ref q7, .int 0, .int 0, .int 0, .int 0])), (q7, .inl (cI, 60, .inl (fun _ => 0)))] H := hP
  have hD : va_D A [(h0, .inr (6, [.ref q7, .int 0, .int 0, .int 0, .int 0])), (q7, .inl (cI, 60, .inl (fun _ => 0)))] := hD
  refine lv_aload_n hx hb dX6_init_12 rfl (lv_at hl 0 rfl) ?_
  refine lv_iconst (v := (-1)) hx hb dX6_init_13 (by decide) ?_
  refine va_put (D := D) (ci := 6) (v := .int (-1)) (ty := .int) (C := RX6) (T := TX6) (N := 5) hx hb hts (cl_ok (RX6, TX6, 5) (List.mem_of_getElem? (i := 6) rfl)).1 tyX6 tyX6_ok nmX6 hown hK hP hD hS 0 rfl rfl 3 (by decide) (hts _ (gt_has (i := 200) (w := .fieldLink RX6 15 "ThirdLetter$Sermon" "lastWord" "I") (by decide +kernel))) (fun _ h9 => h9) rfl (by decide +kernel) rfl rfl (Nat.le_of_ble_eq_true rfl) dX6_init_14 (fun H locs hP hD hS => ?_)
  have hP : va_P D cls [(h0, .inr (6, [.ref q7, .int 0, .int 0, .int (-1), .int 0])), (q7, .inl (cI, 60, .inl (fun _ => 0)))] H := hP
  have hD : va_D A [(h0, .inr (6, [.ref q7, .int 0, .int 0, .int (-1), .int 0])), (q7, .inl (cI, 60, .inl (fun _ => 0)))] := hD
  refine W.widen (k := 1) (n := 60) (by omega) (by omega) ?_
  exact W.vret hx hb hr (fun t ht hW => ⟨⟨fun j => ([q7] : List Nat).getD j 0, rfl, trivial, by rw [ht]; exact hP, hD⟩, hS.F ht⟩) hS.2.2 dX6_init_17
theorem dX7_init_0 : decode cX7_init 0 = .ok (.aload_n 0, 1) := by decide +kernel
theorem dX7_init_1 : decode cX7_init 1 = .ok (.invokespecial 3, 3) := by decide +kernel
theorem dX7_init_4 : decode cX7_init 4 = .ok (.aload_n 0, 1) := by decide +kernel
theorem dX7_init_5 : decode cX7_init 5 = .ok (.bipush 60, 2) := by decide +kernel
theorem dX7_init_7 : decode cX7_init 7 = .ok (.newarray .int, 2) := by decide +kernel
theorem dX7_init_9 : decode cX7_init 9 = .ok (.putfield 9, 3) := by decide +kernel
theorem dX7_init_12 : decode cX7_init 12 = .ok (.return_, 1) := by decide +kernel
def wo7 (cI cZ cQ : ClassId) (h0 : Nat) (u : Nat → Nat) : va_W := [(h0, .inr (7, [.ref (u 0), .int 0])), ((u 0), .inl (cI, 60, .inl (fun _ => 0)))]
set_option maxHeartbeats 8000000 in
set_option maxRecDepth 100000 in
theorem kX7_init (l : Launch) (D : va_G) (cI cZ cQ : ClassId) (h0 : Nat) (sz : Nat) : Met l yX7_init (Cond.code yX7_init cX7_init 1 none :: gtbl) ({ frames := 1, cells := 1, slots := 60, locals := 64 } : Room) (va_Pc [.ref h0] (fun U => U.heap.size = sz ∧ va_P D cls [(h0, .inr (7, [.null, .int 0]))] U.heap ∧ va_K D cls (tyq cI cZ cQ) U ∧ va_D (fun _ => True) [(h0, .inr (7, [.null, .int 0]))] ∧ nW U)) (va_Qv (fun _ : Nat → Nat => True) (fun u t => va_P D cls (wo7 cI cZ cQ h0 u) t.heap ∧ va_D (va_A [(h0, .inr (7, [.null, .int 0]))] sz) (wo7 cI cZ cQ h0 u)) (va_A [(h0, .inr (7, [.null, .int 0]))] sz)) 1 60 (va_A [(h0, .inr (7, [.null, .int 0]))] sz) := by
  refine Met.ofW (cc := cX7_init) (maxL := 1) (ret := none) (by decide) rfl ?_
  intro p e s m args below meth c s₁ B hml hv
  obtain ⟨rfl, hsz, hP, hK, hD0, hN⟩ := hv
  have hx := B.exec
  have hb := B.bytes
  have hr := B.returns
  have hts0 := atoms_spec (ws := Cond.code yX7_init cX7_init 1 none :: gtbl) B.pre
  have hts : ∀ w ∈ gtbl, w.before ([.ref h0] : List Value).toArray s = true := fun w hw => hts0 w (List.mem_cons_of_mem _ hw)
  have hown : s.vm.findClass RX7 = some m.cls := findClass_of_methodNamed B.named
  have hlocks := B.notSynchronized
  have hin : meth.name = "<init>" := (name_of_methodNamed B.named B.method).1
  subst hsz
  have hD := hD0.self (sz := s.heap.size)
  generalize hAe : va_A [(h0, .inr (7, [.null, .int 0]))] s.heap.size = A at hD ⊢
  have hA : ∀ q : Nat, s.heap.size ≤ q → A q := fun q h => by rw [← hAe]; exact Or.inr h
  have hS : va_S A s.heap s.heap [] := va_S.rf
  have hP : va_P D cls [(h0, .inr (7, [.null, .int 0]))] s.heap := hP
  have hl := lv_entry ([.ref h0]) (n := 1) (Nat.le_of_ble_eq_true rfl)
  rw [lg_entry_eq]
  generalize (lg_sl ([.ref h0]) ++ List.replicate (1 - (lg_sl ([.ref h0])).length) Slot.unset).toArray = ls at hl ⊢
  have hl : lv_has ls 1 [(0, .ref h0)] := hl
  refine lv_aload_n hx hb dX7_init_0 rfl (lv_at hl 0 rfl) ?_
  refine W.objInit hx hb hown (hts _ (gt_has (i := 218) (w := .methodLink RX7 3 Lib.objectInit) (by decide +kernel))) (hts _ (gt_has (i := 91) (w := .instanceMethod Lib.objectInit) (by decide +kernel))) (hts _ (gt_has (i := 92) (w := .code Lib.objectInit object_method_1_code 1 none) (by decide +kernel))) rfl (by rw [hml]; exact hl.1) rfl dX7_init_1 (Nat.le_of_ble_eq_true rfl) (Nat.le_of_ble_eq_true rfl) ?_
  refine W.eq (g2 := F0 m 4 ls []) rfl ?_
  refine lv_aload_n hx hb dX7_init_4 rfl (lv_at hl 0 rfl) ?_
  refine lv_bipush (v := 60) hx hb dX7_init_5 (by decide) ?_
  refine w_newI (N' := 60) hx hb (hts _ (gt_has (i := 106) (w := .arrayClass .int) (by decide +kernel))) hK hP hD hS hA (by decide) (by decide +kernel) (Nat.le_of_ble_eq_true rfl) (Nat.le_of_ble_eq_true rfl) (Nat.le_of_ble_eq_true rfl) dX7_init_7 (fun q7 H hP hD hS => ?_)
  have hP : va_P D cls [(h0, .inr (7, [.null, .int 0])), (q7, .inl (cI, 60, .inl (fun _ => 0)))] H := hP
  have hD : va_D A [(h0, .inr (7, [.null, .int 0])), (q7, .inl (cI, 60, .inl (fun _ => 0)))] := hD
  refine W.widen (k := 1) (n := 60) (by omega) (by omega) ?_
  refine va_putF (D := D) (ci := 7) (v := .ref q7) (ty := (.array .int)) (C := RX7) (T := TX7) (N := 2) hx hb hts (cl_ok (RX7, TX7, 2) (List.mem_of_getElem? (i := 7) rfl)).1 tyX7 tyX7_ok nmX7 hown hK hP hD hS 0 rfl rfl 0 (by decide) (hts _ (gt_has (i := 219) (w := .fieldLink RX7 9 "ThirdLetter$Sound" "letters" "[I") (by decide +kernel))) (fun _ h9 => h9) rfl hin rfl (by decide +kernel) rfl rfl (Nat.le_of_ble_eq_true rfl) dX7_init_9 (fun H locs hP hD hS => ?_)
  have hP : va_P D cls [(h0, .inr (7, [.ref q7, .int 0])), (q7, .inl (cI, 60, .inl (fun _ => 0)))] H := hP
  have hD : va_D A [(h0, .inr (7, [.ref q7, .int 0])), (q7, .inl (cI, 60, .inl (fun _ => 0)))] := hD
  refine W.widen (k := 1) (n := 60) (by omega) (by omega) ?_
  exact W.vret hx hb hr (fun t ht hW => ⟨⟨fun j => ([q7] : List Nat).getD j 0, rfl, trivial, by rw [ht]; exact hP, hD⟩, hS.F ht⟩) hS.2.2 dX7_init_12
theorem dX3_init_0 : decode cX3_init 0 = .ok (.aload_n 0, 1) := by decide +kernel
theorem dX3_init_1 : decode cX3_init 1 = .ok (.invokespecial 3, 3) := by decide +kernel
theorem dX3_init_4 : decode cX3_init 4 = .ok (.aload_n 0, 1) := by decide +kernel
theorem dX3_init_5 : decode cX3_init 5 = .ok (.aload_n 1, 1) := by decide +kernel
theorem dX3_init_6 : decode cX3_init 6 = .ok (.putfield 9, 3) := by decide +kernel
theorem dX3_init_9 : decode cX3_init 9 = .ok (.aload_n 0, 1) := by decide +kernel
theorem dX3_init_10 : decode cX3_init 10 = .ok (.aload_n 2, 1) := by decide +kernel
theorem dX3_init_11 : decode cX3_init 11 = .ok (.putfield 15, 3) := by decide +kernel
theorem dX3_init_14 : decode cX3_init 14 = .ok (.return_, 1) := by decide +kernel
def wo3 (cI cZ cQ : ClassId) (h0 : Nat) (x1 : Nat) (x2 : Nat) (u : Nat → Nat) : va_W := [(h0, .inr (3, [.ref x1, .ref x2, .int 0, .int 0, .int 0]))]
set_option maxHeartbeats 8000000 in
set_option maxRecDepth 100000 in
theorem kX3_init (l : Launch) (D : va_G) (cI cZ cQ : ClassId) (h0 : Nat) (x1 : Nat) (x2 : Nat) (sz : Nat) : Met l yX3_init (Cond.code yX3_init cX3_init 3 none :: gtbl) ({ frames := 1, cells := 0, slots := 0, locals := 64 } : Room) (va_Pc [.ref h0, .ref x1, .ref x2] (fun U => U.heap.size = sz ∧ va_P D cls [(h0, .inr (3, [.null, .null, .int 0, .int 0, .int 0]))] U.heap ∧ va_K D cls (tyq cI cZ cQ) U ∧ va_D (fun _ => True) [(h0, .inr (3, [.null, .null, .int 0, .int 0, .int 0]))] ∧ nW U)) (va_Qv (fun _ : Nat → Nat => True) (fun u t => va_P D cls (wo3 cI cZ cQ h0 x1 x2 u) t.heap ∧ va_D (va_A [(h0, .inr (3, [.null, .null, .int 0, .int 0, .int 0]))] sz) (wo3 cI cZ cQ h0 x1 x2 u)) (va_A [(h0, .inr (3, [.null, .null, .int 0, .int 0, .int 0]))] sz)) 0 0 (va_A [(h0, .inr (3, [.null, .null, .int 0, .int 0, .int 0]))] sz) := by
  refine Met.ofW (cc := cX3_init) (maxL := 3) (ret := none) (by decide) rfl ?_
  intro p e s m args below meth c s₁ B hml hv
  obtain ⟨rfl, hsz, hP, hK, hD0, hN⟩ := hv
  have hx := B.exec
  have hb := B.bytes
  have hr := B.returns
  have hts0 := atoms_spec (ws := Cond.code yX3_init cX3_init 3 none :: gtbl) B.pre
  have hts : ∀ w ∈ gtbl, w.before ([.ref h0, .ref x1, .ref x2] : List Value).toArray s = true := fun w hw => hts0 w (List.mem_cons_of_mem _ hw)
  have hown : s.vm.findClass RX3 = some m.cls := findClass_of_methodNamed B.named
  have hlocks := B.notSynchronized
  have hin : meth.name = "<init>" := (name_of_methodNamed B.named B.method).1
  subst hsz
  have hD := hD0.self (sz := s.heap.size)
  generalize hAe : va_A [(h0, .inr (3, [.null, .null, .int 0, .int 0, .int 0]))] s.heap.size = A at hD ⊢
  have hA : ∀ q : Nat, s.heap.size ≤ q → A q := fun q h => by rw [← hAe]; exact Or.inr h
  have hS : va_S A s.heap s.heap [] := va_S.rf
  have hP : va_P D cls [(h0, .inr (3, [.null, .null, .int 0, .int 0, .int 0]))] s.heap := hP
  have hl := lv_entry ([.ref h0, .ref x1, .ref x2]) (n := 3) (Nat.le_of_ble_eq_true rfl)
  rw [lg_entry_eq]
  generalize (lg_sl ([.ref h0, .ref x1, .ref x2]) ++ List.replicate (3 - (lg_sl ([.ref h0, .ref x1, .ref x2])).length) Slot.unset).toArray = ls at hl ⊢
  have hl : lv_has ls 3 [(0, .ref h0), (1, .ref x1), (2, .ref x2)] := hl
  refine lv_aload_n hx hb dX3_init_0 rfl (lv_at hl 0 rfl) ?_
  refine W.objInit hx hb hown (hts _ (gt_has (i := 174) (w := .methodLink RX3 3 Lib.objectInit) (by decide +kernel))) (hts _ (gt_has (i := 91) (w := .instanceMethod Lib.objectInit) (by decide +kernel))) (hts _ (gt_has (i := 92) (w := .code Lib.objectInit object_method_1_code 1 none) (by decide +kernel))) rfl (by rw [hml]; exact hl.1) rfl dX3_init_1 (Nat.le_of_ble_eq_true rfl) (Nat.le_of_ble_eq_true rfl) ?_
  refine W.eq (g2 := F0 m 4 ls []) rfl ?_
  refine lv_aload_n hx hb dX3_init_4 rfl (lv_at hl 0 rfl) ?_
  refine lv_aload_n hx hb dX3_init_5 rfl (lv_at hl 1 rfl) ?_
  refine va_putF (D := D) (ci := 3) (v := .ref x1) (ty := (.object "ThirdLetter$Script")) (C := RX3) (T := TX3) (N := 5) hx hb hts (cl_ok (RX3, TX3, 5) (List.mem_of_getElem? (i := 3) rfl)).1 tyX3 tyX3_ok nmX3 hown hK hP hD hS 0 rfl rfl 0 (by decide) (hts _ (gt_has (i := 175) (w := .fieldLink RX3 9 "ThirdLetter$Reader" "script" "LThirdLetter$Script;") (by decide +kernel))) (fun _ h9 => h9) rfl hin rfl (by decide +kernel) rfl rfl (Nat.le_of_ble_eq_true rfl) dX3_init_6 (fun H locs hP hD hS => ?_)
  have hP : va_P D cls [(h0, .inr (3, [.ref x1, .null, .int 0, .int 0, .int 0]))] H := hP
  have hD : va_D A [(h0, .inr (3, [.ref x1, .null, .int 0, .int 0, .int 0]))] := hD
  refine lv_aload_n hx hb dX3_init_9 rfl (lv_at hl 0 rfl) ?_
  refine lv_aload_n hx hb dX3_init_10 rfl (lv_at hl 2 rfl) ?_
  refine va_putF (D := D) (ci := 3) (v := .ref x2) (ty := (.object "ThirdLetter$Told")) (C := RX3) (T := TX3) (N := 5) hx hb hts (cl_ok (RX3, TX3, 5) (List.mem_of_getElem? (i := 3) rfl)).1 tyX3 tyX3_ok nmX3 hown hK hP hD hS 0 rfl rfl 1 (by decide) (hts _ (gt_has (i := 176) (w := .fieldLink RX3 15 "ThirdLetter$Reader" "draft" "LThirdLetter$Told;") (by decide +kernel))) (fun _ h9 => h9) rfl hin rfl (by decide +kernel) rfl rfl (Nat.le_of_ble_eq_true rfl) dX3_init_11 (fun H locs hP hD hS => ?_)
  have hP : va_P D cls [(h0, .inr (3, [.ref x1, .ref x2, .int 0, .int 0, .int 0]))] H := hP
  have hD : va_D A [(h0, .inr (3, [.ref x1, .ref x2, .int 0, .int 0, .int 0]))] := hD
  refine W.widen (k := 0) (n := 0) (by omega) (by omega) ?_
  exact W.vret hx hb hr (fun t ht hW => ⟨⟨fun j => ([] : List Nat).getD j 0, rfl, trivial, by rw [ht]; exact hP, hD⟩, hS.F ht⟩) hS.2.2 dX3_init_14
theorem dX1_init_0 : decode cX1_init 0 = .ok (.aload_n 0, 1) := by decide +kernel
theorem dX1_init_1 : decode cX1_init 1 = .ok (.invokespecial 3, 3) := by decide +kernel
theorem dX1_init_4 : decode cX1_init 4 = .ok (.aload_n 0, 1) := by decide +kernel
theorem dX1_init_5 : decode cX1_init 5 = .ok (.bipush 61, 2) := by decide +kernel
theorem dX1_init_7 : decode cX1_init 7 = .ok (.newarray .int, 2) := by decide +kernel
theorem dX1_init_9 : decode cX1_init 9 = .ok (.putfield 9, 3) := by decide +kernel
theorem dX1_init_12 : decode cX1_init 12 = .ok (.aload_n 0, 1) := by decide +kernel
theorem dX1_init_13 : decode cX1_init 13 = .ok (.iconst 4, 1) := by decide +kernel
theorem dX1_init_14 : decode cX1_init 14 = .ok (.newarray .int, 2) := by decide +kernel
theorem dX1_init_16 : decode cX1_init 16 = .ok (.putfield 15, 3) := by decide +kernel
theorem dX1_init_19 : decode cX1_init 19 = .ok (.aload_n 0, 1) := by decide +kernel
theorem dX1_init_20 : decode cX1_init 20 = .ok (.bipush 7, 2) := by decide +kernel
theorem dX1_init_22 : decode cX1_init 22 = .ok (.bipush 61, 2) := by decide +kernel
theorem dX1_init_24 : decode cX1_init 24 = .ok (.multianewarray 18 2, 4) := by decide +kernel
theorem dX1_init_28 : decode cX1_init 28 = .ok (.putfield 20, 3) := by decide +kernel
theorem dX1_init_31 : decode cX1_init 31 = .ok (.aload_n 0, 1) := by decide +kernel
theorem dX1_init_32 : decode cX1_init 32 = .ok (.bipush 7, 2) := by decide +kernel
theorem dX1_init_34 : decode cX1_init 34 = .ok (.sipush 244, 3) := by decide +kernel
theorem dX1_init_37 : decode cX1_init 37 = .ok (.multianewarray 18 2, 4) := by decide +kernel
theorem dX1_init_41 : decode cX1_init 41 = .ok (.putfield 23, 3) := by decide +kernel
theorem dX1_init_44 : decode cX1_init 44 = .ok (.aload_n 0, 1) := by decide +kernel
theorem dX1_init_45 : decode cX1_init 45 = .ok (.aload_n 1, 1) := by decide +kernel
theorem dX1_init_46 : decode cX1_init 46 = .ok (.putfield 26, 3) := by decide +kernel
theorem dX1_init_49 : decode cX1_init 49 = .ok (.aload_n 0, 1) := by decide +kernel
theorem dX1_init_50 : decode cX1_init 50 = .ok (.aload_n 2, 1) := by decide +kernel
theorem dX1_init_51 : decode cX1_init 51 = .ok (.putfield 30, 3) := by decide +kernel
theorem dX1_init_54 : decode cX1_init 54 = .ok (.return_, 1) := by decide +kernel
def wo1 (cI cZ cQ : ClassId) (h0 : Nat) (x1 : Nat) (x2 : Nat) (u : Nat → Nat) : va_W := [(h0, .inr (1, [.ref (u 0), .ref (u 1), .ref (u 2), .ref (u 3), .ref x1, .ref x2, .int 0])), ((u 0), .inl (cI, 61, .inl (fun _ => 0))), ((u 1), .inl (cI, 4, .inl (fun _ => 0))), ((u 2), .inl (cQ, 7, .inr (.inr (.inr (.inr (fun j => if j < 7 then some ((u 2) + 1 + j) else none)))))), ((u 2) + 1 + 0, .inl (cI, 61, .inl (fun _ => 0))), ((u 2) + 1 + 1, .inl (cI, 61, .inl (fun _ => 0))), ((u 2) + 1 + 2, .inl (cI, 61, .inl (fun _ => 0))), ((u 2) + 1 + 3, .inl (cI, 61, .inl (fun _ => 0))), ((u 2) + 1 + 4, .inl (cI, 61, .inl (fun _ => 0))), ((u 2) + 1 + 5, .inl (cI, 61, .inl (fun _ => 0))), ((u 2) + 1 + 6, .inl (cI, 61, .inl (fun _ => 0))), ((u 3), .inl (cQ, 7, .inr (.inr (.inr (.inr (fun j => if j < 7 then some ((u 3) + 1 + j) else none)))))), ((u 3) + 1 + 0, .inl (cI, 244, .inl (fun _ => 0))), ((u 3) + 1 + 1, .inl (cI, 244, .inl (fun _ => 0))), ((u 3) + 1 + 2, .inl (cI, 244, .inl (fun _ => 0))), ((u 3) + 1 + 3, .inl (cI, 244, .inl (fun _ => 0))), ((u 3) + 1 + 4, .inl (cI, 244, .inl (fun _ => 0))), ((u 3) + 1 + 5, .inl (cI, 244, .inl (fun _ => 0))), ((u 3) + 1 + 6, .inl (cI, 244, .inl (fun _ => 0)))]
set_option maxHeartbeats 8000000 in
set_option maxRecDepth 100000 in
theorem kX1_init (l : Launch) (D : va_G) (cI cZ cQ : ClassId) (h0 : Nat) (x1 : Nat) (x2 : Nat) (sz : Nat) : Met l yX1_init (Cond.code yX1_init cX1_init 3 none :: gtbl) ({ frames := 1, cells := 18, slots := 2214, locals := 64 } : Room) (va_Pc [.ref h0, .ref x1, .ref x2] (fun U => U.heap.size = sz ∧ va_P D cls [(h0, .inr (1, [.null, .null, .null, .null, .null, .null, .int 0]))] U.heap ∧ va_K D cls (tyq cI cZ cQ) U ∧ va_D (fun _ => True) [(h0, .inr (1, [.null, .null, .null, .null, .null, .null, .int 0]))] ∧ nW U)) (va_Qv (fun _ : Nat → Nat => True) (fun u t => va_P D cls (wo1 cI cZ cQ h0 x1 x2 u) t.heap ∧ va_D (va_A [(h0, .inr (1, [.null, .null, .null, .null, .null, .null, .int 0]))] sz) (wo1 cI cZ cQ h0 x1 x2 u)) (va_A [(h0, .inr (1, [.null, .null, .null, .null, .null, .null, .int 0]))] sz)) 18 2214 (va_A [(h0, .inr (1, [.null, .null, .null, .null, .null, .null, .int 0]))] sz) := by
  refine Met.ofW (cc := cX1_init) (maxL := 3) (ret := none) (by decide) rfl ?_
  intro p e s m args below meth c s₁ B hml hv
  obtain ⟨rfl, hsz, hP, hK, hD0, hN⟩ := hv
  have hx := B.exec
  have hb := B.bytes
  have hr := B.returns
  have hts0 := atoms_spec (ws := Cond.code yX1_init cX1_init 3 none :: gtbl) B.pre
  have hts : ∀ w ∈ gtbl, w.before ([.ref h0, .ref x1, .ref x2] : List Value).toArray s = true := fun w hw => hts0 w (List.mem_cons_of_mem _ hw)
  have hown : s.vm.findClass RX1 = some m.cls := findClass_of_methodNamed B.named
  have hlocks := B.notSynchronized
  have hin : meth.name = "<init>" := (name_of_methodNamed B.named B.method).1
  subst hsz
  have hD := hD0.self (sz := s.heap.size)
  generalize hAe : va_A [(h0, .inr (1, [.null, .null, .null, .null, .null, .null, .int 0]))] s.heap.size = A at hD ⊢
  have hA : ∀ q : Nat, s.heap.size ≤ q → A q := fun q h => by rw [← hAe]; exact Or.inr h
  have hS : va_S A s.heap s.heap [] := va_S.rf
  have hP : va_P D cls [(h0, .inr (1, [.null, .null, .null, .null, .null, .null, .int 0]))] s.heap := hP
  have hl := lv_entry ([.ref h0, .ref x1, .ref x2]) (n := 3) (Nat.le_of_ble_eq_true rfl)
  rw [lg_entry_eq]
  generalize (lg_sl ([.ref h0, .ref x1, .ref x2]) ++ List.replicate (3 - (lg_sl ([.ref h0, .ref x1, .ref x2])).length) Slot.unset).toArray = ls at hl ⊢
  have hl : lv_has ls 3 [(0, .ref h0), (1, .ref x1), (2, .ref x2)] := hl
  refine lv_aload_n hx hb dX1_init_0 rfl (lv_at hl 0 rfl) ?_
  refine W.objInit hx hb hown (hts _ (gt_has (i := 231) (w := .methodLink RX1 3 Lib.objectInit) (by decide +kernel))) (hts _ (gt_has (i := 91) (w := .instanceMethod Lib.objectInit) (by decide +kernel))) (hts _ (gt_has (i := 92) (w := .code Lib.objectInit object_method_1_code 1 none) (by decide +kernel))) rfl (by rw [hml]; exact hl.1) rfl dX1_init_1 (Nat.le_of_ble_eq_true rfl) (Nat.le_of_ble_eq_true rfl) ?_
  refine W.eq (g2 := F0 m 4 ls []) rfl ?_
  refine lv_aload_n hx hb dX1_init_4 rfl (lv_at hl 0 rfl) ?_
  refine lv_bipush (v := 61) hx hb dX1_init_5 (by decide) ?_
  refine w_newI (N' := 61) hx hb (hts _ (gt_has (i := 106) (w := .arrayClass .int) (by decide +kernel))) hK hP hD hS hA (by decide) (by decide +kernel) (Nat.le_of_ble_eq_true rfl) (Nat.le_of_ble_eq_true rfl) (Nat.le_of_ble_eq_true rfl) dX1_init_7 (fun q7 H hP hD hS => ?_)
  have hP : va_P D cls [(h0, .inr (1, [.null, .null, .null, .null, .null, .null, .int 0])), (q7, .inl (cI, 61, .inl (fun _ => 0)))] H := hP
  have hD : va_D A [(h0, .inr (1, [.null, .null, .null, .null, .null, .null, .int 0])), (q7, .inl (cI, 61, .inl (fun _ => 0)))] := hD
  refine W.widen (k := 1) (n := 61) (by omega) (by omega) ?_
  refine va_putF (D := D) (ci := 1) (v := .ref q7) (ty := (.array .int)) (C := RX1) (T := TX1) (N := 7) hx hb hts (cl_ok (RX1, TX1, 7) (List.mem_of_getElem? (i := 1) rfl)).1 tyX1 tyX1_ok nmX1 hown hK hP hD hS 0 rfl rfl 0 (by decide) (hts _ (gt_has (i := 234) (w := .fieldLink RX1 9 "ThirdLetter$Foretelling" "fitting" "[I") (by decide +kernel))) (fun _ h9 => h9) rfl hin rfl (by decide +kernel) rfl rfl (Nat.le_of_ble_eq_true rfl) dX1_init_9 (fun H locs hP hD hS => ?_)
  have hP : va_P D cls [(h0, .inr (1, [.ref q7, .null, .null, .null, .null, .null, .int 0])), (q7, .inl (cI, 61, .inl (fun _ => 0)))] H := hP
  have hD : va_D A [(h0, .inr (1, [.ref q7, .null, .null, .null, .null, .null, .int 0])), (q7, .inl (cI, 61, .inl (fun _ => 0)))] := hD
  refine lv_aload_n hx hb dX1_init_12 rfl (lv_at hl 0 rfl) ?_
  refine lv_iconst (v := 4) hx hb dX1_init_13 (by decide) ?_
  refine w_newI (N' := 4) hx hb (hts _ (gt_has (i := 106) (w := .arrayClass .int) (by decide +kernel))) hK hP hD hS hA (by decide) (by decide +kernel) (Nat.le_of_ble_eq_true rfl) (Nat.le_of_ble_eq_true rfl) (Nat.le_of_ble_eq_true rfl) dX1_init_14 (fun q14 H hP hD hS => ?_)
  have hP : va_P D cls [(h0, .inr (1, [.ref q7, .null, .null, .null, .null, .null, .int 0])), (q7, .inl (cI, 61, .inl (fun _ => 0))), (q14, .inl (cI, 4, .inl (fun _ => 0)))] H := hP
  have hD : va_D A [(h0, .inr (1, [.ref q7, .null, .null, .null, .null, .null, .int 0])), (q7, .inl (cI, 61, .inl (fun _ => 0))), (q14, .inl (cI, 4, .inl (fun _ => 0)))] := hD
  refine W.widen (k := 2) (n := 65) (by omega) (by omega) ?_
  refine va_putF (D := D) (ci := 1) (v := .ref q14) (ty := (.array .int)) (C := RX1) (T := TX1) (N := 7) hx hb hts (cl_ok (RX1, TX1, 7) (List.mem_of_getElem? (i := 1) rfl)).1 tyX1 tyX1_ok nmX1 hown hK hP hD hS 0 rfl rfl 1 (by decide) (hts _ (gt_has (i := 235) (w := .fieldLink RX1 15 "ThirdLetter$Foretelling" "followers" "[I") (by decide +kernel))) (fun _ h9 => h9) rfl hin rfl (by decide +kernel) rfl rfl (Nat.le_of_ble_eq_true rfl) dX1_init_16 (fun H locs hP hD hS => ?_)
  have hP : va_P D cls [(h0, .inr (1, [.ref q7, .ref q14, .null, .null, .null, .null, .int 0])), (q7, .inl (cI, 61, .inl (fun _ => 0))), (q14, .inl (cI, 4, .inl (fun _ => 0)))] H := hP
  have hD : va_D A [(h0, .inr (1, [.ref q7, .ref q14, .null, .null, .null, .null, .int 0])), (q7, .inl (cI, 61, .inl (fun _ => 0))), (q14, .inl (cI, 4, .inl (fun _ => 0)))] := hD
  refine lv_aload_n hx hb dX1_init_19 rfl (lv_at hl 0 rfl) ?_
  refine lv_bipush (v := 7) hx hb dX1_init_20 (by decide) ?_
  refine lv_bipush (v := 61) hx hb dX1_init_22 (by decide) ?_
  refine w_mna (M := 61) hx hb hown (hts _ (gt_has (i := 232) (w := .classLink RX1 18 ("[" ++ (FieldType.array .int).toString)) (by decide +kernel))) (nA_vm rfl hN.2.2.2.2.2.2) (hts _ (gt_has (i := 106) (w := .arrayClass .int) (by decide +kernel))) hP hD hS hA (hK.2 2 (cQ, .array .int) rfl).2 (hK.2 0 (cI, .int) rfl).2 (by decide) (by decide +kernel) (by decide) (by decide +kernel) (by omega) (Nat.le_of_ble_eq_true rfl) (Nat.le_of_ble_eq_true rfl) dX1_init_24 (fun q24 H hP hD hS => ?_)
  have hP : va_P D cls [(h0, .inr (1, [.ref q7, .ref q14, .null, .null, .null, .null, .int 0])), (q7, .inl (cI, 61, .inl (fun _ => 0))), (q14, .inl (cI, 4, .inl (fun _ => 0))), (q24, .inl (cQ, 7, .inr (.inr (.inr (.inr (fun j => if j < 7 then some (q24 + 1 + j) else none)))))), (q24 + 1 + 0, .inl (cI, 61, .inl (fun _ => 0))), (q24 + 1 + 1, .inl (cI, 61, .inl (fun _ => 0))), (q24 + 1 + 2, .inl (cI, 61, .inl (fun _ => 0))), (q24 + 1 + 3, .inl (cI, 61, .inl (fun _ => 0))), (q24 + 1 + 4, .inl (cI, 61, .inl (fun _ => 0))), (q24 + 1 + 5, .inl (cI, 61, .inl (fun _ => 0))), (q24 + 1 + 6, .inl (cI, 61, .inl (fun _ => 0)))] H := hP
  have hD : va_D A [(h0, .inr (1, [.ref q7, .ref q14, .null, .null, .null, .null, .int 0])), (q7, .inl (cI, 61, .inl (fun _ => 0))), (q14, .inl (cI, 4, .inl (fun _ => 0))), (q24, .inl (cQ, 7, .inr (.inr (.inr (.inr (fun j => if j < 7 then some (q24 + 1 + j) else none)))))), (q24 + 1 + 0, .inl (cI, 61, .inl (fun _ => 0))), (q24 + 1 + 1, .inl (cI, 61, .inl (fun _ => 0))), (q24 + 1 + 2, .inl (cI, 61, .inl (fun _ => 0))), (q24 + 1 + 3, .inl (cI, 61, .inl (fun _ => 0))), (q24 + 1 + 4, .inl (cI, 61, .inl (fun _ => 0))), (q24 + 1 + 5, .inl (cI, 61, .inl (fun _ => 0))), (q24 + 1 + 6, .inl (cI, 61, .inl (fun _ => 0)))] := hD
  refine W.widen (k := 10) (n := 499) (by omega) (by omega) ?_
  refine va_putF (D := D) (ci := 1) (v := .ref q24) (ty := (.array (.array .int))) (C := RX1) (T := TX1) (N := 7) hx hb hts (cl_ok (RX1, TX1, 7) (List.mem_of_getElem? (i := 1) rfl)).1 tyX1 tyX1_ok nmX1 hown hK hP hD hS 0 rfl rfl 2 (by decide) (hts _ (gt_has (i := 236) (w := .fieldLink RX1 20 "ThirdLetter$Foretelling" "reached" "[[I") (by decide +kernel))) (fun _ h9 => h9) rfl hin rfl (by decide +kernel) rfl rfl (Nat.le_of_ble_eq_true rfl) dX1_init_28 (fun H locs hP hD hS => ?_)
  have hP : va_P D cls [(h0, .inr (1, [.ref q7, .ref q14, .ref q24, .null, .null, .null, .int 0])), (q7, .inl (cI, 61, .inl (fun _ => 0))), (q14, .inl (cI, 4, .inl (fun _ => 0))), (q24, .inl (cQ, 7, .inr (.inr (.inr (.inr (fun j => if j < 7 then some (q24 + 1 + j) else none)))))), (q24 + 1 + 0, .inl (cI, 61, .inl (fun _ => 0))), (q24 + 1 + 1, .inl (cI, 61, .inl (fun _ => 0))), (q24 + 1 + 2, .inl (cI, 61, .inl (fun _ => 0))), (q24 + 1 + 3, .inl (cI, 61, .inl (fun _ => 0))), (q24 + 1 + 4, .inl (cI, 61, .inl (fun _ => 0))), (q24 + 1 + 5, .inl (cI, 61, .inl (fun _ => 0))), (q24 + 1 + 6, .inl (cI, 61, .inl (fun _ => 0)))] H := hP
  have hD : va_D A [(h0, .inr (1, [.ref q7, .ref q14, .ref q24, .null, .null, .null, .int 0])), (q7, .inl (cI, 61, .inl (fun _ => 0))), (q14, .inl (cI, 4, .inl (fun _ => 0))), (q24, .inl (cQ, 7, .inr (.inr (.inr (.inr (fun j => if j < 7 then some (q24 + 1 + j) else none)))))), (q24 + 1 + 0, .inl (cI, 61, .inl (fun _ => 0))), (q24 + 1 + 1, .inl (cI, 61, .inl (fun _ => 0))), (q24 + 1 + 2, .inl (cI, 61, .inl (fun _ => 0))), (q24 + 1 + 3, .inl (cI, 61, .inl (fun _ => 0))), (q24 + 1 + 4, .inl (cI, 61, .inl (fun _ => 0))), (q24 + 1 + 5, .inl (cI, 61, .inl (fun _ => 0))), (q24 + 1 + 6, .inl (cI, 61, .inl (fun _ => 0)))] := hD
  refine lv_aload_n hx hb dX1_init_31 rfl (lv_at hl 0 rfl) ?_
  refine lv_bipush (v := 7) hx hb dX1_init_32 (by decide) ?_
  refine lv_sipush (v := 244) hx hb dX1_init_34 (by decide) ?_
  refine w_mna (M := 244) hx hb hown (hts _ (gt_has (i := 232) (w := .classLink RX1 18 ("[" ++ (FieldType.array .int).toString)) (by decide +kernel))) (nA_vm rfl hN.2.2.2.2.2.2) (hts _ (gt_has (i := 106) (w := .arrayClass .int) (by decide +kernel))) hP hD hS hA (hK.2 2 (cQ, .array .int) rfl).2 (hK.2 0 (cI, .int) rfl).2 (by decide) (by decide +kernel) (by decide) (by decide +kernel) (by omega) (Nat.le_of_ble_eq_true rfl) (Nat.le_of_ble_eq_true rfl) dX1_init_37 (fun q37 H hP hD hS => ?_)
  have hP : va_P D cls [(h0, .inr (1, [.ref q7, .ref q14, .ref q24, .null, .null, .null, .int 0])), (q7, .inl (cI, 61, .inl (fun _ => 0))), (q14, .inl (cI, 4, .inl (fun _ => 0))), (q24, .inl (cQ, 7, .inr (.inr (.inr (.inr (fun j => if j < 7 then some (q24 + 1 + j) else none)))))), (q24 + 1 + 0, .inl (cI, 61, .inl (fun _ => 0))), (q24 + 1 + 1, .inl (cI, 61, .inl (fun _ => 0))), (q24 + 1 + 2, .inl (cI, 61, .inl (fun _ => 0))), (q24 + 1 + 3, .inl (cI, 61, .inl (fun _ => 0))), (q24 + 1 + 4, .inl (cI, 61, .inl (fun _ => 0))), (q24 + 1 + 5, .inl (cI, 61, .inl (fun _ => 0))), (q24 + 1 + 6, .inl (cI, 61, .inl (fun _ => 0))), (q37, .inl (cQ, 7, .inr (.inr (.inr (.inr (fun j => if j < 7 then some (q37 + 1 + j) else none)))))), (q37 + 1 + 0, .inl (cI, 244, .inl (fun _ => 0))), (q37 + 1 + 1, .inl (cI, 244, .inl (fun _ => 0))), (q37 + 1 + 2, .inl (cI, 244, .inl (fun _ => 0))), (q37 + 1 + 3, .inl (cI, 244, .inl (fun _ => 0))), (q37 + 1 + 4, .inl (cI, 244, .inl (fun _ => 0))), (q37 + 1 + 5, .inl (cI, 244, .inl (fun _ => 0))), (q37 + 1 + 6, .inl (cI, 244, .inl (fun _ => 0)))] H := hP
  have hD : va_D A [(h0, .inr (1, [.ref q7, .ref q14, .ref q24, .null, .null, .null, .int 0])), (q7, .inl (cI, 61, .inl (fun _ => 0))), (q14, .inl (cI, 4, .inl (fun _ => 0))), (q24, .inl (cQ, 7, .inr (.inr (.inr (.inr (fun j => if j < 7 then some (q24 + 1 + j) else none)))))), (q24 + 1 + 0, .inl (cI, 61, .inl (fun _ => 0))), (q24 + 1 + 1, .inl (cI, 61, .inl (fun _ => 0))), (q24 + 1 + 2, .inl (cI, 61, .inl (fun _ => 0))), (q24 + 1 + 3, .inl (cI, 61, .inl (fun _ => 0))), (q24 + 1 + 4, .inl (cI, 61, .inl (fun _ => 0))), (q24 + 1 + 5, .inl (cI, 61, .inl (fun _ => 0))), (q24 + 1 + 6, .inl (cI, 61, .inl (fun _ => 0))), (q37, .inl (cQ, 7, .inr (.inr (.inr (.inr (fun j => if j < 7 then some (q37 + 1 + j) else none)))))), (q37 + 1 + 0, .inl (cI, 244, .inl (fun _ => 0))), (q37 + 1 + 1, .inl (cI, 244, .inl (fun _ => 0))), (q37 + 1 + 2, .inl (cI, 244, .inl (fun _ => 0))), (q37 + 1 + 3, .inl (cI, 244, .inl (fun _ => 0))), (q37 + 1 + 4, .inl (cI, 244, .inl (fun _ => 0))), (q37 + 1 + 5, .inl (cI, 244, .inl (fun _ => 0))), (q37 + 1 + 6, .inl (cI, 244, .inl (fun _ => 0)))] := hD
  refine W.widen (k := 18) (n := 2214) (by omega) (by omega) ?_
  refine va_putF (D := D) (ci := 1) (v := .ref q37) (ty := (.array (.array .int))) (C := RX1) (T := TX1) (N := 7) hx hb hts (cl_ok (RX1, TX1, 7) (List.mem_of_getElem? (i := 1) rfl)).1 tyX1 tyX1_ok nmX1 hown hK hP hD hS 0 rfl rfl 3 (by decide) (hts _ (gt_has (i := 237) (w := .fieldLink RX1 23 "ThirdLetter$Foretelling" "ways" "[[I") (by decide +kernel))) (fun _ h9 => h9) rfl hin rfl (by decide +kernel) rfl rfl (Nat.le_of_ble_eq_true rfl) dX1_init_41 (fun H locs hP hD hS => ?_)
  have hP : va_P D cls [(h0, .inr (1, [.ref q7, .ref q14, .ref q24, .ref q37, .null, .null, .int 0])), (q7, .inl (cI, 61, .inl (fun _ => 0))), (q14, .inl (cI, 4, .inl (fun _ => 0))), (q24, .inl (cQ, 7, .inr (.inr (.inr (.inr (fun j => if j < 7 then some (q24 + 1 + j) else none)))))), (q24 + 1 + 0, .inl (cI, 61, .inl (fun _ => 0))), (q24 + 1 + 1, .inl (cI, 61, .inl (fun _ => 0))), (q24 + 1 + 2, .inl (cI, 61, .inl (fun _ => 0))), (q24 + 1 + 3, .inl (cI, 61, .inl (fun _ => 0))), (q24 + 1 + 4, .inl (cI, 61, .inl (fun _ => 0))), (q24 + 1 + 5, .inl (cI, 61, .inl (fun _ => 0))), (q24 + 1 + 6, .inl (cI, 61, .inl (fun _ => 0))), (q37, .inl (cQ, 7, .inr (.inr (.inr (.inr (fun j => if j < 7 then some (q37 + 1 + j) else none)))))), (q37 + 1 + 0, .inl (cI, 244, .inl (fun _ => 0))), (q37 + 1 + 1, .inl (cI, 244, .inl (fun _ => 0))), (q37 + 1 + 2, .inl (cI, 244, .inl (fun _ => 0))), (q37 + 1 + 3, .inl (cI, 244, .inl (fun _ => 0))), (q37 + 1 + 4, .inl (cI, 244, .inl (fun _ => 0))), (q37 + 1 + 5, .inl (cI, 244, .inl (fun _ => 0))), (q37 + 1 + 6, .inl (cI, 244, .inl (fun _ => 0)))] H := hP
  have hD : va_D A [(h0, .inr (1, [.ref q7, .ref q14, .ref q24, .ref q37, .null, .null, .int 0])), (q7, .inl (cI, 61, .inl (fun _ => 0))), (q14, .inl (cI, 4, .inl (fun _ => 0))), (q24, .inl (cQ, 7, .inr (.inr (.inr (.inr (fun j => if j < 7 then some (q24 + 1 + j) else none)))))), (q24 + 1 + 0, .inl (cI, 61, .inl (fun _ => 0))), (q24 + 1 + 1, .inl (cI, 61, .inl (fun _ => 0))), (q24 + 1 + 2, .inl (cI, 61, .inl (fun _ => 0))), (q24 + 1 + 3, .inl (cI, 61, .inl (fun _ => 0))), (q24 + 1 + 4, .inl (cI, 61, .inl (fun _ => 0))), (q24 + 1 + 5, .inl (cI, 61, .inl (fun _ => 0))), (q24 + 1 + 6, .inl (cI, 61, .inl (fun _ => 0))), (q37, .inl (cQ, 7, .inr (.inr (.inr (.inr (fun j => if j < 7 then some (q37 + 1 + j) else none)))))), (q37 + 1 + 0, .inl (cI, 244, .inl (fun _ => 0))), (q37 + 1 + 1, .inl (cI, 244, .inl (fun _ => 0))), (q37 + 1 + 2, .inl (cI, 244, .inl (fun _ => 0))), (q37 + 1 + 3, .inl (cI, 244, .inl (fun _ => 0))), (q37 + 1 + 4, .inl (cI, 244, .inl (fun _ => 0))), (q37 + 1 + 5, .inl (cI, 244, .inl (fun _ => 0))), (q37 + 1 + 6, .inl (cI, 244, .inl (fun _ => 0)))] := hD
  refine lv_aload_n hx hb dX1_init_44 rfl (lv_at hl 0 rfl) ?_
  refine lv_aload_n hx hb dX1_init_45 rfl (lv_at hl 1 rfl) ?_
  refine va_putF (D := D) (ci := 1) (v := .ref x1) (ty := (.object "ThirdLetter$WordList")) (C := RX1) (T := TX1) (N := 7) hx hb hts (cl_ok (RX1, TX1, 7) (List.mem_of_getElem? (i := 1) rfl)).1 tyX1 tyX1_ok nmX1 hown hK hP hD hS 0 rfl rfl 4 (by decide) (hts _ (gt_has (i := 238) (w := .fieldLink RX1 26 "ThirdLetter$Foretelling" "list" "LThirdLetter$WordList;") (by decide +kernel))) (fun _ h9 => h9) rfl hin rfl (by decide +kernel) rfl rfl (Nat.le_of_ble_eq_true rfl) dX1_init_46 (fun H locs hP hD hS => ?_)
  have hP : va_P D cls [(h0, .inr (1, [.ref q7, .ref q14, .ref q24, .ref q37, .ref x1, .null, .int 0])), (q7, .inl (cI, 61, .inl (fun _ => 0))), (q14, .inl (cI, 4, .inl (fun _ => 0))), (q24, .inl (cQ, 7, .inr (.inr (.inr (.inr (fun j => if j < 7 then some (q24 + 1 + j) else none)))))), (q24 + 1 + 0, .inl (cI, 61, .inl (fun _ => 0))), (q24 + 1 + 1, .inl (cI, 61, .inl (fun _ => 0))), (q24 + 1 + 2, .inl (cI, 61, .inl (fun _ => 0))), (q24 + 1 + 3, .inl (cI, 61, .inl (fun _ => 0))), (q24 + 1 + 4, .inl (cI, 61, .inl (fun _ => 0))), (q24 + 1 + 5, .inl (cI, 61, .inl (fun _ => 0))), (q24 + 1 + 6, .inl (cI, 61, .inl (fun _ => 0))), (q37, .inl (cQ, 7, .inr (.inr (.inr (.inr (fun j => if j < 7 then some (q37 + 1 + j) else none)))))), (q37 + 1 + 0, .inl (cI, 244, .inl (fun _ => 0))), (q37 + 1 + 1, .inl (cI, 244, .inl (fun _ => 0))), (q37 + 1 + 2, .inl (cI, 244, .inl (fun _ => 0))), (q37 + 1 + 3, .inl (cI, 244, .inl (fun _ => 0))), (q37 + 1 + 4, .inl (cI, 244, .inl (fun _ => 0))), (q37 + 1 + 5, .inl (cI, 244, .inl (fun _ => 0))), (q37 + 1 + 6, .inl (cI, 244, .inl (fun _ => 0)))] H := hP
  have hD : va_D A [(h0, .inr (1, [.ref q7, .ref q14, .ref q24, .ref q37, .ref x1, .null, .int 0])), (q7, .inl (cI, 61, .inl (fun _ => 0))), (q14, .inl (cI, 4, .inl (fun _ => 0))), (q24, .inl (cQ, 7, .inr (.inr (.inr (.inr (fun j => if j < 7 then some (q24 + 1 + j) else none)))))), (q24 + 1 + 0, .inl (cI, 61, .inl (fun _ => 0))), (q24 + 1 + 1, .inl (cI, 61, .inl (fun _ => 0))), (q24 + 1 + 2, .inl (cI, 61, .inl (fun _ => 0))), (q24 + 1 + 3, .inl (cI, 61, .inl (fun _ => 0))), (q24 + 1 + 4, .inl (cI, 61, .inl (fun _ => 0))), (q24 + 1 + 5, .inl (cI, 61, .inl (fun _ => 0))), (q24 + 1 + 6, .inl (cI, 61, .inl (fun _ => 0))), (q37, .inl (cQ, 7, .inr (.inr (.inr (.inr (fun j => if j < 7 then some (q37 + 1 + j) else none)))))), (q37 + 1 + 0, .inl (cI, 244, .inl (fun _ => 0))), (q37 + 1 + 1, .inl (cI, 244, .inl (fun _ => 0))), (q37 + 1 + 2, .inl (cI, 244, .inl (fun _ => 0))), (q37 + 1 + 3, .inl (cI, 244, .inl (fun _ => 0))), (q37 + 1 + 4, .inl (cI, 244, .inl (fun _ => 0))), (q37 + 1 + 5, .inl (cI, 244, .inl (fun _ => 0))), (q37 + 1 + 6, .inl (cI, 244, .inl (fun _ => 0)))] := hD
  refine lv_aload_n hx hb dX1_init_49 rfl (lv_at hl 0 rfl) ?_
  refine lv_aload_n hx hb dX1_init_50 rfl (lv_at hl 2 rfl) ?_
  refine va_putF (D := D) (ci := 1) (v := .ref x2) (ty := (.object "ThirdLetter$Sound")) (C := RX1) (T := TX1) (N := 7) hx hb hts (cl_ok (RX1, TX1, 7) (List.mem_of_getElem? (i := 1) rfl)).1 tyX1 tyX1_ok nmX1 hown hK hP hD hS 0 rfl rfl 5 (by decide) (hts _ (gt_has (i := 239) (w := .fieldLink RX1 30 "ThirdLetter$Foretelling" "row" "LThirdLetter$Sound;") (by decide +kernel))) (fun _ h9 => h9) rfl hin rfl (by decide +kernel) rfl rfl (Nat.le_of_ble_eq_true rfl) dX1_init_51 (fun H locs hP hD hS => ?_)
  have hP : va_P D cls [(h0, .inr (1, [.ref q7, .ref q14, .ref q24, .ref q37, .ref x1, .ref x2, .int 0])), (q7, .inl (cI, 61, .inl (fun _ => 0))), (q14, .inl (cI, 4, .inl (fun _ => 0))), (q24, .inl (cQ, 7, .inr (.inr (.inr (.inr (fun j => if j < 7 then some (q24 + 1 + j) else none)))))), (q24 + 1 + 0, .inl (cI, 61, .inl (fun _ => 0))), (q24 + 1 + 1, .inl (cI, 61, .inl (fun _ => 0))), (q24 + 1 + 2, .inl (cI, 61, .inl (fun _ => 0))), (q24 + 1 + 3, .inl (cI, 61, .inl (fun _ => 0))), (q24 + 1 + 4, .inl (cI, 61, .inl (fun _ => 0))), (q24 + 1 + 5, .inl (cI, 61, .inl (fun _ => 0))), (q24 + 1 + 6, .inl (cI, 61, .inl (fun _ => 0))), (q37, .inl (cQ, 7, .inr (.inr (.inr (.inr (fun j => if j < 7 then some (q37 + 1 + j) else none)))))), (q37 + 1 + 0, .inl (cI, 244, .inl (fun _ => 0))), (q37 + 1 + 1, .inl (cI, 244, .inl (fun _ => 0))), (q37 + 1 + 2, .inl (cI, 244, .inl (fun _ => 0))), (q37 + 1 + 3, .inl (cI, 244, .inl (fun _ => 0))), (q37 + 1 + 4, .inl (cI, 244, .inl (fun _ => 0))), (q37 + 1 + 5, .inl (cI, 244, .inl (fun _ => 0))), (q37 + 1 + 6, .inl (cI, 244, .inl (fun _ => 0)))] H := hP
  have hD : va_D A [(h0, .inr (1, [.ref q7, .ref q14, .ref q24, .ref q37, .ref x1, .ref x2, .int 0])), (q7, .inl (cI, 61, .inl (fun _ => 0))), (q14, .inl (cI, 4, .inl (fun _ => 0))), (q24, .inl (cQ, 7, .inr (.inr (.inr (.inr (fun j => if j < 7 then some (q24 + 1 + j) else none)))))), (q24 + 1 + 0, .inl (cI, 61, .inl (fun _ => 0))), (q24 + 1 + 1, .inl (cI, 61, .inl (fun _ => 0))), (q24 + 1 + 2, .inl (cI, 61, .inl (fun _ => 0))), (q24 + 1 + 3, .inl (cI, 61, .inl (fun _ => 0))), (q24 + 1 + 4, .inl (cI, 61, .inl (fun _ => 0))), (q24 + 1 + 5, .inl (cI, 61, .inl (fun _ => 0))), (q24 + 1 + 6, .inl (cI, 61, .inl (fun _ => 0))), (q37, .inl (cQ, 7, .inr (.inr (.inr (.inr (fun j => if j < 7 then some (q37 + 1 + j) else none)))))), (q37 + 1 + 0, .inl (cI, 244, .inl (fun _ => 0))), (q37 + 1 + 1, .inl (cI, 244, .inl (fun _ => 0))), (q37 + 1 + 2, .inl (cI, 244, .inl (fun _ => 0))), (q37 + 1 + 3, .inl (cI, 244, .inl (fun _ => 0))), (q37 + 1 + 4, .inl (cI, 244, .inl (fun _ => 0))), (q37 + 1 + 5, .inl (cI, 244, .inl (fun _ => 0))), (q37 + 1 + 6, .inl (cI, 244, .inl (fun _ => 0)))] := hD
  refine W.widen (k := 18) (n := 2214) (by omega) (by omega) ?_
  exact W.vret hx hb hr (fun t ht hW => ⟨⟨fun j => ([q7, q14, q24, q37] : List Nat).getD j 0, rfl, trivial, by rw [ht]; exact hP, hD⟩, hS.F ht⟩) hS.2.2 dX1_init_54
theorem dX2_init_0 : decode cX2_init 0 = .ok (.aload_n 0, 1) := by decide +kernel
theorem dX2_init_1 : decode cX2_init 1 = .ok (.invokespecial 3, 3) := by decide +kernel
theorem dX2_init_4 : decode cX2_init 4 = .ok (.aload_n 0, 1) := by decide +kernel
theorem dX2_init_5 : decode cX2_init 5 = .ok (.bipush 12, 2) := by decide +kernel
theorem dX2_init_7 : decode cX2_init 7 = .ok (.newarray .int, 2) := by decide +kernel
theorem dX2_init_9 : decode cX2_init 9 = .ok (.putfield 9, 3) := by decide +kernel
theorem dX2_init_12 : decode cX2_init 12 = .ok (.aload_n 0, 1) := by decide +kernel
theorem dX2_init_13 : decode cX2_init 13 = .ok (.aload_n 1, 1) := by decide +kernel
theorem dX2_init_14 : decode cX2_init 14 = .ok (.getfield 15, 3) := by decide +kernel
theorem dX2_init_17 : decode cX2_init 17 = .ok (.putfield 21, 3) := by decide +kernel
theorem dX2_init_20 : decode cX2_init 20 = .ok (.aload_n 0, 1) := by decide +kernel
theorem dX2_init_21 : decode cX2_init 21 = .ok (.aload_n 1, 1) := by decide +kernel
theorem dX2_init_22 : decode cX2_init 22 = .ok (.getfield 22, 3) := by decide +kernel
theorem dX2_init_25 : decode cX2_init 25 = .ok (.putfield 26, 3) := by decide +kernel
theorem dX2_init_28 : decode cX2_init 28 = .ok (.return_, 1) := by decide +kernel
def wo2 (cI cZ cQ : ClassId) (h0 : Nat) (x1 : Nat) (y1 y2 : Nat) (u : Nat → Nat) : va_W := [(h0, .inr (2, [.ref (u 0), .ref y1, .ref y2])), (x1, .inr (8, [.ref y1, .ref y2])), ((u 0), .inl (cI, 12, .inl (fun _ => 0)))]
set_option maxHeartbeats 8000000 in
set_option maxRecDepth 100000 in
theorem kX2_init (l : Launch) (D : va_G) (cI cZ cQ : ClassId) (h0 : Nat) (x1 : Nat) (y1 y2 : Nat) (sz : Nat) : Met l yX2_init (Cond.code yX2_init cX2_init 2 none :: gtbl) ({ frames := 1, cells := 1, slots := 12, locals := 64 } : Room) (va_Pc [.ref h0, .ref x1] (fun U => U.heap.size = sz ∧ va_P D cls [(h0, .inr (2, [.null, .null, .null])), (x1, .inr (8, [.ref y1, .ref y2]))] U.heap ∧ va_K D cls (tyq cI cZ cQ) U ∧ va_D (fun _ => True) [(h0, .inr (2, [.null, .null, .null])), (x1, .inr (8, [.ref y1, .ref y2]))] ∧ nW U)) (va_Qv (fun _ : Nat → Nat => True) (fun u t => va_P D cls (wo2 cI cZ cQ h0 x1 y1 y2 u) t.heap ∧ va_D (va_A [(h0, .inr (2, [.null, .null, .null])), (x1, .inr (8, [.ref y1, .ref y2]))] sz) (wo2 cI cZ cQ h0 x1 y1 y2 u)) (va_A [(h0, .inr (2, [.null, .null, .null])), (x1, .inr (8, [.ref y1, .ref y2]))] sz)) 1 12 (va_A [(h0, .inr (2, [.null, .null, .null])), (x1, .inr (8, [.ref y1, .ref y2]))] sz) := by
  refine Met.ofW (cc := cX2_init) (maxL := 2) (ret := none) (by decide) rfl ?_
  intro p e s m args below meth c s₁ B hml hv
  obtain ⟨rfl, hsz, hP, hK, hD0, hN⟩ := hv
  have hx := B.exec
  have hb := B.bytes
  have hr := B.returns
  have hts0 := atoms_spec (ws := Cond.code yX2_init cX2_init 2 none :: gtbl) B.pre
  have hts : ∀ w ∈ gtbl, w.before ([.ref h0, .ref x1] : List Value).toArray s = true := fun w hw => hts0 w (List.mem_cons_of_mem _ hw)
  have hown : s.vm.findClass RX2 = some m.cls := findClass_of_methodNamed B.named
  have hlocks := B.notSynchronized
  have hin : meth.name = "<init>" := (name_of_methodNamed B.named B.method).1
  subst hsz
  have hD := hD0.self (sz := s.heap.size)
  generalize hAe : va_A [(h0, .inr (2, [.null, .null, .null])), (x1, .inr (8, [.ref y1, .ref y2]))] s.heap.size = A at hD ⊢
  have hA : ∀ q : Nat, s.heap.size ≤ q → A q := fun q h => by rw [← hAe]; exact Or.inr h
  have hS : va_S A s.heap s.heap [] := va_S.rf
  have hP : va_P D cls [(h0, .inr (2, [.null, .null, .null])), (x1, .inr (8, [.ref y1, .ref y2]))] s.heap := hP
  have hl := lv_entry ([.ref h0, .ref x1]) (n := 2) (Nat.le_of_ble_eq_true rfl)
  rw [lg_entry_eq]
  generalize (lg_sl ([.ref h0, .ref x1]) ++ List.replicate (2 - (lg_sl ([.ref h0, .ref x1])).length) Slot.unset).toArray = ls at hl ⊢
  have hl : lv_has ls 2 [(0, .ref h0), (1, .ref x1)] := hl
  refine lv_aload_n hx hb dX2_init_0 rfl (lv_at hl 0 rfl) ?_
  refine W.objInit hx hb hown (hts _ (gt_has (i := 261) (w := .methodLink RX2 3 Lib.objectInit) (by decide +kernel))) (hts _ (gt_has (i := 91) (w := .instanceMethod Lib.objectInit) (by decide +kernel))) (hts _ (gt_has (i := 92) (w := .code Lib.objectInit object_method_1_code 1 none) (by decide +kernel))) rfl (by rw [hml]; exact hl.1) rfl dX2_init_1 (Nat.le_of_ble_eq_true rfl) (Nat.le_of_ble_eq_true rfl) ?_
  refine W.eq (g2 := F0 m 4 ls []) rfl ?_
  refine lv_aload_n hx hb dX2_init_4 rfl (lv_at hl 0 rfl) ?_
  refine lv_bipush (v := 12) hx hb dX2_init_5 (by decide) ?_
  refine w_newI (N' := 12) hx hb (hts _ (gt_has (i := 106) (w := .arrayClass .int) (by decide +kernel))) hK hP hD hS hA (by decide) (by decide +kernel) (Nat.le_of_ble_eq_true rfl) (Nat.le_of_ble_eq_true rfl) (Nat.le_of_ble_eq_true rfl) dX2_init_7 (fun q7 H hP hD hS => ?_)
  have hP : va_P D cls [(h0, .inr (2, [.null, .null, .null])), (x1, .inr (8, [.ref y1, .ref y2])), (q7, .inl (cI, 12, .inl (fun _ => 0)))] H := hP
  have hD : va_D A [(h0, .inr (2, [.null, .null, .null])), (x1, .inr (8, [.ref y1, .ref y2])), (q7, .inl (cI, 12, .inl (fun _ => 0)))] := hD
  refine W.widen (k := 1) (n := 12) (by omega) (by omega) ?_
  refine va_putF (D := D) (ci := 2) (v := .ref q7) (ty := (.array .int)) (C := RX2) (T := TX2) (N := 3) hx hb hts (cl_ok (RX2, TX2, 3) (List.mem_of_getElem? (i := 2) rfl)).1 tyX2 tyX2_ok nmX2 hown hK hP hD hS 0 rfl rfl 0 (by decide) (hts _ (gt_has (i := 262) (w := .fieldLink RX2 9 "ThirdLetter$Likeness" "clashes" "[I") (by decide +kernel))) (fun _ h9 => h9) rfl hin rfl (by decide +kernel) rfl rfl (Nat.le_of_ble_eq_true rfl) dX2_init_9 (fun H locs hP hD hS => ?_)
  have hP : va_P D cls [(h0, .inr (2, [.ref q7, .null, .null])), (x1, .inr (8, [.ref y1, .ref y2])), (q7, .inl (cI, 12, .inl (fun _ => 0)))] H := hP
  have hD : va_D A [(h0, .inr (2, [.ref q7, .null, .null])), (x1, .inr (8, [.ref y1, .ref y2])), (q7, .inl (cI, 12, .inl (fun _ => 0)))] := hD
  refine lv_aload_n hx hb dX2_init_12 rfl (lv_at hl 0 rfl) ?_
  refine lv_aload_n hx hb dX2_init_13 rfl (lv_at hl 1 rfl) ?_
  refine va_get (D := D) (ci := 8) (v := .ref y1) (C := RX8) (T := TX8) (N := 2) hx hb hts (cl_ok (RX8, TX8, 2) (List.mem_of_getElem? (i := 8) rfl)).1 hown hK hP 1 rfl rfl 0 (by decide) (hts _ (gt_has (i := 155) (w := .fieldLink RX2 15 "ThirdLetter$Told" "list" "LThirdLetter$WordList;") (by decide +kernel))) (fun _ h9 => h9) rfl dX2_init_14 ?_
  refine va_putF (D := D) (ci := 2) (v := .ref y1) (ty := (.object "ThirdLetter$WordList")) (C := RX2) (T := TX2) (N := 3) hx hb hts (cl_ok (RX2, TX2, 3) (List.mem_of_getElem? (i := 2) rfl)).1 tyX2 tyX2_ok nmX2 hown hK hP hD hS 0 rfl rfl 1 (by decide) (hts _ (gt_has (i := 263) (w := .fieldLink RX2 21 "ThirdLetter$Likeness" "list" "LThirdLetter$WordList;") (by decide +kernel))) (fun _ h9 => h9) rfl hin rfl (by decide +kernel) rfl rfl (Nat.le_of_ble_eq_true rfl) dX2_init_17 (fun H locs hP hD hS => ?_)
  have hP : va_P D cls [(h0, .inr (2, [.ref q7, .ref y1, .null])), (x1, .inr (8, [.ref y1, .ref y2])), (q7, .inl (cI, 12, .inl (fun _ => 0)))] H := hP
  have hD : va_D A [(h0, .inr (2, [.ref q7, .ref y1, .null])), (x1, .inr (8, [.ref y1, .ref y2])), (q7, .inl (cI, 12, .inl (fun _ => 0)))] := hD
  refine lv_aload_n hx hb dX2_init_20 rfl (lv_at hl 0 rfl) ?_
  refine lv_aload_n hx hb dX2_init_21 rfl (lv_at hl 1 rfl) ?_
  refine va_get (D := D) (ci := 8) (v := .ref y2) (C := RX8) (T := TX8) (N := 2) hx hb hts (cl_ok (RX8, TX8, 2) (List.mem_of_getElem? (i := 8) rfl)).1 hown hK hP 1 rfl rfl 1 (by decide) (hts _ (gt_has (i := 159) (w := .fieldLink RX2 22 "ThirdLetter$Told" "choir" "LThirdLetter$Choir;") (by decide +kernel))) (fun _ h9 => h9) rfl dX2_init_22 ?_
  refine va_putF (D := D) (ci := 2) (v := .ref y2) (ty := (.object "ThirdLetter$Choir")) (C := RX2) (T := TX2) (N := 3) hx hb hts (cl_ok (RX2, TX2, 3) (List.mem_of_getElem? (i := 2) rfl)).1 tyX2 tyX2_ok nmX2 hown hK hP hD hS 0 rfl rfl 2 (by decide) (hts _ (gt_has (i := 264) (w := .fieldLink RX2 26 "ThirdLetter$Likeness" "choir" "LThirdLetter$Choir;") (by decide +kernel))) (fun _ h9 => h9) rfl hin rfl (by decide +kernel) rfl rfl (Nat.le_of_ble_eq_true rfl) dX2_init_25 (fun H locs hP hD hS => ?_)
  have hP : va_P D cls [(h0, .inr (2, [.ref q7, .ref y1, .ref y2])), (x1, .inr (8, [.ref y1, .ref y2])), (q7, .inl (cI, 12, .inl (fun _ => 0)))] H := hP
  have hD : va_D A [(h0, .inr (2, [.ref q7, .ref y1, .ref y2])), (x1, .inr (8, [.ref y1, .ref y2])), (q7, .inl (cI, 12, .inl (fun _ => 0)))] := hD
  refine W.widen (k := 1) (n := 12) (by omega) (by omega) ?_
  exact W.vret hx hb hr (fun t ht hW => ⟨⟨fun j => ([q7] : List Nat).getD j 0, rfl, trivial, by rw [ht]; exact hP, hD⟩, hS.F ht⟩) hS.2.2 dX2_init_28
theorem dX5_init_0 : decode cX5_init 0 = .ok (.aload_n 0, 1) := by decide +kernel
theorem dX5_init_1 : decode cX5_init 1 = .ok (.invokespecial 3, 3) := by decide +kernel
theorem dX5_init_4 : decode cX5_init 4 = .ok (.aload_n 0, 1) := by decide +kernel
theorem dX5_init_5 : decode cX5_init 5 = .ok (.iconst 5, 1) := by decide +kernel
theorem dX5_init_6 : decode cX5_init 6 = .ok (.newarray .int, 2) := by decide +kernel
theorem dX5_init_8 : decode cX5_init 8 = .ok (.putfield 9, 3) := by decide +kernel
theorem dX5_init_11 : decode cX5_init 11 = .ok (.aload_n 0, 1) := by decide +kernel
theorem dX5_init_12 : decode cX5_init 12 = .ok (.iconst 5, 1) := by decide +kernel
theorem dX5_init_13 : decode cX5_init 13 = .ok (.newarray .int, 2) := by decide +kernel
theorem dX5_init_15 : decode cX5_init 15 = .ok (.putfield 15, 3) := by decide +kernel
theorem dX5_init_18 : decode cX5_init 18 = .ok (.aload_n 0, 1) := by decide +kernel
theorem dX5_init_19 : decode cX5_init 19 = .ok (.bipush 32, 2) := by decide +kernel
theorem dX5_init_21 : decode cX5_init 21 = .ok (.newarray .int, 2) := by decide +kernel
theorem dX5_init_23 : decode cX5_init 23 = .ok (.putfield 18, 3) := by decide +kernel
theorem dX5_init_26 : decode cX5_init 26 = .ok (.aload_n 0, 1) := by decide +kernel
theorem dX5_init_27 : decode cX5_init 27 = .ok (.aload_n 1, 1) := by decide +kernel
theorem dX5_init_28 : decode cX5_init 28 = .ok (.getfield 21, 3) := by decide +kernel
theorem dX5_init_31 : decode cX5_init 31 = .ok (.putfield 27, 3) := by decide +kernel
theorem dX5_init_34 : decode cX5_init 34 = .ok (.aload_n 0, 1) := by decide +kernel
theorem dX5_init_35 : decode cX5_init 35 = .ok (.aload_n 1, 1) := by decide +kernel
theorem dX5_init_36 : decode cX5_init 36 = .ok (.getfield 28, 3) := by decide +kernel
theorem dX5_init_39 : decode cX5_init 39 = .ok (.putfield 32, 3) := by decide +kernel
theorem dX5_init_42 : decode cX5_init 42 = .ok (.return_, 1) := by decide +kernel
def wo5 (cI cZ cQ : ClassId) (h0 : Nat) (x1 : Nat) (y1 y2 : Nat) (u : Nat → Nat) : va_W := [(h0, .inr (5, [.ref (u 0), .ref (u 1), .ref (u 2), .ref y1, .ref y2])), (x1, .inr (8, [.ref y1, .ref y2])), ((u 0), .inl (cI, 5, .inl (fun _ => 0))), ((u 1), .inl (cI, 5, .inl (fun _ => 0))), ((u 2), .inl (cI, 32, .inl (fun _ => 0)))]
set_option maxHeartbeats 8000000 in
set_option maxRecDepth 100000 in
theorem kX5_init (l : Launch) (D : va_G) (cI cZ cQ : ClassId) (h0 : Nat) (x1 : Nat) (y1 y2 : Nat) (sz : Nat) : Met l yX5_init (Cond.code yX5_init cX5_init 2 none :: gtbl) ({ frames := 1, cells := 3, slots := 42, locals := 64 } : Room) (va_Pc [.ref h0, .ref x1] (fun U => U.heap.size = sz ∧ va_P D cls [(h0, .inr (5, [.null, .null, .null, .null, .null])), (x1, .inr (8, [.ref y1, .ref y2]))] U.heap ∧ va_K D cls (tyq cI cZ cQ) U ∧ va_D (fun _ => True) [(h0, .inr (5, [.null, .null, .null, .null, .null])), (x1, .inr (8, [.ref y1, .ref y2]))] ∧ nW U)) (va_Qv (fun _ : Nat → Nat => True) (fun u t => va_P D cls (wo5 cI cZ cQ h0 x1 y1 y2 u) t.heap ∧ va_D (va_A [(h0, .inr (5, [.null, .null, .null, .null, .null])), (x1, .inr (8, [.ref y1, .ref y2]))] sz) (wo5 cI cZ cQ h0 x1 y1 y2 u)) (va_A [(h0, .inr (5, [.null, .null, .null, .null, .null])), (x1, .inr (8, [.ref y1, .ref y2]))] sz)) 3 42 (va_A [(h0, .inr (5, [.null, .null, .null, .null, .null])), (x1, .inr (8, [.ref y1, .ref y2]))] sz) := by
  refine Met.ofW (cc := cX5_init) (maxL := 2) (ret := none) (by decide) rfl ?_
  intro p e s m args below meth c s₁ B hml hv
  obtain ⟨rfl, hsz, hP, hK, hD0, hN⟩ := hv
  have hx := B.exec
  have hb := B.bytes
  have hr := B.returns
  have hts0 := atoms_spec (ws := Cond.code yX5_init cX5_init 2 none :: gtbl) B.pre
  have hts : ∀ w ∈ gtbl, w.before ([.ref h0, .ref x1] : List Value).toArray s = true := fun w hw => hts0 w (List.mem_cons_of_mem _ hw)
  have hown : s.vm.findClass RX5 = some m.cls := findClass_of_methodNamed B.named
  have hlocks := B.notSynchronized
  have hin : meth.name = "<init>" := (name_of_methodNamed B.named B.method).1
  subst hsz
  have hD := hD0.self (sz := s.heap.size)
  generalize hAe : va_A [(h0, .inr (5, [.null, .null, .null, .null, .null])), (x1, .inr (8, [.ref y1, .ref y2]))] s.heap.size = A at hD ⊢
  have hA : ∀ q : Nat, s.heap.size ≤ q → A q := fun q h => by rw [← hAe]; exact Or.inr h
  have hS : va_S A s.heap s.heap [] := va_S.rf
  have hP : va_P D cls [(h0, .inr (5, [.null, .null, .null, .null, .null])), (x1, .inr (8, [.ref y1, .ref y2]))] s.heap := hP
  have hl := lv_entry ([.ref h0, .ref x1]) (n := 2) (Nat.le_of_ble_eq_true rfl)
  rw [lg_entry_eq]
  generalize (lg_sl ([.ref h0, .ref x1]) ++ List.replicate (2 - (lg_sl ([.ref h0, .ref x1])).length) Slot.unset).toArray = ls at hl ⊢
  have hl : lv_has ls 2 [(0, .ref h0), (1, .ref x1)] := hl
  refine lv_aload_n hx hb dX5_init_0 rfl (lv_at hl 0 rfl) ?_
  refine W.objInit hx hb hown (hts _ (gt_has (i := 277) (w := .methodLink RX5 3 Lib.objectInit) (by decide +kernel))) (hts _ (gt_has (i := 91) (w := .instanceMethod Lib.objectInit) (by decide +kernel))) (hts _ (gt_has (i := 92) (w := .code Lib.objectInit object_method_1_code 1 none) (by decide +kernel))) rfl (by rw [hml]; exact hl.1) rfl dX5_init_1 (Nat.le_of_ble_eq_true rfl) (Nat.le_of_ble_eq_true rfl) ?_
  refine W.eq (g2 := F0 m 4 ls []) rfl ?_
  refine lv_aload_n hx hb dX5_init_4 rfl (lv_at hl 0 rfl) ?_
  refine lv_iconst (v := 5) hx hb dX5_init_5 (by decide) ?_
  refine w_newI (N' := 5) hx hb (hts _ (gt_has (i := 106) (w := .arrayClass .int) (by decide +kernel))) hK hP hD hS hA (by decide) (by decide +kernel) (Nat.le_of_ble_eq_true rfl) (Nat.le_of_ble_eq_true rfl) (Nat.le_of_ble_eq_true rfl) dX5_init_6 (fun q6 H hP hD hS => ?_)
  have hP : va_P D cls [(h0, .inr (5, [.null, .null, .null, .null, .null])), (x1, .inr (8, [.ref y1, .ref y2])), (q6, .inl (cI, 5, .inl (fun _ => 0)))] H := hP
  have hD : va_D A [(h0, .inr (5, [.null, .null, .null, .null, .null])), (x1, .inr (8, [.ref y1, .ref y2])), (q6, .inl (cI, 5, .inl (fun _ => 0)))] := hD
  refine W.widen (k := 1) (n := 5) (by omega) (by omega) ?_
  refine va_putF (D := D) (ci := 5) (v := .ref q6) (ty := (.array .int)) (C := RX5) (T := TX5) (N := 5) hx hb hts (cl_ok (RX5, TX5, 5) (List.mem_of_getElem? (i := 5) rfl)).1 tyX5 tyX5_ok nmX5 hown hK hP hD hS 0 rfl rfl 0 (by decide) (hts _ (gt_has (i := 278) (w := .fieldLink RX5 9 "ThirdLetter$Seating" "letters" "[I") (by decide +kernel))) (fun _ h9 => h9) rfl hin rfl (by decide +kernel) rfl rfl (Nat.le_of_ble_eq_true rfl) dX5_init_8 (fun H locs hP hD hS => ?_)
  have hP : va_P D cls [(h0, .inr (5, [.ref q6, .null, .null, .null, .null])), (x1, .inr (8, [.ref y1, .ref y2])), (q6, .inl (cI, 5, .inl (fun _ => 0)))] H := hP
  have hD : va_D A [(h0, .inr (5, [.ref q6, .null, .null, .null, .null])), (x1, .inr (8, [.ref y1, .ref y2])), (q6, .inl (cI, 5, .inl (fun _ => 0)))] := hD
  refine lv_aload_n hx hb dX5_init_11 rfl (lv_at hl 0 rfl) ?_
  refine lv_iconst (v := 5) hx hb dX5_init_12 (by decide) ?_
  refine w_newI (N' := 5) hx hb (hts _ (gt_has (i := 106) (w := .arrayClass .int) (by decide +kernel))) hK hP hD hS hA (by decide) (by decide +kernel) (Nat.le_of_ble_eq_true rfl) (Nat.le_of_ble_eq_true rfl) (Nat.le_of_ble_eq_true rfl) dX5_init_13 (fun q13 H hP hD hS => ?_)
  have hP : va_P D cls [(h0, .inr (5, [.ref q6, .null, .null, .null, .null])), (x1, .inr (8, [.ref y1, .ref y2])), (q6, .inl (cI, 5, .inl (fun _ => 0))), (q13, .inl (cI, 5, .inl (fun _ => 0)))] H := hP
  have hD : va_D A [(h0, .inr (5, [.ref q6, .null, .null, .null, .null])), (x1, .inr (8, [.ref y1, .ref y2])), (q6, .inl (cI, 5, .inl (fun _ => 0))), (q13, .inl (cI, 5, .inl (fun _ => 0)))] := hD
  refine W.widen (k := 2) (n := 10) (by omega) (by omega) ?_
  refine va_putF (D := D) (ci := 5) (v := .ref q13) (ty := (.array .int)) (C := RX5) (T := TX5) (N := 5) hx hb hts (cl_ok (RX5, TX5, 5) (List.mem_of_getElem? (i := 5) rfl)).1 tyX5 tyX5_ok nmX5 hown hK hP hD hS 0 rfl rfl 1 (by decide) (hts _ (gt_has (i := 279) (w := .fieldLink RX5 15 "ThirdLetter$Seating" "seconds" "[I") (by decide +kernel))) (fun _ h9 => h9) rfl hin rfl (by decide +kernel) rfl rfl (Nat.le_of_ble_eq_true rfl) dX5_init_15 (fun H locs hP hD hS => ?_)
  have hP : va_P D cls [(h0, .inr (5, [.ref q6, .ref q13, .null, .null, .null])), (x1, .inr (8, [.ref y1, .ref y2])), (q6, .inl (cI, 5, .inl (fun _ => 0))), (q13, .inl (cI, 5, .inl (fun _ => 0)))] H := hP
  have hD : va_D A [(h0, .inr (5, [.ref q6, .ref q13, .null, .null, .null])), (x1, .inr (8, [.ref y1, .ref y2])), (q6, .inl (cI, 5, .inl (fun _ => 0))), (q13, .inl (cI, 5, .inl (fun _ => 0)))] := hD
  refine lv_aload_n hx hb dX5_init_18 rfl (lv_at hl 0 rfl) ?_
  refine lv_bipush (v := 32) hx hb dX5_init_19 (by decide) ?_
  refine w_newI (N' := 32) hx hb (hts _ (gt_has (i := 106) (w := .arrayClass .int) (by decide +kernel))) hK hP hD hS hA (by decide) (by decide +kernel) (Nat.le_of_ble_eq_true rfl) (Nat.le_of_ble_eq_true rfl) (Nat.le_of_ble_eq_true rfl) dX5_init_21 (fun q21 H hP hD hS => ?_)
  have hP : va_P D cls [(h0, .inr (5, [.ref q6, .ref q13, .null, .null, .null])), (x1, .inr (8, [.ref y1, .ref y2])), (q6, .inl (cI, 5, .inl (fun _ => 0))), (q13, .inl (cI, 5, .inl (fun _ => 0))), (q21, .inl (cI, 32, .inl (fun _ => 0)))] H := hP
  have hD : va_D A [(h0, .inr (5, [.ref q6, .ref q13, .null, .null, .null])), (x1, .inr (8, [.ref y1, .ref y2])), (q6, .inl (cI, 5, .inl (fun _ => 0))), (q13, .inl (cI, 5, .inl (fun _ => 0))), (q21, .inl (cI, 32, .inl (fun _ => 0)))] := hD
  refine W.widen (k := 3) (n := 42) (by omega) (by omega) ?_
  refine va_putF (D := D) (ci := 5) (v := .ref q21) (ty := (.array .int)) (C := RX5) (T := TX5) (N := 5) hx hb hts (cl_ok (RX5, TX5, 5) (List.mem_of_getElem? (i := 5) rfl)).1 tyX5 tyX5_ok nmX5 hown hK hP hD hS 0 rfl rfl 2 (by decide) (hts _ (gt_has (i := 280) (w := .fieldLink RX5 18 "ThirdLetter$Seating" "fewest" "[I") (by decide +kernel))) (fun _ h9 => h9) rfl hin rfl (by decide +kernel) rfl rfl (Nat.le_of_ble_eq_true rfl) dX5_init_23 (fun H locs hP hD hS => ?_)
  have hP : va_P D cls [(h0, .inr (5, [.ref q6, .ref q13, .ref q21, .null, .null])), (x1, .inr (8, [.ref y1, .ref y2])), (q6, .inl (cI, 5, .inl (fun _ => 0))), (q13, .inl (cI, 5, .inl (fun _ => 0))), (q21, .inl (cI, 32, .inl (fun _ => 0)))] H := hP
  have hD : va_D A [(h0, .inr (5, [.ref q6, .ref q13, .ref q21, .null, .null])), (x1, .inr (8, [.ref y1, .ref y2])), (q6, .inl (cI, 5, .inl (fun _ => 0))), (q13, .inl (cI, 5, .inl (fun _ => 0))), (q21, .inl (cI, 32, .inl (fun _ => 0)))] := hD
  refine lv_aload_n hx hb dX5_init_26 rfl (lv_at hl 0 rfl) ?_
  refine lv_aload_n hx hb dX5_init_27 rfl (lv_at hl 1 rfl) ?_
  refine va_get (D := D) (ci := 8) (v := .ref y1) (C := RX8) (T := TX8) (N := 2) hx hb hts (cl_ok (RX8, TX8, 2) (List.mem_of_getElem? (i := 8) rfl)).1 hown hK hP 1 rfl rfl 0 (by decide) (hts _ (gt_has (i := 156) (w := .fieldLink RX5 21 "ThirdLetter$Told" "list" "LThirdLetter$WordList;") (by decide +kernel))) (fun _ h9 => h9) rfl dX5_init_28 ?_
  refine va_putF (D := D) (ci := 5) (v := .ref y1) (ty := (.object "ThirdLetter$WordList")) (C := RX5) (T := TX5) (N := 5) hx hb hts (cl_ok (RX5, TX5, 5) (List.mem_of_getElem? (i := 5) rfl)).1 tyX5 tyX5_ok nmX5 hown hK hP hD hS 0 rfl rfl 3 (by decide) (hts _ (gt_has (i := 281) (w := .fieldLink RX5 27 "ThirdLetter$Seating" "list" "LThirdLetter$WordList;") (by decide +kernel))) (fun _ h9 => h9) rfl hin rfl (by decide +kernel) rfl rfl (Nat.le_of_ble_eq_true rfl) dX5_init_31 (fun H locs hP hD hS => ?_)
  have hP : va_P D cls [(h0, .inr (5, [.ref q6, .ref q13, .ref q21, .ref y1, .null])), (x1, .inr (8, [.ref y1, .ref y2])), (q6, .inl (cI, 5, .inl (fun _ => 0))), (q13, .inl (cI, 5, .inl (fun _ => 0))), (q21, .inl (cI, 32, .inl (fun _ => 0)))] H := hP
  have hD : va_D A [(h0, .inr (5, [.ref q6, .ref q13, .ref q21, .ref y1, .null])), (x1, .inr (8, [.ref y1, .ref y2])), (q6, .inl (cI, 5, .inl (fun _ => 0))), (q13, .inl (cI, 5, .inl (fun _ => 0))), (q21, .inl (cI, 32, .inl (fun _ => 0)))] := hD
  refine lv_aload_n hx hb dX5_init_34 rfl (lv_at hl 0 rfl) ?_
  refine lv_aload_n hx hb dX5_init_35 rfl (lv_at hl 1 rfl) ?_
  refine va_get (D := D) (ci := 8) (v := .ref y2) (C := RX8) (T := TX8) (N := 2) hx hb hts (cl_ok (RX8, TX8, 2) (List.mem_of_getElem? (i := 8) rfl)).1 hown hK hP 1 rfl rfl 1 (by decide) (hts _ (gt_has (i := 161) (w := .fieldLink RX5 28 "ThirdLetter$Told" "choir" "LThirdLetter$Choir;") (by decide +kernel))) (fun _ h9 => h9) rfl dX5_init_36 ?_
  refine va_putF (D := D) (ci := 5) (v := .ref y2) (ty := (.object "ThirdLetter$Choir")) (C := RX5) (T := TX5) (N := 5) hx hb hts (cl_ok (RX5, TX5, 5) (List.mem_of_getElem? (i := 5) rfl)).1 tyX5 tyX5_ok nmX5 hown hK hP hD hS 0 rfl rfl 4 (by decide) (hts _ (gt_has (i := 282) (w := .fieldLink RX5 32 "ThirdLetter$Seating" "choir" "LThirdLetter$Choir;") (by decide +kernel))) (fun _ h9 => h9) rfl hin rfl (by decide +kernel) rfl rfl (Nat.le_of_ble_eq_true rfl) dX5_init_39 (fun H locs hP hD hS => ?_)
  have hP : va_P D cls [(h0, .inr (5, [.ref q6, .ref q13, .ref q21, .ref y1, .ref y2])), (x1, .inr (8, [.ref y1, .ref y2])), (q6, .inl (cI, 5, .inl (fun _ => 0))), (q13, .inl (cI, 5, .inl (fun _ => 0))), (q21, .inl (cI, 32, .inl (fun _ => 0)))] H := hP
  have hD : va_D A [(h0, .inr (5, [.ref q6, .ref q13, .ref q21, .ref y1, .ref y2])), (x1, .inr (8, [.ref y1, .ref y2])), (q6, .inl (cI, 5, .inl (fun _ => 0))), (q13, .inl (cI, 5, .inl (fun _ => 0))), (q21, .inl (cI, 32, .inl (fun _ => 0)))] := hD
  refine W.widen (k := 3) (n := 42) (by omega) (by omega) ?_
  exact W.vret hx hb hr (fun t ht hW => ⟨⟨fun j => ([q6, q13, q21] : List Nat).getD j 0, rfl, trivial, by rw [ht]; exact hP, hD⟩, hS.F ht⟩) hS.2.2 dX5_init_42
theorem dX11_init_0 : decode cX11_init 0 = .ok (.aload_n 0, 1) := by decide +kernel
theorem dX11_init_1 : decode cX11_init 1 = .ok (.invokespecial 1, 3) := by decide +kernel
theorem dX11_init_4 : decode cX11_init 4 = .ok (.aload_n 0, 1) := by decide +kernel
theorem dX11_init_5 : decode cX11_init 5 = .ok (.iconst 3, 1) := by decide +kernel
theorem dX11_init_6 : decode cX11_init 6 = .ok (.putfield 7, 3) := by decide +kernel
theorem dX11_init_9 : decode cX11_init 9 = .ok (.aload_n 0, 1) := by decide +kernel
theorem dX11_init_10 : decode cX11_init 10 = .ok (.iconst 5, 1) := by decide +kernel
theorem dX11_init_11 : decode cX11_init 11 = .ok (.newarray .int, 2) := by decide +kernel
theorem dX11_init_13 : decode cX11_init 13 = .ok (.putfield 13, 3) := by decide +kernel
theorem dX11_init_16 : decode cX11_init 16 = .ok (.aload_n 0, 1) := by decide +kernel
theorem dX11_init_17 : decode cX11_init 17 = .ok (.bipush 12, 2) := by decide +kernel
theorem dX11_init_19 : decode cX11_init 19 = .ok (.newarray .int, 2) := by decide +kernel
theorem dX11_init_21 : decode cX11_init 21 = .ok (.putfield 17, 3) := by decide +kernel
theorem dX11_init_24 : decode cX11_init 24 = .ok (.aload_n 0, 1) := by decide +kernel
theorem dX11_init_25 : decode cX11_init 25 = .ok (.bipush 12, 2) := by decide +kernel
theorem dX11_init_27 : decode cX11_init 27 = .ok (.newarray .int, 2) := by decide +kernel
theorem dX11_init_29 : decode cX11_init 29 = .ok (.putfield 20, 3) := by decide +kernel
theorem dX11_init_32 : decode cX11_init 32 = .ok (.aload_n 0, 1) := by decide +kernel
theorem dX11_init_33 : decode cX11_init 33 = .ok (.bipush 120, 2) := by decide +kernel
theorem dX11_init_35 : decode cX11_init 35 = .ok (.newarray .int, 2) := by decide +kernel
theorem dX11_init_37 : decode cX11_init 37 = .ok (.putfield 23, 3) := by decide +kernel
theorem dX11_init_40 : decode cX11_init 40 = .ok (.aload_n 0, 1) := by decide +kernel
theorem dX11_init_41 : decode cX11_init 41 = .ok (.sipush 511, 3) := by decide +kernel
theorem dX11_init_44 : decode cX11_init 44 = .ok (.putfield 26, 3) := by decide +kernel
theorem dX11_init_47 : decode cX11_init 47 = .ok (.aload_n 0, 1) := by decide +kernel
theorem dX11_init_48 : decode cX11_init 48 = .ok (.sipush 200, 3) := by decide +kernel
theorem dX11_init_51 : decode cX11_init 51 = .ok (.newarray .int, 2) := by decide +kernel
theorem dX11_init_53 : decode cX11_init 53 = .ok (.putfield 29, 3) := by decide +kernel
theorem dX11_init_56 : decode cX11_init 56 = .ok (.aload_n 0, 1) := by decide +kernel
theorem dX11_init_57 : decode cX11_init 57 = .ok (.bipush 24, 2) := by decide +kernel
theorem dX11_init_59 : decode cX11_init 59 = .ok (.newarray .int, 2) := by decide +kernel
theorem dX11_init_61 : decode cX11_init 61 = .ok (.putfield 32, 3) := by decide +kernel
theorem dX11_init_64 : decode cX11_init 64 = .ok (.aload_n 0, 1) := by decide +kernel
theorem dX11_init_65 : decode cX11_init 65 = .ok (.sipush 240, 3) := by decide +kernel
theorem dX11_init_68 : decode cX11_init 68 = .ok (.newarray .int, 2) := by decide +kernel
theorem dX11_init_70 : decode cX11_init 70 = .ok (.putfield 35, 3) := by decide +kernel
theorem dX11_init_73 : decode cX11_init 73 = .ok (.aload_n 0, 1) := by decide +kernel
theorem dX11_init_74 : decode cX11_init 74 = .ok (.bipush 36, 2) := by decide +kernel
theorem dX11_init_76 : decode cX11_init 76 = .ok (.newarray .int, 2) := by decide +kernel
theorem dX11_init_78 : decode cX11_init 78 = .ok (.putfield 38, 3) := by decide +kernel
theorem dX11_init_81 : decode cX11_init 81 = .ok (.aload_n 0, 1) := by decide +kernel
theorem dX11_init_82 : decode cX11_init 82 = .ok (.bipush 6, 2) := by decide +kernel
theorem dX11_init_84 : decode cX11_init 84 = .ok (.newarray .int, 2) := by decide +kernel
theorem dX11_init_86 : decode cX11_init 86 = .ok (.putfield 41, 3) := by decide +kernel
theorem dX11_init_89 : decode cX11_init 89 = .ok (.aload_n 0, 1) := by decide +kernel
theorem dX11_init_90 : decode cX11_init 90 = .ok (.bipush 60, 2) := by decide +kernel
theorem dX11_init_92 : decode cX11_init 92 = .ok (.newarray .int, 2) := by decide +kernel
theorem dX11_init_94 : decode cX11_init 94 = .ok (.putfield 44, 3) := by decide +kernel
theorem dX11_init_97 : decode cX11_init 97 = .ok (.aload_n 0, 1) := by decide +kernel
theorem dX11_init_98 : decode cX11_init 98 = .ok (.bipush 16, 2) := by decide +kernel
theorem dX11_init_100 : decode cX11_init 100 = .ok (.newarray .int, 2) := by decide +kernel
theorem dX11_init_102 : decode cX11_init 102 = .ok (.putfield 47, 3) := by decide +kernel
theorem dX11_init_105 : decode cX11_init 105 = .ok (.aload_n 0, 1) := by decide +kernel
theorem dX11_init_106 : decode cX11_init 106 = .ok (.iconst 2, 1) := by decide +kernel
theorem dX11_init_107 : decode cX11_init 107 = .ok (.newarray .boolean, 2) := by decide +kernel
theorem dX11_init_109 : decode cX11_init 109 = .ok (.putfield 50, 3) := by decide +kernel
theorem dX11_init_112 : decode cX11_init 112 = .ok (.aload_n 0, 1) := by decide +kernel
theorem dX11_init_113 : decode cX11_init 113 = .ok (.sipush 5124, 3) := by decide +kernel
theorem dX11_init_116 : decode cX11_init 116 = .ok (.newarray .int, 2) := by decide +kernel
theorem dX11_init_118 : decode cX11_init 118 = .ok (.putfield 54, 3) := by decide +kernel
theorem dX11_init_121 : decode cX11_init 121 = .ok (.aload_n 0, 1) := by decide +kernel
theorem dX11_init_122 : decode cX11_init 122 = .ok (.sipush 5124, 3) := by decide +kernel
theorem dX11_init_125 : decode cX11_init 125 = .ok (.newarray .boolean, 2) := by decide +kernel
theorem dX11_init_127 : decode cX11_init 127 = .ok (.putfield 57, 3) := by decide +kernel
theorem dX11_init_130 : decode cX11_init 130 = .ok (.aload_n 0, 1) := by decide +kernel
theorem dX11_init_131 : decode cX11_init 131 = .ok (.iconst 5, 1) := by decide +kernel
theorem dX11_init_132 : decode cX11_init 132 = .ok (.newarray .int, 2) := by decide +kernel
theorem dX11_init_134 : decode cX11_init 134 = .ok (.putfield 60, 3) := by decide +kernel
theorem dX11_init_137 : decode cX11_init 137 = .ok (.aload_n 0, 1) := by decide +kernel
theorem dX11_init_138 : decode cX11_init 138 = .ok (.bipush 12, 2) := by decide +kernel
theorem dX11_init_140 : decode cX11_init 140 = .ok (.newarray .int, 2) := by decide +kernel
theorem dX11_init_142 : decode cX11_init 142 = .ok (.putfield 63, 3) := by decide +kernel
theorem dX11_init_145 : decode cX11_init 145 = .ok (.return_, 1) := by decide +kernel
def wo11 (cI cZ cQ : ClassId) (h0 : Nat) (u : Nat → Nat) : va_W := [(h0, .inr (11, [.int 3, .int 0, .int 0, .ref (u 0), .int 0, .ref (u 1), .ref (u 2), .ref (u 3), .int 511, .int 0, .ref (u 4), .int 0, .int 0, .long 0, .int 0, .int 0, .int 0, .int 0, .int 0, .int 0, .ref (u 5), .ref (u 6), .ref (u 7), .int 0, .ref (u 8), .int 0, .int 0, .ref (u 9), .ref (u 10), .ref (u 11), .ref (u 12), .ref (u 13), .ref (u 14), .ref (u 15)])), ((u 0), .inl (cI, 5, .inl (fun _ => 0))), ((u 1), .inl (cI, 12, .inl (fun _ => 0))), ((u 2), .inl (cI, 12, .inl (fun _ => 0))), ((u 3), .inl (cI, 120, .inl (fun _ => 0))), ((u 4), .inl (cI, 200, .inl (fun _ => 0))), ((u 5), .inl (cI, 24, .inl (fun _ => 0))), ((u 6), .inl (cI, 240, .inl (fun _ => 0))), ((u 7), .inl (cI, 36, .inl (fun _ => 0))), ((u 8), .inl (cI, 6, .inl (fun _ => 0))), ((u 9), .inl (cI, 60, .inl (fun _ => 0))), ((u 10), .inl (cI, 16, .inl (fun _ => 0))), ((u 11), .inl (cZ, 2, .inl (fun _ => 0))), ((u 12), .inl (cI, 5124, .inl (fun _ => 0))), ((u 13), .inl (cZ, 5124, .inl (fun _ => 0))), ((u 14), .inl (cI, 5, .inl (fun _ => 0))), ((u 15), .inl (cI, 12, .inl (fun _ => 0)))]
set_option maxHeartbeats 8000000 in
set_option maxRecDepth 100000 in
theorem kX11_init (l : Launch) (D : va_G) (cI cZ cQ : ClassId) (h0 : Nat) (sz : Nat) : Met l yX11_init (Cond.code yX11_init cX11_init 1 none :: gtbl) ({ frames := 1, cells := 16, slots := 10998, locals := 64 } : Room) (va_Pc [.ref h0] (fun U => U.heap.size = sz ∧ va_P D cls [(h0, .inr (11, [.int 0, .int 0, .int 0, .null, .int 0, .null, .null, .null, .int 0, .int 0, .null, .int 0, .int 0, .long 0, .int 0, .int 0, .int 0, .int 0, .int 0, .int 0, .null, .null, .null, .int 0, .null, .int 0, .int 0, .null, .null, .null, .null, .null, .null, .null]))] U.heap ∧ va_K D cls (tyq cI cZ cQ) U ∧ va_D (fun _ => True) [(h0, .inr (11, [.int 0, .int 0, .int 0, .null, .int 0, .null, .null, .null, .int 0, .int 0, .null, .int 0, .int 0, .long 0, .int 0, .int 0, .int 0, .int 0, .int 0, .int 0, .null, .null, .null, .int 0, .null, .int 0, .int 0, .null, .null, .null, .null, .null, .null, .null]))] ∧ nW U)) (va_Qv (fun _ : Nat → Nat => True) (fun u t => va_P D cls (wo11 cI cZ cQ h0 u) t.heap ∧ va_D (va_A [(h0, .inr (11, [.int 0, .int 0, .int 0, .null, .int 0, .null, .null, .null, .int 0, .int 0, .null, .int 0, .int 0, .long 0, .int 0, .int 0, .int 0, .int 0, .int 0, .int 0, .null, .null, .null, .int 0, .null, .int 0, .int 0, .null, .null, .null, .null, .null, .null, .null]))] sz) (wo11 cI cZ cQ h0 u)) (va_A [(h0, .inr (11, [.int 0, .int 0, .int 0, .null, .int 0, .null, .null, .null, .int 0, .int 0, .null, .int 0, .int 0, .long 0, .int 0, .int 0, .int 0, .int 0, .int 0, .int 0, .null, .null, .null, .int 0, .null, .int 0, .int 0, .null, .null, .null, .null, .null, .null, .null]))] sz)) 16 10998 (va_A [(h0, .inr (11, [.int 0, .int 0, .int 0, .null, .int 0, .null, .null, .null, .int 0, .int 0, .null, .int 0, .int 0, .long 0, .int 0, .int 0, .int 0, .int 0, .int 0, .int 0, .null, .null, .null, .int 0, .null, .int 0, .int 0, .null, .null, .null, .null, .null, .null, .null]))] sz) := by
  refine Met.ofW (cc := cX11_init) (maxL := 1) (ret := none) (by decide) rfl ?_
  intro p e s m args below meth c s₁ B hml hv
  obtain ⟨rfl, hsz, hP, hK, hD0, hN⟩ := hv
  have hx := B.exec
  have hb := B.bytes
  have hr := B.returns
  have hts0 := atoms_spec (ws := Cond.code yX11_init cX11_init 1 none :: gtbl) B.pre
  have hts : ∀ w ∈ gtbl, w.before ([.ref h0] : List Value).toArray s = true := fun w hw => hts0 w (List.mem_cons_of_mem _ hw)
  have hown : s.vm.findClass RX11 = some m.cls := findClass_of_methodNamed B.named
  have hlocks := B.notSynchronized
  have hin : meth.name = "<init>" := (name_of_methodNamed B.named B.method).1
  subst hsz
  have hD := hD0.self (sz := s.heap.size)
  generalize hAe : va_A [(h0, .inr (11, [.int 0, .int 0, .int 0, .null, .int 0, .null, .null, .null, .int 0, .int 0, .null, .int 0, .int 0, .long 0, .int 0, .int 0, .int 0, .int 0, .int 0, .int 0, .null, .null, .null, .int 0, .null, .int 0, .int 0, .null, .null, .null, .null, .null, .null, .null]))] s.heap.size = A at hD ⊢
  have hA : ∀ q : Nat, s.heap.size ≤ q → A q := fun q h => by rw [← hAe]; exact Or.inr h
  have hS : va_S A s.heap s.heap [] := va_S.rf
  have hP : va_P D cls [(h0, .inr (11, [.int 0, .int 0, .int 0, .null, .int 0, .null, .null, .null, .int 0, .int 0, .null, .int 0, .int 0, .long 0, .int 0, .int 0, .int 0, .int 0, .int 0, .int 0, .null, .null, .null, .int 0, .null, .int 0, .int 0, .null, .null, .null, .null, .null, .null, .null]))] s.heap := hP
  have hl := lv_entry ([.ref h0]) (n := 1) (Nat.le_of_ble_eq_true rfl)
  rw [lg_entry_eq]
  generalize (lg_sl ([.ref h0]) ++ List.replicate (1 - (lg_sl ([.ref h0])).length) Slot.unset).toArray = ls at hl ⊢
  have hl : lv_has ls 1 [(0, .ref h0)] := hl
  refine lv_aload_n hx hb dX11_init_0 rfl (lv_at hl 0 rfl) ?_
  refine W.objInit hx hb hown (hts _ (gt_has (i := 974) (w := .methodLink RX11 1 Lib.objectInit) (by decide +kernel))) (hts _ (gt_has (i := 91) (w := .instanceMethod Lib.objectInit) (by decide +kernel))) (hts _ (gt_has (i := 92) (w := .code Lib.objectInit object_method_1_code 1 none) (by decide +kernel))) rfl (by rw [hml]; exact hl.1) rfl dX11_init_1 (Nat.le_of_ble_eq_true rfl) (Nat.le_of_ble_eq_true rfl) ?_
  refine W.eq (g2 := F0 m 4 ls []) rfl ?_
  refine lv_aload_n hx hb dX11_init_4 rfl (lv_at hl 0 rfl) ?_
  refine lv_iconst (v := 3) hx hb dX11_init_5 (by decide) ?_
  refine va_put (D := D) (ci := 11) (v := .int 3) (ty := .int) (C := RX11) (T := TX11) (N := 34) hx hb hts (cl_ok (RX11, TX11, 34) (List.mem_of_getElem? (i := 11) rfl)).1 tyX11 tyX11_ok nmX11 hown hK hP hD hS 0 rfl rfl 0 (by decide) (hts _ (gt_has (i := 975) (w := .fieldLink RX11 7 "ThirdLetterModel" "voices" "I") (by decide +kernel))) (fun _ h9 => h9) rfl (by decide +kernel) rfl rfl (Nat.le_of_ble_eq_true rfl) dX11_init_6 (fun H locs hP hD hS => ?_)
  have hP : va_P D cls [(h0, .inr (11, [.int 3, .int 0, .int 0, .null, .int 0, .null, .null, .null, .int 0, .int 0, .null, .int 0, .int 0, .long 0, .int 0, .int 0, .int 0, .int 0, .int 0, .int 0, .null, .null, .null, .int 0, .null, .int 0, .int 0, .null, .null, .null, .null, .null, .null, .null]))] H := hP
  have hD : va_D A [(h0, .inr (11, [.int 3, .int 0, .int 0, .null, .int 0, .null, .null, .null, .int 0, .int 0, .null, .int 0, .int 0, .long 0, .int 0, .int 0, .int 0, .int 0, .int 0, .int 0, .null, .null, .null, .int 0, .null, .int 0, .int 0, .null, .null, .null, .null, .null, .null, .null]))] := hD
  refine lv_aload_n hx hb dX11_init_9 rfl (lv_at hl 0 rfl) ?_
  refine lv_iconst (v := 5) hx hb dX11_init_10 (by decide) ?_
  refine w_newI (N' := 5) hx hb (hts _ (gt_has (i := 106) (w := .arrayClass .int) (by decide +kernel))) hK hP hD hS hA (by decide) (by decide +kernel) (Nat.le_of_ble_eq_true rfl) (Nat.le_of_ble_eq_true rfl) (Nat.le_of_ble_eq_true rfl) dX11_init_11 (fun q11 H hP hD hS => ?_)
  have hP : va_P D cls [(h0, .inr (11, [.int 3, .int 0, .int 0, .null, .int 0, .null, .null, .null, .int 0, .int 0, .null, .int 0, .int 0, .long 0, .int 0, .int 0, .int 0, .int 0, .int 0, .int 0, .null, .null, .null, .int 0, .null, .int 0, .int 0, .null, .null, .null, .null, .null, .null, .null])), (q11, .inl (cI, 5, .inl (fun _ => 0)))] H := hP
  have hD : va_D A [(h0, .inr (11, [.int 3, .int 0, .int 0, .null, .int 0, .null, .null, .null, .int 0, .int 0, .null, .int 0, .int 0, .long 0, .int 0, .int 0, .int 0, .int 0, .int 0, .int 0, .null, .null, .null, .int 0, .null, .int 0, .int 0, .null, .null, .null, .null, .null, .null, .null])), (q11, .inl (cI, 5, .inl (fun _ => 0)))] := hD
  refine W.widen (k := 1) (n := 5) (by omega) (by omega) ?_
  refine va_putF (D := D) (ci := 11) (v := .ref q11) (ty := (.array .int)) (C := RX11) (T := TX11) (N := 34) hx hb hts (cl_ok (RX11, TX11, 34) (List.mem_of_getElem? (i := 11) rfl)).1 tyX11 tyX11_ok nmX11 hown hK hP hD hS 0 rfl rfl 3 (by decide) (hts _ (gt_has (i := 978) (w := .fieldLink RX11 13 "ThirdLetterModel" "late" "[I") (by decide +kernel))) (fun _ h9 => h9) rfl hin rfl (by decide +kernel) rfl rfl (Nat.le_of_ble_eq_true rfl) dX11_init_13 (fun H locs hP hD hS => ?_)
  have hP : va_P D cls [(h0, .inr (11, [.int 3, .int 0, .int 0, .ref q11, .int 0, .null, .null, .null, .int 0, .int 0, .null, .int 0, .int 0, .long 0, .int 0, .int 0, .int 0, .int 0, .int 0, .int 0, .null, .null, .null, .int 0, .null, .int 0, .int 0, .null, .null, .null, .null, .null, .null, .null])), (q11, .inl (cI, 5, .inl (fun _ => 0)))] H := hP
  have hD : va_D A [(h0, .inr (11, [.int 3, .int 0, .int 0, .ref q11, .int 0, .null, .null, .null, .int 0, .int 0, .null, .int 0, .int 0, .long 0, .int 0, .int 0, .int 0, .int 0, .int 0, .int 0, .null, .null, .null, .int 0, .null, .int 0, .int 0, .null, .null, .null, .null, .null, .null, .null])), (q11, .inl (cI, 5, .inl (fun _ => 0)))] := hD
  refine lv_aload_n hx hb dX11_init_16 rfl (lv_at hl 0 rfl) ?_
  refine lv_bipush (v := 12) hx hb dX11_init_17 (by decide) ?_
  refine w_newI (N' := 12) hx hb (hts _ (gt_has (i := 106) (w := .arrayClass .int) (by decide +kernel))) hK hP hD hS hA (by decide) (by decide +kernel) (Nat.le_of_ble_eq_true rfl) (Nat.le_of_ble_eq_true rfl) (Nat.le_of_ble_eq_true rfl) dX11_init_19 (fun q19 H hP hD hS => ?_)
  have hP : va_P D cls [(h0, .inr (11, [.int 3, .int 0, .int 0, .ref q11, .int 0, .null, .null, .null, .int 0, .int 0, .null, .int 0, .int 0, .long 0, .int 0, .int 0, .int 0, .int 0, .int 0, .int 0, .null, .null, .null, .int 0, .null, .int 0, .int 0, .null, .null, .null, .null, .null, .null, .null])), (q11, .inl (cI, 5, .inl (fun _ => 0))), (q19, .inl (cI, 12, .inl (fun _ => 0)))] H := hP
  have hD : va_D A [(h0, .inr (11, [.int 3, .int 0, .int 0, .ref q11, .int 0, .null, .null, .null, .int 0, .int 0, .null, .int 0, .int 0, .long 0, .int 0, .int 0, .int 0, .int 0, .int 0, .int 0, .null, .null, .null, .int 0, .null, .int 0, .int 0, .null, .null, .null, .null, .null, .null, .null])), (q11, .inl (cI, 5, .inl (fun _ => 0))), (q19, .inl (cI, 12, .inl (fun _ => 0)))] := hD
  refine W.widen (k := 2) (n := 17) (by omega) (by omega) ?_
  refine va_putF (D := D) (ci := 11) (v := .ref q19) (ty := (.array .int)) (C := RX11) (T := TX11) (N := 34) hx hb hts (cl_ok (RX11, TX11, 34) (List.mem_of_getElem? (i := 11) rfl)).1 tyX11 tyX11_ok nmX11 hown hK hP hD hS 0 rfl rfl 5 (by decide) (hts _ (gt_has (i := 980) (w := .fieldLink RX11 17 "ThirdLetterModel" "sort" "[I") (by decide +kernel))) (fun _ h9 => h9) rfl hin rfl (by decide +kernel) rfl rfl (Nat.le_of_ble_eq_true rfl) dX11_init_21 (fun H locs hP hD hS => ?_)
  have hP : va_P D cls [(h0, .inr (11, [.int 3, .int 0, .int 0, .ref q11, .int 0, .ref q19, .null, .null, .int 0, .int 0, .null, .int 0, .int 0, .long 0, .int 0, .int 0, .int 0, .int 0, .int 0, .int 0, .null, .null, .null, .int 0, .null, .int 0, .int 0, .null, .null, .null, .null, .null, .null, .null])), (q11, .inl (cI, 5, .inl (fun _ => 0))), (q19, .inl (cI, 12, .inl (fun _ => 0)))] H := hP
  have hD : va_D A [(h0, .inr (11, [.int 3, .int 0, .int 0, .ref q11, .int 0, .ref q19, .null, .null, .int 0, .int 0, .null, .int 0, .int 0, .long 0, .int 0, .int 0, .int 0, .int 0, .int 0, .int 0, .null, .null, .null, .int 0, .null, .int 0, .int 0, .null, .null, .null, .null, .null, .null, .null])), (q11, .inl (cI, 5, .inl (fun _ => 0))), (q19, .inl (cI, 12, .inl (fun _ => 0)))] := hD
  refine lv_aload_n hx hb dX11_init_24 rfl (lv_at hl 0 rfl) ?_
  refine lv_bipush (v := 12) hx hb dX11_init_25 (by decide) ?_
  refine w_newI (N' := 12) hx hb (hts _ (gt_has (i := 106) (w := .arrayClass .int) (by decide +kernel))) hK hP hD hS hA (by decide) (by decide +kernel) (Nat.le_of_ble_eq_true rfl) (Nat.le_of_ble_eq_true rfl) (Nat.le_of_ble_eq_true rfl) dX11_init_27 (fun q27 H hP hD hS => ?_)
  have hP : va_P D cls [(h0, .inr (11, [.int 3, .int 0, .int 0, .ref q11, .int 0, .ref q19, .null, .null, .int 0, .int 0, .null, .int 0, .int 0, .long 0, .int 0, .int 0, .int 0, .int 0, .int 0, .int 0, .null, .null, .null, .int 0, .null, .int 0, .int 0, .null, .null, .null, .null, .null, .null, .null])), (q11, .inl (cI, 5, .inl (fun _ => 0))), (q19, .inl (cI, 12, .inl (fun _ => 0))), (q27, .inl (cI, 12, .inl (fun _ => 0)))] H := hP
  have hD : va_D A [(h0, .inr (11, [.int 3, .int 0, .int 0, .ref q11, .int 0, .ref q19, .null, .null, .int 0, .int 0, .null, .int 0, .int 0, .long 0, .int 0, .int 0, .int 0, .int 0, .int 0, .int 0, .null, .null, .null, .int 0, .null, .int 0, .int 0, .null, .null, .null, .null, .null, .null, .null])), (q11, .inl (cI, 5, .inl (fun _ => 0))), (q19, .inl (cI, 12, .inl (fun _ => 0))), (q27, .inl (cI, 12, .inl (fun _ => 0)))] := hD
  refine W.widen (k := 3) (n := 29) (by omega) (by omega) ?_
  refine va_putF (D := D) (ci := 11) (v := .ref q27) (ty := (.array .int)) (C := RX11) (T := TX11) (N := 34) hx hb hts (cl_ok (RX11, TX11, 34) (List.mem_of_getElem? (i := 11) rfl)).1 tyX11 tyX11_ok nmX11 hown hK hP hD hS 0 rfl rfl 6 (by decide) (hts _ (gt_has (i := 981) (w := .fieldLink RX11 20 "ThirdLetterModel" "size" "[I") (by decide +kernel))) (fun _ h9 => h9) rfl hin rfl (by decide +kernel) rfl rfl (Nat.le_of_ble_eq_true rfl) dX11_init_29 (fun H locs hP hD hS => ?_)
  have hP : va_P D cls [(h0, .inr (11, [.int 3, .int 0, .int 0, .ref q11, .int 0, .ref q19, .ref q27, .null, .int 0, .int 0, .null, .int 0, .int 0, .long 0, .int 0, .int 0, .int 0, .int 0, .int 0, .int 0, .null, .null, .null, .int 0, .null, .int 0, .int 0, .null, .null, .null, .null, .null, .null, .null])), (q11, .inl (cI, 5, .inl (fun _ => 0))), (q19, .inl (cI, 12, .inl (fun _ => 0))), (q27, .inl (cI, 12, .inl (fun _ => 0)))] H := hP
  have hD : va_D A [(h0, .inr (11, [.int 3, .int 0, .int 0, .ref q11, .int 0, .ref q19, .ref q27, .null, .int 0, .int 0, .null, .int 0, .int 0, .long 0, .int 0, .int 0, .int 0, .int 0, .int 0, .int 0, .null, .null, .null, .int 0, .null, .int 0, .int 0, .null, .null, .null, .null, .null, .null, .null])), (q11, .inl (cI, 5, .inl (fun _ => 0))), (q19, .inl (cI, 12, .inl (fun _ => 0))), (q27, .inl (cI, 12, .inl (fun _ => 0)))] := hD
  refine lv_aload_n hx hb dX11_init_32 rfl (lv_at hl 0 rfl) ?_
  refine lv_bipush (v := 120) hx hb dX11_init_33 (by decide) ?_
  refine w_newI (N' := 120) hx hb (hts _ (gt_has (i := 106) (w := .arrayClass .int) (by decide +kernel))) hK hP hD hS hA (by decide) (by decide +kernel) (Nat.le_of_ble_eq_true rfl) (Nat.le_of_ble_eq_true rfl) (Nat.le_of_ble_eq_true rfl) dX11_init_35 (fun q35 H hP hD hS => ?_)
  have hP : va_P D cls [(h0, .inr (11, [.int 3, .int 0, .int 0, .ref q11, .int 0, .ref q19, .ref q27, .null, .int 0, .int 0, .null, .int 0, .int 0, .long 0, .int 0, .int 0, .int 0, .int 0, .int 0, .int 0, .null, .null, .null, .int 0, .null, .int 0, .int 0, .null, .null, .null, .null, .null, .null, .null])), (q11, .inl (cI, 5, .inl (fun _ => 0))), (q19, .inl (cI, 12, .inl (fun _ => 0))), (q27, .inl (cI, 12, .inl (fun _ => 0))), (q35, .inl (cI, 120, .inl (fun _ => 0)))] H := hP
  have hD : va_D A [(h0, .inr (11, [.int 3, .int 0, .int 0, .ref q11, .int 0, .ref q19, .ref q27, .null, .int 0, .int 0, .null, .int 0, .int 0, .long 0, .int 0, .int 0, .int 0, .int 0, .int 0, .int 0, .null, .null, .null, .int 0, .null, .int 0, .int 0, .null, .null, .null, .null, .null, .null, .null])), (q11, .inl (cI, 5, .inl (fun _ => 0))), (q19, .inl (cI, 12, .inl (fun _ => 0))), (q27, .inl (cI, 12, .inl (fun _ => 0))), (q35, .inl (cI, 120, .inl (fun _ => 0)))] := hD
  refine W.widen (k := 4) (n := 149) (by omega) (by omega) ?_
  refine va_putF (D := D) (ci := 11) (v := .ref q35) (ty := (.array .int)) (C := RX11) (T := TX11) (N := 34) hx hb hts (cl_ok (RX11, TX11, 34) (List.mem_of_getElem? (i := 11) rfl)).1 tyX11 tyX11_ok nmX11 hown hK hP hD hS 0 rfl rfl 7 (by decide) (hts _ (gt_has (i := 982) (w := .fieldLink RX11 23 "ThirdLetterModel" "letter" "[I") (by decide +kernel))) (fun _ h9 => h9) rfl hin rfl (by decide +kernel) rfl rfl (Nat.le_of_ble_eq_true rfl) dX11_init_37 (fun H locs hP hD hS => ?_)
  have hP : va_P D cls [(h0, .inr (11, [.int 3, .int 0, .int 0, .ref q11, .int 0, .ref q19, .ref q27, .ref q35, .int 0, .int 0, .null, .int 0, .int 0, .long 0, .int 0, .int 0, .int 0, .int 0, .int 0, .int 0, .null, .null, .null, .int 0, .null, .int 0, .int 0, .null, .null, .null, .null, .null, .null, .null])), (q11, .inl (cI, 5, .inl (fun _ => 0))), (q19, .inl (cI, 12, .inl (fun _ => 0))), (q27, .inl (cI, 12, .inl (fun _ => 0))), (q35, .inl (cI, 120, .inl (fun _ => 0)))] H := hP
  have hD : va_D A [(h0, .inr (11, [.int 3, .int 0, .int 0, .ref q11, .int 0, .ref q19, .ref q27, .ref q35, .int 0, .int 0, .null, .int 0, .int 0, .long 0, .int 0, .int 0, .int 0, .int 0, .int 0, .int 0, .null, .null, .null, .int 0, .null, .int 0, .int 0, .null, .null, .null, .null, .null, .null, .null])), (q11, .inl (cI, 5, .inl (fun _ => 0))), (q19, .inl (cI, 12, .inl (fun _ => 0))), (q27, .inl (cI, 12, .inl (fun _ => 0))), (q35, .inl (cI, 120, .inl (fun _ => 0)))] := hD
  refine lv_aload_n hx hb dX11_init_40 rfl (lv_at hl 0 rfl) ?_
  refine lv_sipush (v := 511) hx hb dX11_init_41 (by decide) ?_
  refine va_put (D := D) (ci := 11) (v := .int 511) (ty := .int) (C := RX11) (T := TX11) (N := 34) hx hb hts (cl_ok (RX11, TX11, 34) (List.mem_of_getElem? (i := 11) rfl)).1 tyX11 tyX11_ok nmX11 hown hK hP hD hS 0 rfl rfl 8 (by decide) (hts _ (gt_has (i := 983) (w := .fieldLink RX11 26 "ThirdLetterModel" "follow" "I") (by decide +kernel))) (fun _ h9 => h9) rfl (by decide +kernel) rfl rfl (Nat.le_of_ble_eq_true rfl) dX11_init_44 (fun H locs hP hD hS => ?_)
  have hP : va_P D cls [(h0, .inr (11, [.int 3, .int 0, .int 0, .ref q11, .int 0, .ref q19, .ref q27, .ref q35, .int 511, .int 0, .null, .int 0, .int 0, .long 0, .int 0, .int 0, .int 0, .int 0, .int 0, .int 0, .null, .null, .null, .int 0, .null, .int 0, .int 0, .null, .null, .null, .null, .null, .null, .null])), (q11, .inl (cI, 5, .inl (fun _ => 0))), (q19, .inl (cI, 12, .inl (fun _ => 0))), (q27, .inl (cI, 12, .inl (fun _ => 0))), (q35, .inl (cI, 120, .inl (fun _ => 0)))] H := hP
  have hD : va_D A [(h0, .inr (11, [.int 3, .int 0, .int 0, .ref q11, .int 0, .ref q19, .ref q27, .ref q35, .int 511, .int 0, .null, .int 0, .int 0, .long 0, .int 0, .int 0, .int 0, .int 0, .int 0, .int 0, .null, .null, .null, .int 0, .null, .int 0, .int 0, .null, .null, .null, .null, .null, .null, .null])), (q11, .inl (cI, 5, .inl (fun _ => 0))), (q19, .inl (cI, 12, .inl (fun _ => 0))), (q27, .inl (cI, 12, .inl (fun _ => 0))), (q35, .inl (cI, 120, .inl (fun _ => 0)))] := hD
  refine lv_aload_n hx hb dX11_init_47 rfl (lv_at hl 0 rfl) ?_
  refine lv_sipush (v := 200) hx hb dX11_init_48 (by decide) ?_
  refine w_newI (N' := 200) hx hb (hts _ (gt_has (i := 106) (w := .arrayClass .int) (by decide +kernel))) hK hP hD hS hA (by decide) (by decide +kernel) (Nat.le_of_ble_eq_true rfl) (Nat.le_of_ble_eq_true rfl) (Nat.le_of_ble_eq_true rfl) dX11_init_51 (fun q51 H hP hD hS => ?_)
  have hP : va_P D cls [(h0, .inr (11, [.int 3, .int 0, .int 0, .ref q11, .int 0, .ref q19, .ref q27, .ref q35, .int 511, .int 0, .null, .int 0, .int 0, .long 0, .int 0, .int 0, .int 0, .int 0, .int 0, .int 0, .null, .null, .null, .int 0, .null, .int 0, .int 0, .null, .null, .null, .null, .null, .null, .null])), (q11, .inl (cI, 5, .inl (fun _ => 0))), (q19, .inl (cI, 12, .inl (fun _ => 0))), (q27, .inl (cI, 12, .inl (fun _ => 0))), (q35, .inl (cI, 120, .inl (fun _ => 0))), (q51, .inl (cI, 200, .inl (fun _ => 0)))] H := hP
  have hD : va_D A [(h0, .inr (11, [.int 3, .int 0, .int 0, .ref q11, .int 0, .ref q19, .ref q27, .ref q35, .int 511, .int 0, .null, .int 0, .int 0, .long 0, .int 0, .int 0, .int 0, .int 0, .int 0, .int 0, .null, .null, .null, .int 0, .null, .int 0, .int 0, .null, .null, .null, .null, .null, .null, .null])), (q11, .inl (cI, 5, .inl (fun _ => 0))), (q19, .inl (cI, 12, .inl (fun _ => 0))), (q27, .inl (cI, 12, .inl (fun _ => 0))), (q35, .inl (cI, 120, .inl (fun _ => 0))), (q51, .inl (cI, 200, .inl (fun _ => 0)))] := hD
  refine W.widen (k := 5) (n := 349) (by omega) (by omega) ?_
  refine va_putF (D := D) (ci := 11) (v := .ref q51) (ty := (.array .int)) (C := RX11) (T := TX11) (N := 34) hx hb hts (cl_ok (RX11, TX11, 34) (List.mem_of_getElem? (i := 11) rfl)).1 tyX11 tyX11_ok nmX11 hown hK hP hD hS 0 rfl rfl 10 (by decide) (hts _ (gt_has (i := 985) (w := .fieldLink RX11 29 "ThirdLetterModel" "text" "[I") (by decide +kernel))) (fun _ h9 => h9) rfl hin rfl (by decide +kernel) rfl rfl (Nat.le_of_ble_eq_true rfl) dX11_init_53 (fun H locs hP hD hS => ?_)
  have hP : va_P D cls [(h0, .inr (11, [.int 3, .int 0, .int 0, .ref q11, .int 0, .ref q19, .ref q27, .ref q35, .int 511, .int 0, .ref q51, .int 0, .int 0, .long 0, .int 0, .int 0, .int 0, .int 0, .int 0, .int 0, .null, .null, .null, .int 0, .null, .int 0, .int 0, .null, .null, .null, .null, .null, .null, .null])), (q11, .inl (cI, 5, .inl (fun _ => 0))), (q19, .inl (cI, 12, .inl (fun _ => 0))), (q27, .inl (cI, 12, .inl (fun _ => 0))), (q35, .inl (cI, 120, .inl (fun _ => 0))), (q51, .inl (cI, 200, .inl (fun _ => 0)))] H := hP
  have hD : va_D A [(h0, .inr (11, [.int 3, .int 0, .int 0, .ref q11, .int 0, .ref q19, .ref q27, .ref q35, .int 511, .int 0, .ref q51, .int 0, .int 0, .long 0, .int 0, .int 0, .int 0, .int 0, .int 0, .int 0, .null, .null, .null, .int 0, .null, .int 0, .int 0, .null, .null, .null, .null, .null, .null, .null])), (q11, .inl (cI, 5, .inl (fun _ => 0))), (q19, .inl (cI, 12, .inl (fun _ => 0))), (q27, .inl (cI, 12, .inl (fun _ => 0))), (q35, .inl (cI, 120, .inl (fun _ => 0))), (q51, .inl (cI, 200, .inl (fun _ => 0)))] := hD
  refine lv_aload_n hx hb dX11_init_56 rfl (lv_at hl 0 rfl) ?_
  refine lv_bipush (v := 24) hx hb dX11_init_57 (by decide) ?_
  refine w_newI (N' := 24) hx hb (hts _ (gt_has (i := 106) (w := .arrayClass .int) (by decide +kernel))) hK hP hD hS hA (by decide) (by decide +kernel) (Nat.le_of_ble_eq_true rfl) (Nat.le_of_ble_eq_true rfl) (Nat.le_of_ble_eq_true rfl) dX11_init_59 (fun q59 H hP hD hS => ?_)
  have hP : va_P D cls [(h0, .inr (11, [.int 3, .int 0, .int 0, .ref q11, .int 0, .ref q19, .ref q27, .ref q35, .int 511, .int 0, .ref q51, .int 0, .int 0, .long 0, .int 0, .int 0, .int 0, .int 0, .int 0, .int 0, .null, .null, .null, .int 0, .null, .int 0, .int 0, .null, .null, .null, .null, .null, .null, .null])), (q11, .inl (cI, 5, .inl (fun _ => 0))), (q19, .inl (cI, 12, .inl (fun _ => 0))), (q27, .inl (cI, 12, .inl (fun _ => 0))), (q35, .inl (cI, 120, .inl (fun _ => 0))), (q51, .inl (cI, 200, .inl (fun _ => 0))), (q59, .inl (cI, 24, .inl (fun _ => 0)))] H := hP
  have hD : va_D A [(h0, .inr (11, [.int 3, .int 0, .int 0, .ref q11, .int 0, .ref q19, .ref q27, .ref q35, .int 511, .int 0, .ref q51, .int 0, .int 0, .long 0, .int 0, .int 0, .int 0, .int 0, .int 0, .int 0, .null, .null, .null, .int 0, .null, .int 0, .int 0, .null, .null, .null, .null, .null, .null, .null])), (q11, .inl (cI, 5, .inl (fun _ => 0))), (q19, .inl (cI, 12, .inl (fun _ => 0))), (q27, .inl (cI, 12, .inl (fun _ => 0))), (q35, .inl (cI, 120, .inl (fun _ => 0))), (q51, .inl (cI, 200, .inl (fun _ => 0))), (q59, .inl (cI, 24, .inl (fun _ => 0)))] := hD
  refine W.widen (k := 6) (n := 373) (by omega) (by omega) ?_
  refine va_putF (D := D) (ci := 11) (v := .ref q59) (ty := (.array .int)) (C := RX11) (T := TX11) (N := 34) hx hb hts (cl_ok (RX11, TX11, 34) (List.mem_of_getElem? (i := 11) rfl)).1 tyX11 tyX11_ok nmX11 hown hK hP hD hS 0 rfl rfl 20 (by decide) (hts _ (gt_has (i := 995) (w := .fieldLink RX11 32 "ThirdLetterModel" "readSize" "[I") (by decide +kernel))) (fun _ h9 => h9) rfl hin rfl (by decide +kernel) rfl rfl (Nat.le_of_ble_eq_true rfl) dX11_init_61 (fun H locs hP hD hS => ?_)
  have hP : va_P D cls [(h0, .inr (11, [.int 3, .int 0, .int 0, .ref q11, .int 0, .ref q19, .ref q27, .ref q35, .int 511, .int 0, .ref q51, .int 0, .int 0, .long 0, .int 0, .int 0, .int 0, .int 0, .int 0, .int 0, .ref q59, .null, .null, .int 0, .null, .int 0, .int 0, .null, .null, .null, .null, .null, .null, .null])), (q11, .inl (cI, 5, .inl (fun _ => 0))), (q19, .inl (cI, 12, .inl (fun _ => 0))), (q27, .inl (cI, 12, .inl (fun _ => 0))), (q35, .inl (cI, 120, .inl (fun _ => 0))), (q51, .inl (cI, 200, .inl (fun _ => 0))), (q59, .inl (cI, 24, .inl (fun _ => 0)))] H := hP
  have hD : va_D A [(h0, .inr (11, [.int 3, .int 0, .int 0, .ref q11, .int 0, .ref q19, .ref q27, .ref q35, .int 511, .int 0, .ref q51, .int 0, .int 0, .long 0, .int 0, .int 0, .int 0, .int 0, .int 0, .int 0, .ref q59, .null, .null, .int 0, .null, .int 0, .int 0, .null, .null, .null, .null, .null, .null, .null])), (q11, .inl (cI, 5, .inl (fun _ => 0))), (q19, .inl (cI, 12, .inl (fun _ => 0))), (q27, .inl (cI, 12, .inl (fun _ => 0))), (q35, .inl (cI, 120, .inl (fun _ => 0))), (q51, .inl (cI, 200, .inl (fun _ => 0))), (q59, .inl (cI, 24, .inl (fun _ => 0)))] := hD
  refine lv_aload_n hx hb dX11_init_64 rfl (lv_at hl 0 rfl) ?_
  refine lv_sipush (v := 240) hx hb dX11_init_65 (by decide) ?_
  refine w_newI (N' := 240) hx hb (hts _ (gt_has (i := 106) (w := .arrayClass .int) (by decide +kernel))) hK hP hD hS hA (by decide) (by decide +kernel) (Nat.le_of_ble_eq_true rfl) (Nat.le_of_ble_eq_true rfl) (Nat.le_of_ble_eq_true rfl) dX11_init_68 (fun q68 H hP hD hS => ?_)
  have hP : va_P D cls [(h0, .inr (11, [.int 3, .int 0, .int 0, .ref q11, .int 0, .ref q19, .ref q27, .ref q35, .int 511, .int 0, .ref q51, .int 0, .int 0, .long 0, .int 0, .int 0, .int 0, .int 0, .int 0, .int 0, .ref q59, .null, .null, .int 0, .null, .int 0, .int 0, .null, .null, .null, .null, .null, .null, .null])), (q11, .inl (cI, 5, .inl (fun _ => 0))), (q19, .inl (cI, 12, .inl (fun _ => 0))), (q27, .inl (cI, 12, .inl (fun _ => 0))), (q35, .inl (cI, 120, .inl (fun _ => 0))), (q51, .inl (cI, 200, .inl (fun _ => 0))), (q59, .inl (cI, 24, .inl (fun _ => 0))), (q68, .inl (cI, 240, .inl (fun _ => 0)))] H := hP
  have hD : va_D A [(h0, .inr (11, [.int 3, .int 0, .int 0, .ref q11, .int 0, .ref q19, .ref q27, .ref q35, .int 511, .int 0, .ref q51, .int 0, .int 0, .long 0, .int 0, .int 0, .int 0, .int 0, .int 0, .int 0, .ref q59, .null, .null, .int 0, .null, .int 0, .int 0, .null, .null, .null, .null, .null, .null, .null])), (q11, .inl (cI, 5, .inl (fun _ => 0))), (q19, .inl (cI, 12, .inl (fun _ => 0))), (q27, .inl (cI, 12, .inl (fun _ => 0))), (q35, .inl (cI, 120, .inl (fun _ => 0))), (q51, .inl (cI, 200, .inl (fun _ => 0))), (q59, .inl (cI, 24, .inl (fun _ => 0))), (q68, .inl (cI, 240, .inl (fun _ => 0)))] := hD
  refine W.widen (k := 7) (n := 613) (by omega) (by omega) ?_
  refine va_putF (D := D) (ci := 11) (v := .ref q68) (ty := (.array .int)) (C := RX11) (T := TX11) (N := 34) hx hb hts (cl_ok (RX11, TX11, 34) (List.mem_of_getElem? (i := 11) rfl)).1 tyX11 tyX11_ok nmX11 hown hK hP hD hS 0 rfl rfl 21 (by decide) (hts _ (gt_has (i := 996) (w := .fieldLink RX11 35 "ThirdLetterModel" "readLetter" "[I") (by decide +kernel))) (fun _ h9 => h9) rfl hin rfl (by decide +kernel) rfl rfl (Nat.le_of_ble_eq_true rfl) dX11_init_70 (fun H locs hP hD hS => ?_)
  have hP : va_P D cls [(h0, .inr (11, [.int 3, .int 0, .int 0, .ref q11, .int 0, .ref q19, .ref q27, .ref q35, .int 511, .int 0, .ref q51, .int 0, .int 0, .long 0, .int 0, .int 0, .int 0, .int 0, .int 0, .int 0, .ref q59, .ref q68, .null, .int 0, .null, .int 0, .int 0, .null, .null, .null, .null, .null, .null, .null])), (q11, .inl (cI, 5, .inl (fun _ => 0))), (q19, .inl (cI, 12, .inl (fun _ => 0))), (q27, .inl (cI, 12, .inl (fun _ => 0))), (q35, .inl (cI, 120, .inl (fun _ => 0))), (q51, .inl (cI, 200, .inl (fun _ => 0))), (q59, .inl (cI, 24, .inl (fun _ => 0))), (q68, .inl (cI, 240, .inl (fun _ => 0)))] H := hP
  have hD : va_D A [(h0, .inr (11, [.int 3, .int 0, .int 0, .ref q11, .int 0, .ref q19, .ref q27, .ref q35, .int 511, .int 0, .ref q51, .int 0, .int 0, .long 0, .int 0, .int 0, .int 0, .int 0, .int 0, .int 0, .ref q59, .ref q68, .null, .int 0, .null, .int 0, .int 0, .null, .null, .null, .null, .null, .null, .null])), (q11, .inl (cI, 5, .inl (fun _ => 0))), (q19, .inl (cI, 12, .inl (fun _ => 0))), (q27, .inl (cI, 12, .inl (fun _ => 0))), (q35, .inl (cI, 120, .inl (fun _ => 0))), (q51, .inl (cI, 200, .inl (fun _ => 0))), (q59, .inl (cI, 24, .inl (fun _ => 0))), (q68, .inl (cI, 240, .inl (fun _ => 0)))] := hD
  refine lv_aload_n hx hb dX11_init_73 rfl (lv_at hl 0 rfl) ?_
  refine lv_bipush (v := 36) hx hb dX11_init_74 (by decide) ?_
  refine w_newI (N' := 36) hx hb (hts _ (gt_has (i := 106) (w := .arrayClass .int) (by decide +kernel))) hK hP hD hS hA (by decide) (by decide +kernel) (Nat.le_of_ble_eq_true rfl) (Nat.le_of_ble_eq_true rfl) (Nat.le_of_ble_eq_true rfl) dX11_init_76 (fun q76 H hP hD hS => ?_)
  have hP : va_P D cls [(h0, .inr (11, [.int 3, .int 0, .int 0, .ref q11, .int 0, .ref q19, .ref q27, .ref q35, .int 511, .int 0, .ref q51, .int 0, .int 0, .long 0, .int 0, .int 0, .int 0, .int 0, .int 0, .int 0, .ref q59, .ref q68, .null, .int 0, .null, .int 0, .int 0, .null, .null, .null, .null, .null, .null, .null])), (q11, .inl (cI, 5, .inl (fun _ => 0))), (q19, .inl (cI, 12, .inl (fun _ => 0))), (q27, .inl (cI, 12, .inl (fun _ => 0))), (q35, .inl (cI, 120, .inl (fun _ => 0))), (q51, .inl (cI, 200, .inl (fun _ => 0))), (q59, .inl (cI, 24, .inl (fun _ => 0))), (q68, .inl (cI, 240, .inl (fun _ => 0))), (q76, .inl (cI, 36, .inl (fun _ => 0)))] H := hP
  have hD : va_D A [(h0, .inr (11, [.int 3, .int 0, .int 0, .ref q11, .int 0, .ref q19, .ref q27, .ref q35, .int 511, .int 0, .ref q51, .int 0, .int 0, .long 0, .int 0, .int 0, .int 0, .int 0, .int 0, .int 0, .ref q59, .ref q68, .null, .int 0, .null, .int 0, .int 0, .null, .null, .null, .null, .null, .null, .null])), (q11, .inl (cI, 5, .inl (fun _ => 0))), (q19, .inl (cI, 12, .inl (fun _ => 0))), (q27, .inl (cI, 12, .inl (fun _ => 0))), (q35, .inl (cI, 120, .inl (fun _ => 0))), (q51, .inl (cI, 200, .inl (fun _ => 0))), (q59, .inl (cI, 24, .inl (fun _ => 0))), (q68, .inl (cI, 240, .inl (fun _ => 0))), (q76, .inl (cI, 36, .inl (fun _ => 0)))] := hD
  refine W.widen (k := 8) (n := 649) (by omega) (by omega) ?_
  refine va_putF (D := D) (ci := 11) (v := .ref q76) (ty := (.array .int)) (C := RX11) (T := TX11) (N := 34) hx hb hts (cl_ok (RX11, TX11, 34) (List.mem_of_getElem? (i := 11) rfl)).1 tyX11 tyX11_ok nmX11 hown hK hP hD hS 0 rfl rfl 22 (by decide) (hts _ (gt_has (i := 997) (w := .fieldLink RX11 38 "ThirdLetterModel" "read" "[I") (by decide +kernel))) (fun _ h9 => h9) rfl hin rfl (by decide +kernel) rfl rfl (Nat.le_of_ble_eq_true rfl) dX11_init_78 (fun H locs hP hD hS => ?_)
  have hP : va_P D cls [(h0, .inr (11, [.int 3, .int 0, .int 0, .ref q11, .int 0, .ref q19, .ref q27, .ref q35, .int 511, .int 0, .ref q51, .int 0, .int 0, .long 0, .int 0, .int 0, .int 0, .int 0, .int 0, .int 0, .ref q59, .ref q68, .ref q76, .int 0, .null, .int 0, .int 0, .null, .null, .null, .null, .null, .null, .null])), (q11, .inl (cI, 5, .inl (fun _ => 0))), (q19, .inl (cI, 12, .inl (fun _ => 0))), (q27, .inl (cI, 12, .inl (fun _ => 0))), (q35, .inl (cI, 120, .inl (fun _ => 0))), (q51, .inl (cI, 200, .inl (fun _ => 0))), (q59, .inl (cI, 24, .inl (fun _ => 0))), (q68, .inl (cI, 240, .inl (fun _ => 0))), (q76, .inl (cI, 36, .inl (fun _ => 0)))] H := hP
  have hD : va_D A [(h0, .inr (11, [.int 3, .int 0, .int 0, .ref q11, .int 0, .ref q19, .ref q27, .ref q35, .int 511, .int 0, .ref q51, .int 0, .int 0, .long 0, .int 0, .int 0, .int 0, .int 0, .int 0, .int 0, .ref q59, .ref q68, .ref q76, .int 0, .null, .int 0, .int 0, .null, .null, .null, .null, .null, .null, .null])), (q11, .inl (cI, 5, .inl (fun _ => 0))), (q19, .inl (cI, 12, .inl (fun _ => 0))), (q27, .inl (cI, 12, .inl (fun _ => 0))), (q35, .inl (cI, 120, .inl (fun _ => 0))), (q51, .inl (cI, 200, .inl (fun _ => 0))), (q59, .inl (cI, 24, .inl (fun _ => 0))), (q68, .inl (cI, 240, .inl (fun _ => 0))), (q76, .inl (cI, 36, .inl (fun _ => 0)))] := hD
  refine lv_aload_n hx hb dX11_init_81 rfl (lv_at hl 0 rfl) ?_
  refine lv_bipush (v := 6) hx hb dX11_init_82 (by decide) ?_
  refine w_newI (N' := 6) hx hb (hts _ (gt_has (i := 106) (w := .arrayClass .int) (by decide +kernel))) hK hP hD hS hA (by decide) (by decide +kernel) (Nat.le_of_ble_eq_true rfl) (Nat.le_of_ble_eq_true rfl) (Nat.le_of_ble_eq_true rfl) dX11_init_84 (fun q84 H hP hD hS => ?_)
  have hP : va_P D cls [(h0, .inr (11, [.int 3, .int 0, .int 0, .ref q11, .int 0, .ref q19, .ref q27, .ref q35, .int 511, .int 0, .ref q51, .int 0, .int 0, .long 0, .int 0, .int 0, .int 0, .int 0, .int 0, .int 0, .ref q59, .ref q68, .ref q76, .int 0, .null, .int 0, .int 0, .null, .null, .null, .null, .null, .null, .null])), (q11, .inl (cI, 5, .inl (fun _ => 0))), (q19, .inl (cI, 12, .inl (fun _ => 0))), (q27, .inl (cI, 12, .inl (fun _ => 0))), (q35, .inl (cI, 120, .inl (fun _ => 0))), (q51, .inl (cI, 200, .inl (fun _ => 0))), (q59, .inl (cI, 24, .inl (fun _ => 0))), (q68, .inl (cI, 240, .inl (fun _ => 0))), (q76, .inl (cI, 36, .inl (fun _ => 0))), (q84, .inl (cI, 6, .inl (fun _ => 0)))] H := hP
  have hD : va_D A [(h0, .inr (11, [.int 3, .int 0, .int 0, .ref q11, .int 0, .ref q19, .ref q27, .ref q35, .int 511, .int 0, .ref q51, .int 0, .int 0, .long 0, .int 0, .int 0, .int 0, .int 0, .int 0, .int 0, .ref q59, .ref q68, .ref q76, .int 0, .null, .int 0, .int 0, .null, .null, .null, .null, .null, .null, .null])), (q11, .inl (cI, 5, .inl (fun _ => 0))), (q19, .inl (cI, 12, .inl (fun _ => 0))), (q27, .inl (cI, 12, .inl (fun _ => 0))), (q35, .inl (cI, 120, .inl (fun _ => 0))), (q51, .inl (cI, 200, .inl (fun _ => 0))), (q59, .inl (cI, 24, .inl (fun _ => 0))), (q68, .inl (cI, 240, .inl (fun _ => 0))), (q76, .inl (cI, 36, .inl (fun _ => 0))), (q84, .inl (cI, 6, .inl (fun _ => 0)))] := hD
  refine W.widen (k := 9) (n := 655) (by omega) (by omega) ?_
  refine va_putF (D := D) (ci := 11) (v := .ref q84) (ty := (.array .int)) (C := RX11) (T := TX11) (N := 34) hx hb hts (cl_ok (RX11, TX11, 34) (List.mem_of_getElem? (i := 11) rfl)).1 tyX11 tyX11_ok nmX11 hown hK hP hD hS 0 rfl rfl 24 (by decide) (hts _ (gt_has (i := 999) (w := .fieldLink RX11 41 "ThirdLetterModel" "sermon" "[I") (by decide +kernel))) (fun _ h9 => h9) rfl hin rfl (by decide +kernel) rfl rfl (Nat.le_of_ble_eq_true rfl) dX11_init_86 (fun H locs hP hD hS => ?_)
  have hP : va_P D cls [(h0, .inr (11, [.int 3, .int 0, .int 0, .ref q11, .int 0, .ref q19, .ref q27, .ref q35, .int 511, .int 0, .ref q51, .int 0, .int 0, .long 0, .int 0, .int 0, .int 0, .int 0, .int 0, .int 0, .ref q59, .ref q68, .ref q76, .int 0, .ref q84, .int 0, .int 0, .null, .null, .null, .null, .null, .null, .null])), (q11, .inl (cI, 5, .inl (fun _ => 0))), (q19, .inl (cI, 12, .inl (fun _ => 0))), (q27, .inl (cI, 12, .inl (fun _ => 0))), (q35, .inl (cI, 120, .inl (fun _ => 0))), (q51, .inl (cI, 200, .inl (fun _ => 0))), (q59, .inl (cI, 24, .inl (fun _ => 0))), (q68, .inl (cI, 240, .inl (fun _ => 0))), (q76, .inl (cI, 36, .inl (fun _ => 0))), (q84, .inl (cI, 6, .inl (fun _ => 0)))] H := hP
  have hD : va_D A [(h0, .inr (11, [.int 3, .int 0, .int 0, .ref q11, .int 0, .ref q19, .ref q27, .ref q35, .int 511, .int 0, .ref q51, .int 0, .int 0, .long 0, .int 0, .int 0, .int 0, .int 0, .int 0, .int 0, .ref q59, .ref q68, .ref q76, .int 0, .ref q84, .int 0, .int 0, .null, .null, .null, .null, .null, .null, .null])), (q11, .inl (cI, 5, .inl (fun _ => 0))), (q19, .inl (cI, 12, .inl (fun _ => 0))), (q27, .inl (cI, 12, .inl (fun _ => 0))), (q35, .inl (cI, 120, .inl (fun _ => 0))), (q51, .inl (cI, 200, .inl (fun _ => 0))), (q59, .inl (cI, 24, .inl (fun _ => 0))), (q68, .inl (cI, 240, .inl (fun _ => 0))), (q76, .inl (cI, 36, .inl (fun _ => 0))), (q84, .inl (cI, 6, .inl (fun _ => 0)))] := hD
  refine lv_aload_n hx hb dX11_init_89 rfl (lv_at hl 0 rfl) ?_
  refine lv_bipush (v := 60) hx hb dX11_init_90 (by decide) ?_
  refine w_newI (N' := 60) hx hb (hts _ (gt_has (i := 106) (w := .arrayClass .int) (by decide +kernel))) hK hP hD hS hA (by decide) (by decide +kernel) (Nat.le_of_ble_eq_true rfl) (Nat.le_of_ble_eq_true rfl) (Nat.le_of_ble_eq_true rfl) dX11_init_92 (fun q92 H hP hD hS => ?_)
  have hP : va_P D cls [(h0, .inr (11, [.int 3, .int 0, .int 0, .ref q11, .int 0, .ref q19, .ref q27, .ref q35, .int 511, .int 0, .ref q51, .int 0, .int 0, .long 0, .int 0, .int 0, .int 0, .int 0, .int 0, .int 0, .ref q59, .ref q68, .ref q76, .int 0, .ref q84, .int 0, .int 0, .null, .null, .null, .null, .null, .null, .null])), (q11, .inl (cI, 5, .inl (fun _ => 0))), (q19, .inl (cI, 12, .inl (fun _ => 0))), (q27, .inl (cI, 12, .inl (fun _ => 0))), (q35, .inl (cI, 120, .inl (fun _ => 0))), (q51, .inl (cI, 200, .inl (fun _ => 0))), (q59, .inl (cI, 24, .inl (fun _ => 0))), (q68, .inl (cI, 240, .inl (fun _ => 0))), (q76, .inl (cI, 36, .inl (fun _ => 0))), (q84, .inl (cI, 6, .inl (fun _ => 0))), (q92, .inl (cI, 60, .inl (fun _ => 0)))] H := hP
  have hD : va_D A [(h0, .inr (11, [.int 3, .int 0, .int 0, .ref q11, .int 0, .ref q19, .ref q27, .ref q35, .int 511, .int 0, .ref q51, .int 0, .int 0, .long 0, .int 0, .int 0, .int 0, .int 0, .int 0, .int 0, .ref q59, .ref q68, .ref q76, .int 0, .ref q84, .int 0, .int 0, .null, .null, .null, .null, .null, .null, .null])), (q11, .inl (cI, 5, .inl (fun _ => 0))), (q19, .inl (cI, 12, .inl (fun _ => 0))), (q27, .inl (cI, 12, .inl (fun _ => 0))), (q35, .inl (cI, 120, .inl (fun _ => 0))), (q51, .inl (cI, 200, .inl (fun _ => 0))), (q59, .inl (cI, 24, .inl (fun _ => 0))), (q68, .inl (cI, 240, .inl (fun _ => 0))), (q76, .inl (cI, 36, .inl (fun _ => 0))), (q84, .inl (cI, 6, .inl (fun _ => 0))), (q92, .inl (cI, 60, .inl (fun _ => 0)))] := hD
  refine W.widen (k := 10) (n := 715) (by omega) (by omega) ?_
  refine va_putF (D := D) (ci := 11) (v := .ref q92) (ty := (.array .int)) (C := RX11) (T := TX11) (N := 34) hx hb hts (cl_ok (RX11, TX11, 34) (List.mem_of_getElem? (i := 11) rfl)).1 tyX11 tyX11_ok nmX11 hown hK hP hD hS 0 rfl rfl 27 (by decide) (hts _ (gt_has (i := 1002) (w := .fieldLink RX11 44 "ThirdLetterModel" "sound" "[I") (by decide +kernel))) (fun _ h9 => h9) rfl hin rfl (by decide +kernel) rfl rfl (Nat.le_of_ble_eq_true rfl) dX11_init_94 (fun H locs hP hD hS => ?_)
  have hP : va_P D cls [(h0, .inr (11, [.int 3, .int 0, .int 0, .ref q11, .int 0, .ref q19, .ref q27, .ref q35, .int 511, .int 0, .ref q51, .int 0, .int 0, .long 0, .int 0, .int 0, .int 0, .int 0, .int 0, .int 0, .ref q59, .ref q68, .ref q76, .int 0, .ref q84, .int 0, .int 0, .ref q92, .null, .null, .null, .null, .null, .null])), (q11, .inl (cI, 5, .inl (fun _ => 0))), (q19, .inl (cI, 12, .inl (fun _ => 0))), (q27, .inl (cI, 12, .inl (fun _ => 0))), (q35, .inl (cI, 120, .inl (fun _ => 0))), (q51, .inl (cI, 200, .inl (fun _ => 0))), (q59, .inl (cI, 24, .inl (fun _ => 0))), (q68, .inl (cI, 240, .inl (fun _ => 0))), (q76, .inl (cI, 36, .inl (fun _ => 0))), (q84, .inl (cI, 6, .inl (fun _ => 0))), (q92, .inl (cI, 60, .inl (fun _ => 0)))] H := hP
  have hD : va_D A [(h0, .inr (11, [.int 3, .int 0, .int 0, .ref q11, .int 0, .ref q19, .ref q27, .ref q35, .int 511, .int 0, .ref q51, .int 0, .int 0, .long 0, .int 0, .int 0, .int 0, .int 0, .int 0, .int 0, .ref q59, .ref q68, .ref q76, .int 0, .ref q84, .int 0, .int 0, .ref q92, .null, .null, .null, .null, .null, .null])), (q11, .inl (cI, 5, .inl (fun _ => 0))), (q19, .inl (cI, 12, .inl (fun _ => 0))), (q27, .inl (cI, 12, .inl (fun _ => 0))), (q35, .inl (cI, 120, .inl (fun _ => 0))), (q51, .inl (cI, 200, .inl (fun _ => 0))), (q59, .inl (cI, 24, .inl (fun _ => 0))), (q68, .inl (cI, 240, .inl (fun _ => 0))), (q76, .inl (cI, 36, .inl (fun _ => 0))), (q84, .inl (cI, 6, .inl (fun _ => 0))), (q92, .inl (cI, 60, .inl (fun _ => 0)))] := hD
  refine lv_aload_n hx hb dX11_init_97 rfl (lv_at hl 0 rfl) ?_
  refine lv_bipush (v := 16) hx hb dX11_init_98 (by decide) ?_
  refine w_newI (N' := 16) hx hb (hts _ (gt_has (i := 106) (w := .arrayClass .int) (by decide +kernel))) hK hP hD hS hA (by decide) (by decide +kernel) (Nat.le_of_ble_eq_true rfl) (Nat.le_of_ble_eq_true rfl) (Nat.le_of_ble_eq_true rfl) dX11_init_100 (fun q100 H hP hD hS => ?_)
  have hP : va_P D cls [(h0, .inr (11, [.int 3, .int 0, .int 0, .ref q11, .int 0, .ref q19, .ref q27, .ref q35, .int 511, .int 0, .ref q51, .int 0, .int 0, .long 0, .int 0, .int 0, .int 0, .int 0, .int 0, .int 0, .ref q59, .ref q68, .ref q76, .int 0, .ref q84, .int 0, .int 0, .ref q92, .null, .null, .null, .null, .null, .null])), (q11, .inl (cI, 5, .inl (fun _ => 0))), (q19, .inl (cI, 12, .inl (fun _ => 0))), (q27, .inl (cI, 12, .inl (fun _ => 0))), (q35, .inl (cI, 120, .inl (fun _ => 0))), (q51, .inl (cI, 200, .inl (fun _ => 0))), (q59, .inl (cI, 24, .inl (fun _ => 0))), (q68, .inl (cI, 240, .inl (fun _ => 0))), (q76, .inl (cI, 36, .inl (fun _ => 0))), (q84, .inl (cI, 6, .inl (fun _ => 0))), (q92, .inl (cI, 60, .inl (fun _ => 0))), (q100, .inl (cI, 16, .inl (fun _ => 0)))] H := hP
  have hD : va_D A [(h0, .inr (11, [.int 3, .int 0, .int 0, .ref q11, .int 0, .ref q19, .ref q27, .ref q35, .int 511, .int 0, .ref q51, .int 0, .int 0, .long 0, .int 0, .int 0, .int 0, .int 0, .int 0, .int 0, .ref q59, .ref q68, .ref q76, .int 0, .ref q84, .int 0, .int 0, .ref q92, .null, .null, .null, .null, .null, .null])), (q11, .inl (cI, 5, .inl (fun _ => 0))), (q19, .inl (cI, 12, .inl (fun _ => 0))), (q27, .inl (cI, 12, .inl (fun _ => 0))), (q35, .inl (cI, 120, .inl (fun _ => 0))), (q51, .inl (cI, 200, .inl (fun _ => 0))), (q59, .inl (cI, 24, .inl (fun _ => 0))), (q68, .inl (cI, 240, .inl (fun _ => 0))), (q76, .inl (cI, 36, .inl (fun _ => 0))), (q84, .inl (cI, 6, .inl (fun _ => 0))), (q92, .inl (cI, 60, .inl (fun _ => 0))), (q100, .inl (cI, 16, .inl (fun _ => 0)))] := hD
  refine W.widen (k := 11) (n := 731) (by omega) (by omega) ?_
  refine va_putF (D := D) (ci := 11) (v := .ref q100) (ty := (.array .int)) (C := RX11) (T := TX11) (N := 34) hx hb hts (cl_ok (RX11, TX11, 34) (List.mem_of_getElem? (i := 11) rfl)).1 tyX11 tyX11_ok nmX11 hown hK hP hD hS 0 rfl rfl 28 (by decide) (hts _ (gt_has (i := 1003) (w := .fieldLink RX11 47 "ThirdLetterModel" "image" "[I") (by decide +kernel))) (fun _ h9 => h9) rfl hin rfl (by decide +kernel) rfl rfl (Nat.le_of_ble_eq_true rfl) dX11_init_102 (fun H locs hP hD hS => ?_)
  have hP : va_P D cls [(h0, .inr (11, [.int 3, .int 0, .int 0, .ref q11, .int 0, .ref q19, .ref q27, .ref q35, .int 511, .int 0, .ref q51, .int 0, .int 0, .long 0, .int 0, .int 0, .int 0, .int 0, .int 0, .int 0, .ref q59, .ref q68, .ref q76, .int 0, .ref q84, .int 0, .int 0, .ref q92, .ref q100, .null, .null, .null, .null, .null])), (q11, .inl (cI, 5, .inl (fun _ => 0))), (q19, .inl (cI, 12, .inl (fun _ => 0))), (q27, .inl (cI, 12, .inl (fun _ => 0))), (q35, .inl (cI, 120, .inl (fun _ => 0))), (q51, .inl (cI, 200, .inl (fun _ => 0))), (q59, .inl (cI, 24, .inl (fun _ => 0))), (q68, .inl (cI, 240, .inl (fun _ => 0))), (q76, .inl (cI, 36, .inl (fun _ => 0))), (q84, .inl (cI, 6, .inl (fun _ => 0))), (q92, .inl (cI, 60, .inl (fun _ => 0))), (q100, .inl (cI, 16, .inl (fun _ => 0)))] H := hP
  have hD : va_D A [(h0, .inr (11, [.int 3, .int 0, .int 0, .ref q11, .int 0, .ref q19, .ref q27, .ref q35, .int 511, .int 0, .ref q51, .int 0, .int 0, .long 0, .int 0, .int 0, .int 0, .int 0, .int 0, .int 0, .ref q59, .ref q68, .ref q76, .int 0, .ref q84, .int 0, .int 0, .ref q92, .ref q100, .null, .null, .null, .null, .null])), (q11, .inl (cI, 5, .inl (fun _ => 0))), (q19, .inl (cI, 12, .inl (fun _ => 0))), (q27, .inl (cI, 12, .inl (fun _ => 0))), (q35, .inl (cI, 120, .inl (fun _ => 0))), (q51, .inl (cI, 200, .inl (fun _ => 0))), (q59, .inl (cI, 24, .inl (fun _ => 0))), (q68, .inl (cI, 240, .inl (fun _ => 0))), (q76, .inl (cI, 36, .inl (fun _ => 0))), (q84, .inl (cI, 6, .inl (fun _ => 0))), (q92, .inl (cI, 60, .inl (fun _ => 0))), (q100, .inl (cI, 16, .inl (fun _ => 0)))] := hD
  refine lv_aload_n hx hb dX11_init_105 rfl (lv_at hl 0 rfl) ?_
  refine lv_iconst (v := 2) hx hb dX11_init_106 (by decide) ?_
  refine w_newZ (N' := 2) hx hb (hts _ (gt_has (i := 1078) (w := .arrayClass .boolean) (by decide +kernel))) hK hP hD hS hA (by decide) (by decide +kernel) (Nat.le_of_ble_eq_true rfl) (Nat.le_of_ble_eq_true rfl) (Nat.le_of_ble_eq_true rfl) dX11_init_107 (fun q107 H hP hD hS => ?_)
  have hP : va_P D cls [(h0, .inr (11, [.int 3, .int 0, .int 0, .ref q11, .int 0, .ref q19, .ref q27, .ref q35, .int 511, .int 0, .ref q51, .int 0, .int 0, .long 0, .int 0, .int 0, .int 0, .int 0, .int 0, .int 0, .ref q59, .ref q68, .ref q76, .int 0, .ref q84, .int 0, .int 0, .ref q92, .ref q100, .null, .null, .null, .null, .null])), (q11, .inl (cI, 5, .inl (fun _ => 0))), (q19, .inl (cI, 12, .inl (fun _ => 0))), (q27, .inl (cI, 12, .inl (fun _ => 0))), (q35, .inl (cI, 120, .inl (fun _ => 0))), (q51, .inl (cI, 200, .inl (fun _ => 0))), (q59, .inl (cI, 24, .inl (fun _ => 0))), (q68, .inl (cI, 240, .inl (fun _ => 0))), (q76, .inl (cI, 36, .inl (fun _ => 0))), (q84, .inl (cI, 6, .inl (fun _ => 0))), (q92, .inl (cI, 60, .inl (fun _ => 0))), (q100, .inl (cI, 16, .inl (fun _ => 0))), (q107, .inl (cZ, 2, .inl (fun _ => 0)))] H := hP
  have hD : va_D A [(h0, .inr (11, [.int 3, .int 0, .int 0, .ref q11, .int 0, .ref q19, .ref q27, .ref q35, .int 511, .int 0, .ref q51, .int 0, .int 0, .long 0, .int 0, .int 0, .int 0, .int 0, .int 0, .int 0, .ref q59, .ref q68, .ref q76, .int 0, .ref q84, .int 0, .int 0, .ref q92, .ref q100, .null, .null, .null, .null, .null])), (q11, .inl (cI, 5, .inl (fun _ => 0))), (q19, .inl (cI, 12, .inl (fun _ => 0))), (q27, .inl (cI, 12, .inl (fun _ => 0))), (q35, .inl (cI, 120, .inl (fun _ => 0))), (q51, .inl (cI, 200, .inl (fun _ => 0))), (q59, .inl (cI, 24, .inl (fun _ => 0))), (q68, .inl (cI, 240, .inl (fun _ => 0))), (q76, .inl (cI, 36, .inl (fun _ => 0))), (q84, .inl (cI, 6, .inl (fun _ => 0))), (q92, .inl (cI, 60, .inl (fun _ => 0))), (q100, .inl (cI, 16, .inl (fun _ => 0))), (q107, .inl (cZ, 2, .inl (fun _ => 0)))] := hD
  refine W.widen (k := 12) (n := 733) (by omega) (by omega) ?_
  refine va_putF (D := D) (ci := 11) (v := .ref q107) (ty := (.array .boolean)) (C := RX11) (T := TX11) (N := 34) hx hb hts (cl_ok (RX11, TX11, 34) (List.mem_of_getElem? (i := 11) rfl)).1 tyX11 tyX11_ok nmX11 hown hK hP hD hS 0 rfl rfl 29 (by decide) (hts _ (gt_has (i := 1004) (w := .fieldLink RX11 50 "ThirdLetterModel" "isKept" "[Z") (by decide +kernel))) (fun _ h9 => h9) rfl hin rfl (by decide +kernel) rfl rfl (Nat.le_of_ble_eq_true rfl) dX11_init_109 (fun H locs hP hD hS => ?_)
  have hP : va_P D cls [(h0, .inr (11, [.int 3, .int 0, .int 0, .ref q11, .int 0, .ref q19, .ref q27, .ref q35, .int 511, .int 0, .ref q51, .int 0, .int 0, .long 0, .int 0, .int 0, .int 0, .int 0, .int 0, .int 0, .ref q59, .ref q68, .ref q76, .int 0, .ref q84, .int 0, .int 0, .ref q92, .ref q100, .ref q107, .null, .null, .null, .null])), (q11, .inl (cI, 5, .inl (fun _ => 0))), (q19, .inl (cI, 12, .inl (fun _ => 0))), (q27, .inl (cI, 12, .inl (fun _ => 0))), (q35, .inl (cI, 120, .inl (fun _ => 0))), (q51, .inl (cI, 200, .inl (fun _ => 0))), (q59, .inl (cI, 24, .inl (fun _ => 0))), (q68, .inl (cI, 240, .inl (fun _ => 0))), (q76, .inl (cI, 36, .inl (fun _ => 0))), (q84, .inl (cI, 6, .inl (fun _ => 0))), (q92, .inl (cI, 60, .inl (fun _ => 0))), (q100, .inl (cI, 16, .inl (fun _ => 0))), (q107, .inl (cZ, 2, .inl (fun _ => 0)))] H := hP
  have hD : va_D A [(h0, .inr (11, [.int 3, .int 0, .int 0, .ref q11, .int 0, .ref q19, .ref q27, .ref q35, .int 511, .int 0, .ref q51, .int 0, .int 0, .long 0, .int 0, .int 0, .int 0, .int 0, .int 0, .int 0, .ref q59, .ref q68, .ref q76, .int 0, .ref q84, .int 0, .int 0, .ref q92, .ref q100, .ref q107, .null, .null, .null, .null])), (q11, .inl (cI, 5, .inl (fun _ => 0))), (q19, .inl (cI, 12, .inl (fun _ => 0))), (q27, .inl (cI, 12, .inl (fun _ => 0))), (q35, .inl (cI, 120, .inl (fun _ => 0))), (q51, .inl (cI, 200, .inl (fun _ => 0))), (q59, .inl (cI, 24, .inl (fun _ => 0))), (q68, .inl (cI, 240, .inl (fun _ => 0))), (q76, .inl (cI, 36, .inl (fun _ => 0))), (q84, .inl (cI, 6, .inl (fun _ => 0))), (q92, .inl (cI, 60, .inl (fun _ => 0))), (q100, .inl (cI, 16, .inl (fun _ => 0))), (q107, .inl (cZ, 2, .inl (fun _ => 0)))] := hD
  refine lv_aload_n hx hb dX11_init_112 rfl (lv_at hl 0 rfl) ?_
  refine lv_sipush (v := 5124) hx hb dX11_init_113 (by decide) ?_
  refine w_newI (N' := 5124) hx hb (hts _ (gt_has (i := 106) (w := .arrayClass .int) (by decide +kernel))) hK hP hD hS hA (by decide) (by decide +kernel) (Nat.le_of_ble_eq_true rfl) (Nat.le_of_ble_eq_true rfl) (Nat.le_of_ble_eq_true rfl) dX11_init_116 (fun q116 H hP hD hS => ?_)
  have hP : va_P D cls [(h0, .inr (11, [.int 3, .int 0, .int 0, .ref q11, .int 0, .ref q19, .ref q27, .ref q35, .int 511, .int 0, .ref q51, .int 0, .int 0, .long 0, .int 0, .int 0, .int 0, .int 0, .int 0, .int 0, .ref q59, .ref q68, .ref q76, .int 0, .ref q84, .int 0, .int 0, .ref q92, .ref q100, .ref q107, .null, .null, .null, .null])), (q11, .inl (cI, 5, .inl (fun _ => 0))), (q19, .inl (cI, 12, .inl (fun _ => 0))), (q27, .inl (cI, 12, .inl (fun _ => 0))), (q35, .inl (cI, 120, .inl (fun _ => 0))), (q51, .inl (cI, 200, .inl (fun _ => 0))), (q59, .inl (cI, 24, .inl (fun _ => 0))), (q68, .inl (cI, 240, .inl (fun _ => 0))), (q76, .inl (cI, 36, .inl (fun _ => 0))), (q84, .inl (cI, 6, .inl (fun _ => 0))), (q92, .inl (cI, 60, .inl (fun _ => 0))), (q100, .inl (cI, 16, .inl (fun _ => 0))), (q107, .inl (cZ, 2, .inl (fun _ => 0))), (q116, .inl (cI, 5124, .inl (fun _ => 0)))] H := hP
  have hD : va_D A [(h0, .inr (11, [.int 3, .int 0, .int 0, .ref q11, .int 0, .ref q19, .ref q27, .ref q35, .int 511, .int 0, .ref q51, .int 0, .int 0, .long 0, .int 0, .int 0, .int 0, .int 0, .int 0, .int 0, .ref q59, .ref q68, .ref q76, .int 0, .ref q84, .int 0, .int 0, .ref q92, .ref q100, .ref q107, .null, .null, .null, .null])), (q11, .inl (cI, 5, .inl (fun _ => 0))), (q19, .inl (cI, 12, .inl (fun _ => 0))), (q27, .inl (cI, 12, .inl (fun _ => 0))), (q35, .inl (cI, 120, .inl (fun _ => 0))), (q51, .inl (cI, 200, .inl (fun _ => 0))), (q59, .inl (cI, 24, .inl (fun _ => 0))), (q68, .inl (cI, 240, .inl (fun _ => 0))), (q76, .inl (cI, 36, .inl (fun _ => 0))), (q84, .inl (cI, 6, .inl (fun _ => 0))), (q92, .inl (cI, 60, .inl (fun _ => 0))), (q100, .inl (cI, 16, .inl (fun _ => 0))), (q107, .inl (cZ, 2, .inl (fun _ => 0))), (q116, .inl (cI, 5124, .inl (fun _ => 0)))] := hD
  refine W.widen (k := 13) (n := 5857) (by omega) (by omega) ?_
  refine va_putF (D := D) (ci := 11) (v := .ref q116) (ty := (.array .int)) (C := RX11) (T := TX11) (N := 34) hx hb hts (cl_ok (RX11, TX11, 34) (List.mem_of_getElem? (i := 11) rfl)).1 tyX11 tyX11_ok nmX11 hown hK hP hD hS 0 rfl rfl 30 (by decide) (hts _ (gt_has (i := 1005) (w := .fieldLink RX11 54 "ThirdLetterModel" "ways" "[I") (by decide +kernel))) (fun _ h9 => h9) rfl hin rfl (by decide +kernel) rfl rfl (Nat.le_of_ble_eq_true rfl) dX11_init_118 (fun H locs hP hD hS => ?_)
  have hP : va_P D cls [(h0, .inr (11, [.int 3, .int 0, .int 0, .ref q11, .int 0, .ref q19, .ref q27, .ref q35, .int 511, .int 0, .ref q51, .int 0, .int 0, .long 0, .int 0, .int 0, .int 0, .int 0, .int 0, .int 0, .ref q59, .ref q68, .ref q76, .int 0, .ref q84, .int 0, .int 0, .ref q92, .ref q100, .ref q107, .ref q116, .null, .null, .null])), (q11, .inl (cI, 5, .inl (fun _ => 0))), (q19, .inl (cI, 12, .inl (fun _ => 0))), (q27, .inl (cI, 12, .inl (fun _ => 0))), (q35, .inl (cI, 120, .inl (fun _ => 0))), (q51, .inl (cI, 200, .inl (fun _ => 0))), (q59, .inl (cI, 24, .inl (fun _ => 0))), (q68, .inl (cI, 240, .inl (fun _ => 0))), (q76, .inl (cI, 36, .inl (fun _ => 0))), (q84, .inl (cI, 6, .inl (fun _ => 0))), (q92, .inl (cI, 60, .inl (fun _ => 0))), (q100, .inl (cI, 16, .inl (fun _ => 0))), (q107, .inl (cZ, 2, .inl (fun _ => 0))), (q116, .inl (cI, 5124, .inl (fun _ => 0)))] H := hP
  have hD : va_D A [(h0, .inr (11, [.int 3, .int 0, .int 0, .ref q11, .int 0, .ref q19, .ref q27, .ref q35, .int 511, .int 0, .ref q51, .int 0, .int 0, .long 0, .int 0, .int 0, .int 0, .int 0, .int 0, .int 0, .ref q59, .ref q68, .ref q76, .int 0, .ref q84, .int 0, .int 0, .ref q92, .ref q100, .ref q107, .ref q116, .null, .null, .null])), (q11, .inl (cI, 5, .inl (fun _ => 0))), (q19, .inl (cI, 12, .inl (fun _ => 0))), (q27, .inl (cI, 12, .inl (fun _ => 0))), (q35, .inl (cI, 120, .inl (fun _ => 0))), (q51, .inl (cI, 200, .inl (fun _ => 0))), (q59, .inl (cI, 24, .inl (fun _ => 0))), (q68, .inl (cI, 240, .inl (fun _ => 0))), (q76, .inl (cI, 36, .inl (fun _ => 0))), (q84, .inl (cI, 6, .inl (fun _ => 0))), (q92, .inl (cI, 60, .inl (fun _ => 0))), (q100, .inl (cI, 16, .inl (fun _ => 0))), (q107, .inl (cZ, 2, .inl (fun _ => 0))), (q116, .inl (cI, 5124, .inl (fun _ => 0)))] := hD
  refine lv_aload_n hx hb dX11_init_121 rfl (lv_at hl 0 rfl) ?_
  refine lv_sipush (v := 5124) hx hb dX11_init_122 (by decide) ?_
  refine w_newZ (N' := 5124) hx hb (hts _ (gt_has (i := 1078) (w := .arrayClass .boolean) (by decide +kernel))) hK hP hD hS hA (by decide) (by decide +kernel) (Nat.le_of_ble_eq_true rfl) (Nat.le_of_ble_eq_true rfl) (Nat.le_of_ble_eq_true rfl) dX11_init_125 (fun q125 H hP hD hS => ?_)
  have hP : va_P D cls [(h0, .inr (11, [.int 3, .int 0, .int 0, .ref q11, .int 0, .ref q19, .ref q27, .ref q35, .int 511, .int 0, .ref q51, .int 0, .int 0, .long 0, .int 0, .int 0, .int 0, .int 0, .int 0, .int 0, .ref q59, .ref q68, .ref q76, .int 0, .ref q84, .int 0, .int 0, .ref q92, .ref q100, .ref q107, .ref q116, .null, .null, .null])), (q11, .inl (cI, 5, .inl (fun _ => 0))), (q19, .inl (cI, 12, .inl (fun _ => 0))), (q27, .inl (cI, 12, .inl (fun _ => 0))), (q35, .inl (cI, 120, .inl (fun _ => 0))), (q51, .inl (cI, 200, .inl (fun _ => 0))), (q59, .inl (cI, 24, .inl (fun _ => 0))), (q68, .inl (cI, 240, .inl (fun _ => 0))), (q76, .inl (cI, 36, .inl (fun _ => 0))), (q84, .inl (cI, 6, .inl (fun _ => 0))), (q92, .inl (cI, 60, .inl (fun _ => 0))), (q100, .inl (cI, 16, .inl (fun _ => 0))), (q107, .inl (cZ, 2, .inl (fun _ => 0))), (q116, .inl (cI, 5124, .inl (fun _ => 0))), (q125, .inl (cZ, 5124, .inl (fun _ => 0)))] H := hP
  have hD : va_D A [(h0, .inr (11, [.int 3, .int 0, .int 0, .ref q11, .int 0, .ref q19, .ref q27, .ref q35, .int 511, .int 0, .ref q51, .int 0, .int 0, .long 0, .int 0, .int 0, .int 0, .int 0, .int 0, .int 0, .ref q59, .ref q68, .ref q76, .int 0, .ref q84, .int 0, .int 0, .ref q92, .ref q100, .ref q107, .ref q116, .null, .null, .null])), (q11, .inl (cI, 5, .inl (fun _ => 0))), (q19, .inl (cI, 12, .inl (fun _ => 0))), (q27, .inl (cI, 12, .inl (fun _ => 0))), (q35, .inl (cI, 120, .inl (fun _ => 0))), (q51, .inl (cI, 200, .inl (fun _ => 0))), (q59, .inl (cI, 24, .inl (fun _ => 0))), (q68, .inl (cI, 240, .inl (fun _ => 0))), (q76, .inl (cI, 36, .inl (fun _ => 0))), (q84, .inl (cI, 6, .inl (fun _ => 0))), (q92, .inl (cI, 60, .inl (fun _ => 0))), (q100, .inl (cI, 16, .inl (fun _ => 0))), (q107, .inl (cZ, 2, .inl (fun _ => 0))), (q116, .inl (cI, 5124, .inl (fun _ => 0))), (q125, .inl (cZ, 5124, .inl (fun _ => 0)))] := hD
  refine W.widen (k := 14) (n := 10981) (by omega) (by omega) ?_
  refine va_putF (D := D) (ci := 11) (v := .ref q125) (ty := (.array .boolean)) (C := RX11) (T := TX11) (N := 34) hx hb hts (cl_ok (RX11, TX11, 34) (List.mem_of_getElem? (i := 11) rfl)).1 tyX11 tyX11_ok nmX11 hown hK hP hD hS 0 rfl rfl 31 (by decide) (hts _ (gt_has (i := 1006) (w := .fieldLink RX11 57 "ThirdLetterModel" "reached" "[Z") (by decide +kernel))) (fun _ h9 => h9) rfl hin rfl (by decide +kernel) rfl rfl (Nat.le_of_ble_eq_true rfl) dX11_init_127 (fun H locs hP hD hS => ?_)
  have hP : va_P D cls [(h0, .inr (11, [.int 3, .int 0, .int 0, .ref q11, .int 0, .ref q19, .ref q27, .ref q35, .int 511, .int 0, .ref q51, .int 0, .int 0, .long 0, .int 0, .int 0, .int 0, .int 0, .int 0, .int 0, .ref q59, .ref q68, .ref q76, .int 0, .ref q84, .int 0, .int 0, .ref q92, .ref q100, .ref q107, .ref q116, .ref q125, .null, .null])), (q11, .inl (cI, 5, .inl (fun _ => 0))), (q19, .inl (cI, 12, .inl (fun _ => 0))), (q27, .inl (cI, 12, .inl (fun _ => 0))), (q35, .inl (cI, 120, .inl (fun _ => 0))), (q51, .inl (cI, 200, .inl (fun _ => 0))), (q59, .inl (cI, 24, .inl (fun _ => 0))), (q68, .inl (cI, 240, .inl (fun _ => 0))), (q76, .inl (cI, 36, .inl (fun _ => 0))), (q84, .inl (cI, 6, .inl (fun _ => 0))), (q92, .inl (cI, 60, .inl (fun _ => 0))), (q100, .inl (cI, 16, .inl (fun _ => 0))), (q107, .inl (cZ, 2, .inl (fun _ => 0))), (q116, .inl (cI, 5124, .inl (fun _ => 0))), (q125, .inl (cZ, 5124, .inl (fun _ => 0)))] H := hP
  have hD : va_D A [(h0, .inr (11, [.int 3, .int 0, .int 0, .ref q11, .int 0, .ref q19, .ref q27, .ref q35, .int 511, .int 0, .ref q51, .int 0, .int 0, .long 0, .int 0, .int 0, .int 0, .int 0, .int 0, .int 0, .ref q59, .ref q68, .ref q76, .int 0, .ref q84, .int 0, .int 0, .ref q92, .ref q100, .ref q107, .ref q116, .ref q125, .null, .null])), (q11, .inl (cI, 5, .inl (fun _ => 0))), (q19, .inl (cI, 12, .inl (fun _ => 0))), (q27, .inl (cI, 12, .inl (fun _ => 0))), (q35, .inl (cI, 120, .inl (fun _ => 0))), (q51, .inl (cI, 200, .inl (fun _ => 0))), (q59, .inl (cI, 24, .inl (fun _ => 0))), (q68, .inl (cI, 240, .inl (fun _ => 0))), (q76, .inl (cI, 36, .inl (fun _ => 0))), (q84, .inl (cI, 6, .inl (fun _ => 0))), (q92, .inl (cI, 60, .inl (fun _ => 0))), (q100, .inl (cI, 16, .inl (fun _ => 0))), (q107, .inl (cZ, 2, .inl (fun _ => 0))), (q116, .inl (cI, 5124, .inl (fun _ => 0))), (q125, .inl (cZ, 5124, .inl (fun _ => 0)))] := hD
  refine lv_aload_n hx hb dX11_init_130 rfl (lv_at hl 0 rfl) ?_
  refine lv_iconst (v := 5) hx hb dX11_init_131 (by decide) ?_
  refine w_newI (N' := 5) hx hb (hts _ (gt_has (i := 106) (w := .arrayClass .int) (by decide +kernel))) hK hP hD hS hA (by decide) (by decide +kernel) (Nat.le_of_ble_eq_true rfl) (Nat.le_of_ble_eq_true rfl) (Nat.le_of_ble_eq_true rfl) dX11_init_132 (fun q132 H hP hD hS => ?_)
  have hP : va_P D cls [(h0, .inr (11, [.int 3, .int 0, .int 0, .ref q11, .int 0, .ref q19, .ref q27, .ref q35, .int 511, .int 0, .ref q51, .int 0, .int 0, .long 0, .int 0, .int 0, .int 0, .int 0, .int 0, .int 0, .ref q59, .ref q68, .ref q76, .int 0, .ref q84, .int 0, .int 0, .ref q92, .ref q100, .ref q107, .ref q116, .ref q125, .null, .null])), (q11, .inl (cI, 5, .inl (fun _ => 0))), (q19, .inl (cI, 12, .inl (fun _ => 0))), (q27, .inl (cI, 12, .inl (fun _ => 0))), (q35, .inl (cI, 120, .inl (fun _ => 0))), (q51, .inl (cI, 200, .inl (fun _ => 0))), (q59, .inl (cI, 24, .inl (fun _ => 0))), (q68, .inl (cI, 240, .inl (fun _ => 0))), (q76, .inl (cI, 36, .inl (fun _ => 0))), (q84, .inl (cI, 6, .inl (fun _ => 0))), (q92, .inl (cI, 60, .inl (fun _ => 0))), (q100, .inl (cI, 16, .inl (fun _ => 0))), (q107, .inl (cZ, 2, .inl (fun _ => 0))), (q116, .inl (cI, 5124, .inl (fun _ => 0))), (q125, .inl (cZ, 5124, .inl (fun _ => 0))), (q132, .inl (cI, 5, .inl (fun _ => 0)))] H := hP
  have hD : va_D A [(h0, .inr (11, [.int 3, .int 0, .int 0, .ref q11, .int 0, .ref q19, .ref q27, .ref q35, .int 511, .int 0, .ref q51, .int 0, .int 0, .long 0, .int 0, .int 0, .int 0, .int 0, .int 0, .int 0, .ref q59, .ref q68, .ref q76, .int 0, .ref q84, .int 0, .int 0, .ref q92, .ref q100, .ref q107, .ref q116, .ref q125, .null, .null])), (q11, .inl (cI, 5, .inl (fun _ => 0))), (q19, .inl (cI, 12, .inl (fun _ => 0))), (q27, .inl (cI, 12, .inl (fun _ => 0))), (q35, .inl (cI, 120, .inl (fun _ => 0))), (q51, .inl (cI, 200, .inl (fun _ => 0))), (q59, .inl (cI, 24, .inl (fun _ => 0))), (q68, .inl (cI, 240, .inl (fun _ => 0))), (q76, .inl (cI, 36, .inl (fun _ => 0))), (q84, .inl (cI, 6, .inl (fun _ => 0))), (q92, .inl (cI, 60, .inl (fun _ => 0))), (q100, .inl (cI, 16, .inl (fun _ => 0))), (q107, .inl (cZ, 2, .inl (fun _ => 0))), (q116, .inl (cI, 5124, .inl (fun _ => 0))), (q125, .inl (cZ, 5124, .inl (fun _ => 0))), (q132, .inl (cI, 5, .inl (fun _ => 0)))] := hD
  refine W.widen (k := 15) (n := 10986) (by omega) (by omega) ?_
  refine va_putF (D := D) (ci := 11) (v := .ref q132) (ty := (.array .int)) (C := RX11) (T := TX11) (N := 34) hx hb hts (cl_ok (RX11, TX11, 34) (List.mem_of_getElem? (i := 11) rfl)).1 tyX11 tyX11_ok nmX11 hown hK hP hD hS 0 rfl rfl 32 (by decide) (hts _ (gt_has (i := 1007) (w := .fieldLink RX11 60 "ThirdLetterModel" "seat" "[I") (by decide +kernel))) (fun _ h9 => h9) rfl hin rfl (by decide +kernel) rfl rfl (Nat.le_of_ble_eq_true rfl) dX11_init_134 (fun H locs hP hD hS => ?_)
  have hP : va_P D cls [(h0, .inr (11, [.int 3, .int 0, .int 0, .ref q11, .int 0, .ref q19, .ref q27, .ref q35, .int 511, .int 0, .ref q51, .int 0, .int 0, .long 0, .int 0, .int 0, .int 0, .int 0, .int 0, .int 0, .ref q59, .ref q68, .ref q76, .int 0, .ref q84, .int 0, .int 0, .ref q92, .ref q100, .ref q107, .ref q116, .ref q125, .ref q132, .null])), (q11, .inl (cI, 5, .inl (fun _ => 0))), (q19, .inl (cI, 12, .inl (fun _ => 0))), (q27, .inl (cI, 12, .inl (fun _ => 0))), (q35, .inl (cI, 120, .inl (fun _ => 0))), (q51, .inl (cI, 200, .inl (fun _ => 0))), (q59, .inl (cI, 24, .inl (fun _ => 0))), (q68, .inl (cI, 240, .inl (fun _ => 0))), (q76, .inl (cI, 36, .inl (fun _ => 0))), (q84, .inl (cI, 6, .inl (fun _ => 0))), (q92, .inl (cI, 60, .inl (fun _ => 0))), (q100, .inl (cI, 16, .inl (fun _ => 0))), (q107, .inl (cZ, 2, .inl (fun _ => 0))), (q116, .inl (cI, 5124, .inl (fun _ => 0))), (q125, .inl (cZ, 5124, .inl (fun _ => 0))), (q132, .inl (cI, 5, .inl (fun _ => 0)))] H := hP
  have hD : va_D A [(h0, .inr (11, [.int 3, .int 0, .int 0, .ref q11, .int 0, .ref q19, .ref q27, .ref q35, .int 511, .int 0, .ref q51, .int 0, .int 0, .long 0, .int 0, .int 0, .int 0, .int 0, .int 0, .int 0, .ref q59, .ref q68, .ref q76, .int 0, .ref q84, .int 0, .int 0, .ref q92, .ref q100, .ref q107, .ref q116, .ref q125, .ref q132, .null])), (q11, .inl (cI, 5, .inl (fun _ => 0))), (q19, .inl (cI, 12, .inl (fun _ => 0))), (q27, .inl (cI, 12, .inl (fun _ => 0))), (q35, .inl (cI, 120, .inl (fun _ => 0))), (q51, .inl (cI, 200, .inl (fun _ => 0))), (q59, .inl (cI, 24, .inl (fun _ => 0))), (q68, .inl (cI, 240, .inl (fun _ => 0))), (q76, .inl (cI, 36, .inl (fun _ => 0))), (q84, .inl (cI, 6, .inl (fun _ => 0))), (q92, .inl (cI, 60, .inl (fun _ => 0))), (q100, .inl (cI, 16, .inl (fun _ => 0))), (q107, .inl (cZ, 2, .inl (fun _ => 0))), (q116, .inl (cI, 5124, .inl (fun _ => 0))), (q125, .inl (cZ, 5124, .inl (fun _ => 0))), (q132, .inl (cI, 5, .inl (fun _ => 0)))] := hD
  refine lv_aload_n hx hb dX11_init_137 rfl (lv_at hl 0 rfl) ?_
  refine lv_bipush (v := 12) hx hb dX11_init_138 (by decide) ?_
  refine w_newI (N' := 12) hx hb (hts _ (gt_has (i := 106) (w := .arrayClass .int) (by decide +kernel))) hK hP hD hS hA (by decide) (by decide +kernel) (Nat.le_of_ble_eq_true rfl) (Nat.le_of_ble_eq_true rfl) (Nat.le_of_ble_eq_true rfl) dX11_init_140 (fun q140 H hP hD hS => ?_)
  have hP : va_P D cls [(h0, .inr (11, [.int 3, .int 0, .int 0, .ref q11, .int 0, .ref q19, .ref q27, .ref q35, .int 511, .int 0, .ref q51, .int 0, .int 0, .long 0, .int 0, .int 0, .int 0, .int 0, .int 0, .int 0, .ref q59, .ref q68, .ref q76, .int 0, .ref q84, .int 0, .int 0, .ref q92, .ref q100, .ref q107, .ref q116, .ref q125, .ref q132, .null])), (q11, .inl (cI, 5, .inl (fun _ => 0))), (q19, .inl (cI, 12, .inl (fun _ => 0))), (q27, .inl (cI, 12, .inl (fun _ => 0))), (q35, .inl (cI, 120, .inl (fun _ => 0))), (q51, .inl (cI, 200, .inl (fun _ => 0))), (q59, .inl (cI, 24, .inl (fun _ => 0))), (q68, .inl (cI, 240, .inl (fun _ => 0))), (q76, .inl (cI, 36, .inl (fun _ => 0))), (q84, .inl (cI, 6, .inl (fun _ => 0))), (q92, .inl (cI, 60, .inl (fun _ => 0))), (q100, .inl (cI, 16, .inl (fun _ => 0))), (q107, .inl (cZ, 2, .inl (fun _ => 0))), (q116, .inl (cI, 5124, .inl (fun _ => 0))), (q125, .inl (cZ, 5124, .inl (fun _ => 0))), (q132, .inl (cI, 5, .inl (fun _ => 0))), (q140, .inl (cI, 12, .inl (fun _ => 0)))] H := hP
  have hD : va_D A [(h0, .inr (11, [.int 3, .int 0, .int 0, .ref q11, .int 0, .ref q19, .ref q27, .ref q35, .int 511, .int 0, .ref q51, .int 0, .int 0, .long 0, .int 0, .int 0, .int 0, .int 0, .int 0, .int 0, .ref q59, .ref q68, .ref q76, .int 0, .ref q84, .int 0, .int 0, .ref q92, .ref q100, .ref q107, .ref q116, .ref q125, .ref q132, .null])), (q11, .inl (cI, 5, .inl (fun _ => 0))), (q19, .inl (cI, 12, .inl (fun _ => 0))), (q27, .inl (cI, 12, .inl (fun _ => 0))), (q35, .inl (cI, 120, .inl (fun _ => 0))), (q51, .inl (cI, 200, .inl (fun _ => 0))), (q59, .inl (cI, 24, .inl (fun _ => 0))), (q68, .inl (cI, 240, .inl (fun _ => 0))), (q76, .inl (cI, 36, .inl (fun _ => 0))), (q84, .inl (cI, 6, .inl (fun _ => 0))), (q92, .inl (cI, 60, .inl (fun _ => 0))), (q100, .inl (cI, 16, .inl (fun _ => 0))), (q107, .inl (cZ, 2, .inl (fun _ => 0))), (q116, .inl (cI, 5124, .inl (fun _ => 0))), (q125, .inl (cZ, 5124, .inl (fun _ => 0))), (q132, .inl (cI, 5, .inl (fun _ => 0))), (q140, .inl (cI, 12, .inl (fun _ => 0)))] := hD
  refine W.widen (k := 16) (n := 10998) (by omega) (by omega) ?_
  refine va_putF (D := D) (ci := 11) (v := .ref q140) (ty := (.array .int)) (C := RX11) (T := TX11) (N := 34) hx hb hts (cl_ok (RX11, TX11, 34) (List.mem_of_getElem? (i := 11) rfl)).1 tyX11 tyX11_ok nmX11 hown hK hP hD hS 0 rfl rfl 33 (by decide) (hts _ (gt_has (i := 1008) (w := .fieldLink RX11 63 "ThirdLetterModel" "apart" "[I") (by decide +kernel))) (fun _ h9 => h9) rfl hin rfl (by decide +kernel) rfl rfl (Nat.le_of_ble_eq_true rfl) dX11_init_142 (fun H locs hP hD hS => ?_)
  have hP : va_P D cls [(h0, .inr (11, [.int 3, .int 0, .int 0, .ref q11, .int 0, .ref q19, .ref q27, .ref q35, .int 511, .int 0, .ref q51, .int 0, .int 0, .long 0, .int 0, .int 0, .int 0, .int 0, .int 0, .int 0, .ref q59, .ref q68, .ref q76, .int 0, .ref q84, .int 0, .int 0, .ref q92, .ref q100, .ref q107, .ref q116, .ref q125, .ref q132, .ref q140])), (q11, .inl (cI, 5, .inl (fun _ => 0))), (q19, .inl (cI, 12, .inl (fun _ => 0))), (q27, .inl (cI, 12, .inl (fun _ => 0))), (q35, .inl (cI, 120, .inl (fun _ => 0))), (q51, .inl (cI, 200, .inl (fun _ => 0))), (q59, .inl (cI, 24, .inl (fun _ => 0))), (q68, .inl (cI, 240, .inl (fun _ => 0))), (q76, .inl (cI, 36, .inl (fun _ => 0))), (q84, .inl (cI, 6, .inl (fun _ => 0))), (q92, .inl (cI, 60, .inl (fun _ => 0))), (q100, .inl (cI, 16, .inl (fun _ => 0))), (q107, .inl (cZ, 2, .inl (fun _ => 0))), (q116, .inl (cI, 5124, .inl (fun _ => 0))), (q125, .inl (cZ, 5124, .inl (fun _ => 0))), (q132, .inl (cI, 5, .inl (fun _ => 0))), (q140, .inl (cI, 12, .inl (fun _ => 0)))] H := hP
  have hD : va_D A [(h0, .inr (11, [.int 3, .int 0, .int 0, .ref q11, .int 0, .ref q19, .ref q27, .ref q35, .int 511, .int 0, .ref q51, .int 0, .int 0, .long 0, .int 0, .int 0, .int 0, .int 0, .int 0, .int 0, .ref q59, .ref q68, .ref q76, .int 0, .ref q84, .int 0, .int 0, .ref q92, .ref q100, .ref q107, .ref q116, .ref q125, .ref q132, .ref q140])), (q11, .inl (cI, 5, .inl (fun _ => 0))), (q19, .inl (cI, 12, .inl (fun _ => 0))), (q27, .inl (cI, 12, .inl (fun _ => 0))), (q35, .inl (cI, 120, .inl (fun _ => 0))), (q51, .inl (cI, 200, .inl (fun _ => 0))), (q59, .inl (cI, 24, .inl (fun _ => 0))), (q68, .inl (cI, 240, .inl (fun _ => 0))), (q76, .inl (cI, 36, .inl (fun _ => 0))), (q84, .inl (cI, 6, .inl (fun _ => 0))), (q92, .inl (cI, 60, .inl (fun _ => 0))), (q100, .inl (cI, 16, .inl (fun _ => 0))), (q107, .inl (cZ, 2, .inl (fun _ => 0))), (q116, .inl (cI, 5124, .inl (fun _ => 0))), (q125, .inl (cZ, 5124, .inl (fun _ => 0))), (q132, .inl (cI, 5, .inl (fun _ => 0))), (q140, .inl (cI, 12, .inl (fun _ => 0)))] := hD
  refine W.widen (k := 16) (n := 10998) (by omega) (by omega) ?_
  exact W.vret hx hb hr (fun t ht hW => ⟨⟨fun j => ([q11, q19, q27, q35, q51, q59, q68, q76, q84, q92, q100, q107, q116, q125, q132, q140] : List Nat).getD j 0, rfl, trivial, by rw [ht]; exact hP, hD⟩, hS.F ht⟩) hS.2.2 dX11_init_145
