/-! new int[7][M], over the machine (the library's Stand.multianewarray2F): one outer row, seven rows behind it -/
theorem mu_o (c : ClassId) (h : Nat) : ∀ i, Jvm.Free.Multi.outerC c 7 h i = arrV c 7 (fun j => if j < i then .ref (h + 1 + j) else .null) := by
  intro i
  induction i with
  | zero =>
    show ({ cls := c, slots := Array.replicate 7 .null, vm := .none } : Cell) = _
    rw [arrV_new]
    refine congrArg (arrV c 7) (funext fun j => ?_)
    rw [if_neg (Nat.not_lt_zero j)]
  | succ i ih =>
    show (Jvm.Free.Multi.outerC c 7 h i).setSlot i (.ref (h + 1 + i)) = _
    rw [ih, arrV_store]
    refine congrArg (arrV c 7) (funext fun j => ?_)
    show (if j = i then Value.ref (h + 1 + i) else if j < i then Value.ref (h + 1 + j) else Value.null) = _
    by_cases e : j = i
    · rw [if_pos e, if_pos (by omega), e]
    · by_cases q : j < i
      · rw [if_neg e, if_pos q, if_pos (by omega)]
      · rw [if_neg e, if_neg q, if_neg (by omega)]
def mu_W (q : Nat) (cA cB : ClassId) (M : Nat) : va_W := (q, .inl (cA, 7, .inr (.inr (.inr (.inr (fun j => if j < 7 then some (q + 1 + j) else none)))))) :: (List.range 7).map (fun j => (q + 1 + j, .inl (cB, M, .inl (fun _ => 0))))
theorem mu_Wat {q : Nat} {cA cB : ClassId} {M k : Nat} {x : Nat × va_E} (h : (mu_W q cA cB M)[k]? = some x) : k < 8 ∧ x.1 = q + k ∧ (k = 0 → x = (q, .inl (cA, 7, .inr (.inr (.inr (.inr (fun j => if j < 7 then some (q + 1 + j) else none))))))) ∧ (0 < k → x = (q + k, .inl (cB, M, .inl (fun _ => 0)))) := by
  unfold mu_W at h
  cases k with
  | zero =>
    simp only [List.getElem?_cons_zero, Option.some.injEq] at h
    subst h
    exact ⟨by decide, rfl, fun _ => rfl, fun z => absurd z (Nat.lt_irrefl 0)⟩
  | succ k =>
    rw [List.getElem?_cons_succ, List.getElem?_map] at h
    by_cases h9 : k < 7
    · rw [List.getElem?_range h9] at h
      simp only [Option.map_some, Option.some.injEq] at h
      subst h
      have e : q + 1 + k = q + (k + 1) := by omega
      exact ⟨by omega, e, fun z => by omega, fun _ => by rw [e]⟩
    · rw [List.getElem?_eq_none (by rw [List.length_range]; omega)] at h
      cases h
section MUV
variable {p : Program} {l : Launch} {e : Jvm.Env} {R : Room} {s : State} {m : MethodId} {args : Array Value} {below : List Frame} {meth : Method} {c : Code} {H : Heap} {locs : List Loc} {cells slots : Nat} {Q : State → Prop}
variable {cc : ByteArray} {pc : Nat} {ls : Array Slot} {rest : List Value} {D : va_G} {cl : List vw_C} {A : Nat → Prop} {ws : va_W} {H0 : Heap}
theorem w_mna (hexec : p.tables.exec = Jvm.exec) (hb : c.code = cc) {own : String} {index : Nat} (hown : s.vm.findClass own = some m.cls) (hclink : (Cond.classLink own index ("[" ++ (FieldType.array .int).toString)).before args s = true) (hover : (Cond.arrayOver (.array .int)).before args s = true) (harr : (Cond.arrayClass .int).before args s = true)
    (hP : va_P D cl ws H) (hD : va_D A ws) (hS : va_S A H0 H locs) (hA : ∀ q, H0.size ≤ q → A q) {cA cB : ClassId} (fA : s.vm.findClass ("[" ++ (FieldType.array .int).toString) = some cA) (fB : s.vm.findClass (FieldType.array .int).toString = some cB) {n k : Int32} {M : Nat} (hn : ¬ n < 0) (hn7 : n.toNatClampNeg = 7) (hk : ¬ k < 0) (hM : k.toNatClampNeg = M) (hM2 : M ≤ 1000) (hcells : cells + 8 ≤ R.cells) (hslots : slots + (7 + 7 * M) ≤ R.slots) (hdg : decode cc pc = .ok (.multianewarray index 2, 4))
    (kk : ∀ (q : Nat) (H1 : Heap), va_P D cl (ws ++ mu_W q cA cB M) H1 → va_D A (ws ++ mu_W q cA cB M) → va_S A H0 H1 locs → W p l e R s m args below meth c H1 locs (cells + 8) (slots + (7 + 7 * M)) Q (F0 m (pc + 4) ls (.ref q :: rest))) : W p l e R s m args below meth c H locs cells slots Q (F0 m pc ls (.int k :: .int n :: rest)) := by
  intro T hT X
  obtain ⟨vm₁, cA1, cB1, -, fA1, fB1, -, -, X', step⟩ := X.multianewarray2F hexec hown hclink hover harr (g := F0 m pc ls (.int k :: .int n :: rest)) rfl (by rw [hb]; exact hdg) rfl hn hk (by omega) (by show k.toNatClampNeg * 4 ≤ _; omega) (by omega) rfl rfl (by rw [hn7]; exact hcells) (by rw [hn7, hM]; exact hslots)
  cases Option.some.inj (fA1.symm.trans fA)
  cases Option.some.inj (fB1.symm.trans fB)
  rw [hn7, hM] at X' step
  obtain ⟨f1, f2, -, -⟩ := Jvm.Free.Multi.fill_facts (T.setVm vm₁) cA cB 7 M (defaultValue .int) 7
  have f5 : ∀ a, a < (T.setVm vm₁).heap.size → (Jvm.Free.Multi.fill (T.setVm vm₁) cA cB 7 M (defaultValue .int) 7).heap[a]? = (T.setVm vm₁).heap[a]? := fun a ha => Jvm.Free.Multi.fill_old (T.setVm vm₁) cA cB 7 M (defaultValue .int) ha 7
  have f6 := Jvm.Free.Multi.fill_inner (T.setVm vm₁) cA cB 7 M (defaultValue .int) 7
  have hTh : (T.setVm vm₁).heap = H := hT
  rw [hTh] at f1 f2 f5 f6
  generalize Jvm.Free.Multi.fill (T.setVm vm₁) cA cB 7 M (defaultValue .int) 7 = F at *
  have hlt : ∀ (k9 : Nat) (x : Nat × va_E), ws[k9]? = some x → x.1 < H.size := fun k9 x hx => (hP k9 x hx).lt
  have hP1 : va_P D cl (ws ++ mu_W H.size cA cB M) F.heap := (hP.kept (fun k9 x hx => f5 x.1 (hlt k9 x hx))).app (fun k9 x hx => by
    obtain ⟨a1, a2, a3, a4⟩ := mu_Wat hx
    by_cases h0 : k9 = 0
    · rw [a3 h0]
      show F.heap[H.size]? = some (vp_cell cA _)
      rw [f2, vp_cell_q, mu_o]
      refine congrArg some (congrArg (arrV cA 7) (funext fun j => ?_))
      by_cases hj : j < 7
      · rw [if_pos hj, if_pos hj]
        rfl
      · rw [if_neg hj, if_neg hj]
        rfl
    · rw [a4 (by omega)]
      show F.heap[H.size + k9]? = some (vp_cell cB _)
      rw [show H.size + k9 = H.size + 1 + (k9 - 1) by omega, f6 _ (by omega)]
      show some ({ cls := cB, slots := Array.replicate M (.int 0), vm := .none } : Cell) = _
      rw [arrV_new]
      rfl)
  have hD1 : va_D A (ws ++ mu_W H.size cA cB M) := by
    refine ⟨fun i j x y hi hj hxy => ?_, fun k9 x hx => ?_⟩
    · by_cases h1 : i < ws.length <;> by_cases h2 : j < ws.length
      · rw [List.getElem?_append_left h1] at hi
        rw [List.getElem?_append_left h2] at hj
        exact hD.1 i j x y hi hj hxy
      · rw [List.getElem?_append_left h1] at hi
        rw [List.getElem?_append_right (by omega)] at hj
        have := hlt _ _ hi
        have := (mu_Wat hj).2.1
        omega
      · rw [List.getElem?_append_right (by omega)] at hi
        rw [List.getElem?_append_left h2] at hj
        have := hlt _ _ hj
        have := (mu_Wat hi).2.1
        omega
      · rw [List.getElem?_append_right (by omega)] at hi hj
        have := (mu_Wat hi).2.1
        have := (mu_Wat hj).2.1
        omega
    · by_cases h1 : k9 < ws.length
      · rw [List.getElem?_append_left h1] at hx
        exact hD.2 k9 x hx
      · rw [List.getElem?_append_right (by omega)] at hx
        have := (mu_Wat hx).2.1
        exact hA _ (by have := hS.1; omega)
  have ec : cells + 1 + 7 = cells + 8 := by omega
  have es : slots + 7 + 7 * M = slots + (7 + 7 * M) := by omega
  rw [ec, es] at X'
  obtain ⟨t, a1, b1⟩ := kk H.size F.heap hP1 hD1 ⟨by rw [f1]; have := hS.1; omega, fun x h1 h2 => (f5 x (Nat.lt_of_lt_of_le h1 hS.1)).trans (hS.2.1 x h1 h2), hS.2.2⟩ F rfl X'
  refine ⟨t, step t ?_, b1⟩
  have e : T.heap.size = H.size := by rw [hT]
  rw [e]
  exact a1
end MUV
theorem w_over {args : Array Value} {s : State} (h : (Cond.arrayOver (.array .int)).before args s = true) : ∃ (cB cA : ClassId) (kA : Class), s.vm.findClass (FieldType.array .int).toString = some cB ∧ s.vm.classes[cA]? = some kA ∧ kA.kind = .array cB (.array .int) ∧ s.vm.findClass ("[" ++ (FieldType.array .int).toString) = some cA := Cond.arrayOver_specA h
