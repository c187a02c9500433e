/-! one instruction at a time -/
theorem gt_has {i : Nat} {w : Cond} (h : hasW i w = true) : w ∈ gtbl := by
  unfold hasW at h
  rw [Bool.and_eq_true] at h
  exact List.mem_filter.mpr ⟨List.mem_of_getElem? (of_decide_eq_true h.1), h.2⟩
theorem lh_at {G : Geo} {lsA : Array Slot} {nL i : Nat} {ls : List Value} {v : Value} (h : lhas G lsA nL ls) (hi : ls[i]? = some v) (hv : v ≠ .null) : lsA[i]? = some (.val (vmp G v)) := h.2.2.2 i v hi hv
def prs (G : Geo) (ls : List Value) : List (Nat × Value) := (List.range ls.length).filterMap (fun i => match ls[i]? with
  | some v => if v = .null then none else some (i, vmp G v)
  | none => none)
theorem prs_mem {G : Geo} {ls : List Value} {q : Nat × Value} : q ∈ prs G ls ↔ ∃ v, ls[q.1]? = some v ∧ v ≠ .null ∧ q.2 = vmp G v := by
  unfold prs
  rw [List.mem_filterMap]
  constructor
  · rintro ⟨i, hi, h⟩
    split at h
    · rename_i v hv
      split at h
      · cases h
      · rename_i hn
        cases h
        exact ⟨v, hv, hn, rfl⟩
    · cases h
  · rintro ⟨v, h1, h2, h3⟩
    refine ⟨q.1, List.mem_range.mpr (List.getElem?_eq_some_iff.mp h1).1, ?_⟩
    rw [h1]
    simp only [if_neg h2]
    rw [← h3]
theorem lh_prs {G : Geo} {lsA : Array Slot} {nL : Nat} {ls : List Value} (h : lhas G lsA nL ls) : lv_has lsA nL (prs G ls) :=
  ⟨h.1, h.2.1, fun q hq => by
    obtain ⟨v, h1, h2, h3⟩ := prs_mem.mp hq
    rw [h3]
    exact h.2.2.2 _ _ h1 h2⟩
theorem vmp_cat (G : Geo) (v : Value) : (vmp G v).category = v.category := by
  cases v with
  | retAddr x =>
    show (if G.2.1 301 = 0 then Value.ref (G.2.1 300) else Value.null).category = 1
    split <;> rfl
  | _ => rfl
theorem lh_set {G : Geo} {lsA lsB : Array Slot} {nL a : Nat} {ls : List Value} {w : Value} (h : lhas G lsA nL ls) (hok : okst ls a = true) (hB : lv_has lsB nL ((a, vmp G w) :: (prs G ls).filter (fun q => !(q.1 == a) && !(q.1 + 1 == a && q.2.category == 2)))) : lhas G lsB nL (ls.set a w) := by
  refine ⟨hB.1, hB.2.1, by rw [List.length_set]; exact h.2.2.1, fun i v hi hv => ?_⟩
  unfold okst at hok
  rw [Bool.and_eq_true] at hok
  by_cases hia : i = a
  · subst hia
    rw [List.getElem?_set_self (by simpa using hok.1)] at hi
    cases hi
    exact hB.2.2 _ List.mem_cons_self
  · rw [List.getElem?_set_ne (fun z => hia z.symm)] at hi
    refine hB.2.2 (i, vmp G v) (List.mem_cons_of_mem _ (List.mem_filter.mpr ⟨prs_mem.mpr ⟨v, hi, hv, rfl⟩, ?_⟩))
    simp only [Bool.and_eq_true, Bool.not_eq_true', beq_eq_false_iff_ne, ne_eq, Bool.and_eq_false_iff]
    refine ⟨hia, ?_⟩
    by_cases h1 : i + 1 = a
    · right
      rw [vmp_cat]
      subst h1
      have h2 := hok.2
      simp only [Nat.add_sub_cancel, hi] at h2
      cases v <;> simp_all [Value.category]
    · left; exact h1
theorem ok_lt {G : Geo} {lsA : Array Slot} {nL a : Nat} {ls : List Value} (h : lhas G lsA nL ls) (hok : okst ls a = true) : a < nL := by
  unfold okst at hok
  rw [Bool.and_eq_true] at hok
  have := h.2.2.1
  have h1 : a < ls.length := by simpa using hok.1
  omega
theorem sm_room {G : Geo} {st : List Value} (h : okroom st = true) : ((st.map (vmp G)).map fun v => v.category).sum ≤ 8 := by
  have e : (st.map (vmp G)).map (fun v => v.category) = st.map (fun v => v.category) := by
    rw [List.map_map]
    apply List.map_congr_left
    intro v _
    exact vmp_cat G v
  rw [e]
  exact Nat.le_of_ble_eq_true h
theorem cond_t {b : Bool} {P : Prop} (h : cond b P False) : b = true ∧ P := by cases b <;> simp_all
section IS
variable {l : Launch} {G : Geo} {d : Nat} {g : Sig} {post : Option Value → St → Prop} {go : Nat → List Value → List Value → St → Prop} {pc : Nat} {ls st : List Value} {σ : St}

theorem is_iadd {nx a b : Nat} {ts : List (Int32 × Nat)} {v : Value} {rt : FieldType} {KD : Nat → List Value → St → (Option Value → St → Prop) → Prop} {KR : Option Value → St → Prop} (hgo : ∀ pc ls st σ, go pc ls st σ → AtA l G d g pc ls st σ post) (hd : decode g.2.1 pc = .ok (.iadd, 1)) (hn : nx = pc + 1) (h : instP KD KR rt go .iadd nx a b ts v ls st σ) : AtA l G d g pc ls st σ post := by
  subst hn
  simp only [instP] at h
  split at h
  · rename_i y x r
    intro p e s m args below meth c H locs lsA F hP hS hL
    have hx := F.1
    have hb := F.2.1
    refine lv_iadd hx hb hd ?_
    exact hgo _ _ _ _ h p e s m args below meth c H locs lsA F hP hS hL
  · exact h.elim

theorem is_isub {nx a b : Nat} {ts : List (Int32 × Nat)} {v : Value} {rt : FieldType} {KD : Nat → List Value → St → (Option Value → St → Prop) → Prop} {KR : Option Value → St → Prop} (hgo : ∀ pc ls st σ, go pc ls st σ → AtA l G d g pc ls st σ post) (hd : decode g.2.1 pc = .ok (.isub, 1)) (hn : nx = pc + 1) (h : instP KD KR rt go .isub nx a b ts v ls st σ) : AtA l G d g pc ls st σ post := by
  subst hn
  simp only [instP] at h
  split at h
  · rename_i y x r
    intro p e s m args below meth c H locs lsA F hP hS hL
    have hx := F.1
    have hb := F.2.1
    refine lv_isub hx hb hd ?_
    exact hgo _ _ _ _ h p e s m args below meth c H locs lsA F hP hS hL
  · exact h.elim

theorem is_imul {nx a b : Nat} {ts : List (Int32 × Nat)} {v : Value} {rt : FieldType} {KD : Nat → List Value → St → (Option Value → St → Prop) → Prop} {KR : Option Value → St → Prop} (hgo : ∀ pc ls st σ, go pc ls st σ → AtA l G d g pc ls st σ post) (hd : decode g.2.1 pc = .ok (.imul, 1)) (hn : nx = pc + 1) (h : instP KD KR rt go .imul nx a b ts v ls st σ) : AtA l G d g pc ls st σ post := by
  subst hn
  simp only [instP] at h
  split at h
  · rename_i y x r
    intro p e s m args below meth c H locs lsA F hP hS hL
    have hx := F.1
    have hb := F.2.1
    refine lv_imul hx hb hd ?_
    exact hgo _ _ _ _ h p e s m args below meth c H locs lsA F hP hS hL
  · exact h.elim

theorem is_iand {nx a b : Nat} {ts : List (Int32 × Nat)} {v : Value} {rt : FieldType} {KD : Nat → List Value → St → (Option Value → St → Prop) → Prop} {KR : Option Value → St → Prop} (hgo : ∀ pc ls st σ, go pc ls st σ → AtA l G d g pc ls st σ post) (hd : decode g.2.1 pc = .ok (.iand, 1)) (hn : nx = pc + 1) (h : instP KD KR rt go .iand nx a b ts v ls st σ) : AtA l G d g pc ls st σ post := by
  subst hn
  simp only [instP] at h
  split at h
  · rename_i y x r
    intro p e s m args below meth c H locs lsA F hP hS hL
    have hx := F.1
    have hb := F.2.1
    refine lv_iand hx hb hd ?_
    exact hgo _ _ _ _ h p e s m args below meth c H locs lsA F hP hS hL
  · exact h.elim

theorem is_ior {nx a b : Nat} {ts : List (Int32 × Nat)} {v : Value} {rt : FieldType} {KD : Nat → List Value → St → (Option Value → St → Prop) → Prop} {KR : Option Value → St → Prop} (hgo : ∀ pc ls st σ, go pc ls st σ → AtA l G d g pc ls st σ post) (hd : decode g.2.1 pc = .ok (.ior, 1)) (hn : nx = pc + 1) (h : instP KD KR rt go .ior nx a b ts v ls st σ) : AtA l G d g pc ls st σ post := by
  subst hn
  simp only [instP] at h
  split at h
  · rename_i y x r
    intro p e s m args below meth c H locs lsA F hP hS hL
    have hx := F.1
    have hb := F.2.1
    refine lv_ior hx hb hd ?_
    exact hgo _ _ _ _ h p e s m args below meth c H locs lsA F hP hS hL
  · exact h.elim

theorem is_ixor {nx a b : Nat} {ts : List (Int32 × Nat)} {v : Value} {rt : FieldType} {KD : Nat → List Value → St → (Option Value → St → Prop) → Prop} {KR : Option Value → St → Prop} (hgo : ∀ pc ls st σ, go pc ls st σ → AtA l G d g pc ls st σ post) (hd : decode g.2.1 pc = .ok (.ixor, 1)) (hn : nx = pc + 1) (h : instP KD KR rt go .ixor nx a b ts v ls st σ) : AtA l G d g pc ls st σ post := by
  subst hn
  simp only [instP] at h
  split at h
  · rename_i y x r
    intro p e s m args below meth c H locs lsA F hP hS hL
    have hx := F.1
    have hb := F.2.1
    refine lv_ixor hx hb hd ?_
    exact hgo _ _ _ _ h p e s m args below meth c H locs lsA F hP hS hL
  · exact h.elim

theorem is_ishl {nx a b : Nat} {ts : List (Int32 × Nat)} {v : Value} {rt : FieldType} {KD : Nat → List Value → St → (Option Value → St → Prop) → Prop} {KR : Option Value → St → Prop} (hgo : ∀ pc ls st σ, go pc ls st σ → AtA l G d g pc ls st σ post) (hd : decode g.2.1 pc = .ok (.ishl, 1)) (hn : nx = pc + 1) (h : instP KD KR rt go .ishl nx a b ts v ls st σ) : AtA l G d g pc ls st σ post := by
  subst hn
  simp only [instP] at h
  split at h
  · rename_i y x r
    intro p e s m args below meth c H locs lsA F hP hS hL
    have hx := F.1
    have hb := F.2.1
    refine lv_ishl hx hb hd ?_
    exact hgo _ _ _ _ h p e s m args below meth c H locs lsA F hP hS hL
  · exact h.elim

theorem is_ishr {nx a b : Nat} {ts : List (Int32 × Nat)} {v : Value} {rt : FieldType} {KD : Nat → List Value → St → (Option Value → St → Prop) → Prop} {KR : Option Value → St → Prop} (hgo : ∀ pc ls st σ, go pc ls st σ → AtA l G d g pc ls st σ post) (hd : decode g.2.1 pc = .ok (.ishr, 1)) (hn : nx = pc + 1) (h : instP KD KR rt go .ishr nx a b ts v ls st σ) : AtA l G d g pc ls st σ post := by
  subst hn
  simp only [instP] at h
  split at h
  · rename_i y x r
    intro p e s m args below meth c H locs lsA F hP hS hL
    have hx := F.1
    have hb := F.2.1
    refine lv_ishr hx hb hd ?_
    exact hgo _ _ _ _ h p e s m args below meth c H locs lsA F hP hS hL
  · exact h.elim

theorem is_ladd {nx a b : Nat} {ts : List (Int32 × Nat)} {v : Value} {rt : FieldType} {KD : Nat → List Value → St → (Option Value → St → Prop) → Prop} {KR : Option Value → St → Prop} (hgo : ∀ pc ls st σ, go pc ls st σ → AtA l G d g pc ls st σ post) (hd : decode g.2.1 pc = .ok (.ladd, 1)) (hn : nx = pc + 1) (h : instP KD KR rt go .ladd nx a b ts v ls st σ) : AtA l G d g pc ls st σ post := by
  subst hn
  simp only [instP] at h
  split at h
  · rename_i y x r
    intro p e s m args below meth c H locs lsA F hP hS hL
    have hx := F.1
    have hb := F.2.1
    refine lv_ladd hx hb hd ?_
    exact hgo _ _ _ _ h p e s m args below meth c H locs lsA F hP hS hL
  · exact h.elim

theorem is_lsub {nx a b : Nat} {ts : List (Int32 × Nat)} {v : Value} {rt : FieldType} {KD : Nat → List Value → St → (Option Value → St → Prop) → Prop} {KR : Option Value → St → Prop} (hgo : ∀ pc ls st σ, go pc ls st σ → AtA l G d g pc ls st σ post) (hd : decode g.2.1 pc = .ok (.lsub, 1)) (hn : nx = pc + 1) (h : instP KD KR rt go .lsub nx a b ts v ls st σ) : AtA l G d g pc ls st σ post := by
  subst hn
  simp only [instP] at h
  split at h
  · rename_i y x r
    intro p e s m args below meth c H locs lsA F hP hS hL
    have hx := F.1
    have hb := F.2.1
    refine lv_lsub hx hb hd ?_
    exact hgo _ _ _ _ h p e s m args below meth c H locs lsA F hP hS hL
  · exact h.elim

theorem is_lmul {nx a b : Nat} {ts : List (Int32 × Nat)} {v : Value} {rt : FieldType} {KD : Nat → List Value → St → (Option Value → St → Prop) → Prop} {KR : Option Value → St → Prop} (hgo : ∀ pc ls st σ, go pc ls st σ → AtA l G d g pc ls st σ post) (hd : decode g.2.1 pc = .ok (.lmul, 1)) (hn : nx = pc + 1) (h : instP KD KR rt go .lmul nx a b ts v ls st σ) : AtA l G d g pc ls st σ post := by
  subst hn
  simp only [instP] at h
  split at h
  · rename_i y x r
    intro p e s m args below meth c H locs lsA F hP hS hL
    have hx := F.1
    have hb := F.2.1
    refine lv_lmul hx hb hd ?_
    exact hgo _ _ _ _ h p e s m args below meth c H locs lsA F hP hS hL
  · exact h.elim

theorem is_land {nx a b : Nat} {ts : List (Int32 × Nat)} {v : Value} {rt : FieldType} {KD : Nat → List Value → St → (Option Value → St → Prop) → Prop} {KR : Option Value → St → Prop} (hgo : ∀ pc ls st σ, go pc ls st σ → AtA l G d g pc ls st σ post) (hd : decode g.2.1 pc = .ok (.land, 1)) (hn : nx = pc + 1) (h : instP KD KR rt go .land nx a b ts v ls st σ) : AtA l G d g pc ls st σ post := by
  subst hn
  simp only [instP] at h
  split at h
  · rename_i y x r
    intro p e s m args below meth c H locs lsA F hP hS hL
    have hx := F.1
    have hb := F.2.1
    refine lv_land hx hb hd ?_
    exact hgo _ _ _ _ h p e s m args below meth c H locs lsA F hP hS hL
  · exact h.elim

theorem is_idiv {nx a b : Nat} {ts : List (Int32 × Nat)} {v : Value} {rt : FieldType} {KD : Nat → List Value → St → (Option Value → St → Prop) → Prop} {KR : Option Value → St → Prop} (hgo : ∀ pc ls st σ, go pc ls st σ → AtA l G d g pc ls st σ post) (hd : decode g.2.1 pc = .ok (.idiv, 1)) (hn : nx = pc + 1) (h : instP KD KR rt go .idiv nx a b ts v ls st σ) : AtA l G d g pc ls st σ post := by
  subst hn
  simp only [instP] at h
  split at h
  · rename_i y x r
    intro p e s m args below meth c H locs lsA F hP hS hL
    have hx := F.1
    have hb := F.2.1
    obtain ⟨h0, h⟩ := h
    refine lv_idiv hx hb hd h0 ?_
    exact hgo _ _ _ _ h p e s m args below meth c H locs lsA F hP hS hL
  · exact h.elim

theorem is_irem {nx a b : Nat} {ts : List (Int32 × Nat)} {v : Value} {rt : FieldType} {KD : Nat → List Value → St → (Option Value → St → Prop) → Prop} {KR : Option Value → St → Prop} (hgo : ∀ pc ls st σ, go pc ls st σ → AtA l G d g pc ls st σ post) (hd : decode g.2.1 pc = .ok (.irem, 1)) (hn : nx = pc + 1) (h : instP KD KR rt go .irem nx a b ts v ls st σ) : AtA l G d g pc ls st σ post := by
  subst hn
  simp only [instP] at h
  split at h
  · rename_i y x r
    intro p e s m args below meth c H locs lsA F hP hS hL
    have hx := F.1
    have hb := F.2.1
    obtain ⟨h0, h⟩ := h
    refine lv_irem hx hb hd h0 ?_
    exact hgo _ _ _ _ h p e s m args below meth c H locs lsA F hP hS hL
  · exact h.elim

theorem is_iushr {nx a b : Nat} {ts : List (Int32 × Nat)} {v : Value} {rt : FieldType} {KD : Nat → List Value → St → (Option Value → St → Prop) → Prop} {KR : Option Value → St → Prop} (hgo : ∀ pc ls st σ, go pc ls st σ → AtA l G d g pc ls st σ post) (hd : decode g.2.1 pc = .ok (.iushr, 1)) (hn : nx = pc + 1) (h : instP KD KR rt go .iushr nx a b ts v ls st σ) : AtA l G d g pc ls st σ post := by
  subst hn
  simp only [instP] at h
  split at h
  · rename_i y x r
    intro p e s m args below meth c H locs lsA F hP hS hL
    have hx := F.1
    have hb := F.2.1
    refine lv_iushr hx hb hd rfl ?_
    exact hgo _ _ _ _ h p e s m args below meth c H locs lsA F hP hS hL
  · exact h.elim

theorem is_lshr {nx a b : Nat} {ts : List (Int32 × Nat)} {v : Value} {rt : FieldType} {KD : Nat → List Value → St → (Option Value → St → Prop) → Prop} {KR : Option Value → St → Prop} (hgo : ∀ pc ls st σ, go pc ls st σ → AtA l G d g pc ls st σ post) (hd : decode g.2.1 pc = .ok (.lshr, 1)) (hn : nx = pc + 1) (h : instP KD KR rt go .lshr nx a b ts v ls st σ) : AtA l G d g pc ls st σ post := by
  subst hn
  simp only [instP] at h
  split at h
  · rename_i y x r
    intro p e s m args below meth c H locs lsA F hP hS hL
    have hx := F.1
    have hb := F.2.1
    refine lv_lshr hx hb hd rfl ?_
    exact hgo _ _ _ _ h p e s m args below meth c H locs lsA F hP hS hL
  · exact h.elim

theorem is_lcmp {nx a b : Nat} {ts : List (Int32 × Nat)} {v : Value} {rt : FieldType} {KD : Nat → List Value → St → (Option Value → St → Prop) → Prop} {KR : Option Value → St → Prop} (hgo : ∀ pc ls st σ, go pc ls st σ → AtA l G d g pc ls st σ post) (hd : decode g.2.1 pc = .ok (.lcmp, 1)) (hn : nx = pc + 1) (h : instP KD KR rt go .lcmp nx a b ts v ls st σ) : AtA l G d g pc ls st σ post := by
  subst hn
  simp only [instP] at h
  split at h
  · rename_i y x r
    intro p e s m args below meth c H locs lsA F hP hS hL
    have hx := F.1
    have hb := F.2.1
    refine W.lcmp hx hb hd ?_
    exact hgo _ _ _ _ h p e s m args below meth c H locs lsA F hP hS hL
  · exact h.elim

theorem is_i2c {nx a b : Nat} {ts : List (Int32 × Nat)} {v : Value} {rt : FieldType} {KD : Nat → List Value → St → (Option Value → St → Prop) → Prop} {KR : Option Value → St → Prop} (hgo : ∀ pc ls st σ, go pc ls st σ → AtA l G d g pc ls st σ post) (hd : decode g.2.1 pc = .ok (.i2c, 1)) (hn : nx = pc + 1) (h : instP KD KR rt go .i2c nx a b ts v ls st σ) : AtA l G d g pc ls st σ post := by
  subst hn
  simp only [instP] at h
  split at h
  · rename_i x r
    intro p e s m args below meth c H locs lsA F hP hS hL
    have hx := F.1
    have hb := F.2.1
    refine lv_i2c hx hb hd rfl ?_
    exact hgo _ _ _ _ h p e s m args below meth c H locs lsA F hP hS hL
  · exact h.elim

theorem is_i2l {nx a b : Nat} {ts : List (Int32 × Nat)} {v : Value} {rt : FieldType} {KD : Nat → List Value → St → (Option Value → St → Prop) → Prop} {KR : Option Value → St → Prop} (hgo : ∀ pc ls st σ, go pc ls st σ → AtA l G d g pc ls st σ post) (hd : decode g.2.1 pc = .ok (.i2l, 1)) (hn : nx = pc + 1) (h : instP KD KR rt go .i2l nx a b ts v ls st σ) : AtA l G d g pc ls st σ post := by
  subst hn
  simp only [instP] at h
  split at h
  · rename_i x r
    intro p e s m args below meth c H locs lsA F hP hS hL
    have hx := F.1
    have hb := F.2.1
    refine lv_i2l hx hb hd rfl ?_
    exact hgo _ _ _ _ h p e s m args below meth c H locs lsA F hP hS hL
  · exact h.elim

theorem is_l2i {nx a b : Nat} {ts : List (Int32 × Nat)} {v : Value} {rt : FieldType} {KD : Nat → List Value → St → (Option Value → St → Prop) → Prop} {KR : Option Value → St → Prop} (hgo : ∀ pc ls st σ, go pc ls st σ → AtA l G d g pc ls st σ post) (hd : decode g.2.1 pc = .ok (.l2i, 1)) (hn : nx = pc + 1) (h : instP KD KR rt go .l2i nx a b ts v ls st σ) : AtA l G d g pc ls st σ post := by
  subst hn
  simp only [instP] at h
  split at h
  · rename_i x r
    intro p e s m args below meth c H locs lsA F hP hS hL
    have hx := F.1
    have hb := F.2.1
    refine lv_l2i hx hb hd rfl ?_
    exact hgo _ _ _ _ h p e s m args below meth c H locs lsA F hP hS hL
  · exact h.elim

theorem is_pop {nx a b : Nat} {ts : List (Int32 × Nat)} {v : Value} {rt : FieldType} {KD : Nat → List Value → St → (Option Value → St → Prop) → Prop} {KR : Option Value → St → Prop} (hgo : ∀ pc ls st σ, go pc ls st σ → AtA l G d g pc ls st σ post) (hd : decode g.2.1 pc = .ok (.pop, 1)) (hn : nx = pc + 1) (h : instP KD KR rt go .pop nx a b ts v ls st σ) : AtA l G d g pc ls st σ post := by
  subst hn
  simp only [instP] at h
  split at h
  · rename_i x r
    intro p e s m args below meth c H locs lsA F hP hS hL
    have hx := F.1
    have hb := F.2.1
    refine lv_pop hx hb hd rfl ?_
    exact hgo _ _ _ _ h p e s m args below meth c H locs lsA F hP hS hL
  · exact h.elim

theorem is_dup2 {nx a b : Nat} {ts : List (Int32 × Nat)} {v : Value} {rt : FieldType} {KD : Nat → List Value → St → (Option Value → St → Prop) → Prop} {KR : Option Value → St → Prop} (hgo : ∀ pc ls st σ, go pc ls st σ → AtA l G d g pc ls st σ post) (hd : decode g.2.1 pc = .ok (.dup2, 1)) (hn : nx = pc + 1) (h : instP KD KR rt go .dup2 nx a b ts v ls st σ) : AtA l G d g pc ls st σ post := by
  subst hn
  simp only [instP] at h
  split at h
  · rename_i y x r
    intro p e s m args below meth c H locs lsA F hP hS hL
    have hx := F.1
    have hb := F.2.1
    refine lv_dup2_11 hx hb hd rfl rfl ?_
    exact hgo _ _ _ _ h p e s m args below meth c H locs lsA F hP hS hL
  · exact h.elim

theorem is_iconst {nx a b : Nat} {ts : List (Int32 × Nat)} {v : Value} {rt : FieldType} {KD : Nat → List Value → St → (Option Value → St → Prop) → Prop} {KR : Option Value → St → Prop} {n : Int} (hgo : ∀ pc ls st σ, go pc ls st σ → AtA l G d g pc ls st σ post) (hd : decode g.2.1 pc = .ok (.iconst n, 1)) (hn : nx = pc + 1) (hv : v = .int (Int32.ofInt n)) (h : instP KD KR rt go (.iconst n) nx a b ts v ls st σ) : AtA l G d g pc ls st σ post := by
  subst hn
  subst hv
  intro p e s m args below meth c H locs lsA F hP hS hL
  have hx := F.1
  have hb := F.2.1
  refine lv_iconst hx hb hd rfl ?_
  exact hgo _ _ _ _ h p e s m args below meth c H locs lsA F hP hS hL
theorem is_bipush {nx a b : Nat} {ts : List (Int32 × Nat)} {v : Value} {rt : FieldType} {KD : Nat → List Value → St → (Option Value → St → Prop) → Prop} {KR : Option Value → St → Prop} {n : Int} (hgo : ∀ pc ls st σ, go pc ls st σ → AtA l G d g pc ls st σ post) (hd : decode g.2.1 pc = .ok (.bipush n, 2)) (hn : nx = pc + 2) (hv : v = .int ((Int8.ofInt n).toInt32)) (h : instP KD KR rt go (.bipush n) nx a b ts v ls st σ) : AtA l G d g pc ls st σ post := by
  subst hn
  subst hv
  intro p e s m args below meth c H locs lsA F hP hS hL
  have hx := F.1
  have hb := F.2.1
  refine lv_bipush hx hb hd rfl ?_
  exact hgo _ _ _ _ h p e s m args below meth c H locs lsA F hP hS hL
theorem is_sipush {nx a b : Nat} {ts : List (Int32 × Nat)} {v : Value} {rt : FieldType} {KD : Nat → List Value → St → (Option Value → St → Prop) → Prop} {KR : Option Value → St → Prop} {n : Int} (hgo : ∀ pc ls st σ, go pc ls st σ → AtA l G d g pc ls st σ post) (hd : decode g.2.1 pc = .ok (.sipush n, 3)) (hn : nx = pc + 3) (hv : v = .int ((Int16.ofInt n).toInt32)) (h : instP KD KR rt go (.sipush n) nx a b ts v ls st σ) : AtA l G d g pc ls st σ post := by
  subst hn
  subst hv
  intro p e s m args below meth c H locs lsA F hP hS hL
  have hx := F.1
  have hb := F.2.1
  refine lv_sipush hx hb hd rfl ?_
  exact hgo _ _ _ _ h p e s m args below meth c H locs lsA F hP hS hL
theorem is_lconst {nx a b : Nat} {ts : List (Int32 × Nat)} {v : Value} {rt : FieldType} {KD : Nat → List Value → St → (Option Value → St → Prop) → Prop} {KR : Option Value → St → Prop} {n : Fin 2} (hgo : ∀ pc ls st σ, go pc ls st σ → AtA l G d g pc ls st σ post) (hd : decode g.2.1 pc = .ok (.lconst n, 1)) (hn : nx = pc + 1) (hv : v = .long (Int64.ofNat n.val)) (h : instP KD KR rt go (.lconst n) nx a b ts v ls st σ) : AtA l G d g pc ls st σ post := by
  subst hn
  subst hv
  intro p e s m args below meth c H locs lsA F hP hS hL
  have hx := F.1
  have hb := F.2.1
  refine lv_lconst hx hb hd rfl ?_
  exact hgo _ _ _ _ h p e s m args below meth c H locs lsA F hP hS hL
theorem is_ldc {nx a b : Nat} {ts : List (Int32 × Nat)} {v : Value} {rt : FieldType} {KD : Nat → List Value → St → (Option Value → St → Prop) → Prop} {KR : Option Value → St → Prop} {i idx : Nat} (hgo : ∀ pc ls st σ, go pc ls st σ → AtA l G d g pc ls st σ post) (hd : decode g.2.1 pc = .ok (.ldc idx, 2)) (hn : nx = pc + 2) (ho : g.1.cls = RX3) (hi : i < 9) (hk : sIdx.getD i 0 = idx) (hv : v = .ref (100 + i)) (h : instP KD KR rt go (.ldc idx) nx a b ts v ls st σ) : AtA l G d g pc ls st σ post := by
  subst hn
  subst hv
  subst hk
  intro p e s m args below meth c H locs lsA F hP hS hL
  have hx := F.1
  have hb := F.2.1
  refine va_ldcS hx hb F.2.2.2.1 (by rw [ho]; exact F.2.2.2.2.2.2.2.2.2.2.1 i hi) hd ?_
  exact hgo _ _ _ _ h p e s m args below meth c H locs lsA F hP hS hL
theorem is_ldc_w {nx a b : Nat} {ts : List (Int32 × Nat)} {v : Value} {rt : FieldType} {KD : Nat → List Value → St → (Option Value → St → Prop) → Prop} {KR : Option Value → St → Prop} {x : Int32} {idx : Nat} (hgo : ∀ pc ls st σ, go pc ls st σ → AtA l G d g pc ls st σ post) (hd : decode g.2.1 pc = .ok (.ldc_w idx, 3)) (hn : nx = pc + 3) (hw : Cond.constant g.1.cls idx x ∈ gtbl) (hv : v = .int x) (h : instP KD KR rt go (.ldc_w idx) nx a b ts v ls st σ) : AtA l G d g pc ls st σ post := by
  subst hn
  subst hv
  intro p e s m args below meth c H locs lsA F hP hS hL
  have hx := F.1
  have hb := F.2.1
  refine lv_ldcw hx hb F.2.2.2.1 (F.2.2.2.2.1 _ hw) hd ?_
  exact hgo _ _ _ _ h p e s m args below meth c H locs lsA F hP hS hL
theorem is_ldc2_w {nx a b : Nat} {ts : List (Int32 × Nat)} {v : Value} {rt : FieldType} {KD : Nat → List Value → St → (Option Value → St → Prop) → Prop} {KR : Option Value → St → Prop} {x : Int64} {idx : Nat} (hgo : ∀ pc ls st σ, go pc ls st σ → AtA l G d g pc ls st σ post) (hd : decode g.2.1 pc = .ok (.ldc2_w idx, 3)) (hn : nx = pc + 3) (hw : Cond.constantLong g.1.cls idx x ∈ gtbl) (hv : v = .long x) (h : instP KD KR rt go (.ldc2_w idx) nx a b ts v ls st σ) : AtA l G d g pc ls st σ post := by
  subst hn
  subst hv
  intro p e s m args below meth c H locs lsA F hP hS hL
  have hx := F.1
  have hb := F.2.1
  refine lv_ldc2 hx hb F.2.2.2.1 (F.2.2.2.2.1 _ hw) hd ?_
  exact hgo _ _ _ _ h p e s m args below meth c H locs lsA F hP hS hL
theorem is_getstatic0 {nx a b : Nat} {ts : List (Int32 × Nat)} {v : Value} {rt : FieldType} {KD : Nat → List Value → St → (Option Value → St → Prop) → Prop} {KR : Option Value → St → Prop} {idx : Nat} (hgo : ∀ pc ls st σ, go pc ls st σ → AtA l G d g pc ls st σ post) (hd : decode g.2.1 pc = .ok (.getstatic idx, 3)) (hn : nx = pc + 3) (hw : Cond.fieldLink g.1.cls idx "java/lang/String" "COMPACT_STRINGS" "Z" ∈ gtbl) (hv : v = .int 1) (h : instP KD KR rt go (.getstatic idx) nx a b ts v ls st σ) : AtA l G d g pc ls st σ post := by
  subst hn
  subst hv
  intro p e s m args below meth c H locs lsA F hP hS hL
  have hx := F.1
  have hb := F.2.1
  refine va_gets hx hb F.2.2.2.2.2.2.2.2.2.2.2.1 hS F.2.2.2.1 (F.2.2.2.2.1 _ hw) (fun _ h9 => h9) hd ?_
  exact hgo _ _ _ _ h p e s m args below meth c H locs lsA F hP hS hL
theorem is_getstatic1 {nx a b : Nat} {ts : List (Int32 × Nat)} {v : Value} {rt : FieldType} {KD : Nat → List Value → St → (Option Value → St → Prop) → Prop} {KR : Option Value → St → Prop} {idx : Nat} (hgo : ∀ pc ls st σ, go pc ls st σ → AtA l G d g pc ls st σ post) (hd : decode g.2.1 pc = .ok (.getstatic idx, 3)) (hn : nx = pc + 3) (hw : Cond.fieldLink g.1.cls idx "jdk/internal/util/Preconditions" "SIOOBE_FORMATTER" "Ljava/util/function/BiFunction;" ∈ gtbl) (hv : v = .retAddr 300) (h : instP KD KR rt go (.getstatic idx) nx a b ts v ls st σ) : AtA l G d g pc ls st σ post := by
  subst hn
  subst hv
  intro p e s m args below meth c H locs lsA F hP hS hL
  have hx := F.1
  have hb := F.2.1
  refine va_gets hx hb F.2.2.2.2.2.2.2.2.2.2.2.2 hS F.2.2.2.1 (F.2.2.2.2.1 _ hw) (fun _ h9 => h9) hd ?_
  exact hgo _ _ _ _ h p e s m args below meth c H locs lsA F hP hS hL
theorem is_iload {nx a b : Nat} {ts : List (Int32 × Nat)} {v : Value} {rt : FieldType} {KD : Nat → List Value → St → (Option Value → St → Prop) → Prop} {KR : Option Value → St → Prop} {i : Nat} (hgo : ∀ pc ls st σ, go pc ls st σ → AtA l G d g pc ls st σ post) (hd : decode g.2.1 pc = .ok (.iload i, 2)) (hn : nx = pc + 2) (ha : a = i) (h : instP KD KR rt go (.iload i) nx a b ts v ls st σ) : AtA l G d g pc ls st σ post := by
  subst hn
  subst ha
  simp only [instP] at h
  split at h
  · rename_i x hla
    intro p e s m args below meth c H locs lsA F hP hS hL
    have hx := F.1
    have hb := F.2.1
    refine lv_iload hx hb hd (lh_at hL hla (fun z => by cases z)) ?_
    exact hgo _ _ _ _ h p e s m args below meth c H locs lsA F hP hS hL
  · exact h.elim
theorem is_aload {nx a b : Nat} {ts : List (Int32 × Nat)} {v : Value} {rt : FieldType} {KD : Nat → List Value → St → (Option Value → St → Prop) → Prop} {KR : Option Value → St → Prop} {i : Nat} (hgo : ∀ pc ls st σ, go pc ls st σ → AtA l G d g pc ls st σ post) (hd : decode g.2.1 pc = .ok (.aload i, 2)) (hn : nx = pc + 2) (ha : a = i) (h : instP KD KR rt go (.aload i) nx a b ts v ls st σ) : AtA l G d g pc ls st σ post := by
  subst hn
  subst ha
  simp only [instP] at h
  split at h
  · rename_i x hla
    intro p e s m args below meth c H locs lsA F hP hS hL
    have hx := F.1
    have hb := F.2.1
    refine lv_aload hx hb hd (lh_at hL hla (fun z => by cases z)) ?_
    exact hgo _ _ _ _ h p e s m args below meth c H locs lsA F hP hS hL
  · exact h.elim
theorem is_iload_n {nx a b : Nat} {ts : List (Int32 × Nat)} {v : Value} {rt : FieldType} {KD : Nat → List Value → St → (Option Value → St → Prop) → Prop} {KR : Option Value → St → Prop} {k : Fin 4} (hgo : ∀ pc ls st σ, go pc ls st σ → AtA l G d g pc ls st σ post) (hd : decode g.2.1 pc = .ok (.iload_n k, 1)) (hn : nx = pc + 1) (ha : a = k.val) (h : instP KD KR rt go (.iload_n k) nx a b ts v ls st σ) : AtA l G d g pc ls st σ post := by
  subst hn
  subst ha
  simp only [instP] at h
  split at h
  · rename_i x hla
    intro p e s m args below meth c H locs lsA F hP hS hL
    have hx := F.1
    have hb := F.2.1
    refine lv_iload_n hx hb hd rfl (lh_at hL hla (fun z => by cases z)) ?_
    exact hgo _ _ _ _ h p e s m args below meth c H locs lsA F hP hS hL
  · exact h.elim
theorem is_aload_n {nx a b : Nat} {ts : List (Int32 × Nat)} {v : Value} {rt : FieldType} {KD : Nat → List Value → St → (Option Value → St → Prop) → Prop} {KR : Option Value → St → Prop} {k : Fin 4} (hgo : ∀ pc ls st σ, go pc ls st σ → AtA l G d g pc ls st σ post) (hd : decode g.2.1 pc = .ok (.aload_n k, 1)) (hn : nx = pc + 1) (ha : a = k.val) (h : instP KD KR rt go (.aload_n k) nx a b ts v ls st σ) : AtA l G d g pc ls st σ post := by
  subst hn
  subst ha
  simp only [instP] at h
  split at h
  · rename_i x hla
    intro p e s m args below meth c H locs lsA F hP hS hL
    have hx := F.1
    have hb := F.2.1
    refine lv_aload_n hx hb hd rfl (lh_at hL hla (fun z => by cases z)) ?_
    exact hgo _ _ _ _ h p e s m args below meth c H locs lsA F hP hS hL
  · exact h.elim
theorem is_lload_n {nx a b : Nat} {ts : List (Int32 × Nat)} {v : Value} {rt : FieldType} {KD : Nat → List Value → St → (Option Value → St → Prop) → Prop} {KR : Option Value → St → Prop} {k : Fin 4} (hgo : ∀ pc ls st σ, go pc ls st σ → AtA l G d g pc ls st σ post) (hd : decode g.2.1 pc = .ok (.lload_n k, 1)) (hn : nx = pc + 1) (ha : a = k.val) (h : instP KD KR rt go (.lload_n k) nx a b ts v ls st σ) : AtA l G d g pc ls st σ post := by
  subst hn
  subst ha
  simp only [instP] at h
  split at h
  · rename_i x hla
    intro p e s m args below meth c H locs lsA F hP hS hL
    have hx := F.1
    have hb := F.2.1
    refine lv_lload_n hx hb hd rfl (lh_at hL hla (fun z => by cases z)) ?_
    exact hgo _ _ _ _ h p e s m args below meth c H locs lsA F hP hS hL
  · exact h.elim
theorem is_istore {nx a b : Nat} {ts : List (Int32 × Nat)} {v : Value} {rt : FieldType} {KD : Nat → List Value → St → (Option Value → St → Prop) → Prop} {KR : Option Value → St → Prop} {i : Nat} (hgo : ∀ pc ls st σ, go pc ls st σ → AtA l G d g pc ls st σ post) (hd : decode g.2.1 pc = .ok (.istore i, 2)) (hn : nx = pc + 2) (ha : a = i) (h : instP KD KR rt go (.istore i) nx a b ts v ls st σ) : AtA l G d g pc ls st σ post := by
  subst hn
  subst ha
  simp only [instP] at h
  split at h
  · rename_i x r
    obtain ⟨h0, h⟩ := cond_t h
    intro p e s m args below meth c H locs lsA F hP hS hL
    have hx := F.1
    have hb := F.2.1
    refine lv_istore hx hb hd (lh_prs hL) (ok_lt hL h0) rfl (fun lsB hB => ?_)
    exact hgo _ _ _ _ h p e s m args below meth c H locs lsB F hP hS (lh_set (w := .int x) hL h0 hB)
  · exact h.elim
theorem is_istore_n {nx a b : Nat} {ts : List (Int32 × Nat)} {v : Value} {rt : FieldType} {KD : Nat → List Value → St → (Option Value → St → Prop) → Prop} {KR : Option Value → St → Prop} {k : Fin 4} (hgo : ∀ pc ls st σ, go pc ls st σ → AtA l G d g pc ls st σ post) (hd : decode g.2.1 pc = .ok (.istore_n k, 1)) (hn : nx = pc + 1) (ha : a = k.val) (h : instP KD KR rt go (.istore_n k) nx a b ts v ls st σ) : AtA l G d g pc ls st σ post := by
  subst hn
  subst ha
  simp only [instP] at h
  split at h
  · rename_i x r
    obtain ⟨h0, h⟩ := cond_t h
    intro p e s m args below meth c H locs lsA F hP hS hL
    have hx := F.1
    have hb := F.2.1
    refine lv_istore_n hx hb hd rfl (lh_prs hL) (ok_lt hL h0) rfl (fun lsB hB => ?_)
    exact hgo _ _ _ _ h p e s m args below meth c H locs lsB F hP hS (lh_set (w := .int x) hL h0 hB)
  · exact h.elim
theorem is_iinc {nx a b : Nat} {ts : List (Int32 × Nat)} {v : Value} {rt : FieldType} {KD : Nat → List Value → St → (Option Value → St → Prop) → Prop} {KR : Option Value → St → Prop} {i : Nat} {n : Int} (hgo : ∀ pc ls st σ, go pc ls st σ → AtA l G d g pc ls st σ post) (hd : decode g.2.1 pc = .ok (.iinc i n, 3)) (hn : nx = pc + 3) (ha : a = i) (hv : v = .int (Int32.ofInt n)) (h : instP KD KR rt go (.iinc i n) nx a b ts v ls st σ) : AtA l G d g pc ls st σ post := by
  subst hn
  subst ha
  subst hv
  simp only [instP] at h
  split at h
  · rename_i x hla
    obtain ⟨h0, h⟩ := cond_t h
    intro p e s m args below meth c H locs lsA F hP hS hL
    have hx := F.1
    have hb := F.2.1
    have hm : (a, vmp G (.int x)) ∈ prs G ls := prs_mem.mpr ⟨_, hla, (fun z => by cases z), rfl⟩
    obtain ⟨k, hk⟩ := List.getElem?_of_mem hm
    refine lv_iinc hx hb hd (lh_prs hL) hk rfl (ok_lt hL h0) rfl (fun lsB hB => ?_)
    exact hgo _ _ _ _ h p e s m args below meth c H locs lsB F hP hS (lh_set (w := .int (x + Int32.ofInt n)) hL h0 hB)
  · exact h.elim
theorem is_dup {nx a b : Nat} {ts : List (Int32 × Nat)} {v : Value} {rt : FieldType} {KD : Nat → List Value → St → (Option Value → St → Prop) → Prop} {KR : Option Value → St → Prop} (hgo : ∀ pc ls st σ, go pc ls st σ → AtA l G d g pc ls st σ post) (hd : decode g.2.1 pc = .ok (.dup, 1)) (hn : nx = pc + 1)  (h : instP KD KR rt go (.dup) nx a b ts v ls st σ) : AtA l G d g pc ls st σ post := by
  subst hn
  simp only [instP] at h
  split at h
  · rename_i x r
    intro p e s m args below meth c H locs lsA F hP hS hL
    have hx := F.1
    have hb := F.2.1
    refine lv_dup hx hb hd rfl ?_
    exact hgo _ _ _ _ h p e s m args below meth c H locs lsA F hP hS hL
  · rename_i x r
    intro p e s m args below meth c H locs lsA F hP hS hL
    have hx := F.1
    have hb := F.2.1
    refine lv_dup hx hb hd rfl ?_
    exact hgo _ _ _ _ h p e s m args below meth c H locs lsA F hP hS hL
  · exact h.elim
theorem is_goto {nx a b : Nat} {ts : List (Int32 × Nat)} {v : Value} {rt : FieldType} {KD : Nat → List Value → St → (Option Value → St → Prop) → Prop} {KR : Option Value → St → Prop} {off : Int} (hgo : ∀ pc ls st σ, go pc ls st σ → AtA l G d g pc ls st σ post) (hd : decode g.2.1 pc = .ok (.goto off, 3)) (hn : nx = pc + 3) (ht : (pc : Int) + off = (a : Int)) (h : instP KD KR rt go (.goto off) nx a b ts v ls st σ) : AtA l G d g pc ls st σ post := by
  intro p e s m args below meth c H locs lsA F hP hS hL
  have hx := F.1
  have hb := F.2.1
  refine lv_goto hx hb hd ht ?_
  exact hgo _ _ _ _ h p e s m args below meth c H locs lsA F hP hS hL
theorem is_ifCond {nx a b : Nat} {ts : List (Int32 × Nat)} {v : Value} {rt : FieldType} {KD : Nat → List Value → St → (Option Value → St → Prop) → Prop} {KR : Option Value → St → Prop} {cc : Jvm.ClassFile.Cond} {off : Int} (hgo : ∀ pc ls st σ, go pc ls st σ → AtA l G d g pc ls st σ post) (hd : decode g.2.1 pc = .ok (.ifCond cc off, 3)) (hn : nx = pc + 3) (ht : (pc : Int) + off = (a : Int)) (h : instP KD KR rt go (.ifCond cc off) nx a b ts v ls st σ) : AtA l G d g pc ls st σ post := by
  subst hn
  simp only [instP] at h
  split at h
  · rename_i x r
    intro p e s m args below meth c H locs lsA F hP hS hL
    have hx := F.1
    have hb := F.2.1
    cases cc with
    | eq => exact lv_if_eq hx hb hd ht (fun z => hgo _ _ _ _ (h.1 z) p e s m args below meth c H locs lsA F hP hS hL) (fun z => hgo _ _ _ _ (h.2 z) p e s m args below meth c H locs lsA F hP hS hL)
    | ne => exact lv_if_ne hx hb hd ht (fun z => hgo _ _ _ _ (h.2 z) p e s m args below meth c H locs lsA F hP hS hL) (fun z => hgo _ _ _ _ (h.1 z) p e s m args below meth c H locs lsA F hP hS hL)
    | lt => exact lv_if_lt hx hb hd ht (fun z => hgo _ _ _ _ (h.1 z) p e s m args below meth c H locs lsA F hP hS hL) (fun z => hgo _ _ _ _ (h.2 z) p e s m args below meth c H locs lsA F hP hS hL)
    | ge => exact lv_if_ge hx hb hd ht (fun z => hgo _ _ _ _ (h.2 (Int32.not_lt.mpr z)) p e s m args below meth c H locs lsA F hP hS hL) (fun z => hgo _ _ _ _ (h.1 (Int32.not_le.mp z)) p e s m args below meth c H locs lsA F hP hS hL)
    | gt => exact lv_if_gt hx hb hd ht (fun z => hgo _ _ _ _ (h.1 z) p e s m args below meth c H locs lsA F hP hS hL) (fun z => hgo _ _ _ _ (h.2 z) p e s m args below meth c H locs lsA F hP hS hL)
    | le => exact lv_if_le hx hb hd ht (fun z => hgo _ _ _ _ (h.2 (Int32.not_lt.mpr z)) p e s m args below meth c H locs lsA F hP hS hL) (fun z => hgo _ _ _ _ (h.1 (Int32.not_le.mp z)) p e s m args below meth c H locs lsA F hP hS hL)
  · exact h.elim
theorem is_if_icmp {nx a b : Nat} {ts : List (Int32 × Nat)} {v : Value} {rt : FieldType} {KD : Nat → List Value → St → (Option Value → St → Prop) → Prop} {KR : Option Value → St → Prop} {cc : Jvm.ClassFile.Cond} {off : Int} (hgo : ∀ pc ls st σ, go pc ls st σ → AtA l G d g pc ls st σ post) (hd : decode g.2.1 pc = .ok (.if_icmp cc off, 3)) (hn : nx = pc + 3) (ht : (pc : Int) + off = (a : Int)) (h : instP KD KR rt go (.if_icmp cc off) nx a b ts v ls st σ) : AtA l G d g pc ls st σ post := by
  subst hn
  simp only [instP] at h
  split at h
  · rename_i y x r
    intro p e s m args below meth c H locs lsA F hP hS hL
    have hx := F.1
    have hb := F.2.1
    cases cc with
    | eq => exact lv_icmp_eq hx hb hd ht (fun z => hgo _ _ _ _ (h.1 z) p e s m args below meth c H locs lsA F hP hS hL) (fun z => hgo _ _ _ _ (h.2 z) p e s m args below meth c H locs lsA F hP hS hL)
    | ne => exact lv_icmp_ne hx hb hd ht (fun z => hgo _ _ _ _ (h.2 z) p e s m args below meth c H locs lsA F hP hS hL) (fun z => hgo _ _ _ _ (h.1 z) p e s m args below meth c H locs lsA F hP hS hL)
    | lt => exact lv_icmp_lt hx hb hd ht (fun z => hgo _ _ _ _ (h.1 z) p e s m args below meth c H locs lsA F hP hS hL) (fun z => hgo _ _ _ _ (h.2 z) p e s m args below meth c H locs lsA F hP hS hL)
    | ge => exact lv_icmp_ge hx hb hd ht (fun z => hgo _ _ _ _ (h.2 (Int32.not_lt.mpr z)) p e s m args below meth c H locs lsA F hP hS hL) (fun z => hgo _ _ _ _ (h.1 (Int32.not_le.mp z)) p e s m args below meth c H locs lsA F hP hS hL)
    | gt => exact lv_icmp_gt hx hb hd ht (fun z => hgo _ _ _ _ (h.1 z) p e s m args below meth c H locs lsA F hP hS hL) (fun z => hgo _ _ _ _ (h.2 z) p e s m args below meth c H locs lsA F hP hS hL)
    | le => exact lv_icmp_le hx hb hd ht (fun z => hgo _ _ _ _ (h.2 (Int32.not_lt.mpr z)) p e s m args below meth c H locs lsA F hP hS hL) (fun z => hgo _ _ _ _ (h.1 (Int32.not_le.mp z)) p e s m args below meth c H locs lsA F hP hS hL)
  · exact h.elim
end IS
