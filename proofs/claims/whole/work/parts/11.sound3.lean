/-! fields, arrays, calls, ends -/
def layOK : Bool := (List.range 68).all (fun q => match lay q with
  | (0, c, fl) => (match cls[c]? with
    | some C => fl.length == C.2.2 && (List.range fl.length).all (fun k => match fl[k]? with
      | some 0 => decide (parseFieldDescriptor (C.2.1 k).2.2.1 = some .int)
      | some 1 => decide (parseFieldDescriptor (C.2.1 k).2.2.1 = some .long)
      | _ => true)
    | none => false)
  | _ => true)
theorem layOK_t : layOK = true := by decide +kernel
theorem lay_ok {q c k kd : Nat} {fl : List Nat} (h : lay q = (0, c, fl)) (hq : q < 68) (hk : fl[k]? = some kd) : ∃ C, cls[c]? = some C ∧ fl.length = C.2.2 ∧ (kd = 0 → parseFieldDescriptor (C.2.1 k).2.2.1 = some .int) ∧ (kd = 1 → parseFieldDescriptor (C.2.1 k).2.2.1 = some .long) := by
  have h1 := List.all_eq_true.mp layOK_t q (List.mem_range.mpr hq)
  simp only [h] at h1
  split at h1
  · rename_i C hC
    rw [Bool.and_eq_true] at h1
    refine ⟨C, hC, by simpa using h1.1, ?_⟩
    have h2 := List.all_eq_true.mp h1.2 k (List.mem_range.mpr (List.getElem?_eq_some_iff.mp hk).1)
    simp only [hk] at h2
    refine ⟨fun e => ?_, fun e => ?_⟩
    · subst e
      simpa using h2
    · subst e
      simpa using h2
  · exact absurd h1 (by simp)
def wsOK (c : vw_C) : Bool := (u_ws c.1 c.2.1 c.2.2).all (fun w => decide (w ∈ lw_tbl) && goodWord w)
theorem ws_in {c : vw_C} (h : wsOK c = true) : ∀ w ∈ u_ws c.1 c.2.1 c.2.2, w ∈ gtbl := by
  intro w hw
  have h1 := List.all_eq_true.mp h w hw
  rw [Bool.and_eq_true] at h1
  exact List.mem_filter.mpr ⟨of_decide_eq_true h1.1, h1.2⟩
theorem wsOK_0 : wsOK (RX0, TX0, 4) = true := by decide +kernel
theorem wsOK_1 : wsOK (RX1, TX1, 7) = true := by decide +kernel
theorem wsOK_2 : wsOK (RX2, TX2, 3) = true := by decide +kernel
theorem wsOK_3 : wsOK (RX3, TX3, 5) = true := by decide +kernel
theorem wsOK_4 : wsOK (RX4, TX4, 2) = true := by decide +kernel
theorem wsOK_5 : wsOK (RX5, TX5, 5) = true := by decide +kernel
theorem wsOK_6 : wsOK (RX6, TX6, 5) = true := by decide +kernel
theorem wsOK_7 : wsOK (RX7, TX7, 2) = true := by decide +kernel
theorem wsOK_8 : wsOK (RX8, TX8, 2) = true := by decide +kernel
theorem wsOK_9 : wsOK (RX9, TX9, 5) = true := by decide +kernel
theorem wsOK_10 : wsOK (RX10, TX10, 12) = true := by decide +kernel
theorem wsOK_11 : wsOK (RX11, TX11, 34) = true := by decide +kernel
def clOK (c : vw_C) : Prop := (∀ w ∈ u_ws c.1 c.2.1 c.2.2, w ∈ gtbl) ∧ (∃ ty0 : Nat → FieldType, ∀ k, k < c.2.2 → parseFieldDescriptor (c.2.1 k).2.2.1 = some (ty0 k)) ∧ ∀ a, a < c.2.2 → ∀ b, b < c.2.2 → a ≠ b → (c.2.1 a).2.1 ≠ (c.2.1 b).2.1
theorem cl_ok : ∀ c ∈ cls, clOK c := by
  refine List.forall_mem_cons.mpr ⟨⟨ws_in wsOK_0, ⟨tyX0, tyX0_ok⟩, nmX0⟩, List.forall_mem_cons.mpr ⟨⟨ws_in wsOK_1, ⟨tyX1, tyX1_ok⟩, nmX1⟩, List.forall_mem_cons.mpr ⟨⟨ws_in wsOK_2, ⟨tyX2, tyX2_ok⟩, nmX2⟩, List.forall_mem_cons.mpr ⟨⟨ws_in wsOK_3, ⟨tyX3, tyX3_ok⟩, nmX3⟩, List.forall_mem_cons.mpr ⟨⟨ws_in wsOK_4, ⟨tyX4, tyX4_ok⟩, nmX4⟩, List.forall_mem_cons.mpr ⟨⟨ws_in wsOK_5, ⟨tyX5, tyX5_ok⟩, nmX5⟩, List.forall_mem_cons.mpr ⟨⟨ws_in wsOK_6, ⟨tyX6, tyX6_ok⟩, nmX6⟩, List.forall_mem_cons.mpr ⟨⟨ws_in wsOK_7, ⟨tyX7, tyX7_ok⟩, nmX7⟩, List.forall_mem_cons.mpr ⟨⟨ws_in wsOK_8, ⟨tyX8, tyX8_ok⟩, nmX8⟩, List.forall_mem_cons.mpr ⟨⟨ws_in wsOK_9, ⟨tyX9, tyX9_ok⟩, nmX9⟩, List.forall_mem_cons.mpr ⟨⟨ws_in wsOK_10, ⟨tyX10, tyX10_ok⟩, nmX10⟩, List.forall_mem_cons.mpr ⟨⟨ws_in wsOK_11, ⟨tyX11, tyX11_ok⟩, nmX11⟩, fun _ h => absurd h List.not_mem_nil⟩⟩⟩⟩⟩⟩⟩⟩⟩⟩⟩⟩
section IS2
variable {l : Launch} {G : Geo} {d : Nat} {g : Sig} {post : Option Value → St → Prop} {go : Nat → List Value → List Value → St → Prop} {pc : Nat} {ls st : List Value} {σ : St}
theorem nm_off (b n q : Nat) (h1 : b ≤ q) (h2 : q < b + n) : ∃ i : Nat, i < n ∧ q = b + i := ⟨q - b, by omega, by omega⟩
theorem blen_off (q : Nat) (hp : 0 < blen q) : ∃ i : Nat, i < 9 ∧ q = 200 + i := by
  unfold blen at hp
  split at hp
  · rename_i h0
    rcases Nat.lt_or_ge q 209 with h1 | h1
    · exact ⟨q - 200, by omega, by omega⟩
    · have h9 : slen.length ≤ q - 200 := by
        show 9 ≤ q - 200
        omega
      rw [List.getD_eq_getElem?_getD, List.getElem?_eq_none h9] at hp
      exact absurd hp (by decide)
  · omega
theorem isArr_of (q : Nat) (h : isArr q = true) : (∃ i : Nat, i < 9 ∧ q = 200 + i) ∨ (q < 68 ∧ (lay q).1 = 1 ∧ ¬ 200 ≤ q) := by
  unfold isArr at h
  simp only [Bool.or_eq_true, Bool.and_eq_true, decide_eq_true_eq] at h
  rcases h with ⟨h1, h2⟩ | ⟨h1, h2⟩
  · exact Or.inl ⟨q - 200, by omega, by omega⟩
  · exact Or.inr ⟨h1, by simpa using h2, by omega⟩
theorem fs_at {q k kd : Nat} {fl : List Nat} (hk : fl[k]? = some kd) : (fl.mapIdx (fun k kind => fval G σ q k kind))[k]? = some (fval G σ q k kd) := by
  rw [List.getElem?_mapIdx, hk]
  rfl

theorem is_getfield {nx a b : Nat} {ts : List (Int32 × Nat)} {v : Value} {rt : FieldType} {KD : Nat → List Value → St → (Option Value → St → Prop) → Prop} {KR : Option Value → St → Prop} {idx : Nat} {cc : vw_C} (hgo : ∀ pc ls st σ, go pc ls st σ → AtA l G d g pc ls st σ post) (hd : decode g.2.1 pc = .ok (.getfield idx, 3)) (hn : nx = pc + 3) (hna : a ≠ 20) (hc : cls[a]? = some cc) (hbn : b < cc.2.2) (hw : Cond.fieldLink g.1.cls idx (cc.2.1 b).1 (cc.2.1 b).2.1 (cc.2.1 b).2.2.1 ∈ gtbl) (h : instP KD KR rt go (.getfield idx) nx a b ts v ls st σ) : AtA l G d g pc ls st σ post := by
  subst hn
  simp only [instP] at h
  split at h
  · rename_i q r
    have h2 : (a == 20) = false := by simpa using hna
    rw [h2] at h
    simp only [cond_false] at h
    obtain ⟨cok1, -, -⟩ := cl_ok cc (List.mem_of_getElem? hc)
    split at h
    · rename_i hk
      obtain ⟨fl, hl, hf, hq⟩ := fk_of hk
      intro p e s m args below meth c H locs lsA F hP hS hL
      refine va_get (D := G.1) (ci := a) (C := cc.1) (T := cc.2.1) (N := cc.2.2) F.1 F.2.1 F.2.2.2.2.1 cok1 F.2.2.2.1 F.2.2.2.2.2.2.2.1 hP q (by rw [wc_at hq, wc_obj hl]) hc b hbn (F.2.2.2.2.1 _ hw) (fun _ h9 => h9) (fs_at hf) hd ?_
      exact hgo _ _ _ _ h p e s m args below meth c H locs lsA F hP hS hL
    · rename_i hk
      obtain ⟨fl, hl, hf, hq⟩ := fk_of hk
      intro p e s m args below meth c H locs lsA F hP hS hL
      refine va_get (D := G.1) (ci := a) (C := cc.1) (T := cc.2.1) (N := cc.2.2) F.1 F.2.1 F.2.2.2.2.1 cok1 F.2.2.2.1 F.2.2.2.2.2.2.2.1 hP q (by rw [wc_at hq, wc_obj hl]) hc b hbn (F.2.2.2.2.1 _ hw) (fun _ h9 => h9) (fs_at hf) hd ?_
      exact hgo _ _ _ _ h p e s m args below meth c H locs lsA F hP hS hL
    · rename_i t hk
      obtain ⟨fl, hl, hf, hq⟩ := fk_of hk
      intro p e s m args below meth c H locs lsA F hP hS hL
      refine va_get (D := G.1) (ci := a) (C := cc.1) (T := cc.2.1) (N := cc.2.2) F.1 F.2.1 F.2.2.2.2.1 cok1 F.2.2.2.1 F.2.2.2.2.2.2.2.1 hP q (by rw [wc_at hq, wc_obj hl]) hc b hbn (F.2.2.2.2.1 _ hw) (fun _ h9 => h9) (fs_at hf) hd ?_
      exact hgo _ _ _ _ h p e s m args below meth c H locs lsA F hP hS hL
    · exact h.elim
  · exact h.elim
theorem is_getfieldS {nx a b : Nat} {ts : List (Int32 × Nat)} {v : Value} {rt : FieldType} {KD : Nat → List Value → St → (Option Value → St → Prop) → Prop} {KR : Option Value → St → Prop} {idx : Nat} (hgo : ∀ pc ls st σ, go pc ls st σ → AtA l G d g pc ls st σ post) (hd : decode g.2.1 pc = .ok (.getfield idx, 3)) (hn : nx = pc + 3) (ha : a = 20) (hb2 : b < 2) (hw : Cond.fieldLink g.1.cls idx "java/lang/String" (cond (b == 0) "value" "coder") (cond (b == 0) "[B" "B") ∈ gtbl) (h : instP KD KR rt go (.getfield idx) nx a b ts v ls st σ) : AtA l G d g pc ls st σ post := by
  subst hn
  subst ha
  simp only [instP] at h
  split at h
  · rename_i q r
    simp only [beq_self_eq_true, cond_true] at h
    obtain ⟨⟨h1, h2⟩, h⟩ := h
    obtain ⟨i, hi, rfl⟩ : ∃ i : Nat, i < 9 ∧ q = 100 + i := nm_off 100 9 q h1 h2
    intro p e s m args below meth c H locs lsA F hP hS hL
    obtain ⟨s1, s2, s3, s4⟩ := F.2.2.2.2.2.2.2.2.2.1.1 i hi
    rcases (show b = 0 ∨ b = 1 by omega) with rfl | rfl
    · refine vk_getf F.1 F.2.1 s3 hS F.2.2.2.1 (F.2.2.2.2.1 _ hw) (fun _ h9 => h9) hd ?_
      have ee : (100 + i + 100 : Nat) = 200 + i := by omega
      have h : go (pc + 3) ls (.ref (100 + i + 100) :: r) σ := h
      rw [show ((100 + i + 100 : Nat) : Addr) = 200 + i from ee] at h
      exact hgo _ _ _ _ h p e s m args below meth c H locs lsA F hP hS hL
    · refine vk_getf F.1 F.2.1 s2 hS F.2.2.2.1 (F.2.2.2.2.1 _ hw) (fun _ h9 => h9) hd ?_
      exact hgo _ _ _ _ h p e s m args below meth c H locs lsA F hP hS hL
  · exact h.elim
theorem is_putfield {nx a b : Nat} {ts : List (Int32 × Nat)} {v : Value} {rt : FieldType} {KD : Nat → List Value → St → (Option Value → St → Prop) → Prop} {KR : Option Value → St → Prop} {idx : Nat} {cc : vw_C} (hgo : ∀ pc ls st σ, go pc ls st σ → AtA l G d g pc ls st σ post) (hd : decode g.2.1 pc = .ok (.putfield idx, 3)) (hn : nx = pc + 3) (hc : cls[a]? = some cc) (hbn : b < cc.2.2) (hfin : (cc.2.1 b).2.2.2 = false) (hw : Cond.fieldLink g.1.cls idx (cc.2.1 b).1 (cc.2.1 b).2.1 (cc.2.1 b).2.2.1 ∈ gtbl) (h : instP KD KR rt go (.putfield idx) nx a b ts v ls st σ) : AtA l G d g pc ls st σ post := by
  subst hn
  simp only [instP] at h
  obtain ⟨cok1, ⟨ty0, cok2⟩, cok3⟩ := cl_ok cc (List.mem_of_getElem? hc)
  split at h
  · rename_i x q r
    split at h
    · rename_i hk
      obtain ⟨fl, hl, hf, hq⟩ := fk_of hk
      obtain ⟨C, hC, hlen, hi, -⟩ := lay_ok hl hq hf
      rw [hc] at hC
      cases hC
      intro p e s m args below meth c H locs lsA F hP hS hL
      refine va_put (D := G.1) (ci := a) (v := .int x) (ty := .int) (C := cc.1) (T := cc.2.1) (N := cc.2.2) F.1 F.2.1 F.2.2.2.2.1 cok1 ty0 cok2 cok3 F.2.2.2.1 F.2.2.2.2.2.2.2.1 hP (wc_D F.2.2.2.2.2.2.2.2.1 σ) hS q (by rw [wc_at hq, wc_obj hl]) hc b hbn (F.2.2.2.2.1 _ hw) (fun _ h9 => h9) hfin (hi rfl) rfl rfl (by rw [List.length_mapIdx, hlen]; exact hbn) hd (fun H1 locs1 hP1 hD1 hS1 => ?_)
      rw [wc_put_fld hl hf] at hP1
      exact hgo _ _ _ _ h p e s m args below meth c H1 locs1 lsA F hP1 hS1 hL
    · exact h.elim
  · rename_i x q r
    split at h
    · rename_i hk
      obtain ⟨fl, hl, hf, hq⟩ := fk_of hk
      obtain ⟨C, hC, hlen, -, hi⟩ := lay_ok hl hq hf
      rw [hc] at hC
      cases hC
      intro p e s m args below meth c H locs lsA F hP hS hL
      refine va_put (D := G.1) (ci := a) (v := .long x) (ty := .long) (C := cc.1) (T := cc.2.1) (N := cc.2.2) F.1 F.2.1 F.2.2.2.2.1 cok1 ty0 cok2 cok3 F.2.2.2.1 F.2.2.2.2.2.2.2.1 hP (wc_D F.2.2.2.2.2.2.2.2.1 σ) hS q (by rw [wc_at hq, wc_obj hl]) hc b hbn (F.2.2.2.2.1 _ hw) (fun _ h9 => h9) hfin (hi rfl) rfl rfl (by rw [List.length_mapIdx, hlen]; exact hbn) hd (fun H1 locs1 hP1 hD1 hS1 => ?_)
      rw [wc_put_lng hl hf] at hP1
      exact hgo _ _ _ _ h p e s m args below meth c H1 locs1 lsA F hP1 hS1 hL
    · exact h.elim
  · exact h.elim
theorem is_iaload {nx a b : Nat} {ts : List (Int32 × Nat)} {v : Value} {rt : FieldType} {KD : Nat → List Value → St → (Option Value → St → Prop) → Prop} {KR : Option Value → St → Prop} (hgo : ∀ pc ls st σ, go pc ls st σ → AtA l G d g pc ls st σ post) (hd : decode g.2.1 pc = .ok (.iaload, 1)) (hn : nx = pc + 1)  (h : instP KD KR rt go (.iaload) nx a b ts v ls st σ) : AtA l G d g pc ls st σ post := by
  subst hn
  simp only [instP] at h
  split at h
  · rename_i i q r
    obtain ⟨h0, h⟩ := h
    obtain ⟨hq, hw⟩ := wc_int (G := G) (σ := σ) (q := q) rfl (in_pos h0)
    intro p e s m args below meth c H locs lsA F hP hS hL
    refine va_iald F.1 F.2.1 F.2.2.2.2.2.2.2.1 hP q 0 (by rw [wc_at hq, hw]) rfl h0 hd ?_
    exact hgo _ _ _ _ h p e s m args below meth c H locs lsA F hP hS hL
  · exact h.elim
theorem is_baload {nx a b : Nat} {ts : List (Int32 × Nat)} {v : Value} {rt : FieldType} {KD : Nat → List Value → St → (Option Value → St → Prop) → Prop} {KR : Option Value → St → Prop} (hgo : ∀ pc ls st σ, go pc ls st σ → AtA l G d g pc ls st σ post) (hd : decode g.2.1 pc = .ok (.baload, 1)) (hn : nx = pc + 1) (ha : a = 0) (h : instP KD KR rt go (.baload) nx a b ts v ls st σ) : AtA l G d g pc ls st σ post := by
  subst hn
  subst ha
  simp only [instP] at h
  split at h
  · rename_i i q r
    obtain ⟨h0, h⟩ : vp_in i (zlen q) ∧ _ := h
    obtain ⟨hq, hw⟩ := wc_bool (G := G) (σ := σ) (q := q) rfl (in_pos h0)
    intro p e s m args below meth c H locs lsA F hP hS hL
    refine va_zald F.1 F.2.1 F.2.2.2.2.2.2.2.1 hP q 1 (by rw [wc_at hq, hw]) rfl h0 hd ?_
    exact hgo _ _ _ _ h p e s m args below meth c H locs lsA F hP hS hL
  · exact h.elim
theorem is_baloadS {nx a b : Nat} {ts : List (Int32 × Nat)} {v : Value} {rt : FieldType} {KD : Nat → List Value → St → (Option Value → St → Prop) → Prop} {KR : Option Value → St → Prop} (hgo : ∀ pc ls st σ, go pc ls st σ → AtA l G d g pc ls st σ post) (hd : decode g.2.1 pc = .ok (.baload, 1)) (hn : nx = pc + 1) (ha : a = 1) (h : instP KD KR rt go (.baload) nx a b ts v ls st σ) : AtA l G d g pc ls st σ post := by
  subst hn
  subst ha
  simp only [instP] at h
  split at h
  · rename_i i q r
    obtain ⟨h0, h⟩ : vp_in i (blen q) ∧ go _ ls (.int (sby q i.toNatClampNeg) :: r) σ := h
    obtain ⟨j, hj, rfl⟩ : ∃ j : Nat, j < 9 ∧ q = 200 + j := blen_off q (in_pos h0)
    intro p e s m args below meth c H locs lsA F hP hS hL
    obtain ⟨s1, s2, s3, s4⟩ := F.2.2.2.2.2.2.2.2.2.1.1 j hj
    have hbl : blen (200 + j) = slen.getD j 0 := by
      unfold blen
      rw [if_pos (by omega), Nat.add_sub_cancel_left]
    have hsb : sby (200 + j) i.toNatClampNeg = (sbyt.getD j []).getD i.toNatClampNeg 0 := by
      unfold sby
      rw [Nat.add_sub_cancel_left]
    rw [hbl] at h0
    rw [hsb] at h
    refine va_tb F.1 F.2.1 s4 hS h0 rfl hd ?_
    exact hgo _ _ _ _ h p e s m args below meth c H locs lsA F hP hS hL
  · exact h.elim
theorem is_iastore {nx a b : Nat} {ts : List (Int32 × Nat)} {v : Value} {rt : FieldType} {KD : Nat → List Value → St → (Option Value → St → Prop) → Prop} {KR : Option Value → St → Prop} (hgo : ∀ pc ls st σ, go pc ls st σ → AtA l G d g pc ls st σ post) (hd : decode g.2.1 pc = .ok (.iastore, 1)) (hn : nx = pc + 1)  (h : instP KD KR rt go (.iastore) nx a b ts v ls st σ) : AtA l G d g pc ls st σ post := by
  subst hn
  simp only [instP] at h
  split at h
  · rename_i x i q r
    obtain ⟨h0, h⟩ := h
    obtain ⟨hq, hw⟩ := wc_int (G := G) (σ := σ) (q := q) rfl (in_pos h0)
    intro p e s m args below meth c H locs lsA F hP hS hL
    refine va_iast F.1 F.2.1 F.2.2.2.2.2.2.2.1 hP (wc_D F.2.2.2.2.2.2.2.2.1 σ) hS q 0 (by rw [wc_at hq, hw]) rfl h0 hd (fun H1 locs1 hP1 hD1 hS1 => ?_)
    rw [wc_put_int rfl (in_pos h0)] at hP1
    exact hgo _ _ _ _ h p e s m args below meth c H1 locs1 lsA F hP1 hS1 hL
  · exact h.elim
theorem is_bastore {nx a b : Nat} {ts : List (Int32 × Nat)} {v : Value} {rt : FieldType} {KD : Nat → List Value → St → (Option Value → St → Prop) → Prop} {KR : Option Value → St → Prop} (hgo : ∀ pc ls st σ, go pc ls st σ → AtA l G d g pc ls st σ post) (hd : decode g.2.1 pc = .ok (.bastore, 1)) (hn : nx = pc + 1)  (h : instP KD KR rt go (.bastore) nx a b ts v ls st σ) : AtA l G d g pc ls st σ post := by
  subst hn
  simp only [instP] at h
  split at h
  · rename_i x i q r
    obtain ⟨h0, hz, h⟩ := h
    obtain ⟨hq, hw⟩ := wc_bool (G := G) (σ := σ) (q := q) rfl (in_pos h0)
    intro p e s m args below meth c H locs lsA F hP hS hL
    refine va_zast F.1 F.2.1 F.2.2.2.2.2.2.2.1 hP (wc_D F.2.2.2.2.2.2.2.2.1 σ) hS q 1 (by rw [wc_at hq, hw]) rfl h0 hd (fun H1 locs1 hP1 hD1 hS1 => ?_)
    rw [hz, wc_put_bool rfl (in_pos h0)] at hP1
    exact hgo _ _ _ _ h p e s m args below meth c H1 locs1 lsA F hP1 hS1 hL
  · exact h.elim
theorem is_aaload {nx a b : Nat} {ts : List (Int32 × Nat)} {v : Value} {rt : FieldType} {KD : Nat → List Value → St → (Option Value → St → Prop) → Prop} {KR : Option Value → St → Prop} (hgo : ∀ pc ls st σ, go pc ls st σ → AtA l G d g pc ls st σ post) (hd : decode g.2.1 pc = .ok (.aaload, 1)) (hn : nx = pc + 1)  (h : instP KD KR rt go (.aaload) nx a b ts v ls st σ) : AtA l G d g pc ls st σ post := by
  subst hn
  simp only [instP] at h
  split at h
  · rename_i i q r
    split at h
    · rename_i n fl hl
      obtain ⟨hin, h⟩ := h
      have hq : q < 68 := lay_lt (by rw [hl]; show (3 : Nat) ≠ 9; decide)
      have hw : wcell G σ q = .inl (G.2.2.2.2, n, .inr (.inr (.inr (.inr (fun j => if j < n then some (G.2.1 (fl.headD 0 + j)) else none))))) := by
        unfold wcell
        rw [hl]
        rfl
      intro p e s m args below meth c H locs lsA F hP hS hL
      have hlt : i.toNatClampNeg < n := Nat.not_le.mp fun q => hin (Or.inr q)
      have hcell := hP q _ (by rw [wc_at hq, hw])
      refine W.aald (v := .ref (G.2.1 (fl.headD 0 + i.toNatClampNeg))) (ty := .array .int) F.1 F.2.1 hcell ((F.2.2.2.2.2.2.2.1.2 2 _ rfl).1 n (fun j => va_rf (if j < n then some (G.2.1 (fl.headD 0 + j)) else none))) rfl (fun q => by cases q) (by show ¬ (i < 0 ∨ (arrV _ _ _).slots.size ≤ _); rw [arrV_size]; exact hin) (by show (arrV _ _ _).slots[_]? = _; rw [arrV_read _ _ hlt]; simp only [if_pos hlt]; rfl) rfl rfl hd ?_
      exact hgo _ _ _ _ h p e s m args below meth c H locs lsA F hP hS hL
    · exact h.elim
  · exact h.elim
theorem is_arraylength {nx a b : Nat} {ts : List (Int32 × Nat)} {v : Value} {rt : FieldType} {KD : Nat → List Value → St → (Option Value → St → Prop) → Prop} {KR : Option Value → St → Prop} (hgo : ∀ pc ls st σ, go pc ls st σ → AtA l G d g pc ls st σ post) (hd : decode g.2.1 pc = .ok (.arraylength, 1)) (hn : nx = pc + 1)  (h : instP KD KR rt go (.arraylength) nx a b ts v ls st σ) : AtA l G d g pc ls st σ post := by
  subst hn
  simp only [instP] at h
  split at h
  · rename_i q r
    obtain ⟨h0, h⟩ := h
    intro p e s m args below meth c H locs lsA F hP hS hL
    rcases isArr_of q h0 with ⟨j, hj, rfl⟩ | ⟨h1, h3, h4⟩
    · obtain ⟨s1, s2, s3, s4⟩ := F.2.2.2.2.2.2.2.2.2.1.1 j hj
      have e1 : tlen (200 + j) = slen.getD j 0 := by
        unfold tlen
        rw [if_pos (by omega), Nat.add_sub_cancel_left]
      rw [e1] at h
      refine va_tlen F.1 F.2.1 s4 hS rfl hd ?_
      exact hgo _ _ _ _ h p e s m args below meth c H locs lsA F hP hS hL
    · have e1 : tlen q = (lay q).2.1 := by
        unfold tlen
        rw [if_neg h4]
      obtain ⟨n, fl, hl⟩ : ∃ n fl, lay q = (1, n, fl) := ⟨(lay q).2.1, (lay q).2.2, by rw [← h3]⟩
      have hw : wcell G σ q = .inl (G.2.2.1, n, .inl (σ.1 q)) := by
        unfold wcell
        rw [hl]
        rfl
      rw [e1, hl] at h
      refine va_alen F.1 F.2.1 F.2.2.2.2.2.2.2.1 hP q 0 (by rw [wc_at h1, hw]) rfl rfl hd ?_
      exact hgo _ _ _ _ h p e s m args below meth c H locs lsA F hP hS hL
  · exact h.elim
end IS2
