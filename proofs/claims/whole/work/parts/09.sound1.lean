/-! the world over the heap, the two judgements, and that the walk is sound -/
abbrev Geo : Type := va_G × (Nat → Nat) × ClassId × ClassId × ClassId
def vmp (G : Geo) : Value → Value
  | .ref q => .ref (G.2.1 q)
  | .int x => .int x
  | .long x => .long x
  | .float x => .float x
  | .double x => .double x
  | .null => .null
  | .retAddr _ => if G.2.1 301 = 0 then .ref (G.2.1 300) else .null
def fval (G : Geo) (σ : St) (q k kind : Nat) : Value := match kind with
  | 0 => .int (σ.1 q k)
  | 1 => .long σ.2
  | r + 2 => .ref (G.2.1 r)
def wcell (G : Geo) (σ : St) (q : Nat) : va_E := match lay q with
  | (0, c, fl) => .inr (c, fl.mapIdx (fun k kind => fval G σ q k kind))
  | (1, n, _) => .inl (G.2.2.1, n, .inl (σ.1 q))
  | (2, n, _) => .inl (G.2.2.2.1, n, .inl (σ.1 q))
  | (_, n, fl) => .inl (G.2.2.2.2, n, .inr (.inr (.inr (.inr (fun j => if j < n then some (G.2.1 (fl.headD 0 + j)) else none)))))
def wcells (G : Geo) (σ : St) : va_W := (List.range 68).map (fun q => (G.2.1 q, wcell G σ q))
def wtys (G : Geo) : List (ClassId × FieldType) := [(G.2.2.1, .int), (G.2.2.2.1, .boolean), (G.2.2.2.2, .array .int)]
def inW (G : Geo) : Nat → Prop := fun a => ∃ q, q < 68 ∧ a = G.2.1 q
def dst (G : Geo) : Prop := ∀ i j, i < 68 → j < 68 → G.2.1 i = G.2.1 j → i = j
def strs (G : Geo) (U : State) (H : Heap) : Prop := vk_S 9 slen sbyt (fun i => G.2.1 (100 + i)) (fun i => G.2.1 (200 + i)) (inW G) U H ∧ (∀ i, i < 9 → vk_R RX3 (sIdx.getD i 0) (sTxt.getD i "") (G.2.1 (100 + i)) U) ∧ va_Z "java/lang/String" "COMPACT_STRINGS" "Z" (.int 1) (inW G) U H ∧ va_Z "jdk/internal/util/Preconditions" "SIOOBE_FORMATTER" "Ljava/util/function/BiFunction;" (vmp G (.retAddr 300)) (inW G) U H
def gtbl : List Cond := lw_tbl.filter goodWord
def rmD (d : Nat) : Room := { frames := d, cells := 0, slots := 0, locals := 64 * d }
def lhas (G : Geo) (lsA : Array Slot) (nL : Nat) (ls : List Value) : Prop := lsA.size = nL ∧ lv_wf lsA ∧ ls.length ≤ nL ∧ ∀ (i : Nat) (v : Value), ls[i]? = some v → v ≠ .null → lsA[i]? = some (.val (vmp G v))
def QD (G : Geo) (post : Option Value → St → Prop) : Array Value → State → Outcome → State → Prop := fun _ st oc t => (∃ (r : Option Value) (σ' : St), oc = .returned (r.map (vmp G)) ∧ post r σ' ∧ va_P G.1 cls (wcells G σ') t.heap) ∧ va_F (inW G) st t
def FxA (G : Geo) (g : Sig) (p : Program) (s : State) (m : MethodId) (args : Array Value) (meth : Method) (c : Code) : Prop :=
  p.tables.exec = Jvm.exec ∧ c.code = g.2.1 ∧ c.maxLocals = g.2.2.1 ∧ s.vm.findClass g.1.cls = some m.cls ∧ (∀ w ∈ gtbl, w.before args s = true) ∧ meth.sig.returnType = g.2.2.2 ∧ meth.locks = false ∧ va_K G.1 cls (wtys G) s ∧ dst G ∧ strs G s s.heap
def AtA (l : Launch) (G : Geo) (d : Nat) (g : Sig) (pc : Nat) (ls st : List Value) (σ : St) (post : Option Value → St → Prop) : Prop :=
  ∀ (p : Program) (e : Env) (s : State) (m : MethodId) (args : Array Value) (below : List Frame) (meth : Method) (c : Code) (H : Heap) (locs : List Loc) (lsA : Array Slot), FxA G g p s m args meth c → va_P G.1 cls (wcells G σ) H → va_S (inW G) s.heap H locs → lhas G lsA g.2.2.1 ls → W p l e (rmD d) s m args below meth c H locs 0 0 (MQ below (QD G post) args s 0 0 (inW G)) (F0 m pc lsA (st.map (vmp G)))
def WdA (G : Geo) (σ : St) (U : State) : Prop := va_P G.1 cls (wcells G σ) U.heap ∧ va_K G.1 cls (wtys G) U ∧ dst G ∧ strs G U U.heap
def DoesQ (l : Launch) (G : Geo) (d k : Nat) (av : List Value) (σ : St) (post : Option Value → St → Prop) : Prop :=
  ∀ g : Sig, sigs[k]? = some g → Met l g.1 (Cond.code g.1 g.2.1 g.2.2.1 g.2.2.2 :: gtbl) (rmD d) (va_Pc (av.map (vmp G)) (WdA G σ)) (QD G post) 0 0 (inW G)
abbrev DoesI (l : Launch) (G : Geo) (d k : Nat) (av : List Value) (σ : St) (Q : Int32 → St → Prop) : Prop := DoesQ l G d k av σ (pI Q)
abbrev DoesV (l : Launch) (G : Geo) (d k : Nat) (av : List Value) (σ : St) (Q : St → Prop) : Prop := DoesQ l G d k av σ (pV Q)
abbrev DoesR (l : Launch) (G : Geo) (d k : Nat) (av : List Value) (σ : St) (Q : Nat → St → Prop) : Prop := DoesQ l G d k av σ (pR Q)
/-! ===== cells ===== -/
theorem wc_at {G : Geo} {σ : St} {q : Nat} (h : q < 68) : (wcells G σ)[q]? = some (G.2.1 q, wcell G σ q) := by
  simp [wcells, h]
theorem wc_of {G : Geo} {σ : St} {k : Nat} {x : Nat × va_E} (h : (wcells G σ)[k]? = some x) : k < 68 ∧ x = (G.2.1 k, wcell G σ k) := by
  have hk : k < 68 := by
    have := (List.getElem?_eq_some_iff.mp h).1
    simpa [wcells] using this
  rw [wc_at hk] at h
  exact ⟨hk, (Option.some.inj h).symm⟩
theorem wc_D {G : Geo} (h : dst G) (σ : St) : va_D (inW G) (wcells G σ) := by
  refine ⟨fun i j x y hi hj hxy => ?_, fun k x hk => ?_⟩
  · obtain ⟨h1, rfl⟩ := wc_of hi
    obtain ⟨h2, rfl⟩ := wc_of hj
    exact h i j h1 h2 hxy
  · obtain ⟨h1, rfl⟩ := wc_of hk
    exact ⟨k, h1, rfl⟩
theorem wc_set {G : Geo} {σ σ' : St} {q : Nat} {E : va_E} (hE : wcell G σ' q = E) (ho : ∀ q', q' ≠ q → wcell G σ' q' = wcell G σ q') : (wcells G σ).set q (G.2.1 q, E) = wcells G σ' := by
  apply List.ext_getElem?
  intro k
  by_cases hk : k < 68
  · rw [wc_at hk]
    by_cases hkq : k = q
    · subst hkq
      rw [List.getElem?_set_self (by simpa [wcells] using hk), hE]
    · rw [List.getElem?_set_ne (fun z => hkq z.symm), wc_at hk, ho k hkq]
  · rw [List.getElem?_eq_none (by simp [wcells]; omega), List.getElem?_eq_none (by simp [wcells]; omega)]
theorem wc_put_ne {G : Geo} {σ : St} {q k : Nat} {v : Int32} (q' : Nat) (h : q' ≠ q) : wcell G (sput σ q k v) q' = wcell G σ q' := by
  have h1 : (sput σ q k v).1 q' = σ.1 q' := by
    funext j
    simp [sput, h]
  have h2 : ∀ j kd : Nat, fval G (sput σ q k v) q' j kd = fval G σ q' j kd := by
    intro j kd
    match kd with
    | 0 => show Value.int ((sput σ q k v).1 q' j) = _; rw [h1]; rfl
    | 1 => rfl
    | r + 2 => rfl
  unfold wcell
  split
  · simp only [h2]
  · rw [h1]
  · rw [h1]
  · rfl
theorem lay_lt {q : Nat} (h : (lay q).1 ≠ 9) : q < 68 := by
  rcases Nat.lt_or_ge q 68 with h1 | h1
  · exact h1
  · exact absurd (by unfold lay; rw [List.getD_eq_getElem?_getD, List.getElem?_eq_none (by exact h1)]; rfl) h
theorem wc_obj {G : Geo} {σ : St} {q c : Nat} {fl : List Nat} (h : lay q = (0, c, fl)) : wcell G σ q = .inr (c, fl.mapIdx (fun k kind => fval G σ q k kind)) := by
  unfold wcell
  rw [h]
  rfl
theorem wc_int {G : Geo} {σ : St} {q n : Nat} (h : alen q = n) (hn : 0 < n) : q < 68 ∧ wcell G σ q = .inl (G.2.2.1, n, .inl (σ.1 q)) := by
  unfold alen at h
  split at h
  · rename_i m x hl
    subst h
    refine ⟨lay_lt (by rw [hl]; show (1 : Nat) ≠ 9; decide), ?_⟩
    unfold wcell
    rw [hl]
    rfl
  · omega
theorem wc_bool {G : Geo} {σ : St} {q n : Nat} (h : zlen q = n) (hn : 0 < n) : q < 68 ∧ wcell G σ q = .inl (G.2.2.2.1, n, .inl (σ.1 q)) := by
  unfold zlen at h
  split at h
  · rename_i m x hl
    subst h
    refine ⟨lay_lt (by rw [hl]; show (2 : Nat) ≠ 9; decide), ?_⟩
    unfold wcell
    rw [hl]
    rfl
  · omega
theorem in_pos {i : Int32} {n : Nat} (h : vp_in i n) : 0 < n := by
  rcases Nat.eq_zero_or_pos n with h1 | h1
  · exact absurd (Or.inr (by omega)) h
  · exact h1
theorem upd_put (σ : St) (q k : Nat) (v : Int32) : upd (σ.1 q) k v = (sput σ q k v).1 q := by
  funext j
  simp only [upd, sput]
  by_cases h : j = k <;> simp [h]
theorem wc_put_int {G : Geo} {σ : St} {q k n : Nat} {v : Int32} (h : alen q = n) (hn : 0 < n) : (wcells G σ).set q (G.2.1 q, .inl (G.2.2.1, n, .inl (upd (σ.1 q) k v))) = wcells G (sput σ q k v) := by
  refine wc_set ?_ (fun q' hq => wc_put_ne q' hq)
  rw [(wc_int (σ := sput σ q k v) h hn).2, upd_put]
theorem wc_put_bool {G : Geo} {σ : St} {q k n : Nat} {v : Int32} (h : zlen q = n) (hn : 0 < n) : (wcells G σ).set q (G.2.1 q, .inl (G.2.2.2.1, n, .inl (upd (σ.1 q) k v))) = wcells G (sput σ q k v) := by
  refine wc_set ?_ (fun q' hq => wc_put_ne q' hq)
  rw [(wc_bool (σ := sput σ q k v) h hn).2, upd_put]
theorem wc_cpy {G : Geo} {σ : St} {sq sp dq dp n m : Nat} (h : alen dq = m) (hm : 0 < m) : (wcells G σ).set dq (G.2.1 dq, .inl (G.2.2.1, m, .inl (va_cpy (σ.1 sq) (σ.1 dq) sp dp n))) = wcells G (scpy σ sq sp dq dp n) := by
  refine wc_set ?_ (fun q' hq => ?_)
  · rw [(wc_int (σ := scpy σ sq sp dq dp n) h hm).2]
    congr 3
    congr 1
    funext j
    simp [scpy, va_cpy]
  · have h1 : (scpy σ sq sp dq dp n).1 q' = σ.1 q' := by
      funext j
      simp [scpy, hq]
    have h2 : ∀ j kd : Nat, fval G (scpy σ sq sp dq dp n) q' j kd = fval G σ q' j kd := by
      intro j kd
      match kd with
      | 0 => show Value.int ((scpy σ sq sp dq dp n).1 q' j) = _; rw [h1]; rfl
      | 1 => rfl
      | r + 2 => rfl
    unfold wcell
    split
    · simp only [h2]
    · rw [h1]
    · rw [h1]
    · rfl
theorem fk_of {q ci k kd : Nat} (h : fkind q ci k = some kd) : ∃ fl : List Nat, lay q = (0, ci, fl) ∧ fl[k]? = some kd ∧ q < 68 := by
  unfold fkind at h
  split at h
  · rename_i c fl hl
    by_cases hc : c = ci
    · subst hc
      simp at h
      exact ⟨fl, hl, h, lay_lt (by rw [hl]; show (0 : Nat) ≠ 9; decide)⟩
    · have : (c == ci) = false := by simpa using hc
      rw [this] at h
      exact absurd h (by simp)
  · exact absurd h (by simp)
theorem wc_put_fld {G : Geo} {σ : St} {q c k : Nat} {fl : List Nat} {v : Int32} (h : lay q = (0, c, fl)) (hk : fl[k]? = some 0) : (wcells G σ).set q (G.2.1 q, .inr (c, (fl.mapIdx (fun k kind => fval G σ q k kind)).set k (.int v))) = wcells G (sput σ q k v) := by
  refine wc_set ?_ (fun q' hq => wc_put_ne q' hq)
  rw [wc_obj h]
  congr 2
  apply List.ext_getElem?
  intro j
  by_cases hj : j = k
  · subst hj
    have hl : j < fl.length := (List.getElem?_eq_some_iff.mp hk).1
    rw [List.getElem?_set_self (by simpa using hl), List.getElem?_mapIdx, hk]
    simp [fval, sput]
  · rw [List.getElem?_set_ne (fun z => hj z.symm), List.getElem?_mapIdx, List.getElem?_mapIdx]
    cases hf : fl[j]? with
    | none => rfl
    | some kd =>
      simp only [Option.map_some, Option.some.injEq]
      match kd with
      | 0 => simp [fval, sput, hj]
      | 1 => rfl
      | r + 2 => rfl
def lngOK : Bool := (List.range 68).all (fun q => match lay q with
  | (0, _, fl) => (List.range fl.length).all (fun k => match fl[k]? with
    | some 1 => q == 51 && k == 13
    | _ => true)
  | _ => true)
theorem lngOK_t : lngOK = true := by decide +kernel
theorem lng_ok {q c k : Nat} {fl : List Nat} (h : lay q = (0, c, fl)) (hk : fl[k]? = some 1) : q = 51 ∧ k = 13 := by
  have h1 := List.all_eq_true.mp lngOK_t q (List.mem_range.mpr (lay_lt (by rw [h]; show (0 : Nat) ≠ 9; decide)))
  simp only [h] at h1
  have h2 := List.all_eq_true.mp h1 k (List.mem_range.mpr (List.getElem?_eq_some_iff.mp hk).1)
  simp only [hk] at h2
  simpa using h2
theorem wc_put_lng {G : Geo} {σ : St} {q c k : Nat} {fl : List Nat} {x : Int64} (h : lay q = (0, c, fl)) (hk : fl[k]? = some 1) : (wcells G σ).set q (G.2.1 q, .inr (c, (fl.mapIdx (fun k kind => fval G σ q k kind)).set k (.long x))) = wcells G (σ.1, x) := by
  obtain ⟨e1, e2⟩ := lng_ok h hk
  refine wc_set ?_ (fun q' hq => ?_)
  · rw [wc_obj h]
    congr 2
    apply List.ext_getElem?
    intro j
    by_cases hj : j = k
    · subst hj
      have hl : j < fl.length := (List.getElem?_eq_some_iff.mp hk).1
      rw [List.getElem?_set_self (by simpa using hl), List.getElem?_mapIdx, hk]
      rfl
    · rw [List.getElem?_set_ne (fun z => hj z.symm), List.getElem?_mapIdx, List.getElem?_mapIdx]
      cases hf : fl[j]? with
      | none => rfl
      | some kd =>
        simp only [Option.map_some, Option.some.injEq]
        match kd, hf with
        | 0, _ => rfl
        | 1, hf => exact absurd ((lng_ok h hf).2.trans e2.symm) hj
        | r + 2, _ => rfl
  · unfold wcell
    split
    · rename_i c' fl' hl
      congr 2
      apply List.ext_getElem?
      intro j
      rw [List.getElem?_mapIdx, List.getElem?_mapIdx]
      cases hf : fl'[j]? with
      | none => rfl
      | some kd =>
        simp only [Option.map_some, Option.some.injEq]
        match kd, hf with
        | 0, _ => rfl
        | 1, hf => exact absurd ((lng_ok hl hf).1.trans e1.symm) hq
        | r + 2, _ => rfl
    · rfl
    · rfl
    · rfl
