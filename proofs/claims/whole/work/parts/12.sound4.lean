/-! calls, ends, and the walk -/
theorem strs_go {G : Geo} {s U : State} {H : Heap} {locs : List Loc} (hW : s.WarmedH U.vm) (hU : U.heap = H) (hS : va_S (inW G) s.heap H locs) (h : strs G s s.heap) : strs G U U.heap := by
  obtain ⟨h1, h2, h3, h4⟩ := h
  rw [hU]
  exact ⟨(h1.moved hW.alike).kept hS.2.1, fun i hi => (h2 i hi).warm hW, (h3.moved hW.alike).kept hS.2.1, (h4.moved hW.alike).kept hS.2.1⟩
theorem blind {G : Geo} {av : List Value} {σ : St} : FrameBlind (va_Pc av (WdA G σ)) := by
  intro a U g mk q
  obtain ⟨q0, qP, qK, qd, h1, h2, h3, h4⟩ := q
  exact ⟨q0, qP, va_K.moved (u := U) (U := U.calling g mk a) (Vm.Alike.refl U.vm) qK, qd, h1.moved (u := U) (U := U.calling g mk a) (Vm.Alike.refl U.vm), fun i hi => (h2 i hi).same rfl, h3.moved (u := U) (U := U.calling g mk a) (Vm.Alike.refl U.vm), h4.moved (u := U) (U := U.calling g mk a) (Vm.Alike.refl U.vm)⟩
theorem gt_good {g : Sig} {ws : List Cond} (hc : Cond.code g.1 g.2.1 g.2.2.1 g.2.2.2 ∈ gtbl) (hw : ∀ w ∈ ws, w ∈ gtbl) : GoodIn gtbl (ws ++ (Cond.code g.1 g.2.1 g.2.2.1 g.2.2.2 :: gtbl)) := by
  have key : ∀ w ∈ gtbl, w ∈ gtbl ∧ ((w.onTables && w.keeps) = true ∨ ∃ ty, w = .arrayClass ty) := fun w h => ⟨h, good_of_word (List.mem_filter.mp h).2⟩
  intro w h
  rcases List.mem_append.mp h with h | h
  · exact key w (hw w h)
  · rcases List.mem_cons.mp h with h | h
    · subst h; exact key _ hc
    · exact key w h
section IC
variable {p : Program} {l : Launch} {e : Env} {R : Room} {s : State} {m : MethodId} {args : Array Value} {below : List Frame} {meth : Method} {c : Code} {H : Heap} {locs : List Loc} {cells slots : Nat} {Q : State → Prop}
theorem va_callQ {G : Geo} {post' : Option Value → St → Prop} {av : Array Value} {pc : Nat} {lsA : Array Slot} {st0 rest : List Value} {H0 : Heap} (hr : va_Run p l e R s m args below meth c H locs cells slots 0 0 (F0 m pc lsA st0) rest (QD G post' av) (inW G)) (hS : va_S (inW G) H0 H locs)
    (kk : ∀ (r : Option Value) (σ' : St) (H1 : Heap) (locs1 : List Loc), post' r σ' → va_P G.1 cls (wcells G σ') H1 → va_S (inW G) H0 H1 locs1 → W p l e R s m args below meth c H1 locs1 cells slots Q (F0 m (pc + 3) lsA ((r.map (vmp G)).toList ++ rest))) : W p l e R s m args below meth c H locs cells slots Q (F0 m pc lsA st0) := by
  intro T hT X
  obtain ⟨v, st₀, t, T', L, h0, X', hL, e1, e2, ⟨⟨r, σ', hv, hp, hb⟩, hz, hk⟩, st⟩ := hr T hT X
  cases hv
  rw [h0] at hz hk
  obtain ⟨t2, a1, b1⟩ := kk r σ' T'.heap (locs ++ L) hp (by rw [e1]; exact hb)
    ⟨Nat.le_trans hS.1 (by rw [e1]; exact hz), fun q h1 h2 => by rw [e1, hk q (Nat.lt_of_lt_of_le h1 hS.1) h2]; exact hS.2.1 q h1 h2, fun q hq => by
      rcases List.mem_append.mp hq with h | h
      · exact hS.2.2 q h
      · exact hL q h⟩ T' rfl X'
  exact ⟨t2, st t2 a1, b1⟩
end IC
section IS3
variable {l : Launch} {G : Geo} {d : Nat} {g : Sig} {post : Option Value → St → Prop} {go : Nat → List Value → List Value → St → Prop} {pc : Nat} {ls st : List Value} {σ : St}
/-- what a call gives back, and the walk goes on -/
theorem is_callP {a nx : Nat} {v : Value} {av rest : List Value} (h : callP (DoesQ l G d) (fun st' σ' => go nx ls st' σ') a v av rest σ) : ∃ post', DoesQ l G d a av σ post' ∧ okroom rest = true ∧ ∀ r σ', post' r σ' → ∃ st', (r.map (vmp G)).toList ++ rest.map (vmp G) = st'.map (vmp G) ∧ go nx ls st' σ' := by
  obtain ⟨h0, h⟩ := cond_t h
  split at h
  · refine ⟨_, h, h0, fun r σ' hp => ?_⟩
    unfold pI at hp
    split at hp
    · rename_i x
      exact ⟨_, rfl, hp⟩
    · exact hp.elim
  · refine ⟨_, h, h0, fun r σ' hp => ?_⟩
    unfold pV at hp
    split at hp
    · exact ⟨_, rfl, hp⟩
    · exact hp.elim
  · refine ⟨_, h, h0, fun r σ' hp => ?_⟩
    unfold pR at hp
    split at hp
    · rename_i x
      exact ⟨_, rfl, hp⟩
    · exact hp.elim
  · exact h.elim
theorem mp_take {b : Nat} (st : List Value) : ((st.take b).reverse.map (vmp G)).reverse = (st.map (vmp G)).take b := by
  rw [List.map_reverse, List.reverse_reverse, List.map_take]
theorem is_invokevirtual {nx a b idx : Nat} {ts : List (Int32 × Nat)} {v : Value} {rt : FieldType} {KR : Option Value → St → Prop} {g' : Sig} (hgo : ∀ pc ls st σ, go pc ls st σ → AtA l G (d + 1) g pc ls st σ post) (hd : decode g.2.1 pc = .ok (.invokevirtual idx, 3)) (hn : nx = pc + 3) (hg' : sigs[a]? = some g') (hs' : okS g' 0)
    (w1 : Cond.methodLink g.1.cls idx g'.1 ∈ gtbl) (w2 : Cond.instanceMethod g'.1 ∈ gtbl) (w3 : Cond.selects g'.1.cls g'.1 g'.1 ∈ gtbl) (w4 : Cond.initialized g'.1.cls ∈ gtbl) (hcn : g'.1.cls = clsName (ts.headD (0, 99)).2) (hnum : (parseMethodDescriptor g'.1.desc).map (fun d => d.parameters.length) = some b)
    (h : instP (DoesQ l G d) KR rt go (.invokevirtual idx) nx a b ts v ls st σ) : AtA l G (d + 1) g pc ls st σ post := by
  subst hn
  simp only [instP] at h
  split at h
  · rename_i q r hdrop
    have key : ∀ (hcall : callP (DoesQ l G d) (fun st' σ' => go (pc + 3) ls st' σ') a v (.ref q :: (st.take b).reverse) r σ) (hrec : ∀ (s : State) (H : Heap) (locs : List Loc), va_K G.1 cls (wtys G) s → strs G s s.heap → va_P G.1 cls (wcells G σ) H → va_S (inW G) s.heap H locs → ∃ cell : Cell, H[G.2.1 q]? = some cell ∧ cell.vm.isStatics = false ∧ s.vm.findClass g'.1.cls = some cell.cls), AtA l G (d + 1) g pc ls st σ post := by
      intro hcall hrec
      obtain ⟨post', hD, h0, hback⟩ := is_callP hcall
      intro p e s m args below meth c H locs lsA F hP hS hL
      have hlen : b < st.length := by
        rcases Nat.lt_or_ge b st.length with h9 | h9
        · exact h9
        · rw [List.drop_eq_nil_of_le h9] at hdrop
          cases hdrop
      have hst : st.map (vmp G) = ((st.take b).reverse.map (vmp G)).reverse ++ (.ref (G.2.1 q) :: r.map (vmp G)) := by
        rw [mp_take, ← List.map_take]
        conv => lhs; rw [← List.take_append_drop b st]
        rw [List.map_append, hdrop]
        rfl
      refine va_callQ (va_runV (C := g'.1.cls) (b := G.2.1 q) (As := (st.take b).reverse.map (vmp G)) (rest := r.map (vmp G)) (n := b) ⟨F.1, F.2.1, F.2.2.1, F.2.2.2.1, F.2.2.2.2.1⟩ (hD g' hg') (cwV b F.2.2.2.2.1 (gt_good hs'.1 (by
          intro w hw
          simp only [List.mem_cons, List.not_mem_nil, or_false] at hw
          rcases hw with rfl | rfl | rfl | rfl <;> assumption)) rfl rfl rfl ⟨rfl, hs'.2.2.1, hs'.2.2.2.1, hnum⟩ ⟨Nat.le_refl _, by show 8 + (g'.2.2.1 + 11) + 64 * d ≤ 64 * (d + 1); have := hs'.2.2.2.2; omega⟩) ⟨blind, hrec s H locs F.2.2.2.2.2.2.2.1 F.2.2.2.2.2.2.2.2.2 hP hS, fun U hU hW => ⟨rfl, by rw [hU]; exact hP, va_K.moved hW.alike F.2.2.2.2.2.2.2.1, F.2.2.2.2.2.2.2.2.1, strs_go hW hU hS F.2.2.2.2.2.2.2.2.2⟩⟩ rfl (by rw [List.length_map, List.length_reverse, List.length_take]; omega) hL.1 hst (lv_room (sm_room h0)) hd ⟨Nat.le_refl _, Nat.le_refl _⟩) hS (fun r1 σ1 H1 locs1 hp hP1 hS1 => ?_)
      obtain ⟨st', e1, h⟩ := hback r1 σ1 hp
      rw [e1]
      exact hgo _ _ _ _ h p e s m args below meth c H1 locs1 lsA F hP1 hS1 hL
    unfold rcv at h
    by_cases h20 : (ts.headD (0, 99)).2 = 20
    · rw [h20] at h hcn
      obtain ⟨⟨h1, h2⟩, h⟩ : (100 ≤ q ∧ q < 109) ∧ _ := h
      obtain ⟨i, hi, rfl⟩ : ∃ i : Nat, i < 9 ∧ q = 100 + i := nm_off 100 9 q h1 h2
      refine key h (fun s H locs hK hst hP hS => ?_)
      rw [hcn]
      exact vk_recv (adK := fun i => G.2.1 (100 + i)) hst.1 hi hS
    · have h3 : ((ts.headD (0, 99)).2 == 20) = false := by simpa using h20
      rw [h3] at h
      obtain ⟨h4, h⟩ := cond_t h
      refine key h (fun s H locs hK hst hP hS => ?_)
      unfold isObj at h4
      split at h4
      · rename_i cn fl hl
        rw [Bool.and_eq_true] at h4
        have e1 : cn = (ts.headD (0, 99)).2 := by simpa using h4.1
        subst e1
        have h12 : (ts.headD (0, 99)).2 < 12 := by simpa using h4.2
        have hq : q < 68 := lay_lt (by rw [hl]; show (0 : Nat) ≠ 9; decide)
        have hlt : (ts.headD (0, 99)).2 < cls.length := h12
        have hc : cls[(ts.headD (0, 99)).2]? = some (cls[(ts.headD (0, 99)).2]) := List.getElem?_eq_getElem hlt
        have hnm : g'.1.cls = (cls[(ts.headD (0, 99)).2]).1 := by
          rw [hcn]
          unfold clsName
          rw [hc]
        rw [hnm]
        exact va_recv hK hP hc (by rw [wc_at hq, wc_obj hl])
      · cases h4
  · exact h.elim
theorem is_invokestatic {nx a b idx : Nat} {ts : List (Int32 × Nat)} {v : Value} {rt : FieldType} {KR : Option Value → St → Prop} {g' : Sig} (hgo : ∀ pc ls st σ, go pc ls st σ → AtA l G (d + 1) g pc ls st σ post) (hd : decode g.2.1 pc = .ok (.invokestatic idx, 3)) (hn : nx = pc + 3) (ha : a ≠ 999) (ha8 : a ≠ 998) (ha7 : a ≠ 997) (hg' : sigs[a]? = some g') (hs' : okS g' 0)
    (w1 : Cond.methodLink g.1.cls idx g'.1 ∈ gtbl) (w2 : Cond.static g'.1 ∈ gtbl) (w4 : Cond.initialized g'.1.cls ∈ gtbl) (hnum : (parseMethodDescriptor g'.1.desc).map (fun d => d.parameters.length) = some b)
    (h : instP (DoesQ l G d) KR rt go (.invokestatic idx) nx a b ts v ls st σ) : AtA l G (d + 1) g pc ls st σ post := by
  subst hn
  simp only [instP] at h
  have h3 : (a == 999) = false := by simpa using ha
  have h8 : (a == 998) = false := by simpa using ha8
  have h7 : (a == 997) = false := by simpa using ha7
  rw [h3, h8, h7] at h
  obtain ⟨hle, hcall⟩ := cond_t h
  have hle : b ≤ st.length := Nat.le_of_ble_eq_true hle
  obtain ⟨post', hD, h0, hback⟩ := is_callP hcall
  intro p e s m args below meth c H locs lsA F hP hS hL
  have hst : st.map (vmp G) = ((st.take b).reverse.map (vmp G)).reverse ++ (st.drop b).map (vmp G) := by
    rw [mp_take, ← List.map_take, ← List.map_append, List.take_append_drop]
  refine va_callQ (va_runS (As := (st.take b).reverse.map (vmp G)) (rest := (st.drop b).map (vmp G)) (n := b) ⟨F.1, F.2.1, F.2.2.1, F.2.2.2.1, F.2.2.2.2.1⟩ (hD g' hg') (va_cwS b F.2.2.2.2.1 (gt_good hs'.1 (by
          intro w hw
          simp only [List.mem_cons, List.not_mem_nil, or_false] at hw
          rcases hw with rfl | rfl | rfl <;> assumption)) rfl rfl rfl ⟨hs'.2.2.1, hs'.2.2.2.1, hnum⟩ ⟨Nat.le_refl _, by show 8 + (g'.2.2.1 + 11) + 64 * d ≤ 64 * (d + 1); have := hs'.2.2.2.2; omega⟩) ⟨blind, fun U hU hW => ⟨rfl, by rw [hU]; exact hP, va_K.moved hW.alike F.2.2.2.2.2.2.2.1, F.2.2.2.2.2.2.2.2.1, strs_go hW hU hS F.2.2.2.2.2.2.2.2.2⟩⟩ rfl (by rw [List.length_map, List.length_reverse, List.length_take]; omega) hL.1 hst (lv_room (sm_room h0)) hd ⟨Nat.le_refl _, Nat.le_refl _⟩) hS (fun r1 σ1 H1 locs1 hp hP1 hS1 => ?_)
  obtain ⟨st', e1, h⟩ := hback r1 σ1 hp
  rw [e1]
  exact hgo _ _ _ _ h p e s m args below meth c H1 locs1 lsA F hP1 hS1 hL
theorem is_arraycopy {nx a b idx : Nat} {ts : List (Int32 × Nat)} {v : Value} {rt : FieldType} {KD : Nat → List Value → St → (Option Value → St → Prop) → Prop} {KR : Option Value → St → Prop} (hgo : ∀ pc ls st σ, go pc ls st σ → AtA l G (d + 1) g pc ls st σ post) (hd : decode g.2.1 pc = .ok (.invokestatic idx, 3)) (hn : nx = pc + 3) (ha : a = 999)
    (w1 : Cond.methodLink g.1.cls idx arraycopyName ∈ gtbl) (w2 : Cond.native arraycopyName ∈ gtbl) (w3 : Cond.static arraycopyName ∈ gtbl) (w4 : Cond.initialized "java/lang/System" ∈ gtbl)
    (h : instP KD KR rt go (.invokestatic idx) nx a b ts v ls st σ) : AtA l G (d + 1) g pc ls st σ post := by
  subst hn
  subst ha
  simp only [instP, beq_self_eq_true, cond_true] at h
  split at h
  · rename_i n dp dq sp sq r
    obtain ⟨⟨p1, p2, h1, h2, h3, h4, h5⟩, h⟩ := h
    obtain ⟨h0, h⟩ := cond_t h
    obtain ⟨hq, hw⟩ := wc_int (G := G) (σ := σ) (q := sq) rfl p1
    obtain ⟨hq', hw'⟩ := wc_int (G := G) (σ := σ) (q := dq) rfl p2
    intro p e s m args below meth c H locs lsA F hP hS hL
    refine va_copyi (ty := .int) F.1 F.2.1 (F.2.2.1.trans hL.1.symm) F.2.2.2.1 (F.2.2.2.2.1 _ w1) (F.2.2.2.2.1 _ w2) (F.2.2.2.2.1 _ w3) (F.2.2.2.2.1 _ w4) F.2.2.2.2.2.2.2.1 hP (wc_D F.2.2.2.2.2.2.2.2.1 σ) hS sq dq 0 0 (by rw [wc_at hq, hw]) (by rw [wc_at hq', hw']) rfl rfl rfl h1 h2 h3 h4 h5 (fun _ _ => rfl) (Nat.succ_le_succ (Nat.zero_le d)) (by
      have h9 := sm_room (G := G) h0
      have h8 : nativeFrameWords "java/lang/System" "arraycopy" 5 = 7 := by decide +kernel
      rw [h8]
      show _ ≤ 64 * (d + 1)
      omega) hd (fun H1 locs1 hP1 hD1 hS1 => ?_)
    rw [wc_cpy rfl p2] at hP1
    exact hgo _ _ _ _ h p e s m args below meth c H1 locs1 lsA F hP1 hS1 hL
  · exact h.elim
theorem is_mmin {nx a b idx : Nat} {ts : List (Int32 × Nat)} {v : Value} {rt : FieldType} {KD : Nat → List Value → St → (Option Value → St → Prop) → Prop} {KR : Option Value → St → Prop} (hgo : ∀ pc ls st σ, go pc ls st σ → AtA l G (d + 1) g pc ls st σ post) (hd : decode g.2.1 pc = .ok (.invokestatic idx, 3)) (hn : nx = pc + 3) (ha : a = 998)
    (w1 : Cond.methodLink g.1.cls idx Lib.Math.min.name ∈ gtbl) (w2 : Cond.static Lib.Math.min.name ∈ gtbl) (w3 : Cond.initialized "java/lang/Math" ∈ gtbl) (w4 : Cond.code Lib.Math.min.name Lib.Math.min.code 2 (some .int) ∈ gtbl)
    (h : instP KD KR rt go (.invokestatic idx) nx a b ts v ls st σ) : AtA l G (d + 1) g pc ls st σ post := by
  subst hn
  subst ha
  simp only [instP, show ((998 : Nat) == 999) = false from rfl, beq_self_eq_true, cond_true, cond_false] at h
  split at h
  · rename_i y x r
    obtain ⟨h0, h⟩ := cond_t h
    intro p e s m args below meth c H locs lsA F hP hS hL
    refine va_mmin F.1 F.2.1 (F.2.2.1.trans hL.1.symm) F.2.2.2.1 (F.2.2.2.2.1 _ w1) (F.2.2.2.2.1 _ w2) (F.2.2.2.2.1 _ w3) (F.2.2.2.2.1 _ w4) (Nat.succ_le_succ (Nat.zero_le d)) (by
      have h9 := sm_room (G := G) h0
      show _ ≤ 64 * (d + 1)
      omega) (Nat.le_refl _) (Nat.le_refl _) hd ?_
    exact hgo _ _ _ _ h p e s m args below meth c H locs lsA F hP hS hL
  · exact h.elim
theorem is_mmax {nx a b idx : Nat} {ts : List (Int32 × Nat)} {v : Value} {rt : FieldType} {KD : Nat → List Value → St → (Option Value → St → Prop) → Prop} {KR : Option Value → St → Prop} (hgo : ∀ pc ls st σ, go pc ls st σ → AtA l G (d + 1) g pc ls st σ post) (hd : decode g.2.1 pc = .ok (.invokestatic idx, 3)) (hn : nx = pc + 3) (ha : a = 997)
    (w1 : Cond.methodLink g.1.cls idx Lib.Math.max.name ∈ gtbl) (w2 : Cond.static Lib.Math.max.name ∈ gtbl) (w3 : Cond.initialized "java/lang/Math" ∈ gtbl) (w4 : Cond.code Lib.Math.max.name Lib.Math.max.code 2 (some .int) ∈ gtbl)
    (h : instP KD KR rt go (.invokestatic idx) nx a b ts v ls st σ) : AtA l G (d + 1) g pc ls st σ post := by
  subst hn
  subst ha
  simp only [instP, show ((997 : Nat) == 999) = false from rfl, show ((997 : Nat) == 998) = false from rfl, beq_self_eq_true, cond_true, cond_false] at h
  split at h
  · rename_i y x r
    obtain ⟨h0, h⟩ := cond_t h
    intro p e s m args below meth c H locs lsA F hP hS hL
    refine va_mmax F.1 F.2.1 (F.2.2.1.trans hL.1.symm) F.2.2.2.1 (F.2.2.2.2.1 _ w1) (F.2.2.2.2.1 _ w2) (F.2.2.2.2.1 _ w3) (F.2.2.2.2.1 _ w4) (Nat.succ_le_succ (Nat.zero_le d)) (by
      have h9 := sm_room (G := G) h0
      show _ ≤ 64 * (d + 1)
      omega) (Nat.le_refl _) (Nat.le_refl _) hd ?_
    exact hgo _ _ _ _ h p e s m args below meth c H locs lsA F hP hS hL
  · exact h.elim
theorem is_ireturn {nx a b : Nat} {ts : List (Int32 × Nat)} {v : Value} {rt : FieldType} {KD : Nat → List Value → St → (Option Value → St → Prop) → Prop} (hr : g.2.2.2 = some rt) (hd : decode g.2.1 pc = .ok (.ireturn, 1)) (h : instP KD post rt go .ireturn nx a b ts v ls st σ) : AtA l G d g pc ls st σ post := by
  simp only [instP] at h
  split at h
  · rename_i x
    have key : narrow rt (.int x) = .int x ∧ post (some (.int x)) σ := by
      split at h
      · exact ⟨rfl, h⟩
      · exact h
    intro p e s m args below meth c H locs lsA F hP hS hL
    exact W.zret (v := x) F.1 F.2.1 (F.2.2.2.2.2.1.trans hr) key.1 (fun t ht hW => ⟨⟨some (.int x), σ, rfl, key.2, by rw [ht]; exact hP⟩, hS.F ht⟩) hS.2.2 hd F.2.2.2.2.2.2.1
  · exact h.elim
theorem is_areturn {nx a b : Nat} {ts : List (Int32 × Nat)} {v : Value} {rt : FieldType} {KD : Nat → List Value → St → (Option Value → St → Prop) → Prop} {C : String} (hr : g.2.2.2 = some (.object C)) (hd : decode g.2.1 pc = .ok (.areturn, 1)) (h : instP KD post rt go .areturn nx a b ts v ls st σ) : AtA l G d g pc ls st σ post := by
  simp only [instP] at h
  split at h
  · rename_i x
    intro p e s m args below meth c H locs lsA F hP hS hL
    exact W.aret (v := .ref (G.2.1 x)) F.1 F.2.1 (F.2.2.2.2.2.1.trans hr) (Or.inl ⟨_, rfl⟩) (Or.inr ⟨_, rfl⟩) (fun t ht hW => ⟨⟨some (.ref x), σ, rfl, h, by rw [ht]; exact hP⟩, hS.F ht⟩) hS.2.2 hd F.2.2.2.2.2.2.1
  · exact h.elim
theorem is_return {nx a b : Nat} {ts : List (Int32 × Nat)} {v : Value} {rt : FieldType} {KD : Nat → List Value → St → (Option Value → St → Prop) → Prop} (hr : g.2.2.2 = none) (hd : decode g.2.1 pc = .ok (.return_, 1)) (h : instP KD post rt go .return_ nx a b ts v ls st σ) : AtA l G d g pc ls st σ post := by
  simp only [instP] at h
  split at h
  · intro p e s m args below meth c H locs lsA F hP hS hL
    exact W.vret F.1 F.2.1 (F.2.2.2.2.2.1.trans hr) (fun t ht hW => ⟨⟨none, σ, rfl, h, by rw [ht]; exact hP⟩, hS.F ht⟩) hS.2.2 hd F.2.2.2.2.2.2.1
  · exact h.elim
end IS3
