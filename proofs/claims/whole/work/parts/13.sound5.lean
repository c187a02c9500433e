/-! switches; all instructions; the walk -/
theorem sw_nil {x : Int32} {go : Nat → Prop} {D : Prop} (h : sw x go D []) : D := h
theorem sw_cons {x : Int32} {go : Nat → Prop} {D : Prop} {t : Int32 × Nat} {ts : List (Int32 × Nat)} (h : sw x go D (t :: ts)) : (x = t.1 → go t.2) ∧ (¬ x = t.1 → sw x go D ts) := h
theorem sw_out {x : Int32} {go : Nat → Prop} {D : Prop} : ∀ {ts : List (Int32 × Nat)}, (∀ t ∈ ts, ¬ x = t.1) → sw x go D ts → D
  | [], _, h => sw_nil h
  | _ :: _, hn, h => sw_out (fun t ht => hn t (List.mem_cons_of_mem _ ht)) ((sw_cons h).2 (hn _ List.mem_cons_self))
theorem sw_in {x : Int32} {go : Nat → Prop} {D : Prop} : ∀ {ts : List (Int32 × Nat)} {j : Nat} {t : Int32 × Nat}, ts[j]? = some t → x = t.1 → (∀ i u, i < j → ts[i]? = some u → ¬ x = u.1) → sw x go D ts → go t.2
  | [], j, t, hj, _, _, _ => by simp at hj
  | u :: ts, 0, t, hj, hx, _, h => by
    simp at hj
    subst hj
    exact (sw_cons h).1 hx
  | u :: ts, j + 1, t, hj, hx, hn, h => by
    rw [List.getElem?_cons_succ] at hj
    exact sw_in hj hx (fun i w hi hw => hn (i + 1) w (by omega) (by rw [List.getElem?_cons_succ]; exact hw)) ((sw_cons h).2 (hn 0 u (by omega) rfl))
section IS4
variable {l : Launch} {G : Geo} {d : Nat} {g : Sig} {post : Option Value → St → Prop} {go : Nat → List Value → List Value → St → Prop} {pc : Nat} {ls st : List Value} {σ : St}
theorem is_tableswitch {nx a b len : Nat} {ts : List (Int32 × Nat)} {v : Value} {rt : FieldType} {KD : Nat → List Value → St → (Option Value → St → Prop) → Prop} {KR : Option Value → St → Prop} {dflt lo hi : Int} {offs : Array Int} (hgo : ∀ pc ls st σ, go pc ls st σ → AtA l G d g pc ls st σ post) (hd : decode g.2.1 pc = .ok (.tableswitch dflt lo hi offs, len))
    (h1 : (pc : Int) + dflt = (a : Int)) (h2 : ts.map (fun t => (t.2 : Int)) = offs.toList.map (fun o => (pc : Int) + o)) (h3 : ts.map (fun t => t.1.toInt) = (List.range ts.length).map (fun (j : Nat) => lo + (j : Int))) (h4 : hi + 1 = lo + (ts.length : Int)) (h : instP KD KR rt go (.tableswitch dflt lo hi offs) nx a b ts v ls st σ) : AtA l G d g pc ls st σ post := by
  simp only [instP] at h
  split at h
  · rename_i x r
    have key : ∀ (j : Nat) (t : Int32 × Nat), ts[j]? = some t → t.1.toInt = lo + (j : Int) := by
      intro j t hj
      have hlt : j < ts.length := (List.getElem?_eq_some_iff.mp hj).1
      have e1 : (ts.map (fun t => t.1.toInt))[j]? = some t.1.toInt := by rw [List.getElem?_map, hj]; rfl
      rw [h3, List.getElem?_map, List.getElem?_range hlt] at e1
      exact (Option.some.inj e1).symm
    intro p e s m args below meth c H locs lsA F hP hS hL
    by_cases hin : ¬ x.toInt < lo ∧ ¬ hi < x.toInt
    · obtain ⟨j, hj⟩ : ∃ j : Nat, x.toInt = lo + (j : Int) := ⟨(x.toInt - lo).toNat, by omega⟩
      have hlt : j < ts.length := by omega
      have ht : ts[j]? = some ts[j] := List.getElem?_eq_getElem hlt
      have hxt : x = ts[j].1 := Int32.toInt_inj.mp (by rw [key j _ ht]; exact hj)
      have hgo2 := sw_in ht hxt (fun i u hi hu z => by
        have e1 := key i u hu
        rw [← z, hj] at e1
        omega) h
      have e2 : (ts.map (fun t => (t.2 : Int)))[j]? = some (ts[j].2 : Int) := by rw [List.getElem?_map, ht]; rfl
      rw [h2, List.getElem?_map] at e2
      obtain ⟨off, ho, hoe⟩ := Option.map_eq_some_iff.mp e2
      have ho' : offs[(x.toInt - lo).toNat]? = some off := by
        have : (x.toInt - lo).toNat = j := by omega
        rw [this, ← Array.getElem?_toList]
        exact ho
      exact lv_tableIn F.1 F.2.1 hd hin.1 hin.2 ho' hoe (hgo _ _ _ _ hgo2 p e s m args below meth c H locs lsA F hP hS hL)
    · have hout : x.toInt < lo ∨ hi < x.toInt := by omega
      have hgo2 := sw_out (fun t ht z => by
        obtain ⟨j, hj⟩ := List.getElem?_of_mem ht
        have e1 := key j t hj
        have hlt : j < ts.length := (List.getElem?_eq_some_iff.mp hj).1
        rw [← z] at e1
        omega) h
      exact lv_tableOut F.1 F.2.1 hd hout h1 (hgo _ _ _ _ hgo2 p e s m args below meth c H locs lsA F hP hS hL)
  · exact h.elim
end IS4
def retok (g : Sig) (rt : FieldType) (e : Ent) : Bool := match e.2.1 with
  | .ireturn => decide (g.2.2.2 = some rt)
  | .return_ => decide (g.2.2.2 = none)
  | .areturn => (match g.2.2.2 with
    | some (.object _) => true
    | _ => false)
  | _ => true
section IS5
variable {l : Launch} {G : Geo} {d : Nat} {g : Sig} {post : Option Value → St → Prop} {go : Nat → List Value → List Value → St → Prop} {pc : Nat} {ls st : List Value} {σ : St}
theorem inst_sound {ins : Instr} {nx a b : Nat} {ts : List (Int32 × Nat)} {v : Value} {wi : List Nat} {rt : FieldType} (hgo : ∀ pc ls st σ, go pc ls st σ → AtA l G (d + 1) g pc ls st σ post) (hE : okE g.1.cls g.2.1 (pc, ins, nx, a, b, ts, v, wi) = true) (hR : retok g rt (pc, ins, nx, a, b, ts, v, wi) = true) (h : instP (DoesQ l G d) post rt go ins nx a b ts v ls st σ) : AtA l G (d + 1) g pc ls st σ post := by
  cases ins with

  | iadd =>
    simp only [okE, okA, ilen, Bool.and_eq_true, beq_iff_eq] at hE
    exact is_iadd hgo (of_decide_eq_true hE.1.1) hE.1.2 h
  | isub =>
    simp only [okE, okA, ilen, Bool.and_eq_true, beq_iff_eq] at hE
    exact is_isub hgo (of_decide_eq_true hE.1.1) hE.1.2 h
  | imul =>
    simp only [okE, okA, ilen, Bool.and_eq_true, beq_iff_eq] at hE
    exact is_imul hgo (of_decide_eq_true hE.1.1) hE.1.2 h
  | idiv =>
    simp only [okE, okA, ilen, Bool.and_eq_true, beq_iff_eq] at hE
    exact is_idiv hgo (of_decide_eq_true hE.1.1) hE.1.2 h
  | irem =>
    simp only [okE, okA, ilen, Bool.and_eq_true, beq_iff_eq] at hE
    exact is_irem hgo (of_decide_eq_true hE.1.1) hE.1.2 h
  | iand =>
    simp only [okE, okA, ilen, Bool.and_eq_true, beq_iff_eq] at hE
    exact is_iand hgo (of_decide_eq_true hE.1.1) hE.1.2 h
  | ior =>
    simp only [okE, okA, ilen, Bool.and_eq_true, beq_iff_eq] at hE
    exact is_ior hgo (of_decide_eq_true hE.1.1) hE.1.2 h
  | ixor =>
    simp only [okE, okA, ilen, Bool.and_eq_true, beq_iff_eq] at hE
    exact is_ixor hgo (of_decide_eq_true hE.1.1) hE.1.2 h
  | ishl =>
    simp only [okE, okA, ilen, Bool.and_eq_true, beq_iff_eq] at hE
    exact is_ishl hgo (of_decide_eq_true hE.1.1) hE.1.2 h
  | ishr =>
    simp only [okE, okA, ilen, Bool.and_eq_true, beq_iff_eq] at hE
    exact is_ishr hgo (of_decide_eq_true hE.1.1) hE.1.2 h
  | iushr =>
    simp only [okE, okA, ilen, Bool.and_eq_true, beq_iff_eq] at hE
    exact is_iushr hgo (of_decide_eq_true hE.1.1) hE.1.2 h
  | i2c =>
    simp only [okE, okA, ilen, Bool.and_eq_true, beq_iff_eq] at hE
    exact is_i2c hgo (of_decide_eq_true hE.1.1) hE.1.2 h
  | i2l =>
    simp only [okE, okA, ilen, Bool.and_eq_true, beq_iff_eq] at hE
    exact is_i2l hgo (of_decide_eq_true hE.1.1) hE.1.2 h
  | l2i =>
    simp only [okE, okA, ilen, Bool.and_eq_true, beq_iff_eq] at hE
    exact is_l2i hgo (of_decide_eq_true hE.1.1) hE.1.2 h
  | ladd =>
    simp only [okE, okA, ilen, Bool.and_eq_true, beq_iff_eq] at hE
    exact is_ladd hgo (of_decide_eq_true hE.1.1) hE.1.2 h
  | lsub =>
    simp only [okE, okA, ilen, Bool.and_eq_true, beq_iff_eq] at hE
    exact is_lsub hgo (of_decide_eq_true hE.1.1) hE.1.2 h
  | lmul =>
    simp only [okE, okA, ilen, Bool.and_eq_true, beq_iff_eq] at hE
    exact is_lmul hgo (of_decide_eq_true hE.1.1) hE.1.2 h
  | land =>
    simp only [okE, okA, ilen, Bool.and_eq_true, beq_iff_eq] at hE
    exact is_land hgo (of_decide_eq_true hE.1.1) hE.1.2 h
  | lshr =>
    simp only [okE, okA, ilen, Bool.and_eq_true, beq_iff_eq] at hE
    exact is_lshr hgo (of_decide_eq_true hE.1.1) hE.1.2 h
  | lcmp =>
    simp only [okE, okA, ilen, Bool.and_eq_true, beq_iff_eq] at hE
    exact is_lcmp hgo (of_decide_eq_true hE.1.1) hE.1.2 h
  | pop =>
    simp only [okE, okA, ilen, Bool.and_eq_true, beq_iff_eq] at hE
    exact is_pop hgo (of_decide_eq_true hE.1.1) hE.1.2 h
  | dup2 =>
    simp only [okE, okA, ilen, Bool.and_eq_true, beq_iff_eq] at hE
    exact is_dup2 hgo (of_decide_eq_true hE.1.1) hE.1.2 h
  | dup =>
    simp only [okE, okA, ilen, Bool.and_eq_true, beq_iff_eq] at hE
    exact is_dup hgo (of_decide_eq_true hE.1.1) hE.1.2 h
  | iaload =>
    simp only [okE, okA, ilen, Bool.and_eq_true, beq_iff_eq] at hE
    exact is_iaload hgo (of_decide_eq_true hE.1.1) hE.1.2 h
  | iastore =>
    simp only [okE, okA, ilen, Bool.and_eq_true, beq_iff_eq] at hE
    exact is_iastore hgo (of_decide_eq_true hE.1.1) hE.1.2 h
  | bastore =>
    simp only [okE, okA, ilen, Bool.and_eq_true, beq_iff_eq] at hE
    exact is_bastore hgo (of_decide_eq_true hE.1.1) hE.1.2 h
  | aaload =>
    simp only [okE, okA, ilen, Bool.and_eq_true, beq_iff_eq] at hE
    exact is_aaload hgo (of_decide_eq_true hE.1.1) hE.1.2 h
  | arraylength =>
    simp only [okE, okA, ilen, Bool.and_eq_true, beq_iff_eq] at hE
    exact is_arraylength hgo (of_decide_eq_true hE.1.1) hE.1.2 h
  | iconst n =>
    simp only [okE, okA, ilen, Bool.and_eq_true, beq_iff_eq] at hE
    exact is_iconst hgo (of_decide_eq_true hE.1.1) hE.1.2 (of_decide_eq_true hE.2) h
  | bipush n =>
    simp only [okE, okA, ilen, Bool.and_eq_true, beq_iff_eq] at hE
    exact is_bipush hgo (of_decide_eq_true hE.1.1) hE.1.2 (of_decide_eq_true hE.2) h
  | sipush n =>
    simp only [okE, okA, ilen, Bool.and_eq_true, beq_iff_eq] at hE
    exact is_sipush hgo (of_decide_eq_true hE.1.1) hE.1.2 (of_decide_eq_true hE.2) h
  | lconst n =>
    simp only [okE, okA, ilen, Bool.and_eq_true, beq_iff_eq] at hE
    exact is_lconst hgo (of_decide_eq_true hE.1.1) hE.1.2 (of_decide_eq_true hE.2) h
  | iload i =>
    simp only [okE, okA, ilen, Bool.and_eq_true, beq_iff_eq] at hE
    exact is_iload hgo (of_decide_eq_true hE.1.1) hE.1.2 hE.2 h
  | aload i =>
    simp only [okE, okA, ilen, Bool.and_eq_true, beq_iff_eq] at hE
    exact is_aload hgo (of_decide_eq_true hE.1.1) hE.1.2 hE.2 h
  | istore i =>
    simp only [okE, okA, ilen, Bool.and_eq_true, beq_iff_eq] at hE
    exact is_istore hgo (of_decide_eq_true hE.1.1) hE.1.2 hE.2 h
  | iload_n k =>
    simp only [okE, okA, ilen, Bool.and_eq_true, beq_iff_eq] at hE
    exact is_iload_n hgo (of_decide_eq_true hE.1.1) hE.1.2 hE.2 h
  | aload_n k =>
    simp only [okE, okA, ilen, Bool.and_eq_true, beq_iff_eq] at hE
    exact is_aload_n hgo (of_decide_eq_true hE.1.1) hE.1.2 hE.2 h
  | istore_n k =>
    simp only [okE, okA, ilen, Bool.and_eq_true, beq_iff_eq] at hE
    exact is_istore_n hgo (of_decide_eq_true hE.1.1) hE.1.2 hE.2 h
  | lload_n k =>
    simp only [okE, okA, ilen, Bool.and_eq_true, beq_iff_eq] at hE
    exact is_lload_n hgo (of_decide_eq_true hE.1.1) hE.1.2 hE.2 h
  | iinc i n =>
    simp only [okE, okA, ilen, Bool.and_eq_true, beq_iff_eq] at hE
    exact is_iinc hgo (of_decide_eq_true hE.1.1) hE.1.2 hE.2.1 (of_decide_eq_true hE.2.2) h
  | ifCond cc off =>
    simp only [okE, okA, ilen, Bool.and_eq_true, beq_iff_eq] at hE
    exact is_ifCond hgo (of_decide_eq_true hE.1.1) hE.1.2 (of_decide_eq_true hE.2) h
  | if_icmp cc off =>
    simp only [okE, okA, ilen, Bool.and_eq_true, beq_iff_eq] at hE
    exact is_if_icmp hgo (of_decide_eq_true hE.1.1) hE.1.2 (of_decide_eq_true hE.2) h
  | goto off =>
    simp only [okE, okA, ilen, Bool.and_eq_true, beq_iff_eq] at hE
    exact is_goto hgo (of_decide_eq_true hE.1.1) hE.1.2 (of_decide_eq_true hE.2) h
  | tableswitch dflt lo hi offs =>
    simp only [okE, okA, ilen, Bool.and_eq_true, beq_iff_eq] at hE
    have e9 := of_decide_eq_true hE.2
    exact is_tableswitch hgo (of_decide_eq_true hE.1) e9.1 e9.2.1 e9.2.2.1 e9.2.2.2 h
  | ldc idx =>
    simp only [okE, okA, ilen, Bool.and_eq_true, beq_iff_eq] at hE
    have e9 := of_decide_eq_true hE.2
    exact is_ldc hgo (of_decide_eq_true hE.1.1) hE.1.2 e9.1 e9.2.1 e9.2.2.1 e9.2.2.2 h
  | ldc_w idx =>
    simp only [okE, okA, ilen, Bool.and_eq_true, beq_iff_eq] at hE
    obtain ⟨⟨e1, e2⟩, e3⟩ := hE
    have e1 := of_decide_eq_true e1
    split at e3
    · exact is_ldc_w hgo e1 e2 (gt_has e3) rfl h
    · cases e3
  | ldc2_w idx =>
    simp only [okE, okA, ilen, Bool.and_eq_true, beq_iff_eq] at hE
    obtain ⟨⟨e1, e2⟩, e3⟩ := hE
    have e1 := of_decide_eq_true e1
    split at e3
    · exact is_ldc2_w hgo e1 e2 (gt_has e3) rfl h
    · cases e3
  | getstatic idx =>
    simp only [okE, okA, ilen, Bool.and_eq_true, beq_iff_eq] at hE
    obtain ⟨⟨e1, e2⟩, e3⟩ := hE
    have e1 := of_decide_eq_true e1
    split at e3
    · rw [Bool.and_eq_true] at e3
      exact is_getstatic0 hgo e1 e2 (gt_has e3.2) (of_decide_eq_true e3.1) h
    · rw [Bool.and_eq_true] at e3
      exact is_getstatic1 hgo e1 e2 (gt_has e3.2) (of_decide_eq_true e3.1) h
  | baload =>
    simp only [okE, okA, ilen, Bool.and_eq_true, beq_iff_eq] at hE
    obtain ⟨e1, e2⟩ := hE.1
    have e1 := of_decide_eq_true e1
    by_cases ha : a = 1
    · exact is_baloadS hgo e1 e2 ha h
    · refine is_baload (a := 0) (b := b) (ts := ts) (v := v) (rt := rt) (KD := DoesQ l G d) (KR := post) hgo e1 e2 rfl ?_
      have h3 : (a == 1) = false := by simpa using ha
      simp only [instP, h3, cond_false] at h ⊢
      exact h
  | getfield idx =>
    simp only [okE, okA, ilen, Bool.and_eq_true, beq_iff_eq] at hE
    obtain ⟨⟨e1, e2⟩, e3⟩ := hE
    have e1 := of_decide_eq_true e1
    by_cases ha : a = 20
    · subst ha
      simp only [beq_self_eq_true, cond_true, Bool.and_eq_true] at e3
      exact is_getfieldS hgo e1 e2 rfl (of_decide_eq_true e3.1) (gt_has e3.2) h
    · have h3 : (a == 20) = false := by simpa using ha
      rw [h3] at e3
      simp only [cond_false] at e3
      split at e3
      · rename_i cc hc
        rw [Bool.and_eq_true] at e3
        exact is_getfield hgo e1 e2 ha hc (of_decide_eq_true e3.1) (gt_has e3.2) h
      · cases e3
  | putfield idx =>
    simp only [okE, okA, ilen, Bool.and_eq_true, beq_iff_eq] at hE
    obtain ⟨⟨e1, e2⟩, e3⟩ := hE
    have e1 := of_decide_eq_true e1
    split at e3
    · rename_i cc hc
      simp only [Bool.and_eq_true] at e3
      exact is_putfield hgo e1 e2 hc (of_decide_eq_true e3.1.1) (of_decide_eq_true e3.1.2) (gt_has e3.2) h
    · cases e3
  | invokevirtual idx =>
    simp only [okE, okA, ilen, Bool.and_eq_true, beq_iff_eq] at hE
    obtain ⟨⟨e1, e2⟩, e3⟩ := hE
    have e1 := of_decide_eq_true e1
    split at e3
    · rename_i g' hg'
      simp only [Bool.and_eq_true] at e3
      obtain ⟨⟨⟨⟨w1, w2⟩, w3⟩, w4⟩, e7⟩ := e3
      obtain ⟨e5, e6⟩ := of_decide_eq_true e7
      exact is_invokevirtual hgo e1 e2 hg' (sg_ok hg') (gt_has w1) (gt_has w2) (gt_has w3) (gt_has w4) e5 e6 h
    · cases e3
  | invokestatic idx =>
    simp only [okE, okA, ilen, Bool.and_eq_true, beq_iff_eq] at hE
    obtain ⟨⟨e1, e2⟩, e3⟩ := hE
    have e1 := of_decide_eq_true e1
    by_cases ha : a = 999
    · subst ha
      simp only [beq_self_eq_true, cond_true, Bool.and_eq_true] at e3
      obtain ⟨⟨⟨w1, w2⟩, w3⟩, w4⟩ := e3
      exact is_arraycopy hgo e1 e2 rfl (gt_has w1) (gt_has w2) (gt_has w3) (gt_has w4) h
    by_cases ha8 : a = 998
    · subst ha8
      simp only [show ((998 : Nat) == 999) = false from rfl, beq_self_eq_true, cond_true, cond_false, Bool.and_eq_true] at e3
      obtain ⟨⟨⟨w1, w2⟩, w3⟩, w4⟩ := e3
      exact is_mmin hgo e1 e2 rfl (gt_has w1) (gt_has w2) (gt_has w3) (gt_has w4) h
    by_cases ha7 : a = 997
    · subst ha7
      simp only [show ((997 : Nat) == 999) = false from rfl, show ((997 : Nat) == 998) = false from rfl, beq_self_eq_true, cond_true, cond_false, Bool.and_eq_true] at e3
      obtain ⟨⟨⟨w1, w2⟩, w3⟩, w4⟩ := e3
      exact is_mmax hgo e1 e2 rfl (gt_has w1) (gt_has w2) (gt_has w3) (gt_has w4) h
    · have h3 : (a == 999) = false := by simpa using ha
      have h8 : (a == 998) = false := by simpa using ha8
      have h7 : (a == 997) = false := by simpa using ha7
      rw [h3, h8, h7] at e3
      simp only [cond_false] at e3
      split at e3
      · rename_i g' hg'
        simp only [Bool.and_eq_true] at e3
        obtain ⟨⟨⟨w1, w2⟩, w4⟩, e6⟩ := e3
        have e6 := of_decide_eq_true e6
        exact is_invokestatic hgo e1 e2 ha ha8 ha7 hg' (sg_ok hg') (gt_has w1) (gt_has w2) (gt_has w4) e6 h
      · cases e3
  | ireturn =>
    simp only [okE, okA, ilen, Bool.and_eq_true, beq_iff_eq] at hE
    exact is_ireturn (of_decide_eq_true hR) (of_decide_eq_true hE.1.1) h
  | return_ =>
    simp only [okE, okA, ilen, Bool.and_eq_true, beq_iff_eq] at hE
    exact is_return (of_decide_eq_true hR) (of_decide_eq_true hE.1.1) h
  | areturn =>
    simp only [okE, okA, ilen, Bool.and_eq_true, beq_iff_eq] at hE
    simp only [retok] at hR
    split at hR
    · rename_i C hC
      exact is_areturn hC (of_decide_eq_true hE.1.1) h
    · cases hR
  | _ => exact False.elim h
theorem wp_sound {rt : FieldType} {stops : List Nat} {tbl : List Ent} (hT : tbl.all (okE g.1.cls g.2.1) = true) (hR : tbl.all (retok g rt) = true) : ∀ (n pc : Nat) (ls st : List Value) (σ : St), wp (fun pc ls st σ => AtA l G (d + 1) g pc ls st σ post) (DoesQ l G d) post rt stops tbl n pc ls st σ → AtA l G (d + 1) g pc ls st σ post := by
  intro n
  induction n with
  | zero => exact fun pc ls st σ h => h
  | succ n ih =>
    intro pc ls st σ h
    have h' : stepP (DoesQ l G d) post rt tbl (fun pc ls st σ => cond (stops.contains pc) (AtA l G (d + 1) g pc ls st σ post) (wp (fun pc ls st σ => AtA l G (d + 1) g pc ls st σ post) (DoesQ l G d) post rt stops tbl n pc ls st σ)) pc ls st σ := h
    unfold stepP at h'
    split at h'
    · rename_i pc' ins nx a b ts v wi hf
      have h1 := List.find?_some hf
      have h2 := List.mem_of_find?_eq_some hf
      have h3 : pc' = pc := by simpa using h1
      subst h3
      refine inst_sound (fun pc ls st σ hg => ?_) (List.all_eq_true.mp hT _ h2) (List.all_eq_true.mp hR _ h2) h'
      cases hc : stops.contains pc with
      | true => simp only [hc, cond_true] at hg; exact hg
      | false => simp only [hc, cond_false] at hg; exact ih pc ls st σ hg
    · exact h'.elim
/-- the locals at a method's entry -/
def entryL (av : List Value) (nL : Nat) : List Value := (av.flatMap fun v => if v.category = 2 then [v, .null] else [v]) ++ List.replicate (nL - (av.flatMap fun v => if v.category = 2 then [v, .null] else [v]).length) .null
theorem ent_len (av : List Value) : (lg_sl (av.map (vmp G))).length = (av.flatMap fun v => if v.category = 2 then [v, Value.null] else [v]).length := by
  induction av with
  | nil => rfl
  | cons v av ih =>
    simp only [lg_sl, List.map_cons, List.flatMap_cons, List.length_append, vmp_cat] at ih ⊢
    rw [ih]
    split <;> rfl
theorem ent_at (av : List Value) : ∀ (i : Nat) (v : Value), (av.flatMap fun v => if v.category = 2 then [v, Value.null] else [v])[i]? = some v → v ≠ .null → (lg_sl (av.map (vmp G)))[i]? = some (.val (vmp G v)) := by
  induction av with
  | nil => intro i v h; simp at h
  | cons w av ih =>
    intro i v h hn
    simp only [lg_sl, List.map_cons, List.flatMap_cons, vmp_cat] at ih h ⊢
    by_cases hc : w.category = 2
    · simp only [hc, if_true] at h ⊢
      match i, h with
      | 0, h => simp at h; subst h; rfl
      | 1, h => simp at h; exact absurd h.symm hn
      | i + 2, h => exact ih i v h hn
    · simp only [hc, if_false] at h ⊢
      match i, h with
      | 0, h => simp at h; subst h; rfl
      | i + 1, h => exact ih i v h hn
theorem does_of {k : Nat} {av : List Value} (hk : sigs[k]? = some g) (hlen : (av.flatMap fun v => if v.category = 2 then [v, Value.null] else [v]).length ≤ g.2.2.1) (h : AtA l G d g 0 (entryL av g.2.2.1) [] σ post) : DoesQ l G d k av σ post := by
  intro g' hg'
  rw [hk] at hg'
  cases hg'
  refine Met.ofW (cc := g.2.1) (maxL := g.2.2.1) (ret := g.2.2.2) (sg_ok hk).2.1 rfl ?_
  intro p e s m args below meth c s₁ B hml hv
  obtain ⟨rfl, hP, hK, hd, hs⟩ := hv
  have hts := atoms_spec (ws := Cond.code g.1 g.2.1 g.2.2.1 g.2.2.2 :: gtbl) B.pre
  have hown : s.vm.findClass g.1.cls = some m.cls := findClass_of_methodNamed B.named
  have he := lv_entry (av.map (vmp G)) (n := g.2.2.1) (by rw [ent_len]; exact hlen)
  rw [lg_entry_eq]
  refine h p e s m _ below meth c s.heap [] _ ⟨B.exec, B.bytes, hml, hown, fun w hw => hts w (List.mem_cons_of_mem _ hw), B.returns, B.notSynchronized, hK, hd, hs⟩ hP va_S.rf ⟨he.1, he.2.1, ?_, fun i v hi hv => ?_⟩
  · unfold entryL
    rw [List.length_append, List.length_replicate]
    omega
  · unfold entryL at hi
    rw [List.getElem?_toArray]
    by_cases hl : i < (av.flatMap fun v => if v.category = 2 then [v, Value.null] else [v]).length
    · rw [List.getElem?_append_left hl] at hi
      rw [List.getElem?_append_left (by rw [ent_len]; exact hl)]
      exact ent_at av i v hi hv
    · rw [List.getElem?_append_right (Nat.not_lt.mp hl)] at hi
      exact absurd (List.eq_of_mem_replicate (List.mem_of_getElem? hi)) hv
/-- a method, by a walk of n instructions from its entry -/
theorem does_wp (n : Nat) {rt : FieldType} {stops : List Nat} {tbl : List Ent} {k : Nat} {av : List Value} (hk : sigs[k]? = some g) (hT : tbl.all (okE g.1.cls g.2.1) = true) (hR : tbl.all (retok g rt) = true) (hlen : (av.flatMap fun v => if v.category = 2 then [v, Value.null] else [v]).length ≤ g.2.2.1) (h : wp (fun pc ls st σ => AtA l G (d + 1) g pc ls st σ post) (DoesQ l G d) post rt stops tbl n 0 (entryL av g.2.2.1) [] σ) : DoesQ l G (d + 1) k av σ post :=
  does_of hk hlen (wp_sound hT hR n 0 _ _ σ h)
end IS5
