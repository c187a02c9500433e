/-! the class's reader: line by line, to the fault -/
theorem num1_in {c : Nat → Nat} {n k lo hi p : Nat} (h : lo ≤ nmv c n p ∧ nmv c n p ≤ hi) : num1 c n k lo hi p = .inr (k, nmv c n p, 0, nx c n p) := by unfold num1; rw [if_pos h]
theorem num1_out {c : Nat → Nat} {n k lo hi p : Nat} (h : ¬ (lo ≤ nmv c n p ∧ nmv c n p ≤ hi)) : num1 c n k lo hi p = .inl (tB c n p) := by unfold num1; rw [if_neg h]
theorem num2_in {c : Nat → Nat} {n k hi hi2 p : Nat} (h : nmv c n p ≤ hi) (h2 : nmv c n (nx c n p) ≤ hi2) : num2 c n k hi hi2 p = .inr (k, nmv c n p, nmv c n (nx c n p), nx c n (nx c n p)) := by unfold num2; rw [if_pos h, if_pos h2]
theorem num2_o1 {c : Nat → Nat} {n k hi hi2 p : Nat} (h : ¬ nmv c n p ≤ hi) : num2 c n k hi hi2 p = .inl (tB c n p) := by unfold num2; rw [if_neg h]
theorem num2_o2 {c : Nat → Nat} {n k hi hi2 p : Nat} (h : nmv c n p ≤ hi) (h2 : ¬ nmv c n (nx c n p) ≤ hi2) : num2 c n k hi hi2 p = .inl (tB c n (nx c n p)) := by unfold num2; rw [if_pos h, if_neg h2]
theorem nmv_m1 {c : Nat → Nat} {n p : Nat} : ¬ nI (nmv c n p) = -1 := by
  have := nmv_le (c := c) (n := n) (p := p)
  exact nI_m1 (by omega)
theorem p_doOrder {l : Launch} {G : Geo} {d : Nat} {c : Nat → Nat} {n p : Nat} {D : Dr} (s : St) {Q : Int32 → St → Prop} (hT : tx s c n) (ha : atp s c n p) (hp : p ≤ n) (hD : drX s = D)
  (h0 : ∀ f t, lineK c n D p 0 = .inl f → t.1 17 2 = nI f → t.1 17 4 = s.1 17 4 → cfr s t → Q 0 t)
  (h1 : ∀ k a b p' t, lineK c n D p 0 = .inr (k, a, b, p') → atp t c n p' → t.1 17 4 = s.1 17 4 → drX t = app c n D k a b → cfr s t → Q 1 t) : DoesI l G (d + 4) 45 [.ref 17] s Q := by
  have hx := nx_le (c := c) hp
  refine r_X3_doOrder s (p_adv s hT ha.2 hx ?_)
  refine p_take (lo := 1) (hi := 5) _ (adv_tx hT) (adv_atp c n s (nx c n p)) hx rfl rfl (by decide) (by decide) (fun hin => ⟨fun z => absurd z nmv_m1, fun _ => ?_⟩) (fun hout => ⟨fun _ => ?_, fun z => absurd rfl z⟩)
  · refine p_beginX (c := c) (n := n) (D := D) _ hD hin.1 hin.2 (fun t ht h17 hd => ?_)
    exact h1 0 _ 0 _ t (num1_in hin) ⟨by rw [h17]; rfl, by rw [h17]; rfl⟩ (by rw [h17]; rfl) hd (cfr_t (cfr_adv (cfr_adv (cfr_r s))) ht)
  · exact h0 _ _ (num1_out hout) rfl rfl (cfr_adv (cfr_r s))
theorem p_doFree {l : Launch} {G : Geo} {d : Nat} {c : Nat → Nat} {n p : Nat} {D : Dr} (s : St) {Q : Int32 → St → Prop} (hT : tx s c n) (ha : atp s c n p) (hp : p ≤ n) (hD : drX s = D)
  (h1 : ∀ k a b p' t, lineK c n D p 3 = .inr (k, a, b, p') → atp t c n p' → t.1 17 4 = s.1 17 4 → drX t = app c n D k a b → cfr s t → Q 1 t) : DoesI l G (d + 3) 48 [.ref 17] s Q := by
  have hx := nx_le (c := c) hp
  obtain ⟨q1, q2, q3, q4, q5, q6, q7, q8, q9⟩ := dr_len hD
  refine r_X3_doFree s (p_adv s hT ha.2 hx ?_)
  exact h1 3 0 0 _ _ rfl ⟨rfl, rfl⟩ rfl (dr_mk ⟨q1, q2, q3, q4, rfl, rfl, q7, q8, q9⟩) (cfr_p (cfr_p (cfr_adv (cfr_r s)) (by decide) (by decide)) (by decide) (by decide))
theorem p_doNot {l : Launch} {G : Geo} {d : Nat} {c : Nat → Nat} {n p : Nat} {D : Dr} (s : St) {Q : Int32 → St → Prop} (hT : tx s c n) (ha : atp s c n p) (hp : p ≤ n) (hD : drX s = D)
  (h0 : ∀ f t, lineK c n D p 2 = .inl f → t.1 17 2 = nI f → t.1 17 4 = s.1 17 4 → cfr s t → Q 0 t)
  (h1 : ∀ k a b p' t, lineK c n D p 2 = .inr (k, a, b, p') → atp t c n p' → t.1 17 4 = s.1 17 4 → drX t = app c n D k a b → cfr s t → Q 1 t) : DoesI l G (d + 4) 47 [.ref 17] s Q := by
  have hx := nx_le (c := c) hp
  have hx2 := nx_le (c := c) hx
  obtain ⟨q1, q2, q3, q4, q5, q6, q7, q8, q9⟩ := dr_len hD
  refine r_X3_doNot s (p_adv s hT ha.2 hx ?_)
  refine p_take (lo := 0) (hi := 2) _ (adv_tx hT) (adv_atp c n s (nx c n p)) hx rfl rfl (by decide) (by decide) (fun hin => ⟨fun z => absurd z nmv_m1, fun _ => ?_⟩) (fun hout => ⟨fun _ => ?_, fun z => absurd rfl z⟩)
  · refine p_take (lo := 0) (hi := 2) _ (adv_tx (adv_tx hT)) (adv_atp c n _ (nx c n (nx c n p))) hx2 rfl rfl (by decide) (by decide) (fun hin2 => ⟨fun z => absurd z nmv_m1, fun _ => ?_⟩) (fun hout => ⟨fun _ => ?_, fun z => absurd rfl z⟩)
    · refine h1 2 _ _ _ _ (num2_in hin.2 hin2.2) ⟨rfl, rfl⟩ rfl (dr_mk ⟨q1, q2, q3, q4, q5, ?_, q7, q8, q9⟩) (cfr_p (cfr_adv (cfr_adv (cfr_adv (cfr_r s)))) (by decide) (by decide))
      show (s.1 11 4) &&& _ = (dF D) &&& _
      rw [q6]
    · exact h0 _ _ (num2_o2 hin.2 (fun z => hout ⟨Nat.zero_le _, z⟩)) rfl rfl (cfr_adv (cfr_adv (cfr_r s)))
  · exact h0 _ _ (num2_o1 (fun z => hout ⟨Nat.zero_le _, z⟩)) rfl rfl (cfr_adv (cfr_r s))
theorem vsz {s : St} {D : Dr} (hD : drX s = D) (hW : wfD D) : v_X0_size s 15 - 1 = nI (Int32.toNatClampNeg (dV D) - 1) ∧ 1 ≤ Int32.toNatClampNeg (dV D) ∧ Int32.toNatClampNeg (dV D) ≤ 5 ∧ dV D = nI (Int32.toNatClampNeg (dV D)) := by
  obtain ⟨V, v1, v5, ev⟩ := hW.1
  have q1 := (dr_len hD).1
  have nv : Int32.toNatClampNeg (dV D) = V := by rw [ev, nnum (by omega)]
  unfold v_X0_size
  rw [q1, nv, ev, l1, pk_sub v1]
  exact ⟨rfl, v1, v5, rfl⟩
theorem p_doLate {l : Launch} {G : Geo} {d : Nat} {c : Nat → Nat} {n p : Nat} {D : Dr} (s : St) {Q : Int32 → St → Prop} (hT : tx s c n) (ha : atp s c n p) (hp : p ≤ n) (hD : drX s = D) (hW : wfD D)
  (h0 : ∀ f t, lineK c n D p 4 = .inl f → t.1 17 2 = nI f → t.1 17 4 = s.1 17 4 → cfr s t → Q 0 t)
  (h1 : ∀ k a b p' t, lineK c n D p 4 = .inr (k, a, b, p') → atp t c n p' → t.1 17 4 = s.1 17 4 → drX t = app c n D k a b → cfr s t → Q 1 t) : DoesI l G (d + 4) 51 [.ref 17] s Q := by
  have hx := nx_le (c := c) hp
  have hx2 := nx_le (c := c) hx
  obtain ⟨q1, q2, q3, q4, q5, q6, q7, q8, q9⟩ := dr_len hD
  have hv := vsz (s := adv c n s (nx c n p)) hD hW
  refine r_X3_doLate s (p_adv s hT ha.2 hx ?_)
  refine p_take (lo := 0) (hi := Int32.toNatClampNeg (dV D) - 1) _ (adv_tx hT) (adv_atp c n s (nx c n p)) hx rfl hv.1 (by decide) (by omega) (fun hin => ⟨fun z => absurd z nmv_m1, fun _ => ?_⟩) (fun hout => ⟨fun _ => ?_, fun z => absurd rfl z⟩)
  · refine p_take (lo := 0) (hi := 3) _ (adv_tx (adv_tx hT)) (adv_atp c n _ (nx c n (nx c n p))) hx2 rfl rfl (by decide) (by decide) (fun hin2 => ⟨fun z => absurd z nmv_m1, fun _ => ?_⟩) (fun hout => ⟨fun _ => ?_, fun z => absurd rfl z⟩)
    · have hhas : ∀ t : St, t.1 15 1 = s.1 15 1 → b_X0_has t 15 (nI (nmv c n (nx c n p))) := by
        intro t ht
        unfold b_X0_has iP
        rw [ht, q1, hv.2.2.2]
        refine ⟨fun z => absurd z (nneg _ (by omega)), fun _ => ⟨fun _ => trivial, fun z => absurd ?_ z⟩⟩
        rw [nlt (by omega) (by omega)]
        omega
      refine ⟨fun _ => vin (show nmv c n (nx c n p) < 5 by omega) (by decide), ?_⟩
      unfold g_X0_setLate
      rw [iC_t (hhas (adv c n (adv c n (adv c n s (nx c n p)) (nx c n (nx c n p))) (nx c n (nx c n (nx c n p)))) rfl), nnum (by omega)]
      refine h1 4 _ _ _ _ (num2_in hin.2 hin2.2) ⟨rfl, rfl⟩ rfl (dr_mk ⟨q1, q2, q3, ?_, q5, q6, q7, q8, q9⟩) (cfr_p (cfr_adv (cfr_adv (cfr_adv (cfr_r s)))) (by decide) (by decide))
      show tr 5 ((sput s 16 (nmv c n (nx c n p)) (nI (nmv c n (nx c n (nx c n p))))).1 16) = upd (dT D) _ _
      rw [← upd_put, tr_upd (by omega), q4]
    · exact h0 _ _ (num2_o2 hin.2 (fun z => hout ⟨Nat.zero_le _, z⟩)) rfl rfl (cfr_adv (cfr_adv (cfr_r s)))
  · exact h0 _ _ (num2_o1 (fun z => hout ⟨Nat.zero_le _, z⟩)) rfl rfl (cfr_adv (cfr_r s))
theorem p_doAway {l : Launch} {G : Geo} {d : Nat} {c : Nat → Nat} {n p kk : Nat} {x : Int32} {D : Dr} (s : St) {Q : Int32 → St → Prop} (hk : (kk = 5 ∧ x = 1) ∨ (kk = 6 ∧ x = 0)) (hT : tx s c n) (ha : atp s c n p) (hp : p ≤ n) (hD : drX s = D) (hW : wfD D)
  (h0 : ∀ f t, lineK c n D p kk = .inl f → t.1 17 2 = nI f → t.1 17 4 = s.1 17 4 → cfr s t → Q 0 t)
  (h1 : ∀ k a b p' t, lineK c n D p kk = .inr (k, a, b, p') → atp t c n p' → t.1 17 4 = s.1 17 4 → drX t = app c n D k a b → cfr s t → Q 1 t) : DoesI l G (d + 4) 49 [.ref 17, .int x] s Q := by
  have hx := nx_le (c := c) hp
  obtain ⟨q1, q2, q3, q4, q5, q6, q7, q8, q9⟩ := dr_len hD
  have hv := vsz (s := adv c n s (nx c n p)) hD hW
  have hl : lineK c n D p kk = num1 c n kk 0 (Int32.toNatClampNeg (dV D) - 1) (nx c n p) := by rcases hk with ⟨rfl, -⟩ | ⟨rfl, -⟩ <;> rfl
  rw [hl] at h0 h1
  refine r_X3_doAway _ s (p_adv s hT ha.2 hx ?_)
  refine p_take (lo := 0) (hi := Int32.toNatClampNeg (dV D) - 1) _ (adv_tx hT) (adv_atp c n s (nx c n p)) hx rfl hv.1 (by decide) (by omega) (fun hin => ⟨fun z => absurd z nmv_m1, fun _ => ?_⟩) (fun hout => ⟨fun _ => ?_, fun z => absurd rfl z⟩)
  · rcases hk with ⟨rfl, rfl⟩ | ⟨rfl, rfl⟩
    · unfold g_X0_setAway
      rw [iC_f (by decide)]
      refine h1 5 _ _ _ _ (num1_in hin) ⟨rfl, rfl⟩ rfl (dr_mk ⟨q1, ?_, q3, q4, q5, q6, q7, q8, q9⟩) (cfr_p (cfr_adv (cfr_adv (cfr_r s))) (by decide) (by decide))
      show (s.1 15 2) ||| _ = (dA D) ||| _
      rw [q2]
    · unfold g_X0_setAway
      rw [iC_t rfl]
      refine h1 6 _ _ _ _ (num1_in hin) ⟨rfl, rfl⟩ rfl (dr_mk ⟨q1, ?_, q3, q4, q5, q6, q7, q8, q9⟩) (cfr_p (cfr_adv (cfr_adv (cfr_r s))) (by decide) (by decide))
      show (s.1 15 2) &&& _ = (dA D) &&& _
      rw [q2]
  · exact h0 _ _ (num1_out hout) rfl rfl (cfr_adv (cfr_r s))
theorem p_doHoarse {l : Launch} {G : Geo} {d : Nat} {c : Nat → Nat} {n p kk : Nat} {x : Int32} {D : Dr} (s : St) {Q : Int32 → St → Prop} (hk : (kk = 7 ∧ x = 1) ∨ (kk = 8 ∧ x = 0)) (hT : tx s c n) (ha : atp s c n p) (hp : p ≤ n) (hD : drX s = D) (hW : wfD D)
  (h0 : ∀ f t, lineK c n D p kk = .inl f → t.1 17 2 = nI f → t.1 17 4 = s.1 17 4 → cfr s t → Q 0 t)
  (h1 : ∀ k a b p' t, lineK c n D p kk = .inr (k, a, b, p') → atp t c n p' → t.1 17 4 = s.1 17 4 → drX t = app c n D k a b → cfr s t → Q 1 t) : DoesI l G (d + 4) 50 [.ref 17, .int x] s Q := by
  have hx := nx_le (c := c) hp
  obtain ⟨q1, q2, q3, q4, q5, q6, q7, q8, q9⟩ := dr_len hD
  have hv := vsz (s := adv c n s (nx c n p)) hD hW
  have hl : lineK c n D p kk = num1 c n kk 0 (Int32.toNatClampNeg (dV D) - 1) (nx c n p) := by rcases hk with ⟨rfl, -⟩ | ⟨rfl, -⟩ <;> rfl
  rw [hl] at h0 h1
  refine r_X3_doHoarse _ s (p_adv s hT ha.2 hx ?_)
  refine p_take (lo := 0) (hi := Int32.toNatClampNeg (dV D) - 1) _ (adv_tx hT) (adv_atp c n s (nx c n p)) hx rfl hv.1 (by decide) (by omega) (fun hin => ⟨fun z => absurd z nmv_m1, fun _ => ?_⟩) (fun hout => ⟨fun _ => ?_, fun z => absurd rfl z⟩)
  · rcases hk with ⟨rfl, rfl⟩ | ⟨rfl, rfl⟩
    · unfold g_X0_setHoarse
      rw [iC_f (by decide)]
      refine h1 7 _ _ _ _ (num1_in hin) ⟨rfl, rfl⟩ rfl (dr_mk ⟨q1, q2, ?_, q4, q5, q6, q7, q8, q9⟩) (cfr_p (cfr_adv (cfr_adv (cfr_r s))) (by decide) (by decide))
      show (s.1 15 3) ||| _ = (dH D) ||| _
      rw [q3]
    · unfold g_X0_setHoarse
      rw [iC_t rfl]
      refine h1 8 _ _ _ _ (num1_in hin) ⟨rfl, rfl⟩ rfl (dr_mk ⟨q1, q2, ?_, q4, q5, q6, q7, q8, q9⟩) (cfr_p (cfr_adv (cfr_adv (cfr_r s))) (by decide) (by decide))
      show (s.1 15 3) &&& _ = (dH D) &&& _
      rw [q3]
  · exact h0 _ _ (num1_out hout) rfl rfl (cfr_adv (cfr_r s))
theorem p_doWord {l : Launch} {G : Geo} {d : Nat} {c : Nat → Nat} {n p : Nat} {D : Dr} (s : St) {Q : Int32 → St → Prop} (hT : tx s c n) (ha : atp s c n p) (hp : p ≤ n) (hD : drX s = D) (hW : wfD D)
  (h0 : ∀ f t, lineK c n D p 1 = .inl f → t.1 17 2 = nI f → t.1 17 4 = s.1 17 4 → cfr s t → Q 0 t)
  (h1 : ∀ k a b p' t, lineK c n D p 1 = .inr (k, a, b, p') → atp t c n p' → t.1 17 4 = s.1 17 4 → drX t = app c n D k a b → cfr s t → Q 1 t) : DoesI l G (d + 4) 46 [.ref 17] s Q := by
  have h200 := hT.2.1
  have hx := nx_le (c := c) hp
  have hx2 := nx_le (c := c) hx
  have hx3 := nx_le (c := c) hx2
  have hb2 := tB_le (c := c) hx2
  have hg2 : tB c n (nx c n (nx c n p)) ≤ nx c n (nx c n (nx c n p)) := nx_ge
  obtain ⟨-, -, -, -, q5, -⟩ := dr_len hD
  obtain ⟨eN, hN⟩ := rg_num hW.2.2.1 (by decide)
  have hful : b_X9_isFull s 11 ↔ Int32.toNatClampNeg (dN D) = 12 := by
    unfold b_X9_isFull iP
    rw [q5, eN, show (12 : Int32) = nI 12 from rfl, nlt (by omega) (by omega), nnum (by omega)]
    constructor
    · intro q
      exact Classical.byContradiction fun z => q.1 (by omega)
    · intro q
      exact ⟨fun z => by omega, fun _ => trivial⟩
  have hl : lineK c n D p 1 = wordL c n D p := rfl
  rw [hl] at h0 h1
  unfold wordL at h0 h1
  refine r_X3_doWord s ⟨fun nf => p_adv s hT ha.2 hx ?_, fun f => ?_⟩
  · have n12 : ¬ Int32.toNatClampNeg (dN D) = 12 := fun z => nf (hful.mpr z)
    rw [if_neg n12] at h0 h1
    refine p_take (lo := 0) (hi := 2) _ (adv_tx hT) (adv_atp c n s (nx c n p)) hx rfl rfl (by decide) (by decide) (fun hin => ⟨fun z => absurd z nmv_m1, fun _ => ?_⟩) (fun hout => ⟨fun _ => ?_, fun z => absurd rfl z⟩)
    · rw [if_pos hin.2] at h0 h1
      have hT2 : tx (adv c n (adv c n s (nx c n p)) (nx c n (nx c n p))) c n := hT
      have hD2 : drX (adv c n (adv c n s (nx c n p)) (nx c n (nx c n p))) = D := hD
      have cf2 : cfr s (adv c n (adv c n s (nx c n p)) (nx c n (nx c n p))) := cfr_adv (cfr_adv (cfr_r s))
      have f4 : (adv c n (adv c n s (nx c n p)) (nx c n (nx c n p))).1 17 4 = s.1 17 4 := rfl
      have f2 : (adv c n (adv c n s (nx c n p)) (nx c n (nx c n p))).1 17 2 = nI (tB c n (nx c n (nx c n p))) := rfl
      have f3 : (adv c n (adv c n s (nx c n p)) (nx c n (nx c n p))).1 17 3 = nI (nx c n (nx c n (nx c n p))) := rfl
      generalize adv c n (adv c n s (nx c n p)) (nx c n (nx c n p)) = t at *
      generalize hp2 : nx c n (nx c n p) = p2 at *
      rw [f2, f3]
      have bad : ¬ wordOK c n D p2 → Q 0 t := fun hw => h0 _ t (by rw [iC_f hw]) f2 f4 cf2
      refine ⟨tx_ok hT2 _, ?_⟩
      by_cases hbn : tB c n p2 < n
      · have hc := (hT.2.2 (tB c n p2)).2
        rw [tx_at hT2 hbn, show (97 : Int32) = nI 97 from rfl, show (122 : Int32) = nI 122 from rfl]
        refine ⟨fun z => ?_, fun z => ⟨tx_ok hT2 _, fun y => ?_, fun y => ⟨fun w => ?_, fun w => ?_⟩⟩⟩
        · rw [nlt (by omega) (by omega)] at z
          exact bad (fun q => by have := q.1.2.1; omega)
        · rw [nlt (by omega) (by omega)] at y
          exact bad (fun q => by have := q.1.2.2; omega)
        · rw [pk_sub hg2, show (10 : Int32) = nI 10 from rfl, nlt (by omega) (by omega)] at w
          exact bad (fun q => by have := q.2.1; omega)
        · rw [nlt (by omega) (by omega)] at y z
          rw [pk_sub hg2, show (10 : Int32) = nI 10 from rfl, nlt (by omega) (by omega)] at w
          have hlet : tB c n p2 < n ∧ 97 ≤ c (tB c n p2) ∧ c (tB c n p2) ≤ 122 := ⟨hbn, by omega, by omega⟩
          have hnx : nx c n p2 = eRow c n 97 122 (tB c n p2) := tE_let hlet
          have hgt : tB c n p2 < tE c n (tB c n p2) := tE_gt hbn
          have hgt' : tB c n p2 < nx c n p2 := hgt
          have hall : ∀ j, tB c n p2 ≤ j → j < nx c n p2 → 97 ≤ c j := fun j j1 j2 => (eRow_at (c := c) (n := n) (lo := 97) (hi := 122) (p := tB c n p2) j1 (by omega)).2.1
          refine p_toldX t hT2 hD2 hW hg2 hx3 hall ⟨fun v => ?_, fun v => ?_⟩
          · have hok : wordOK c n D p2 := ⟨hlet, by omega, bI_n v⟩
            rw [f2, f3]
            refine p_appX t hT2 hD2 hW (by omega) hgt' (by omega) hx3 hall (by unfold lrow; omega) (fun u hu h17 hd => ?_)
            refine p_adv u (cfr_tx hu hT2) (by rw [h17, f3]) hx3 ?_
            exact h1 1 _ _ _ _ (by rw [iC_t hok]) ⟨rfl, rfl⟩ (by show u.1 17 4 = _; rw [h17, f4]) hd (cfr_adv (cfr_t cf2 hu))
          · exact bad (fun q => q.2.2 (bI_p v))
      · rw [tx_out hT2 (by omega) (by omega)]
        exact ⟨fun _ => bad (fun q => hbn q.1.1), fun z => absurd (by decide) z⟩
    · exact h0 _ _ (by rw [if_neg (fun z => hout ⟨Nat.zero_le _, z⟩)]) rfl rfl (cfr_adv (cfr_r s))
  · exact h0 _ s (by rw [if_pos (hful.mp f)]) ha.1 rfl (cfr_r s)
