/-! the word that some voices say; classes counted -/
noncomputable def v_X2_wordSaidBy (s : St) (x1 x2 : Int32) : Int32 := findF (fun q => sayP (Int32.toNatClampNeg (s.1 8 1)) x2 (s.1 5) (Int32.toNatClampNeg (s.1 6 (Int32.toNatClampNeg x1))) (Int32.toNatClampNeg (s.1 6 q)) (Int32.toNatClampNeg x1) q) (Int32.toNatClampNeg (s.1 4 3)) 0
def ok_X2_wordSaidBy (s : St) (x1 _x2 : Int32) : Prop := wlR s 4 ∧ chR s 8 ∧ ∃ w, w < Int32.toNatClampNeg (s.1 4 3) ∧ x1 = nI w
theorem p_X2_wordSaidBy {l : Launch} {G : Geo} {d : Nat} (x1 x2 : Int32) (s : St) {Q : Int32 → St → Prop} (hok : ok_X2_wordSaidBy s x1 x2) (h : Q (v_X2_wordSaidBy s x1 x2) s) : DoesI l G (d + 3) 27 [.ref 45, .int x1, .int x2] s Q := by
  obtain ⟨hW, hC, w, hw, rfl⟩ := hok
  obtain ⟨ez, hz⟩ := siz4 hW
  unfold v_X2_wordSaidBy at h
  rw [nnum (by omega)] at h
  have loop : ∀ m q, q + m = Int32.toNatClampNeg (s.1 4 3) → Q (findF (fun q => sayP (Int32.toNatClampNeg (s.1 8 1)) x2 (s.1 5) (Int32.toNatClampNeg (s.1 6 w)) (Int32.toNatClampNeg (s.1 6 q)) w q) m q) s → AtA l G (d + 3) sX2_wordSaidBy 2 [.ref 45, .int (nI w), .int x2, .int (nI q)] [] s (pI Q) := by
    intro m
    induction m with
    | zero =>
      intro q hq h
      refine r_X2_wordSaidBy_2 _ _ _ s ⟨fun z => ?_, fun _ => h⟩
      have z : nI q < s.1 4 3 := z
      rw [ez, nlt (by omega) (by omega)] at z
      omega
    | succ m ih =>
      intro q hq h
      have h : Q (iC (sayP (Int32.toNatClampNeg (s.1 8 1)) x2 (s.1 5) (Int32.toNatClampNeg (s.1 6 w)) (Int32.toNatClampNeg (s.1 6 q)) w q) (nI q) (findF (fun q => sayP (Int32.toNatClampNeg (s.1 8 1)) x2 (s.1 5) (Int32.toNatClampNeg (s.1 6 w)) (Int32.toNatClampNeg (s.1 6 q)) w q) m (q + 1))) s := h
      have hb : b_X2_isSaidBy s (nI w) x2 (nI q) ↔ sayP (Int32.toNatClampNeg (s.1 8 1)) x2 (s.1 5) (Int32.toNatClampNeg (s.1 6 w)) (Int32.toNatClampNeg (s.1 6 q)) w q := by
        unfold b_X2_isSaidBy
        rw [nnum (by omega), nnum (by omega)]
      refine r_X2_wordSaidBy_2 _ _ _ s ⟨fun _ => ⟨⟨hW, hC, ⟨w, hw, rfl⟩, q, by omega, rfl⟩, fun z => ?_, fun z => ?_⟩, fun z => ?_⟩
      · rw [iC_f (fun k => z (hb.mpr k))] at h
        rw [nI_1]
        exact ih (q + 1) (by omega) h
      · rw [iC_t (hb.mp z)] at h
        exact h
      · have z : ¬ nI q < s.1 4 3 := z
        rw [ez, nlt (by omega) (by omega)] at z
        omega
  exact r_X2_wordSaidBy _ _ s (loop _ 0 (Nat.zero_add _) h)
theorem by_eq {s : St} (h : RI s) (x1 x2 : Int32) : v_X2_wordSaidBy s x1 x2 = v_X11_wordBy s x1 x2 := by
  obtain ⟨-, ⟨-, -, c3, -⟩, ⟨-, -, -, -, -, w6, w7, w8, w9, w10⟩, -⟩ := h
  unfold v_X2_wordSaidBy v_X11_wordBy
  rw [c3, w6, w8, w9]
theorem one_iff {s : St} (hW : wlR s 4) {V a b v : Nat} (hV : s.1 8 1 = nI V) (v1 : 1 ≤ V) (v5 : V ≤ 5) (ha : a < Int32.toNatClampNeg (s.1 4 3)) (hb : b < Int32.toNatClampNeg (s.1 4 3)) (hv : v < V) : b_X2_isOneClass s (nI v) (nI a) (nI b) ↔ clsP V (s.1 5) (s.1 6) a b v := by
  obtain ⟨ez, hz⟩ := siz4 hW
  unfold b_X2_isOneClass clsP
  rw [v_len4 hW ha, v_len4 hW hb]
  have e1 : v_X2_voicesThatDiffer s (nI a) (nI b) = difM V (s.1 5) a b (Int32.toNatClampNeg (s.1 6 a)) := by
    unfold v_X2_voicesThatDiffer
    rw [hV, nnum (by omega), nnum (by omega), nnum (by omega)]
  rw [e1]
  by_cases c : s.1 6 a = s.1 6 b
  · rw [iP_t c, propext (bit0 (show v < 32 by omega))]
    have hd := difM_bit (lt := s.1 5) (a := a) (b := b) v1 v5 (v := v) (by omega) (Int32.toNatClampNeg (s.1 6 a))
    constructor
    · intro q
      refine ⟨c, fun i hi hiv => Classical.byContradiction fun z => ?_⟩
      have q1 : bt (difM V (s.1 5) a b (Int32.toNatClampNeg (s.1 6 a))) v = false := Classical.byContradiction fun z2 => q.2 z2
      rw [hd.mpr ⟨i, hi, hiv, z⟩] at q1
      exact absurd q1 (by decide)
    · rintro ⟨-, q⟩
      refine ⟨fun _ => trivial, fun z => ?_⟩
      have z : bt (difM V (s.1 5) a b (Int32.toNatClampNeg (s.1 6 a))) v = true := by simpa using z
      obtain ⟨i, hi, hiv, hne⟩ := hd.mp z
      exact hne (q i hi hiv)
  · rw [iP_f c]
    exact ⟨fun q => q.elim, fun q => c q.1⟩
theorem ok_one {s : St} (hW : wlR s 4) (hC : chR s 8) {a b : Nat} (ha : a < Int32.toNatClampNeg (s.1 4 3)) (hb : b < Int32.toNatClampNeg (s.1 4 3)) (x : Int32) : ok_X2_isOneClass s x (nI a) (nI b) :=
  ⟨ok_len (Or.inl rfl) hW _, ok_len (Or.inl rfl) hW _, fun q => ⟨hW, hC, a, b, ha, hb, rfl, rfl, by rw [v_len4 hW ha, v_len4 hW hb] at q; exact q⟩⟩
noncomputable def v_X2_sumOfClassSizes (s : St) (x1 : Int32) : Int32 := nI (sumN (fun a => cntN (fun b => clsP (Int32.toNatClampNeg (s.1 8 1)) (s.1 5) (s.1 6) a b (Int32.toNatClampNeg x1)) (Int32.toNatClampNeg (s.1 4 3))) (Int32.toNatClampNeg (s.1 4 3)))
noncomputable def v_X2_countClasses (s : St) (x1 : Int32) : Int32 := nI (cntN (fun a => ∀ b, b < a → ¬ clsP (Int32.toNatClampNeg (s.1 8 1)) (s.1 5) (s.1 6) a b (Int32.toNatClampNeg x1)) (Int32.toNatClampNeg (s.1 4 3)))
def ok_X2_sumOfClassSizes (s : St) (x1 : Int32) : Prop := wlR s 4 ∧ chR s 8 ∧ ∃ v, v < Int32.toNatClampNeg (s.1 8 1) ∧ x1 = nI v
def ok_X2_countClasses (s : St) (x1 : Int32) : Prop := wlR s 4 ∧ chR s 8 ∧ ∃ v, v < Int32.toNatClampNeg (s.1 8 1) ∧ x1 = nI v
theorem sumN_le {f : Nat → Nat} {c : Nat} : ∀ n, (∀ j, j < n → f j ≤ c) → sumN f n ≤ n * c
  | 0, _ => Nat.zero_le _
  | n + 1, h => by
    have := sumN_le n (fun j hj => h j (by omega))
    have h2 := h n (by omega)
    show sumN f n + f n ≤ (n + 1) * c
    rw [Nat.succ_mul]
    omega
theorem p_X2_sumOfClassSizes {l : Launch} {G : Geo} {d : Nat} (x1 : Int32) (s : St) {Q : Int32 → St → Prop} (hok : ok_X2_sumOfClassSizes s x1) (h : Q (v_X2_sumOfClassSizes s x1) s) : DoesI l G (d + 4) 32 [.ref 45, .int x1] s Q := by
  obtain ⟨hW, hC, v, hv, rfl⟩ := hok
  obtain ⟨⟨V, v1, v5, hV⟩, -⟩ := id hC
  obtain ⟨ez, hz⟩ := siz4 hW
  rw [hV, nnum (by omega)] at hv
  unfold v_X2_sumOfClassSizes at h
  rw [hV, nnum (by omega), nnum (by omega)] at h
  have inner : ∀ a acc, a < Int32.toNatClampNeg (s.1 4 3) → AtA l G (d + 4) sX2_sumOfClassSizes 4 [.ref 45, .int (nI v), .int (nI (acc + cntN (fun b => clsP V (s.1 5) (s.1 6) a b v) (Int32.toNatClampNeg (s.1 4 3)))), .int (nI (a + 1)), .null] [] s (pI Q) → ∀ m b, b + m = Int32.toNatClampNeg (s.1 4 3) → AtA l G (d + 4) sX2_sumOfClassSizes 18 [.ref 45, .int (nI v), .int (nI (acc + cntN (fun b => clsP V (s.1 5) (s.1 6) a b v) b)), .int (nI a), .int (nI b)] [] s (pI Q) := by
    intro a acc ha kk m
    induction m with
    | zero =>
      intro b hb
      have : b = Int32.toNatClampNeg (s.1 4 3) := by omega
      subst this
      refine r_X2_sumOfClassSizes_18 _ _ _ _ s ⟨fun z => ?_, fun _ => ?_⟩
      · have z : nI (Int32.toNatClampNeg (s.1 4 3)) < s.1 4 3 := z
        rw [← ez] at z
        exact (Int32.lt_irrefl z).elim
      · rw [nI_1]
        exact kk
    | succ m ih =>
      intro b hb
      have ihh := ih (b + 1) (by omega)
      have h1 := one_iff hW hV v1 v5 ha (show b < Int32.toNatClampNeg (s.1 4 3) by omega) hv
      refine r_X2_sumOfClassSizes_18 _ _ _ _ s ⟨fun _ => ⟨ok_one hW hC ha (by omega) _, fun z => ?_, fun z => ?_⟩, fun z => ?_⟩
      · rw [cnt_f (P := fun b => clsP V (s.1 5) (s.1 6) a b v) (fun k => z (h1.mpr k))] at ihh
        rw [nI_1]
        exact ihh
      · rw [cnt_t (P := fun b => clsP V (s.1 5) (s.1 6) a b v) (h1.mp z)] at ihh
        rw [nI_1, nI_1]
        exact ihh
      · have z : ¬ nI b < s.1 4 3 := z
        rw [ez, nlt (by omega) (by omega)] at z
        omega
  have outer : ∀ m a, a + m = Int32.toNatClampNeg (s.1 4 3) → AtA l G (d + 4) sX2_sumOfClassSizes 4 [.ref 45, .int (nI v), .int (nI (sumN (fun a => cntN (fun b => clsP V (s.1 5) (s.1 6) a b v) (Int32.toNatClampNeg (s.1 4 3))) a)), .int (nI a), .null] [] s (pI Q) := by
    intro m
    induction m with
    | zero =>
      intro a ha
      have : a = Int32.toNatClampNeg (s.1 4 3) := by omega
      subst this
      refine r_X2_sumOfClassSizes_4 _ _ _ s ⟨fun z => ?_, fun _ => h⟩
      have z : nI (Int32.toNatClampNeg (s.1 4 3)) < s.1 4 3 := z
      rw [← ez] at z
      exact (Int32.lt_irrefl z).elim
    | succ m ih =>
      intro a ha
      refine r_X2_sumOfClassSizes_4 _ _ _ s ⟨fun _ => ?_, fun z => ?_⟩
      · exact inner a _ (by omega) (ih (a + 1) (by omega)) _ 0 (Nat.zero_add _)
      · have z : ¬ nI a < s.1 4 3 := z
        rw [ez, nlt (by omega) (by omega)] at z
        omega
  exact r_X2_sumOfClassSizes _ s (outer _ 0 (Nat.zero_add _))
theorem p_X2_countClasses {l : Launch} {G : Geo} {d : Nat} (x1 : Int32) (s : St) {Q : Int32 → St → Prop} (hok : ok_X2_countClasses s x1) (h : Q (v_X2_countClasses s x1) s) : DoesI l G (d + 4) 33 [.ref 45, .int x1] s Q := by
  obtain ⟨hW, hC, v, hv, rfl⟩ := hok
  obtain ⟨⟨V, v1, v5, hV⟩, -⟩ := id hC
  obtain ⟨ez, hz⟩ := siz4 hW
  rw [hV, nnum (by omega)] at hv
  unfold v_X2_countClasses at h
  rw [hV, nnum (by omega), nnum (by omega)] at h
  have inner : ∀ a acc, a < Int32.toNatClampNeg (s.1 4 3) → ((∀ b, b < a → ¬ clsP V (s.1 5) (s.1 6) a b v) → AtA l G (d + 4) sX2_countClasses 4 [.ref 45, .int (nI v), .int (nI (acc + 1)), .int (nI (a + 1)), .null] [] s (pI Q)) → ((∃ b, b < a ∧ clsP V (s.1 5) (s.1 6) a b v) → AtA l G (d + 4) sX2_countClasses 4 [.ref 45, .int (nI v), .int (nI acc), .int (nI (a + 1)), .null] [] s (pI Q)) → ∀ m b, b + m = a → (∀ j, j < b → ¬ clsP V (s.1 5) (s.1 6) a j v) → AtA l G (d + 4) sX2_countClasses 18 [.ref 45, .int (nI v), .int (nI acc), .int (nI a), .int (nI b)] [] s (pI Q) := by
    intro a acc ha kt kf m
    induction m with
    | zero =>
      intro b hb hp
      have : b = a := by omega
      subst this
      refine r_X2_countClasses_18 _ _ _ _ s ⟨fun z => (Int32.lt_irrefl z).elim, fun _ => ⟨fun _ => ?_, fun z => absurd rfl z⟩⟩
      rw [nI_1, nI_1]
      exact kt hp
    | succ m ih =>
      intro b hb hp
      have h1 := one_iff hW hV v1 v5 ha (show b < Int32.toNatClampNeg (s.1 4 3) by omega) hv
      refine r_X2_countClasses_18 _ _ _ _ s ⟨fun _ => ⟨ok_one hW hC ha (by omega) _, fun z => ?_, fun z => ⟨fun z2 => ?_, fun z2 => ?_⟩⟩, fun z => ?_⟩
      · rw [nI_1]
        exact ih (b + 1) (by omega) (lt_s hp (fun k => z (h1.mpr k)))
      · rw [neq (by omega) (by omega)] at z2
        omega
      · rw [nI_1]
        exact kf ⟨b, by omega, h1.mp z⟩
      · rw [nlt (by omega) (by omega)] at z
        omega
  have outer : ∀ m a, a + m = Int32.toNatClampNeg (s.1 4 3) → AtA l G (d + 4) sX2_countClasses 4 [.ref 45, .int (nI v), .int (nI (cntN (fun a => ∀ b, b < a → ¬ clsP V (s.1 5) (s.1 6) a b v) a)), .int (nI a), .null] [] s (pI Q) := by
    intro m
    induction m with
    | zero =>
      intro a ha
      have : a = Int32.toNatClampNeg (s.1 4 3) := by omega
      subst this
      refine r_X2_countClasses_4 _ _ _ s ⟨fun z => ?_, fun _ => h⟩
      have z : nI (Int32.toNatClampNeg (s.1 4 3)) < s.1 4 3 := z
      rw [← ez] at z
      exact (Int32.lt_irrefl z).elim
    | succ m ih =>
      intro a ha
      have ihh := ih (a + 1) (by omega)
      refine r_X2_countClasses_4 _ _ _ s ⟨fun _ => ?_, fun z => ?_⟩
      · refine inner a _ (by omega) (fun k => ?_) (fun k => ?_) a 0 (Nat.zero_add _) (fun j hj => absurd hj (Nat.not_lt_zero j))
        · rw [cnt_t (P := fun a => ∀ b, b < a → ¬ clsP V (s.1 5) (s.1 6) a b v) k] at ihh
          exact ihh
        · obtain ⟨b, hb, hk⟩ := k
          rw [cnt_f (P := fun a => ∀ b, b < a → ¬ clsP V (s.1 5) (s.1 6) a b v) (fun q => q b hb hk)] at ihh
          exact ihh
      · have z : ¬ nI a < s.1 4 3 := z
        rw [ez, nlt (by omega) (by omega)] at z
        omega
  exact r_X2_countClasses _ s (outer _ 0 (Nat.zero_add _))
/-- the reference's own counts of the classes -/
theorem at_learnt {l : Launch} {G : Geo} {s : St} {Q : Int32 → St → Prop} (hM : mdR s) {V v : Nat} (hV : s.1 51 0 = nI V) (v5 : V ≤ 5) (hv : v < V) {x2 x3 : Int32} (kk : AtA l G 20 sX11_learnt 51 [.ref 51, .int (nI v), .int x2, .int x3, .int (nI (sumN (fun a => cntN (fun b => clsP V (s.1 55) (s.1 54) a b v) (Int32.toNatClampNeg (s.1 51 4))) (Int32.toNatClampNeg (s.1 51 4)))), .int (nI (cntN (fun a => ∀ b, b < a → ¬ clsP V (s.1 55) (s.1 54) a b v) (Int32.toNatClampNeg (s.1 51 4)))), .int (nI (Int32.toNatClampNeg (s.1 51 4))), .null, .null, .null] [] s (pI Q)) : AtA l G 20 sX11_learnt 51 [.ref 51, .int (nI v), .int x2, .int x3, .int 0, .int 0, .int 0, .null, .null, .null] [] s (pI Q) := by
  obtain ⟨ez, hz⟩ := rg_num hM.1 (by decide)
  have hcl : ∀ a b, a < Int32.toNatClampNeg (s.1 51 4) → b < Int32.toNatClampNeg (s.1 51 4) → (b_X11_isClassed s (nI a) (nI b) (nI v) ↔ clsP V (s.1 55) (s.1 54) a b v) := by
    intro a b ha hb
    unfold b_X11_isClassed
    rw [hV, nnum (by omega), nnum (by omega), nnum (by omega), nnum (by omega)]
  have hokc : ∀ a b, a < Int32.toNatClampNeg (s.1 51 4) → b < Int32.toNatClampNeg (s.1 51 4) → ok_X11_isClassed s (nI a) (nI b) (nI v) := fun a b ha hb => ⟨hM, a, b, v, ha, hb, by rw [hV, nnum (by omega)]; exact hv, rfl, rfl, rfl⟩
  have inner : ∀ a pa ca, a < Int32.toNatClampNeg (s.1 51 4) → ((∀ b, b < a → ¬ clsP V (s.1 55) (s.1 54) a b v) → AtA l G 20 sX11_learnt 51 [.ref 51, .int (nI v), .int x2, .int x3, .int (nI (pa + cntN (fun b => clsP V (s.1 55) (s.1 54) a b v) (Int32.toNatClampNeg (s.1 51 4)))), .int (nI (ca + 1)), .int (nI (a + 1)), .null, .null, .null] [] s (pI Q)) → ((¬ ∀ b, b < a → ¬ clsP V (s.1 55) (s.1 54) a b v) → AtA l G 20 sX11_learnt 51 [.ref 51, .int (nI v), .int x2, .int x3, .int (nI (pa + cntN (fun b => clsP V (s.1 55) (s.1 54) a b v) (Int32.toNatClampNeg (s.1 51 4)))), .int (nI ca), .int (nI (a + 1)), .null, .null, .null] [] s (pI Q)) → ∀ m b, b + m = Int32.toNatClampNeg (s.1 51 4) → ∀ f : Int32, (f = 1 ∧ (∀ j, j < b → j < a → ¬ clsP V (s.1 55) (s.1 54) a j v)) ∨ (f = 0 ∧ ¬ ∀ b, b < a → ¬ clsP V (s.1 55) (s.1 54) a b v) → AtA l G 20 sX11_learnt 66 [.ref 51, .int (nI v), .int x2, .int x3, .int (nI (pa + cntN (fun b => clsP V (s.1 55) (s.1 54) a b v) b)), .int (nI ca), .int (nI a), .int f, .int (nI b), .null] [] s (pI Q) := by
    intro a pa ca ha kt kf m
    induction m with
    | zero =>
      intro b hb f hf
      have : b = Int32.toNatClampNeg (s.1 51 4) := by omega
      subst this
      refine r_X11_learnt_66 _ _ _ _ _ _ _ _ s ⟨fun z => ?_, fun _ => ⟨fun z => ?_, fun z => ?_⟩⟩
      · rw [← ez] at z
        exact (Int32.lt_irrefl z).elim
      · rw [l0, nI_add, nI_1]
        exact kf (hf.elim (fun k => absurd (k.1.symm.trans z) (by decide)) (fun k => k.2))
      · rw [nI_1, nI_1]
        exact kt (hf.elim (fun k j hj => k.2 j (by omega) hj) (fun k => absurd k.1 z))
    | succ m ih =>
      intro b hb f hf
      have ihh := ih (b + 1) (by omega)
      have h1 := hcl a b ha (by omega)
      have e0 : ∀ n : Nat, (nI n + 0 : Int32) = nI n := fun n => by rw [l0, nI_add]; rfl
      refine r_X11_learnt_66 _ _ _ _ _ _ _ _ s ⟨fun _ => ⟨hokc a b ha (by omega), fun z => ?_, fun z => ?_⟩, fun z => ?_⟩
      · have hn : ¬ clsP V (s.1 55) (s.1 54) a b v := fun k => z (h1.mpr k)
        rw [cnt_f (P := fun b => clsP V (s.1 55) (s.1 54) a b v) hn] at ihh
        rw [e0, nI_1]
        refine ⟨fun z2 => ?_, fun z2 => ⟨fun _ => ?_, fun z3 => absurd z3 z⟩⟩
        · exact ihh 0 (Or.inr ⟨rfl, hf.elim (fun k => absurd (k.1.symm.trans z2) (by decide)) (fun k => k.2)⟩)
        · exact ihh 1 (Or.inl ⟨rfl, hf.elim (fun k => lt_s k.2 (fun _ => hn)) (fun k => absurd k.1 z2)⟩)
      · have hn := h1.mp z
        rw [cnt_t (P := fun b => clsP V (s.1 55) (s.1 54) a b v) hn] at ihh
        rw [nI_1, nI_1]
        refine ⟨fun z2 => ?_, fun z2 => ⟨fun z3 => absurd z z3, fun _ => ⟨fun z4 => ?_, fun z4 => ?_⟩⟩⟩
        · exact ihh 0 (Or.inr ⟨rfl, hf.elim (fun k => absurd (k.1.symm.trans z2) (by decide)) (fun k => k.2)⟩)
        · rw [nlt (by omega) (by omega)] at z4
          exact ihh 0 (Or.inr ⟨rfl, fun k => k b z4 hn⟩)
        · rw [nlt (by omega) (by omega)] at z4
          exact ihh 1 (Or.inl ⟨rfl, hf.elim (fun k => lt_s k.2 (fun q => absurd q z4)) (fun k => absurd k.1 z2)⟩)
      · rw [ez, nlt (by omega) (by omega)] at z
        omega
  have outer : ∀ m a, a + m = Int32.toNatClampNeg (s.1 51 4) → AtA l G 20 sX11_learnt 51 [.ref 51, .int (nI v), .int x2, .int x3, .int (nI (sumN (fun a => cntN (fun b => clsP V (s.1 55) (s.1 54) a b v) (Int32.toNatClampNeg (s.1 51 4))) a)), .int (nI (cntN (fun a => ∀ b, b < a → ¬ clsP V (s.1 55) (s.1 54) a b v) a)), .int (nI a), .null, .null, .null] [] s (pI Q) := by
    intro m
    induction m with
    | zero =>
      intro a ha
      have : a = Int32.toNatClampNeg (s.1 51 4) := by omega
      subst this
      exact kk
    | succ m ih =>
      intro a ha
      have ihh := ih (a + 1) (by omega)
      refine r_X11_learnt_51 _ _ _ _ _ _ s ⟨fun _ => ?_, fun z => ?_⟩
      · refine inner a _ _ (by omega) (fun k => ?_) (fun k => ?_) _ 0 (Nat.zero_add _) 1 (Or.inl ⟨rfl, fun j hj => absurd hj (Nat.not_lt_zero j)⟩)
        · rw [cnt_t (P := fun a => ∀ b, b < a → ¬ clsP V (s.1 55) (s.1 54) a b v) k] at ihh
          exact ihh
        · rw [cnt_f (P := fun a => ∀ b, b < a → ¬ clsP V (s.1 55) (s.1 54) a b v) k] at ihh
          exact ihh
      · rw [ez, nlt (by omega) (by omega)] at z
        omega
  exact outer _ 0 (Nat.zero_add _)
