/-! seats by the class: the sets, the voices one after another -/
def st3 (s : St) (F F' E : Nat → Int32) : St := sarr (st2 s F F') 50 E
noncomputable def coN (V : Nat) (s : St) (v t : Nat) : Nat := pick (b_X0_isAway s 8 (nI v)) (b_X0_isHoarse s 8 (nI v)) (Lc V s t) (Sc V s t)
theorem lc_le {s : St} (hW : wlR s 4) (V t : Nat) : Lc V s t ≤ 120 ∧ Sc V s t ≤ 120 := by
  obtain ⟨ez, hz⟩ := siz4 hW
  have h1 := sumN_le (f := fun w => lW V t (Int32.toNatClampNeg (s.1 6 w))) (c := 10) (Int32.toNatClampNeg (s.1 4 3)) (fun w _ => by
    have := cnt_le (fun i => i % V = t) (Int32.toNatClampNeg (s.1 6 w))
    have := (len4 hW w).2
    show lW V t (Int32.toNatClampNeg (s.1 6 w)) ≤ 10
    unfold lW
    omega)
  have h2 := sumN_le (f := fun w => sW V t (Int32.toNatClampNeg (s.1 6 w))) (c := 10) (Int32.toNatClampNeg (s.1 4 3)) (fun w _ => by
    have := cnt_le (fun i => i % V = t ∧ i / V % 2 = 1) (Int32.toNatClampNeg (s.1 6 w))
    have := (len4 hW w).2
    show sW V t (Int32.toNatClampNeg (s.1 6 w)) ≤ 10
    unfold sW
    omega)
  unfold Lc Sc
  omega
theorem co_le {s : St} (hW : wlR s 4) (V v t : Nat) : coN V s v t ≤ 120 := by
  obtain ⟨h1, h2⟩ := lc_le hW V t
  unfold coN pick
  by_cases a : b_X0_isAway s 8 (nI v)
  · rw [iC_t a]; exact h1
  · rw [iC_f a]
    by_cases h : b_X0_isHoarse s 8 (nI v)
    · rw [iC_t h]; exact h2
    · rw [iC_f h]; omega
theorem pc_lt {V S : Nat} (h5 : V ≤ 5) (hS : S < 2 ^ V - 1) : pcN S < V := by
  have hle : pcN S ≤ V := by
    have : S < 2 ^ V := by omega
    rw [pc_B]
    exact (by decide +kernel : ∀ V, V < 6 → ∀ S, S < 2 ^ V → pcB S 12 ≤ V) V (by omega) S this
  have : pcN S ≠ V := fun q => by
    have := (full_tab V (by omega)).2 S (by omega) (by rw [← pc_B]; exact q)
    omega
  omega
theorem fw_v {s : St} (hW : wlR s 4) {V S u : Nat} (h5 : V ≤ 5) {F F' E : Nat → Int32} (hF : ∀ t, t < 5 → F t = nI (Lc V s t)) (hF' : ∀ t, t < 5 → F' t = nI (Sc V s t)) (hS : S < 2 ^ V - 1) (hu : u < V) (hE : E (S ||| 2 ^ u) = nI (Int32.toNatClampNeg (E (S ||| 2 ^ u)))) : ok_X5_fewestWith (st3 s F F' E) (nI S) (nI u) ∧ v_X5_fewestWith (st3 s F F' E) (nI S) (nI u) = nI (coN V s u (pcN S) + Int32.toNatClampNeg (E (S ||| 2 ^ u))) := by
  have hp := pc_lt h5 hS
  have h32 : 2 ^ V ≤ 32 := Nat.pow_le_pow_right (by decide) h5
  have ho := or_lt (S := S) (v := u) (V := V) (by omega) hu
  have eb : v_J6_bitCount_0f7a4 (st3 s F F' E) (nI S) = nI (pcN S) := bc_eq (by omega)
  have ix : (nI S ||| ((1 : Int32) <<< (nI u &&& 31))) = nI (S ||| 2 ^ u) := by rw [nn_1 (by omega), nn_or]
  have hin : vp_in (nI (pcN S)) 5 := vin (show pcN S < 5 by omega) (by decide)
  constructor
  · intro _
    rw [eb, ix]
    exact ⟨⟨fun _ _ => hin, fun _ => hin⟩, vin (show S ||| 2 ^ u < 32 by omega) (by decide)⟩
  · unfold v_X5_fewestWith
    rw [iC_f (nI_m1 (by omega)), eb, ix, nnum (by omega)]
    have es : v_X5_spoiltBy (st3 s F F' E) (nI u) (nI (pcN S)) = nI (coN V s u (pcN S)) := by
      show iC (b_X0_isAway s 8 (nI u)) (F (Int32.toNatClampNeg (nI (pcN S)))) (iC (b_X0_isHoarse s 8 (nI u)) (F' (Int32.toNatClampNeg (nI (pcN S)))) 0) = _
      rw [nnum (by omega), hF _ (by omega), hF' _ (by omega)]
      unfold coN pick
      by_cases a : b_X0_isAway s 8 (nI u)
      · rw [iC_t a, iC_t a]
      · rw [iC_f a, iC_f a]
        by_cases h : b_X0_isHoarse s 8 (nI u)
        · rw [iC_t h, iC_t h]
        · rw [iC_f h, iC_f h]; rfl
    rw [es, ← nI_add, ← hE]
    rfl
/-- what stands in the row of sets from k on -/
def setI (V : Nat) (co : Nat → Nat → Nat) (E : Nat → Int32) (k : Nat) : Prop := E (2 ^ V - 1) = 0 ∧ (∀ T, k ≤ T → T < 2 ^ V - 1 → ∃ v, BestF V co (fun T => Int32.toNatClampNeg (E T)) T v) ∧ ∀ T, k ≤ T → T < 2 ^ V → E T = nI (Int32.toNatClampNeg (E T)) ∧ Int32.toNatClampNeg (E T) + 120 * pcN T ≤ 600
theorem un_full {V S : Nat} (hS : S < 2 ^ V - 1) : ∃ u, u < V ∧ S.testBit u = false := Classical.byContradiction fun z => by
  have : S = 2 ^ V - 1 := Nat.eq_of_testBit_eq fun i => by
    rw [Nat.testBit_two_pow_sub_one]
    by_cases h : i < V
    · rw [decide_eq_true h]
      cases c : S.testBit i with
      | true => rfl
      | false => exact absurd ⟨i, h, c⟩ z
    · rw [decide_eq_false h]
      exact tb_hi (k := V) (by omega) (by omega)
  omega
theorem two_le {V : Nat} (h : 1 ≤ V) : 2 ≤ 2 ^ V := by
  have := Nat.pow_le_pow_right (n := 2) (by decide) h
  exact this
theorem p_prep {l : Launch} {G : Geo} {d : Nat} {s : St} (hW : wlR s 4) (hC : chR s 8) {V : Nat} (hV : s.1 8 1 = nI V) (h1 : 1 ≤ V) (h5 : V ≤ 5) {Q : St → Prop} (hQ : ∀ F F' E, (∀ t, t < 5 → F t = nI (Lc V s t)) → (∀ t, t < 5 → F' t = nI (Sc V s t)) → setI V (coN V s) E 0 → Q (st3 s F F' E)) : DoesV l G (d + 5) 58 [.ref 47] s Q := by
  have h32 : 2 ^ V ≤ 32 := Nat.pow_le_pow_right (by decide) h5
  have h2 : 2 ≤ 2 ^ V := two_le h1
  refine r_X5_prepare s (p_cls (d := d + 1) hW hC hV h1 h5 (fun F F' hF hF' => ?_))
  have eall : ∀ E, v_X0_allVoices (st3 s F F' E) 8 = nI (2 ^ V - 1) := fun E => by
    show ((1 : Int32) <<< (s.1 8 1 &&& 31)) - 1 = _
    rw [hV, nn_1 (by omega), show 2 ^ V = (2 ^ V - 1) + 1 by omega, nI_pred]
    rfl
  have e0 : st2 s F F' = st3 s F F' (s.1 50) := by
    unfold st3
    exact (sa_id (st2 s F F') 50).symm
  have loop : ∀ k, k ≤ 2 ^ V - 1 → ∀ E, setI V (coN V s) E k → AtA l G (d + 5) sX5_prepare 27 [.ref 47, .int (nI k + (-1))] [] (st3 s F F' E) (pV Q) := by
    intro k
    induction k with
    | zero =>
      intro _ E hE
      exact r_X5_prepare_27 _ _ ⟨fun _ => hQ F F' E hF hF' hE, fun z => absurd (by decide) z⟩
    | succ j ih =>
      intro hj E hE
      rw [pk_m1]
      obtain ⟨g1, g2, g3⟩ := hE
      have hS : j < 2 ^ V - 1 := by omega
      have hfw : ∀ u, u < V → j.testBit u = false → ok_X5_fewestWith (st3 s F F' E) (nI j) (nI u) ∧ v_X5_fewestWith (st3 s F F' E) (nI j) (nI u) = nI (coN V s u (pcN j) + Int32.toNatClampNeg (E (j ||| 2 ^ u))) ∧ coN V s u (pcN j) + Int32.toNatClampNeg (E (j ||| 2 ^ u)) < 2 ^ 31 := by
        intro u hu hb
        have hgt := or_gt hb
        have hlt := or_lt (S := j) (V := V) (by omega) hu
        obtain ⟨b1, b2⟩ := g3 (j ||| 2 ^ u) (by omega) hlt
        obtain ⟨a1, a2⟩ := fw_v hW h5 hF hF' hS hu b1
        have := co_le hW V u (pcN j)
        exact ⟨a1, a2, by omega⟩
      refine r_X5_prepare_27 _ _ ⟨fun z => absurd z (nneg j (by omega)), fun _ => ?_⟩
      refine p_lb (s := st3 s F F' E) hV h1 h5 hfw (un_full hS) (fun b b1 b2 b3 => ?_)
      obtain ⟨o1, o2, o3⟩ := hfw b b1 b2
      refine ⟨o1, vin (show j < 32 by omega) (by decide), ?_⟩
      rw [o2, nnum (by omega)]
      have es : sput (st3 s F F' E) 50 j (nI (coN V s b (pcN j) + Int32.toNatClampNeg (E (j ||| 2 ^ b)))) = st3 s F F' (upd E j (nI (coN V s b (pcN j) + Int32.toNatClampNeg (E (j ||| 2 ^ b))))) := by
        unfold st3
        rw [sp_sa]
      rw [es]
      generalize hx : coN V s b (pcN j) + Int32.toNatClampNeg (E (j ||| 2 ^ b)) = x at o3
      have ej : upd E j (nI x) j = nI x := if_pos rfl
      have en : ∀ T, j < T → upd E j (nI x) T = E T := fun T hT => if_neg (by omega)
      refine ih (by omega) _ ⟨by rw [en _ (by omega)]; exact g1, fun T h3 h4 => ?_, fun T h3 h4 => ?_⟩
      · by_cases e : T = j
        · subst e
          refine ⟨b, b1, b2, ?_, fun u u1 u2 => ?_⟩
          · show Int32.toNatClampNeg (upd E T (nI x) T) = coN V s b (pcN T) + Int32.toNatClampNeg (upd E T (nI x) (T ||| 2 ^ b))
            rw [ej, en _ (or_gt b2), nnum o3, hx]
          · show Int32.toNatClampNeg (upd E T (nI x) T) ≤ coN V s u (pcN T) + Int32.toNatClampNeg (upd E T (nI x) (T ||| 2 ^ u)) ∧ (coN V s u (pcN T) + Int32.toNatClampNeg (upd E T (nI x) (T ||| 2 ^ u)) = Int32.toNatClampNeg (upd E T (nI x) T) → b ≤ u)
            rw [ej, en _ (or_gt u2), nnum o3, ← hx]
            exact b3 u u1 u2
        · obtain ⟨v, q1, q2, q3, q4⟩ := g2 T (by omega) h4
          refine ⟨v, q1, q2, ?_, fun u u1 u2 => ?_⟩
          · show Int32.toNatClampNeg (upd E j (nI x) T) = coN V s v (pcN T) + Int32.toNatClampNeg (upd E j (nI x) (T ||| 2 ^ v))
            have := or_gt q2
            rw [en _ (by omega), en _ (by omega)]
            exact q3
          · show Int32.toNatClampNeg (upd E j (nI x) T) ≤ coN V s u (pcN T) + Int32.toNatClampNeg (upd E j (nI x) (T ||| 2 ^ u)) ∧ (coN V s u (pcN T) + Int32.toNatClampNeg (upd E j (nI x) (T ||| 2 ^ u)) = Int32.toNatClampNeg (upd E j (nI x) T) → v ≤ u)
            have := or_gt u2
            rw [en _ (by omega), en _ (by omega)]
            exact q4 u u1 u2
      · by_cases e : T = j
        · subst e
          rw [ej, nnum o3]
          refine ⟨rfl, ?_⟩
          have hlt := or_lt (S := T) (V := V) h4 b1
          have := (g3 (T ||| 2 ^ b) (or_gt b2) hlt).2
          rw [pc_or (by omega) b2] at this
          have := co_le hW V b (pcN T)
          omega
        · rw [en _ (by omega)]
          exact g3 T (by omega) h4
  rw [e0, eall, nnum (by omega)]
  have es : sput (st3 s F F' (s.1 50)) 50 (2 ^ V - 1) 0 = st3 s F F' (upd (s.1 50) (2 ^ V - 1) 0) := by
    unfold st3
    rw [sp_sa]
  rw [es, eall, Int32.sub_eq_add_neg]
  refine ⟨vin (show 2 ^ V - 1 < 32 by omega) (by decide), loop (2 ^ V - 1) (Nat.le_refl _) _ ⟨if_pos rfl, fun T h3 h4 => absurd h4 (by omega), fun T h3 h4 => ?_⟩⟩
  have : T = 2 ^ V - 1 := by omega
  subst this
  have e1 : upd (s.1 50) (2 ^ V - 1) 0 (2 ^ V - 1) = 0 := if_pos rfl
  rw [e1, pc_B, (full_tab V (by omega)).1]
  exact ⟨rfl, by show 0 + 120 * V ≤ 600; omega⟩
/-- the voice that goes best behind a set -/
noncomputable def bvN (V : Nat) (co : Nat → Nat → Nat) (f : Nat → Nat) (T : Nat) : Nat := iC (∃ v, BestF V co f T v) (Classical.epsilon (fun v => BestF V co f T v)) 0
theorem bv_p {V : Nat} {co : Nat → Nat → Nat} {f : Nat → Nat} {T : Nat} (h : ∃ v, BestF V co f T v) : BestF V co f T (bvN V co f T) := by
  unfold bvN
  rw [iC_t h]
  exact Classical.epsilon_spec h
theorem itS_p {V : Nat} {co : Nat → Nat → Nat} {f : Nat → Nat} (h5 : V ≤ 5) (hB : ∀ T, T < 2 ^ V - 1 → ∃ v, BestF V co f T v) : ∀ t, t ≤ V → pcN (itS (bvN V co f) t 0) = t ∧ itS (bvN V co f) t 0 < 2 ^ V
  | 0, _ => ⟨by show pcN 0 = 0; rw [pc_B]; decide +kernel, Nat.two_pow_pos V⟩
  | t + 1, h => by
    obtain ⟨i1, i2⟩ := itS_p h5 hB t (by omega)
    have hne : itS (bvN V co f) t 0 < 2 ^ V - 1 := by
      refine Classical.byContradiction fun z => ?_
      have e : itS (bvN V co f) t 0 = 2 ^ V - 1 := by omega
      have := (full_tab V (by omega)).1
      rw [← pc_B, ← e] at this
      omega
    have hb := bv_p (hB _ hne)
    rw [itS_s]
    exact ⟨by rw [pc_or (by have := hb.1; omega) hb.2.1, i1], or_lt i2 hb.1⟩
theorem p_va {l : Launch} {G : Geo} {d : Nat} {s : St} (hW : wlR s 4) {V : Nat} (hV : s.1 8 1 = nI V) (h1 : 1 ≤ V) (h5 : V ≤ 5) {F F' E : Nat → Int32} (hF : ∀ t, t < 5 → F t = nI (Lc V s t)) (hF' : ∀ t, t < 5 → F' t = nI (Sc V s t)) (hE : setI V (coN V s) E 0) {t : Nat} (ht : t < V) {Q : Int32 → St → Prop} (hQ : Q (nI (bvN V (coN V s) (fun T => Int32.toNatClampNeg (E T)) (itS (bvN V (coN V s) (fun T => Int32.toNatClampNeg (E T))) t 0))) (st3 s F F' E)) : DoesI l G (d + 5) 65 [.ref 47, .int (nI t)] (st3 s F F' E) Q := by
  obtain ⟨g1, g2, g3⟩ := hE
  have hB : ∀ T, T < 2 ^ V - 1 → ∃ v, BestF V (coN V s) (fun T => Int32.toNatClampNeg (E T)) T v := fun T hT => g2 T (Nat.zero_le _) hT
  have one : ∀ k, k < V → ∀ (Q' : Int32 → St → Prop), Q' (nI (bvN V (coN V s) (fun T => Int32.toNatClampNeg (E T)) (itS (bvN V (coN V s) (fun T => Int32.toNatClampNeg (E T))) k 0))) (st3 s F F' E) → DoesI l G (d + 4) 61 [.ref 47, .int (nI (itS (bvN V (coN V s) (fun T => Int32.toNatClampNeg (E T))) k 0))] (st3 s F F' E) Q' := by
    intro k hk Q' hq
    obtain ⟨i1, i2⟩ := itS_p h5 hB k (by omega)
    have hne : itS (bvN V (coN V s) (fun T => Int32.toNatClampNeg (E T))) k 0 < 2 ^ V - 1 := by
      refine Classical.byContradiction fun z => ?_
      have e : itS (bvN V (coN V s) (fun T => Int32.toNatClampNeg (E T))) k 0 = 2 ^ V - 1 := by omega
      have := (full_tab V (by omega)).1
      rw [← pc_B, ← e] at this
      omega
    have hb := bv_p (hB _ hne)
    generalize itS (bvN V (coN V s) (fun T => Int32.toNatClampNeg (E T))) k 0 = S at i1 i2 hne hb hq
    refine p_lb (s := st3 s F F' E) (W := fun u => coN V s u (pcN S) + Int32.toNatClampNeg (E (S ||| 2 ^ u))) hV h1 h5 (fun u hu hub => ?_) (un_full hne) (fun b b1 b2 b3 => ?_)
    · have hlt := or_lt (S := S) (V := V) (by omega) hu
      obtain ⟨c1, c2⟩ := g3 (S ||| 2 ^ u) (Nat.zero_le _) hlt
      obtain ⟨a1, a2⟩ := fw_v hW h5 hF hF' hne hu c1
      have := co_le hW V u (pcN S)
      exact ⟨a1, a2, by show coN V s u (pcN S) + Int32.toNatClampNeg (E (S ||| 2 ^ u)) < 2 ^ 31; omega⟩
    · obtain ⟨v1, v2, v3, v4⟩ := hb
      have x1 := b3 _ v1 v2
      have x2 := v4 b b1 b2
      have v3 : Int32.toNatClampNeg (E S) = coN V s (bvN V (coN V s) (fun T => Int32.toNatClampNeg (E T)) S) (pcN S) + Int32.toNatClampNeg (E (S ||| 2 ^ bvN V (coN V s) (fun T => Int32.toNatClampNeg (E T)) S)) := v3
      have x1 : coN V s b (pcN S) + Int32.toNatClampNeg (E (S ||| 2 ^ b)) ≤ coN V s (bvN V (coN V s) (fun T => Int32.toNatClampNeg (E T)) S) (pcN S) + Int32.toNatClampNeg (E (S ||| 2 ^ bvN V (coN V s) (fun T => Int32.toNatClampNeg (E T)) S)) ∧ (coN V s (bvN V (coN V s) (fun T => Int32.toNatClampNeg (E T)) S) (pcN S) + Int32.toNatClampNeg (E (S ||| 2 ^ bvN V (coN V s) (fun T => Int32.toNatClampNeg (E T)) S)) = coN V s b (pcN S) + Int32.toNatClampNeg (E (S ||| 2 ^ b)) → b ≤ bvN V (coN V s) (fun T => Int32.toNatClampNeg (E T)) S) := x1
      have x2 : Int32.toNatClampNeg (E S) ≤ coN V s b (pcN S) + Int32.toNatClampNeg (E (S ||| 2 ^ b)) ∧ (coN V s b (pcN S) + Int32.toNatClampNeg (E (S ||| 2 ^ b)) = Int32.toNatClampNeg (E S) → bvN V (coN V s) (fun T => Int32.toNatClampNeg (E T)) S ≤ b) := x2
      have e : b = bvN V (coN V s) (fun T => Int32.toNatClampNeg (E T)) S := Nat.le_antisymm (x1.2 (by omega)) (x2.2 (by omega))
      rw [e]
      exact hq
  have loop : ∀ m k, k + m = t → AtA l G (d + 5) sX5_voiceAt 4 [.ref 47, .int (nI t), .int (nI (itS (bvN V (coN V s) (fun T => Int32.toNatClampNeg (E T))) k 0)), .int (nI k)] [] (st3 s F F' E) (pI Q) := by
    intro m
    induction m with
    | zero =>
      intro k hk
      have : k = t := by omega
      subst this
      exact r_X5_voiceAt_4 _ _ _ _ ⟨fun z => (Int32.lt_irrefl z).elim, fun _ => one k ht _ hQ⟩
    | succ m ih =>
      intro k hk
      refine r_X5_voiceAt_4 _ _ _ _ ⟨fun _ => one k (by omega) _ ?_, fun z => ?_⟩
      · have := ih (k + 1) (by omega)
        have hb := (itS_p h5 hB k (by omega))
        rw [itS_s] at this
        have hv : bvN V (coN V s) (fun T => Int32.toNatClampNeg (E T)) (itS (bvN V (coN V s) (fun T => Int32.toNatClampNeg (E T))) k 0) < 31 := by
          have hne : itS (bvN V (coN V s) (fun T => Int32.toNatClampNeg (E T))) k 0 < 2 ^ V - 1 := by
            refine Classical.byContradiction fun z => ?_
            have e : itS (bvN V (coN V s) (fun T => Int32.toNatClampNeg (E T))) k 0 = 2 ^ V - 1 := by omega
            have := (full_tab V (by omega)).1
            rw [← pc_B, ← e] at this
            omega
          have := (bv_p (hB _ hne)).1
          omega
        rw [nI_1, nn_1 hv, nn_or]
        exact this
      · rw [nlt (by omega) (by omega)] at z
        omega
  exact r_X5_voiceAt _ _ (loop t 0 (Nat.zero_add _))
