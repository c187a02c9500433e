/-! seats by the class: letters counted, sets from the full one down -/
theorem sp_o {s : St} {q r k : Nat} {g : Nat → Int32} {x : Int32} (h : r ≠ q) : sput (sarr s q g) r k x = sarr (sput s r k x) q g := by
  rw [sp_is, sp_is, sa_cm (q := r) (r := q) h, sa_q h]
def st2 (s : St) (F F' : Nat → Int32) : St := sarr (sarr s 48 F) 49 F'
theorem st2_48 (s : St) (F F' : Nat → Int32) (k : Nat) (x : Int32) : sput (st2 s F F') 48 k x = st2 s (upd F k x) F' := by
  unfold st2
  rw [sp_o (by decide), sp_sa]
theorem st2_49 (s : St) (F F' : Nat → Int32) (k : Nat) (x : Int32) : sput (st2 s F F') 49 k x = st2 s F (upd F' k x) := by
  unfold st2
  rw [sp_sa]
theorem cl_1 {s : St} {V i : Nat} (hC : chR s 8) (hV : s.1 8 1 = nI V) (h1 : 1 ≤ V) (h5 : V ≤ 5) (hi : i < 2 ^ 31) {F F' : Nat → Int32} : ok_X5_countLetter (st2 s F F') (nI i) ∧ g_X5_countLetter (st2 s F F') (nI i) = iC (i / V % 2 = 1) (st2 s (upd F (i % V) (F (i % V) + 1)) (upd F' (i % V) (F' (i % V) + 1))) (st2 s (upd F (i % V) (F (i % V) + 1)) F') := by
  have hm := Nat.mod_lt i (show V > 0 by omega)
  have hn : ¬ v_X0_size (st2 s F F') 8 < 1 := by
    show ¬ s.1 8 1 < 1
    rw [hV, l1, nlt (by omega) (by omega)]
    omega
  have hvc : v_X0_voiceOf (st2 s F F') 8 (nI i) = nI (i % V) := v_vc (s := st2 s F F') hV h1 h5 hi
  have e1 : (st2 s F F').1 48 (i % V) = F (i % V) := rfl
  have hz : v_X0_size (sput (st2 s F F') 48 (i % V) (F (i % V) + 1)) 8 = nI V := hV
  have ed : (nI i / nI V - nI i / nI V / 2 * 2 : Int32) = nI (i / V % 2) := by
    have : i / V ≤ i := Nat.div_le_self _ _
    rw [pk_div hi (by omega) (by omega), show (2 : Int32) = nI 2 from rfl, pk_rem (by omega) (by omega) (by omega)]
  have eo : (nI (i / V % 2) = 1) ↔ i / V % 2 = 1 := by rw [l1, neq (by omega) (by omega)]
  constructor
  · intro _
    rw [hvc]
    refine ⟨ok_vc (s := st2 s F F') hC _, vin (show i % V < 5 by omega) (by decide), vin (show i % V < 5 by omega) (by decide), ?_, fun _ => ⟨vin (show i % V < 5 by omega) (by decide), vin (show i % V < 5 by omega) (by decide)⟩⟩
    show ¬ s.1 8 1 = 0
    rw [hV, l0, neq (by omega) (by omega)]
    omega
  · unfold g_X5_countLetter
    rw [iC_f hn, hvc, nnum (by omega), e1, hz, ed, st2_48]
    by_cases c : i / V % 2 = 1
    · rw [iC_t (eo.mpr c), iC_t c, st2_49]
      rfl
    · rw [iC_f (fun q => c (eo.mp q)), iC_f c]
noncomputable def Lc (V : Nat) (s : St) (t : Nat) : Nat := sumN (fun w => lW V t (Int32.toNatClampNeg (s.1 6 w))) (Int32.toNatClampNeg (s.1 4 3))
noncomputable def Sc (V : Nat) (s : St) (t : Nat) : Nat := sumN (fun w => sW V t (Int32.toNatClampNeg (s.1 6 w))) (Int32.toNatClampNeg (s.1 4 3))
theorem p_cls {l : Launch} {G : Geo} {d : Nat} {s : St} (hW : wlR s 4) (hC : chR s 8) {V : Nat} (hV : s.1 8 1 = nI V) (h1 : 1 ≤ V) (h5 : V ≤ 5) {Q : St → Prop} (hQ : ∀ F F', (∀ t, t < 5 → F t = nI (Lc V s t)) → (∀ t, t < 5 → F' t = nI (Sc V s t)) → Q (st2 s F F')) : DoesV l G (d + 3) 59 [.ref 47] s Q := by
  obtain ⟨ez, hz⟩ := siz4 hW
  have inner : ∀ w, w < Int32.toNatClampNeg (s.1 4 3) → (∀ F F' : Nat → Int32, (∀ t, t < 5 → F t = nI (sumN (fun w => lW V t (Int32.toNatClampNeg (s.1 6 w))) (w + 1))) → (∀ t, t < 5 → F' t = nI (sumN (fun w => sW V t (Int32.toNatClampNeg (s.1 6 w))) (w + 1))) → AtA l G (d + 3) sX5_countLetters 29 [.ref 47, .int (nI (w + 1)), .null] [] (st2 s F F') (pV Q)) → ∀ m i, i + m = Int32.toNatClampNeg (s.1 6 w) → ∀ F F' : Nat → Int32, (∀ t, t < 5 → F t = nI (sumN (fun w => lW V t (Int32.toNatClampNeg (s.1 6 w))) w + lW V t i)) → (∀ t, t < 5 → F' t = nI (sumN (fun w => sW V t (Int32.toNatClampNeg (s.1 6 w))) w + sW V t i)) → AtA l G (d + 3) sX5_countLetters 42 [.ref 47, .int (nI w), .int (nI i)] [] (st2 s F F') (pV Q) := by
    intro w hw out m
    obtain ⟨ew, hwl⟩ := len4 hW w
    induction m with
    | zero =>
      intro i hi F F' hF hF'
      have : i = Int32.toNatClampNeg (s.1 6 w) := by omega
      subst this
      refine r_X5_countLetters_42 _ _ _ ⟨ok_len (Or.inl rfl) (s := st2 s F F') hW _, fun z => ?_, fun _ => ?_⟩
      · rw [v_len4 (s := st2 s F F') hW hw] at z
        have z : nI (Int32.toNatClampNeg (s.1 6 w)) < s.1 6 w := z
        rw [← ew] at z
        exact (Int32.lt_irrefl z).elim
      · rw [nI_1]
        exact out F F' hF hF'
    | succ m ih =>
      intro i hi F F' hF hF'
      obtain ⟨c1, c2⟩ := cl_1 hC hV h1 h5 (show i < 2 ^ 31 by omega) (F := F) (F' := F')
      have hm := Nat.mod_lt i (show V > 0 by omega)
      have hF2 : ∀ t, t < 5 → upd F (i % V) (F (i % V) + 1) t = nI (sumN (fun w => lW V t (Int32.toNatClampNeg (s.1 6 w))) w + lW V t (i + 1)) := by
        intro t ht
        unfold upd lW
        by_cases e : t = i % V
        · rw [if_pos e, cnt_t (P := fun i => i % V = t) e.symm, ← e, hF t ht, nI_1]
          rfl
        · rw [if_neg e, cnt_f (P := fun i => i % V = t) (fun q => e q.symm), hF t ht]
          rfl
      refine r_X5_countLetters_42 _ _ _ ⟨ok_len (Or.inl rfl) (s := st2 s F F') hW _, fun _ => ⟨c1, ?_⟩, fun z => ?_⟩
      · rw [c2, nI_1]
        by_cases o : i / V % 2 = 1
        · rw [iC_t o]
          refine ih (i + 1) (by omega) _ _ hF2 (fun t ht => ?_)
          unfold upd sW
          by_cases e : t = i % V
          · rw [if_pos e, cnt_t (P := fun i => i % V = t ∧ i / V % 2 = 1) ⟨e.symm, o⟩, ← e, hF' t ht, nI_1]
            rfl
          · rw [if_neg e, cnt_f (P := fun i => i % V = t ∧ i / V % 2 = 1) (fun q => e q.1.symm), hF' t ht]
            rfl
        · rw [iC_f o]
          refine ih (i + 1) (by omega) _ _ hF2 (fun t ht => ?_)
          unfold sW
          rw [cnt_f (P := fun i => i % V = t ∧ i / V % 2 = 1) (fun q => o q.2), hF' t ht]
          rfl
      · rw [v_len4 (s := st2 s F F') hW hw] at z
        have z : ¬ nI i < s.1 6 w := z
        rw [ew, nlt (by omega) (by omega)] at z
        omega
  have outer : ∀ m w, w + m = Int32.toNatClampNeg (s.1 4 3) → ∀ F F' : Nat → Int32, (∀ t, t < 5 → F t = nI (sumN (fun w => lW V t (Int32.toNatClampNeg (s.1 6 w))) w)) → (∀ t, t < 5 → F' t = nI (sumN (fun w => sW V t (Int32.toNatClampNeg (s.1 6 w))) w)) → AtA l G (d + 3) sX5_countLetters 29 [.ref 47, .int (nI w), .null] [] (st2 s F F') (pV Q) := by
    intro m
    induction m with
    | zero =>
      intro w hw F F' hF hF'
      have : w = Int32.toNatClampNeg (s.1 4 3) := by omega
      subst this
      refine r_X5_countLetters_29 _ _ ⟨fun z => ?_, fun _ => hQ F F' hF hF'⟩
      have z : nI (Int32.toNatClampNeg (s.1 4 3)) < s.1 4 3 := z
      rw [← ez] at z
      exact (Int32.lt_irrefl z).elim
    | succ m ih =>
      intro w hw F F' hF hF'
      refine r_X5_countLetters_29 _ _ ⟨fun _ => inner w (by omega) (ih (w + 1) (by omega)) _ 0 (Nat.zero_add _) F F' hF hF', fun z => ?_⟩
      have z : ¬ nI w < s.1 4 3 := z
      rw [ez, nlt (by omega) (by omega)] at z
      omega
  have zero : ∀ m k, k + m = 5 → ∀ F F' : Nat → Int32, (∀ t, t < k → F t = 0) → (∀ t, t < k → F' t = 0) → AtA l G (d + 3) sX5_countLetters 2 [.ref 47, .int (nI k), .null] [] (st2 s F F') (pV Q) := by
    intro m
    induction m with
    | zero =>
      intro k hk F F' hF hF'
      have : k = 5 := by omega
      subst this
      exact r_X5_countLetters_2 _ _ ⟨fun z => (Int32.lt_irrefl z).elim, fun _ => outer _ 0 (Nat.zero_add _) F F' hF hF'⟩
    | succ m ih =>
      intro k hk F F' hF hF'
      refine r_X5_countLetters_2 _ _ ⟨fun _ => ⟨vin (show k < 5 by omega) (by decide), vin (show k < 5 by omega) (by decide), ?_⟩, fun z => ?_⟩
      · rw [nnum (by omega), nI_1, st2_48, st2_49]
        refine ih (k + 1) (by omega) _ _ (fun t ht => ?_) (fun t ht => ?_)
        · unfold upd
          by_cases e : t = k
          · rw [if_pos e]
          · rw [if_neg e]; exact hF t (by omega)
        · unfold upd
          by_cases e : t = k
          · rw [if_pos e]
          · rw [if_neg e]; exact hF' t (by omega)
      · rw [show (5 : Int32) = nI 5 from rfl, nlt (by omega) (by omega)] at z
        omega
  have h0 := zero 5 0 rfl (s.1 48) (s.1 49) (fun t ht => absurd ht (Nat.not_lt_zero t)) (fun t ht => absurd ht (Nat.not_lt_zero t))
  have e : st2 s (s.1 48) (s.1 49) = s := by
    unfold st2
    rw [sa_id, sa_id]
  rw [e] at h0
  exact r_X5_countLetters s h0
theorem p_lb {l : Launch} {G : Geo} {d : Nat} {s : St} {V S : Nat} {W : Nat → Nat} (hV : s.1 8 1 = nI V) (h1 : 1 ≤ V) (h5 : V ≤ 5) (hw : ∀ u, u < V → S.testBit u = false → ok_X5_fewestWith s (nI S) (nI u) ∧ v_X5_fewestWith s (nI S) (nI u) = nI (W u) ∧ W u < 2 ^ 31) (hu : ∃ u, u < V ∧ S.testBit u = false) {Q : Int32 → St → Prop} (hQ : ∀ b, b < V → S.testBit b = false → (∀ u, u < V → S.testBit u = false → W b ≤ W u ∧ (W u = W b → b ≤ u)) → Q (nI b) s) : DoesI l G (d + 4) 61 [.ref 47, .int (nI S)] s Q := by
  have loop : ∀ m v, v + m = V → ∀ x : Int32, ((x = -1 ∧ ∀ u, u < v → S.testBit u = true) ∨ ∃ b, x = nI b ∧ b < v ∧ S.testBit b = false ∧ ∀ u, u < v → S.testBit u = false → W b ≤ W u ∧ (W u = W b → b ≤ u)) → AtA l G (d + 4) sX5_leastBest 4 [.ref 47, .int (nI S), .int x, .int (nI v)] [] s (pI Q) := by
    intro m
    induction m with
    | zero =>
      intro v hv x hx
      have : v = V := by omega
      subst this
      refine r_X5_leastBest_4 _ _ _ s ⟨fun z => ?_, fun _ => ?_⟩
      · have z : nI v < s.1 8 1 := z
        rw [hV] at z
        exact (Int32.lt_irrefl z).elim
      · rcases hx with ⟨-, q⟩ | ⟨b, rfl, b1, b2, b3⟩
        · obtain ⟨u, u1, u2⟩ := hu
          rw [q u u1] at u2
          exact absurd u2 (by decide)
        · exact hQ b b1 b2 b3
    | succ m ih =>
      intro v hv x hx
      have ihh := ih (v + 1) (by omega)
      refine r_X5_leastBest_4 _ _ _ s ⟨fun _ => ?_, fun z => ?_⟩
      · rw [nI_1, bit0 (by omega), btn S (by omega)]
        refine ⟨fun z => ⟨fun z2 => ?_, fun z2 => ?_⟩, fun z => ?_⟩
        · rcases hx with ⟨-, q⟩ | ⟨b, rfl, b1, b2, b3⟩
          · refine ihh _ (Or.inr ⟨v, rfl, by omega, z, fun u hu1 hu2 => ?_⟩)
            by_cases e : u = v
            · subst e; exact ⟨Nat.le_refl _, fun _ => Nat.le_refl _⟩
            · rw [q u (by omega)] at hu2
              exact absurd hu2 (by decide)
          · exact absurd z2 (nI_m1 (by omega))
        · rcases hx with ⟨e, q⟩ | ⟨b, rfl, b1, b2, b3⟩
          · exact absurd e z2
          · obtain ⟨o1, o2, o3⟩ := hw v (by omega) z
            obtain ⟨p1, p2, p3⟩ := hw b (by omega) b2
            refine ⟨o1, p1, ?_⟩
            rw [o2, p2, nlt o3 p3]
            refine ⟨fun z3 => ihh _ (Or.inr ⟨v, rfl, by omega, z, fun u hu1 hu2 => ?_⟩), fun z3 => ihh _ (Or.inr ⟨b, rfl, by omega, b2, fun u hu1 hu2 => ?_⟩)⟩
            · by_cases e : u = v
              · subst e; exact ⟨Nat.le_refl _, fun _ => Nat.le_refl _⟩
              · have := b3 u (by omega) hu2
                exact ⟨by omega, fun q => by omega⟩
            · by_cases e : u = v
              · subst e; exact ⟨by omega, fun q => by omega⟩
              · exact b3 u (by omega) hu2
        · have z : S.testBit v = true := by simpa using z
          rcases hx with ⟨e, q⟩ | ⟨b, rfl, b1, b2, b3⟩
          · exact ihh _ (Or.inl ⟨e, lt_s q z⟩)
          · refine ihh _ (Or.inr ⟨b, rfl, by omega, b2, fun u hu1 hu2 => ?_⟩)
            by_cases e : u = v
            · subst e
              rw [z] at hu2
              exact absurd hu2 (by decide)
            · exact b3 u (by omega) hu2
      · have z : ¬ nI v < s.1 8 1 := z
        rw [hV, nlt (by omega) (by omega)] at z
        omega
  exact r_X5_leastBest _ s (loop V 0 (Nat.zero_add _) (-1) (Or.inl ⟨rfl, fun u hu => absurd hu (Nat.not_lt_zero u)⟩))
