/-! bears: the reference's brute force; the equality -/
noncomputable def gmN (V : Nat) (lt sz : Nat → Int32) (a n : Nat) : Nat := 2 ^ a ||| mkM (fun c => c ≠ a ∧ apP V lt sz a c) n
theorem gm_tb {V : Nat} {lt sz : Nat → Int32} {a n i : Nat} : (gmN V lt sz a n).testBit i = true ↔ i = a ∨ (i < n ∧ i ≠ a ∧ apP V lt sz a i) := by
  unfold gmN
  rw [Nat.testBit_or, Bool.or_eq_true, mkM_tb, Nat.testBit_two_pow, decide_eq_true_eq]
  exact ⟨fun q => q.imp Eq.symm id, fun q => q.imp Eq.symm id⟩
/-- the best below a bound -/
def BestB (cm : Nat → Nat) (cur r : Nat) : Prop := r < cur ∧ Ind cm r ∧ ∀ t, t < cur → Ind cm t → pcN t ≤ pcN r ∧ (pcN t = pcN r → r ≤ t)
theorem ind_0 (cm : Nat → Nat) : Ind cm 0 := fun a b h => absurd h (by rw [Nat.zero_testBit]; decide)
theorem bb_1 (cm : Nat → Nat) : BestB cm 1 0 := ⟨Nat.one_pos, ind_0 cm, fun t ht _ => by
  have : t = 0 := by omega
  rw [this]
  exact ⟨Nat.le_refl _, fun _ => Nat.le_refl _⟩⟩
theorem bb_y {cm : Nat → Nat} {c r : Nat} (h : BestB cm c r) (h1 : Ind cm c) (h2 : pcN r < pcN c) : BestB cm (c + 1) c := ⟨by omega, h1, fun t ht hi => by
  by_cases e : t = c
  · rw [e]; exact ⟨Nat.le_refl _, fun _ => Nat.le_refl _⟩
  · have := (h.2.2 t (by omega) hi).1
    exact ⟨by omega, fun q => by omega⟩⟩
theorem bb_n {cm : Nat → Nat} {c r : Nat} (h : BestB cm c r) (h1 : ¬ (Ind cm c ∧ pcN r < pcN c)) : BestB cm (c + 1) r := ⟨by have := h.1; omega, h.2.1, fun t ht hi => by
  by_cases e : t = c
  · subst e
    have : ¬ pcN r < pcN t := fun q => h1 ⟨hi, q⟩
    have := h.1
    exact ⟨by omega, fun q => by omega⟩
  · exact h.2.2 t (by omega) hi⟩
theorem bb_best {cm : Nat → Nat} {N r : Nat} (h : BestB cm (2 ^ N) r) : Best cm (2 ^ N - 1) r := by
  have hs : ∀ t, subN t (2 ^ N - 1) ↔ t < 2 ^ N := fun t => ⟨fun q => sub_lt q (by have := Nat.two_pow_pos N; omega), fun q i hi => by
    rw [Nat.testBit_two_pow_sub_one, decide_eq_true_eq]
    refine Classical.byContradiction fun z => ?_
    rw [tb_hi q (by omega)] at hi
    exact absurd hi (by decide)⟩
  exact ⟨(hs r).mpr h.1, h.2.1, fun t ht hi => h.2.2 t ((hs t).mp ht) hi⟩
theorem ind_iff {V : Nat} {lt sz : Nat → Int32} {N c : Nat} (hN : N ≤ 12) (hc : c < 2 ^ N) : Ind (cmN V lt sz N) c ↔ ∀ v, v < N → c.testBit v = true → nI c &&& (nI (gmN V lt sz v N) ^^^ (-1)) = 0 := by
  have hb : ∀ i, c.testBit i = true → i < N := fun i hi => Classical.byContradiction fun z => by
    rw [tb_hi hc (by omega)] at hi
    exact absurd hi (by decide)
  constructor
  · intro h v hv hcv
    rw [nn_ad]
    have : adN c (gmN V lt sz v N) = 0 := Nat.eq_of_testBit_eq fun i => by
      rw [ad_tb, Nat.zero_testBit]
      cases ci : c.testBit i with
      | false => rfl
      | true =>
        have : (gmN V lt sz v N).testBit i = true := gm_tb.mpr (by
          by_cases e : i = v
          · exact Or.inl e
          · refine Or.inr ⟨hb i ci, e, Classical.byContradiction fun z => ?_⟩
            have h2 := h v i hcv ci (fun q => e q.symm)
            unfold cmN at h2
            rw [(mkM_tb _ _ _).mpr ⟨hb i ci, hv, fun q => e q.symm, z⟩] at h2
            exact absurd h2 (by decide))
        rw [this]
        rfl
    rw [this]
    rfl
  · intro h a b ha hb' hab
    have h1 := h a (hb a ha) ha
    cases k : (cmN V lt sz N a).testBit b with
    | false => rfl
    | true =>
      unfold cmN at k
      obtain ⟨k1, k2, k3, k4⟩ := (mkM_tb _ _ _).mp k
      have h2 : bt (nI c &&& (nI (gmN V lt sz a N) ^^^ (-1))) b = bt 0 b := by rw [h1]
      have hb32 : b < 32 := by omega
      rw [nn_ad, btn _ hb32, ad_tb, b_0, hb'] at h2
      have : (gmN V lt sz a N).testBit b = true := by simpa using h2
      rcases gm_tb.mp this with q | q
      · exact absurd q.symm hab
      · exact absurd q.2.2 k4
theorem hasN_iff {s : St} {m k : Nat} (hk : k < 32) : b_X11_has s (nI m) (nI k) ↔ m.testBit k = true := by
  unfold b_X11_has
  rw [bit1 hk]
  cases m.testBit k with
  | true => rw [iP_t (by rfl)]; simp
  | false => rw [iP_f (by decide)]; simp
theorem p_mb {l : Launch} {G : Geo} {d : Nat} {s : St} {x1 : Int32} (hM : mdR s) {V : Nat} (hV : s.1 51 0 = nI V) (v1 : 1 ≤ V) (v5 : V ≤ 5) {Q : Int32 → St → Prop} (hx : x1 = 0 ∨ x1 = 1) (hQ : ∀ F r, Best (cmN V (s.1 55) (s.1 54) (Int32.toNatClampNeg (s.1 51 4))) (2 ^ Int32.toNatClampNeg (s.1 51 4) - 1) r → r < 4096 → Q (iC (x1 = 0) (nI (pcN r)) (nI r)) (sarr s 67 F)) : DoesI l G (d + 2) 185 [.ref 51, .int x1] s Q := by
  obtain ⟨ez, hz⟩ := rg_num hM.1 (by decide)
  generalize hN : Int32.toNatClampNeg (s.1 51 4) = N at ez hz hQ
  have h2N := p2k hz
  have hap : ∀ F a b, b_X11_areApart (sarr s 67 F) (nI a) (nI b) ↔ apP V (s.1 55) (s.1 54) (Int32.toNatClampNeg (nI a)) (Int32.toNatClampNeg (nI b)) := fun F a b => by
    show apP (Int32.toNatClampNeg (s.1 51 0)) (s.1 55) (s.1 54) _ _ ↔ _
    rw [hV, nnum (by omega)]
  -- the search
  have test : ∀ c r, c < 2 ^ N → BestB (cmN V (s.1 55) (s.1 54) N) c r → ∀ F : Nat → Int32, (∀ j, j < N → F j = nI (gmN V (s.1 55) (s.1 54) j N)) → (∀ r', BestB (cmN V (s.1 55) (s.1 54) N) (c + 1) r' → AtA l G (d + 2) sX11_bears 91 [.ref 51, .int x1, .int (nI r'), .int (nI (c + 1)), .null, .null] [] (sarr s 67 F) (pI Q)) → ∀ m v, v + m = N → ∀ g : Int32, ((g = 1 ∧ pcN r < pcN c ∧ ∀ u, u < v → c.testBit u = true → nI c &&& (nI (gmN V (s.1 55) (s.1 54) u N) ^^^ (-1)) = 0) ∨ (g = 0 ∧ ¬ (Ind (cmN V (s.1 55) (s.1 54) N) c ∧ pcN r < pcN c))) → AtA l G (d + 2) sX11_bears 122 [.ref 51, .int x1, .int (nI r), .int (nI c), .int g, .int (nI v)] [] (sarr s 67 F) (pI Q) := by
    intro c r hc hb F hF out m
    induction m with
    | zero =>
      intro v hv g hg
      have : v = N := by omega
      subst this
      refine r_X11_bears_122 _ _ _ _ _ _ ⟨fun z => ?_, fun _ => ⟨fun z => ?_, fun z => ?_⟩⟩
      · have z : nI v < s.1 51 4 := z
        rw [ez] at z
        exact (Int32.lt_irrefl z).elim
      · rw [nI_1]
        exact out r (bb_n hb (hg.resolve_left (fun q => by rw [q.1] at z; exact absurd z (by decide))).2)
      · rw [nI_1]
        obtain ⟨-, q2, q3⟩ := hg.resolve_right (fun q => z q.1)
        exact out c (bb_y hb ((ind_iff hz hc).mpr q3) q2)
    | succ m ih =>
      intro v hv g hg
      refine r_X11_bears_122 _ _ _ _ _ _ ⟨fun _ => ⟨fun z => ⟨fun _ => ?_, fun z2 => absurd z z2⟩, fun z => ?_⟩, fun z => ?_⟩
      · rw [nI_1]
        exact out r (bb_n hb (hg.resolve_left (fun q => by rw [q.1] at z; exact absurd z (by decide))).2)
      · obtain ⟨q1, q2, q3⟩ := hg.resolve_right (fun q => z q.1)
        have hhas : b_X11_has (sarr s 67 F) (nI c) (nI v) ↔ c.testBit v = true := hasN_iff (by omega)
        refine ⟨fun z2 => ?_, fun z2 => ⟨vin (show v < 12 by omega) (by decide), ?_⟩⟩
        · rw [nI_1]
          refine ih (v + 1) (by omega) 1 (Or.inl ⟨rfl, q2, fun u hu hcu => ?_⟩)
          by_cases e : u = v
          · subst e; exact absurd (hhas.mpr hcu) z2
          · exact q3 u (by omega) hcu
        · rw [nnum (by omega), sa_s, hF v (by omega), nI_1]
          refine ⟨fun z3 => ih (v + 1) (by omega) 1 (Or.inl ⟨rfl, q2, fun u hu hcu => ?_⟩), fun z3 => ih (v + 1) (by omega) 0 (Or.inr ⟨rfl, fun q => z3 ((ind_iff hz hc).mp q.1 v (by omega) (hhas.mp z2))⟩)⟩
          by_cases e : u = v
          · subst e; exact z3
          · exact q3 u (by omega) hcu
      · have z : ¬ nI v < s.1 51 4 := z
        rw [ez, nlt (by omega) (by omega)] at z
        omega
  have search : ∀ F : Nat → Int32, (∀ j, j < N → F j = nI (gmN V (s.1 55) (s.1 54) j N)) → ∀ m c, c + m = 2 ^ N → ∀ r, BestB (cmN V (s.1 55) (s.1 54) N) c r → AtA l G (d + 2) sX11_bears 91 [.ref 51, .int x1, .int (nI r), .int (nI c), .null, .null] [] (sarr s 67 F) (pI Q) := by
    intro F hF m
    induction m with
    | zero =>
      intro c hc r hb
      have : c = 2 ^ N := by omega
      subst this
      have hr := hb.1
      have hbest := hQ F r (bb_best hb) (by omega)
      refine r_X11_bears_91 _ _ _ _ ⟨fun z => ?_, fun _ => ⟨fun z => ⟨⟨r, by omega, rfl⟩, ?_⟩, fun z => ?_⟩⟩
      · have z : nI (2 ^ N) < (1 : Int32) <<< (s.1 51 4 &&& 31) := z
        rw [ez, nn_1 (by omega)] at z
        exact (Int32.lt_irrefl z).elim
      · rw [iC_t z] at hbest
        unfold v_X11_bits
        rw [nnum (by omega)]
        exact hbest
      · rw [iC_f z] at hbest
        exact hbest
    | succ m ih =>
      intro c hc r hb
      have hr := hb.1
      have q1 := pc_le r
      have q2 := pc_le c
      have hlt : (nI (pcN r) < nI (pcN c)) ↔ pcN r < pcN c := nlt (by omega) (by omega)
      refine r_X11_bears_91 _ _ _ _ ⟨fun _ => ⟨⟨c, by omega, rfl⟩, ⟨r, by omega, rfl⟩, ?_⟩, fun z => ?_⟩
      · unfold v_X11_bits
        rw [nnum (by omega), nnum (by omega), hlt]
        exact ⟨fun z => test c r (by omega) hb F hF (ih (c + 1) (by omega)) N 0 (Nat.zero_add _) 1 (Or.inl ⟨rfl, z, fun u hu => absurd hu (Nat.not_lt_zero u)⟩), fun z => test c r (by omega) hb F hF (ih (c + 1) (by omega)) N 0 (Nat.zero_add _) 0 (Or.inr ⟨rfl, fun q => z q.2⟩)⟩
      · have z : ¬ nI c < (1 : Int32) <<< (s.1 51 4 &&& 31) := z
        rw [ez, nn_1 (by omega), nlt (by omega) (by omega)] at z
        omega
  -- the rows
  have inner : ∀ a, a < N → (∀ F : Nat → Int32, (∀ j, j < a + 1 → F j = nI (gmN V (s.1 55) (s.1 54) j N)) → AtA l G (d + 2) sX11_bears 14 [.ref 51, .int x1, .int (nI (a + 1)), .null, .null, .null] [] (sarr s 67 F) (pI Q)) → ∀ m b, b + m = N → ∀ F : Nat → Int32, (∀ j, j < a → F j = nI (gmN V (s.1 55) (s.1 54) j N)) → F a = nI (gmN V (s.1 55) (s.1 54) a b) → AtA l G (d + 2) sX11_bears 33 [.ref 51, .int x1, .int (nI a), .int (nI b), .null, .null] [] (sarr s 67 F) (pI Q) := by
    intro a ha out m
    have ia : vp_in (nI a) (alen 67) := vin (show a < 12 by omega) (by decide)
    induction m with
    | zero =>
      intro b hb F hF hFa
      have : b = N := by omega
      subst this
      refine r_X11_bears_33 _ _ _ _ ⟨fun z => ?_, fun _ => ?_⟩
      · have z : nI b < s.1 51 4 := z
        rw [ez] at z
        exact (Int32.lt_irrefl z).elim
      · rw [nI_1]
        exact out F (fun j hj => by
          by_cases e : j = a
          · subst e; exact hFa
          · exact hF j (by omega))
    | succ m ih =>
      intro b hb F hF hFa
      have next : ∀ x : Int32, x = nI (gmN V (s.1 55) (s.1 54) a (b + 1)) → AtA l G (d + 2) sX11_bears 33 [.ref 51, .int x1, .int (nI a), .int (nI b + 1), .null, .null] [] (sput (sarr s 67 F) 67 (Int32.toNatClampNeg (nI a)) x) (pI Q) := by
        intro x hx
        rw [nI_1, nnum (by omega), sp_sa]
        refine ih (b + 1) (by omega) _ (fun j hj => ?_) ?_
        · unfold upd
          rw [if_neg (by omega)]
          exact hF j hj
        · unfold upd
          rw [if_pos rfl, hx]
      have eFa : (sarr s 67 F).1 67 (Int32.toNatClampNeg (nI a)) = nI (gmN V (s.1 55) (s.1 54) a b) := by rw [sa_s, nnum (by omega)]; exact hFa
      have same : ¬ (b ≠ a ∧ apP V (s.1 55) (s.1 54) a b) → ((sarr s 67 F).1 67 (Int32.toNatClampNeg (nI a)) ||| 0) = nI (gmN V (s.1 55) (s.1 54) a (b + 1)) := by
        intro q
        rw [eFa, l0, nn_or, Nat.or_zero]
        unfold gmN
        rw [mkM_f q]
      refine r_X11_bears_33 _ _ _ _ ⟨fun _ => ⟨ia, fun z => ⟨ia, next _ ?_⟩, fun z => ⟨⟨hM, a, b, by show a < Int32.toNatClampNeg (s.1 51 4); omega, by show b < Int32.toNatClampNeg (s.1 51 4); omega, rfl, rfl⟩, fun z2 => ⟨ia, next _ ?_⟩, fun z2 => ⟨ia, next _ ?_⟩⟩⟩, fun z => ?_⟩
      · rw [neq (by omega) (by omega)] at z
        exact same (fun q => q.1 z)
      · rw [hap, nnum (by omega), nnum (by omega)] at z2
        exact same (fun q => z2 q.2)
      · rw [hap, nnum (by omega), nnum (by omega)] at z2
        rw [neq (by omega) (by omega)] at z
        rw [eFa, nn_1 (by omega), nn_or]
        unfold gmN
        rw [mkM_t ⟨z, z2⟩, ← or_add (mkM_lt _ b), Nat.or_assoc, Nat.or_comm (mkM _ b) (2 ^ b)]
      · have z : ¬ nI b < s.1 51 4 := z
        rw [ez, nlt (by omega) (by omega)] at z
        omega
  have outer : ∀ m a, a + m = N → ∀ F : Nat → Int32, (∀ j, j < a → F j = nI (gmN V (s.1 55) (s.1 54) j N)) → AtA l G (d + 2) sX11_bears 14 [.ref 51, .int x1, .int (nI a), .null, .null, .null] [] (sarr s 67 F) (pI Q) := by
    intro m
    induction m with
    | zero =>
      intro a ha F hF
      have : a = N := by omega
      subst this
      refine r_X11_bears_14 _ _ _ ⟨fun z => ?_, fun _ => search F hF (2 ^ a - 1) 1 (by have := Nat.two_pow_pos a; omega) 0 (bb_1 _)⟩
      have z : nI a < s.1 51 4 := z
      rw [ez] at z
      exact (Int32.lt_irrefl z).elim
    | succ m ih =>
      intro a ha F hF
      refine r_X11_bears_14 _ _ _ ⟨fun _ => ⟨vin (show a < 12 by omega) (by decide), ?_⟩, fun z => ?_⟩
      · rw [nnum (by omega), sp_sa, nn_1 (by omega)]
        refine inner a (by omega) (fun F' hF' => ih (a + 1) (by omega) F' hF') N 0 (Nat.zero_add _) _ (fun j hj => ?_) ?_
        · unfold upd
          rw [if_neg (by omega)]
          exact hF j hj
        · unfold upd
          rw [if_pos rfl]
          unfold gmN
          show _ = nI (2 ^ a ||| 0)
          rw [Nat.or_zero]
      · have z : ¬ nI a < s.1 51 4 := z
        rw [ez, nlt (by omega) (by omega)] at z
        omega
  have h0 := outer N 0 (Nat.zero_add _) (s.1 67) (fun j hj => absurd hj (Nat.not_lt_zero j))
  rw [sa_id] at h0
  have hin : b_X11_in s x1 0 1 := by
    unfold b_X11_in
    rcases hx with rfl | rfl
    · rw [iP_f (by decide), iP_f (by decide)]; trivial
    · rw [iP_f (by decide), iP_f (by decide)]; trivial
  exact r_X11_bears _ s ⟨fun z => absurd hin z, fun _ => h0⟩
theorem eq_bears {l : Launch} {G : Geo} {s : St} (h : RI s) (x1 : Int32) : Eqv l G 125 185 [.int x1] s := by
  obtain ⟨V, v1, v5, hV⟩ := h.2.1.1
  have hV2 : s.1 51 0 = nI V := by rw [h.2.1.2.2.1]; exact hV
  have w := h.2.2.1
  have both : (x1 = 0 ∨ x1 = 1) → DoesI l G 19 36 [.ref 45] s (fun r1 s1 => DoesI l G 20 185 [.ref 51, .int x1] s1 (fun r2 s2 => (iC (x1 = 0) (v_J6_bitCount_0f7a4 s1 r1) r1) = r2 ∧ RI s2)) := by
    intro hx
    refine p_gb (d := 4) (ri_wl h) (ri_ch h) hV v1 v5 (fun F r hb hr => ?_)
    refine p_mb (s := sarr s 46 F) (d := 18) (ri_md h) (V := V) hV2 v1 v5 hx (fun F2 r2 hb2 hr2 => ?_)
    have hb2 : Best (cmN V (s.1 55) (s.1 54) (Int32.toNatClampNeg (s.1 51 4))) (2 ^ Int32.toNatClampNeg (s.1 51 4) - 1) r2 := hb2
    rw [w.2.2.2.2.2.1, w.2.2.2.2.2.2.2.1, w.2.2.2.2.2.2.2.2.1] at hb2
    rw [Best.uniq hb2 hb, bc_eq hr]
    exact ⟨rfl, h⟩
  refine r_X10_bears (d := 4) x1 s ⟨fun z => ?_, fun z => ⟨fun z2 => ?_, fun z2 => ?_⟩⟩
  · refine doesI_mono (both (Or.inl z)) (fun r1 s1 hq => ⟨fun _ => ?_, fun z3 => absurd z z3⟩)
    rw [iC_t z] at hq
    exact hq
  · refine doesI_mono (both (Or.inr z2)) (fun r1 s1 hq => ⟨fun z3 => absurd z3 z, fun _ => ?_⟩)
    rw [iC_f z] at hq
    exact hq
  · refine r_X11_bears (d := 18) x1 s ⟨fun _ => ⟨rfl, h⟩, fun q => ?_⟩
    unfold b_X11_in at q
    by_cases c : x1 < 0
    · rw [iP_t c] at q; exact q.elim
    · rw [iP_f c] at q
      by_cases c2 : 1 < x1
      · rw [iP_t c2] at q; exact q.elim
      · obtain ⟨k, hk, rfl⟩ := nI_of c
        rw [l1, nlt (by omega) hk] at c2
        rw [l0, neq hk (by omega)] at z
        rw [l1, neq hk (by omega)] at z2
        omega
