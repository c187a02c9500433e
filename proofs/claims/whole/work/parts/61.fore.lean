/-! readings by the class: what fits, who may follow, what is reached -/
def Sm (s s' : St) : Prop := (∀ q, (q < 26 ∨ 44 < q) → s'.1 q = s.1 q) ∧ s'.2 = s.2
theorem sm_r (s : St) : Sm s s := ⟨fun _ _ => rfl, rfl⟩
theorem sm_put {s s' : St} (h : Sm s s') {q k : Nat} {v : Int32} (h1 : 26 ≤ q) (h2 : q ≤ 44) : Sm s (sput s' q k v) := ⟨fun r hr => by rw [sp_f (by omega)]; exact h.1 r hr, h.2⟩
noncomputable def grX (s : St) : Gr := (Int32.toNatClampNeg (s.1 4 3), Int32.toNatClampNeg (s.1 24 1), fun w => Int32.toNatClampNeg (s.1 6 w), fun w => Int32.toNatClampNeg (s.1 7 w), fun w p => fitP (s.1 25) (Int32.toNatClampNeg (s.1 24 1)) (s.1 5) (Int32.toNatClampNeg (s.1 6 w)) w p, fun a w => a = 3 ∨ ¬ (((s.1 4 4) >>> (nI (3 * a + Int32.toNatClampNeg (s.1 7 w)) &&& 31)) &&& 1) = 0)
theorem gx_ok {s : St} (h : RI s) : gOK (grX s) := by
  have hW := ri_wl h
  refine ⟨(siz4 hW).2, (rg_num (ri_rw h).1 (by decide)).2, fun w hw => ⟨(h.2.2.1.2.2.2.2.1 w hw).1, (len4 hW w).2, (srt4 hW w).2⟩, fun w p hf => hf.1, fun w => Or.inl rfl⟩
theorem sm_wl {s s' : St} (h : Sm s s') (hW : wlR s 4) : wlR s' 4 := by
  obtain ⟨a, b, c, e⟩ := hW
  refine ⟨by rw [h.1 4 (by omega)]; exact a, fun w => by rw [h.1 (4 + 2) (by omega)]; exact b w, fun w => by rw [h.1 (4 + 3) (by omega)]; exact c w, fun w => by rw [h.1 (4 + 1) (by omega)]; exact e w⟩
theorem sm_rw {s s' : St} (h : Sm s s') (hW : rwR s) : rwR s' := ⟨by rw [h.1 24 (by omega)]; exact hW.1, fun j => by rw [h.1 25 (by omega)]; exact hW.2 j⟩
theorem sm_size {s s' : St} (h : Sm s s') (hW : wlR s 4) : v_X9_size s' 4 = nI (gN (grX s)) := by
  show s'.1 4 3 = nI (Int32.toNatClampNeg (s.1 4 3))
  rw [h.1 4 (by omega)]
  exact (siz4 hW).1
theorem sm_len {s s' : St} (h : Sm s s') (hW : wlR s 4) {w : Nat} (hw : w < gN (grX s)) : ok_X9_lengthOf s' 4 (nI w) ∧ v_X9_lengthOf s' 4 (nI w) = nI (gz (grX s) w) := by
  refine ⟨ok_len (Or.inl rfl) (sm_wl h hW) _, ?_⟩
  rw [v_len4 (sm_wl h hW) (by rw [h.1 4 (by omega)]; exact hw), h.1 6 (by omega)]
  exact (len4 hW w).1
theorem sm_sort {s s' : St} (h : Sm s s') (hW : wlR s 4) {w : Nat} (hw : w < gN (grX s)) : ok_X9_sortOf s' 4 (nI w) ∧ v_X9_sortOf s' 4 (nI w) = nI (gs (grX s) w) := by
  refine ⟨ok_sort (Or.inl rfl) (sm_wl h hW) _, ?_⟩
  rw [v_sort4 (sm_wl h hW) (by rw [h.1 4 (by omega)]; exact hw), h.1 7 (by omega)]
  exact (srt4 hW w).1
theorem sm_fit {s s' : St} (h : Sm s s') (hW : wlR s 4) (hR : rwR s) {w p : Nat} (hw : w < gN (grX s)) (hp : p ≤ gn (grX s)) : ok_X7_isFitting s' (nI w) (nI p) ∧ (b_X7_isFitting s' (nI w) (nI p) ↔ gf (grX s) w p) := by
  have hN : gN (grX s) ≤ 12 := (siz4 hW).2
  have hn : gn (grX s) ≤ 60 := (rg_num hR.1 (by decide)).2
  refine ⟨⟨sm_wl h hW, sm_rw h hR, ⟨w, by rw [h.1 4 (by omega)]; exact hw, rfl⟩, p, by rw [h.1 24 (by omega)]; exact hp, rfl⟩, ?_⟩
  unfold b_X7_isFitting
  rw [h.1 25 (by omega), h.1 24 (by omega), h.1 5 (by omega), h.1 6 (by omega), nnum (by omega), nnum (by omega)]
  exact Iff.rfl
theorem sm_may {s s' : St} (h : Sm s s') {a t : Nat} : b_X9_mayFollow s' 4 (nI a) (nI t) ↔ ¬ (((s.1 4 4) >>> (nI (3 * a + t) &&& 31)) &&& 1) = 0 := by
  unfold b_X9_mayFollow
  rw [h.1 4 (by omega), show (3 : Int32) = nI 3 from rfl, pk_mul, nI_add]
  exact ⟨fun q z => q.1 z, fun q => ⟨fun z => absurd z q, fun _ => trivial⟩⟩
def FitOK (g : Gr) (s' : St) (k : Nat) : Prop := ∀ p, p < k → s'.1 27 p = nI (mkM (fun w => gf g w p) (gN g))
def FolOK (g : Gr) (s' : St) (k : Nat) : Prop := ∀ a, a < k → s'.1 28 a = nI (mkM (fun w => ga g a w) (gN g))
theorem p_fc {l : Launch} {G : Geo} {d : Nat} {s : St} (h : RI s) {Q : St → Prop} (hQ : ∀ s', Sm s s' → s'.1 26 6 = nI (gn (grX s)) → FitOK (grX s) s' (gn (grX s) + 1) → FolOK (grX s) s' 4 → Q s') {s0 : St} (hs0 : Sm s s0) (hn0 : s0.1 26 6 = nI (gn (grX s))) : DoesV l G (d + 3) 14 [.ref 26] s0 Q := by
  have hW := ri_wl h
  have hR := ri_rw h
  obtain ⟨g1, g2, g3, g4, g5⟩ := gx_ok h
  have fol2 : ∀ a, a < 4 → (∀ s', Sm s s' → s'.1 26 6 = nI (gn (grX s)) → FitOK (grX s) s' (gn (grX s) + 1) → FolOK (grX s) s' (a + 1) → AtA l G (d + 3) sX1_findChoices 72 [.ref 26, .int (nI (a + 1)), .null, .null] [] s' (pV Q)) → ∀ m w, w + m = gN (grX s) → ∀ s', Sm s s' → s'.1 26 6 = nI (gn (grX s)) → FitOK (grX s) s' (gn (grX s) + 1) → FolOK (grX s) s' a → s'.1 28 a = nI (mkM (fun w => ga (grX s) a w) w) → AtA l G (d + 3) sX1_findChoices 86 [.ref 26, .int (nI a), .int (nI w), .null] [] s' (pV Q) := by
    intro a ha out m
    induction m with
    | zero =>
      intro w hw s' hs hn hF hL hA
      have : w = gN (grX s) := by omega
      subst this
      refine r_X1_findChoices_86 _ _ _ ⟨fun z => ?_, fun _ => ?_⟩
      · rw [sm_size hs hW] at z
        exact (Int32.lt_irrefl z).elim
      · rw [nI_1]
        refine out s' hs hn hF (fun j hj => ?_)
        by_cases e : j = a
        · subst e; exact hA
        · exact hL j (by omega)
    | succ m ih =>
      intro w hw s' hs hn hF hL hA
      have iin : vp_in (nI a) (alen 28) := vin (show a < 4 by omega) (by decide)
      have yes : ga (grX s) a w → AtA l G (d + 3) sX1_findChoices 86 [.ref 26, .int (nI a), .int (nI w + 1), .null] [] (sput s' 28 (Int32.toNatClampNeg (nI a)) (s'.1 28 (Int32.toNatClampNeg (nI a)) ||| ((1 : Int32) <<< (nI w &&& 31)))) (pV Q) := by
        intro q
        rw [nnum (by omega), nI_1, hA, nn_1 (by omega), nn_or, Nat.or_comm, or_add (mkM_lt _ w)]
        refine ih (w + 1) (by omega) _ (sm_put hs (by decide) (by decide)) (by rw [sp_q (by decide)]; exact hn) (fun p hp => by rw [sp_q (by decide)]; exact hF p hp) (fun j hj => by rw [sp_k (by omega)]; exact hL j hj) ?_
        rw [sp_s, mkM_t (P := fun w => ga (grX s) a w) q]
      have no : ¬ ga (grX s) a w → AtA l G (d + 3) sX1_findChoices 86 [.ref 26, .int (nI a), .int (nI w + 1), .null] [] s' (pV Q) := by
        intro q
        rw [nI_1]
        refine ih (w + 1) (by omega) _ hs hn hF hL ?_
        rw [mkM_f (P := fun w => ga (grX s) a w) q]
        exact hA
      obtain ⟨o1, o2⟩ := sm_sort hs hW (show w < gN (grX s) by omega)
      refine r_X1_findChoices_86 _ _ _ ⟨fun _ => ⟨fun z => ⟨iin, iin, ?_⟩, fun z => ⟨o1, ?_⟩⟩, fun z => ?_⟩
      · rw [show (3 : Int32) = nI 3 from rfl, neq (by omega) (by omega)] at z
        exact yes (Or.inl z)
      · rw [show (3 : Int32) = nI 3 from rfl, neq (by omega) (by omega)] at z
        rw [o2, propext (sm_may hs)]
        exact ⟨fun z2 => no (fun q => q.elim z z2), fun z2 => ⟨iin, iin, yes (Or.inr z2)⟩⟩
      · rw [sm_size hs hW, nlt (by omega) (by omega)] at z
        omega
  have fol : ∀ m a, a + m = 4 → ∀ s', Sm s s' → s'.1 26 6 = nI (gn (grX s)) → FitOK (grX s) s' (gn (grX s) + 1) → FolOK (grX s) s' a → AtA l G (d + 3) sX1_findChoices 72 [.ref 26, .int (nI a), .null, .null] [] s' (pV Q) := by
    intro m
    induction m with
    | zero =>
      intro a ha s' hs hn hF hL
      have : a = 4 := by omega
      subst this
      exact r_X1_findChoices_72 _ _ ⟨fun z => (Int32.lt_irrefl z).elim, fun _ => hQ s' hs hn hF hL⟩
    | succ m ih =>
      intro a ha s' hs hn hF hL
      refine r_X1_findChoices_72 _ _ ⟨fun _ => ⟨vin (show a < 4 by omega) (by decide), ?_⟩, fun z => ?_⟩
      · rw [nnum (by omega)]
        exact fol2 a (by omega) (ih (a + 1) (by omega)) _ 0 (Nat.zero_add _) _ (sm_put hs (by decide) (by decide)) (by rw [sp_q (by decide)]; exact hn) (fun p hp => by rw [sp_q (by decide)]; exact hF p hp) (fun j hj => by rw [sp_k (by omega)]; exact hL j hj) (by rw [sp_s]; rfl)
      · rw [show (4 : Int32) = nI 4 from rfl, nlt (by omega) (by omega)] at z
        omega
  have fit2 : ∀ p, p ≤ gn (grX s) → (∀ s', Sm s s' → s'.1 26 6 = nI (gn (grX s)) → FitOK (grX s) s' (p + 1) → AtA l G (d + 3) sX1_findChoices 2 [.ref 26, .int (nI (p + 1)), .null, .null] [] s' (pV Q)) → ∀ m w, w + m = gN (grX s) → ∀ s', Sm s s' → s'.1 26 6 = nI (gn (grX s)) → FitOK (grX s) s' p → s'.1 27 p = nI (mkM (fun w => gf (grX s) w p) w) → AtA l G (d + 3) sX1_findChoices 19 [.ref 26, .int (nI p), .int (nI w), .null] [] s' (pV Q) := by
    intro p hp out m
    induction m with
    | zero =>
      intro w hw s' hs hn hF hA
      have : w = gN (grX s) := by omega
      subst this
      refine r_X1_findChoices_19 _ _ _ ⟨fun z => ?_, fun _ => ?_⟩
      · rw [sm_size hs hW] at z
        exact (Int32.lt_irrefl z).elim
      · rw [nI_1]
        refine out s' hs hn (fun j hj => ?_)
        by_cases e : j = p
        · subst e; exact hA
        · exact hF j (by omega)
    | succ m ih =>
      intro w hw s' hs hn hF hA
      have iin : vp_in (nI p) (alen 27) := vin (show p < 61 by omega) (by decide)
      obtain ⟨o1, o2⟩ := sm_fit hs hW hR (show w < gN (grX s) by omega) hp
      refine r_X1_findChoices_19 _ _ _ ⟨fun _ => ⟨o1, fun z => ?_, fun z => ⟨iin, iin, ?_⟩⟩, fun z => ?_⟩
      · rw [nI_1]
        refine ih (w + 1) (by omega) _ hs hn hF ?_
        rw [mkM_f (P := fun w => gf (grX s) w p) (fun q => z (o2.mpr q))]
        exact hA
      · rw [nnum (by omega), nI_1, hA, nn_1 (by omega), nn_or, Nat.or_comm, or_add (mkM_lt _ w)]
        refine ih (w + 1) (by omega) _ (sm_put hs (by decide) (by decide)) (by rw [sp_q (by decide)]; exact hn) (fun j hj => by rw [sp_k (by omega)]; exact hF j hj) ?_
        rw [sp_s, mkM_t (P := fun w => gf (grX s) w p) (o2.mp z)]
      · rw [sm_size hs hW, nlt (by omega) (by omega)] at z
        omega
  have fit : ∀ m p, p + m = gn (grX s) + 1 → ∀ s', Sm s s' → s'.1 26 6 = nI (gn (grX s)) → FitOK (grX s) s' p → AtA l G (d + 3) sX1_findChoices 2 [.ref 26, .int (nI p), .null, .null] [] s' (pV Q) := by
    intro m
    induction m with
    | zero =>
      intro p hp s' hs hn hF
      have : p = gn (grX s) + 1 := by omega
      subst this
      refine r_X1_findChoices_2 _ _ ⟨fun _ => fol 4 0 rfl s' hs hn hF (fun a ha => absurd ha (Nat.not_lt_zero a)), fun z => ?_⟩
      rw [hn, nlt (by omega) (by omega)] at z
      omega
    | succ m ih =>
      intro p hp s' hs hn hF
      refine r_X1_findChoices_2 _ _ ⟨fun z => ?_, fun _ => ⟨vin (show p < 61 by omega) (by decide), ?_⟩⟩
      · rw [hn, nlt (by omega) (by omega)] at z
        omega
      · rw [nnum (by omega)]
        exact fit2 p (by omega) (ih (p + 1) (by omega)) _ 0 (Nat.zero_add _) _ (sm_put hs (by decide) (by decide)) (by rw [sp_q (by decide)]; exact hn) (fun j hj => by rw [sp_k (by omega)]; exact hF j hj) (by rw [sp_s]; rfl)
  exact r_X1_findChoices s0 (fit _ 0 (Nat.zero_add _) s0 hs0 hn0 (fun p hp => absurd hp (Nat.not_lt_zero p)))
