/-! equal answers: writing, preaching, the shelves -/
theorem wb_m255 (x : Int64) : ∃ m : Nat, m < 256 ∧ x &&& 255 = lN m := by
  refine ⟨x.toBitVec.toNat % 256, Nat.mod_lt _ (by decide), ?_⟩
  apply Int64.toBitVec_inj.mp
  apply BitVec.eq_of_toNat_eq
  rw [Int64.toBitVec_and, BitVec.toNat_and]
  show x.toBitVec.toNat &&& 255 = (Int64.ofNat (x.toBitVec.toNat % 256)).toBitVec.toNat
  rw [show (255 : Nat) = 2 ^ 8 - 1 from rfl, Nat.and_two_pow_sub_one_eq_mod, Int64.toBitVec_ofNat', BitVec.toNat_ofNat]
  omega
theorem byt_rg (x : Int64) (i : Nat) : rg (byt x i) 255 := by
  unfold byt
  obtain ⟨m, hm, e⟩ := wb_m255 (x >>> (Int32.toInt64 (8 * nI i) &&& 63))
  rw [e, lN_i]
  exact rg_mk (by omega)
theorem eq_write {l : Launch} {G : Geo} {s : St} (h : RI s) (x1 : Int64) (x2 : Int32) : Eqv l G 104 135 [.long x1, .int x2] s := by
  obtain ⟨⟨t1, t2, t3, t4⟩, hr⟩ := id h
  obtain ⟨L, hL, e1⟩ := t1
  have e2 : s.1 51 9 = nI L := t3.trans e1
  have small : ∀ x2 : Int32, ¬ x2 < 1 → ¬ 8 < x2 → ∃ n : Nat, 1 ≤ n ∧ n ≤ 8 ∧ x2 = nI n := by
    intro x2 c1 c2
    obtain ⟨n, hn, rfl⟩ := nI_of (x := x2) (by
      rw [i_lt] at c1 ⊢
      have q1 : (1 : Int32).toInt = 1 := rfl
      show ¬ x2.toInt < 0
      omega)
    rw [l1, nlt (by omega) (by omega)] at c1
    rw [show (8 : Int32) = nI 8 from rfl, nlt (by omega) (by omega)] at c2
    exact ⟨n, by omega, by omega, rfl⟩
  have room : ∀ n : Nat, n ≤ 8 → (b_X4_hasRoom s (nI n) ↔ L + n ≤ 200) := by
    intro n hn
    unfold b_X4_hasRoom iP
    rw [e1, show (200 : Int32) = nI 200 from rfl, pk_sub hL, nlt (by omega) (by omega)]
    exact ⟨fun q => Classical.byContradiction fun z => q.1 (by omega), fun q => ⟨fun z => by omega, fun _ => trivial⟩⟩
  refine p_X10_write _ _ s (fun c1 c2 hroom => ?_) ?_
  · obtain ⟨n, n1, n8, rfl⟩ := small x2 c1 c2
    exact ⟨L, n, e1, rfl, (room n n8).mp hroom⟩
  · unfold f_X10_write
    by_cases c1 : x2 < 1
    · rw [iC_t c1]
      exact r_X11_write _ _ s ⟨fun _ => ⟨rfl, h⟩, fun q => absurd c1 (in_iff.mp q).1⟩
    · by_cases c2 : 8 < x2
      · rw [iC_f c1, iC_t c2]
        exact r_X11_write _ _ s ⟨fun _ => ⟨rfl, h⟩, fun q => absurd c2 (in_iff.mp q).2⟩
      · rw [iC_f c1, iC_f c2]
        have hin : ∀ s, b_X11_in s x2 1 8 := fun s => in_iff.mpr ⟨c1, c2⟩
        obtain ⟨n, n1, n8, rfl⟩ := small x2 c1 c2
        by_cases c3 : L + n ≤ 200
        · rw [iC_t ((room n n8).mpr c3)]
          have hg : g_X4_append s x1 (nI n) = sput (sarr s 2 (rowW (s.1 2) L n (byt x1))) 1 1 (nI (L + n)) := by
            unfold g_X4_append
            rw [e1, nnum (by omega), nnum (by omega)]
          rw [hg]
          refine r_X11_write _ _ _ ⟨fun q => absurd (hin _) q, fun _ => ⟨fun z => ?_, fun z => ?_⟩⟩
          · have q1 : (sput (sarr s 2 (rowW (s.1 2) L n (byt x1))) 1 1 (nI (L + n))).1 51 9 = nI L := e2
            rw [q1, nI_add, show (200 : Int32) = nI 200 from rfl, nlt (by omega) (by omega)] at z
            omega
          · refine at_X11_write (L := L) e2 c3 ⟨rfl, ?_⟩
            refine ⟨⟨rg_mk c3, ?_, rfl, ?_⟩, hr⟩
            · show ∀ j, rg (rowW (s.1 2) L n (byt x1) j) 255
              exact rowW_rg t2 (fun j _ => byt_rg x1 j)
            · show rowW (s.1 56) L n (byt x1) = rowW (s.1 2) L n (byt x1)
              rw [t4]
        · rw [iC_f (fun q => c3 ((room n n8).mp q))]
          refine r_X11_write _ _ _ ⟨fun q => absurd (hin _) q, fun _ => ⟨fun z => ⟨rfl, h⟩, fun z => ?_⟩⟩
          rw [e2, nI_add, show (200 : Int32) = nI 200 from rfl, nlt (by omega) (by omega)] at z
          omega
/-! words behind words -/
theorem sumN_congr {f g : Nat → Nat} : ∀ n, (∀ j, j < n → f j = g j) → sumN f n = sumN g n
  | 0, _ => rfl
  | n + 1, h => by
    show sumN f n + f n = sumN g n + g n
    rw [sumN_congr n (fun j hj => h j (by omega)), h n (by omega)]
theorem sumN_shift (f : Nat → Nat) : ∀ n, sumN f (n + 1) = f 0 + sumN (fun j => f (j + 1)) n
  | 0 => by
    show 0 + f 0 = f 0 + 0
    omega
  | n + 1 => by
    show sumN f (n + 1) + f (n + 1) = f 0 + (sumN (fun j => f (j + 1)) n + f (n + 1))
    rw [sumN_shift f n]
    omega
theorem latF_congr {sz lt ws ws' : Nat → Int32} : ∀ m k i, (∀ j, k ≤ j → j < k + m → ws j = ws' j) → latF sz lt ws m k i = latF sz lt ws' m k i
  | 0, _, _, _ => rfl
  | m + 1, k, i, h => by
    unfold latF
    rw [h k (Nat.le_refl k) (by omega), latF_congr m (k + 1) _ (fun j h1 h2 => h j (by omega) (by omega))]
theorem latF_low {sz lt ws : Nat → Int32} : ∀ m k i, i < sumN (fun j => Int32.toNatClampNeg (sz (Int32.toNatClampNeg (ws (k + j))))) m → latF sz lt ws (m + 1) k i = latF sz lt ws m k i
  | 0, _, _, h => absurd h (Nat.not_lt_zero _)
  | m + 1, k, i, h => by
    rw [sumN_shift] at h
    show (if i < Int32.toNatClampNeg (sz (Int32.toNatClampNeg (ws k))) then _ else latF sz lt ws (m + 1) (k + 1) (i - Int32.toNatClampNeg (sz (Int32.toNatClampNeg (ws k))))) = (if i < Int32.toNatClampNeg (sz (Int32.toNatClampNeg (ws k))) then _ else latF sz lt ws m (k + 1) (i - Int32.toNatClampNeg (sz (Int32.toNatClampNeg (ws k)))))
    split
    · rfl
    · rename_i hlt
      refine latF_low m (k + 1) _ ?_
      rw [sumN_congr (g := fun j => Int32.toNatClampNeg (sz (Int32.toNatClampNeg (ws (k + (j + 1)))))) m (fun j _ => by rw [show k + 1 + j = k + (j + 1) by omega])]
      simp only [Nat.add_zero] at h
      omega
theorem latF_top {sz lt ws : Nat → Int32} : ∀ m k r, r < Int32.toNatClampNeg (sz (Int32.toNatClampNeg (ws (k + m)))) → latF sz lt ws (m + 1) k (sumN (fun j => Int32.toNatClampNeg (sz (Int32.toNatClampNeg (ws (k + j))))) m + r) = lt (10 * Int32.toNatClampNeg (ws (k + m)) + r)
  | 0, k, r, h => by
    have h : r < Int32.toNatClampNeg (sz (Int32.toNatClampNeg (ws k))) := h
    show (if 0 + r < Int32.toNatClampNeg (sz (Int32.toNatClampNeg (ws k))) then lt (10 * Int32.toNatClampNeg (ws k) + (0 + r)) else _) = lt (10 * Int32.toNatClampNeg (ws k) + r)
    rw [Nat.zero_add, if_pos h]
  | m + 1, k, r, h => by
    rw [sumN_shift]
    show (if _ < Int32.toNatClampNeg (sz (Int32.toNatClampNeg (ws k))) then _ else latF sz lt ws (m + 1) (k + 1) _) = _
    simp only [Nat.add_zero]
    rw [if_neg (by omega)]
    have e : Int32.toNatClampNeg (sz (Int32.toNatClampNeg (ws k))) + sumN (fun j => Int32.toNatClampNeg (sz (Int32.toNatClampNeg (ws (k + (j + 1)))))) m + r - Int32.toNatClampNeg (sz (Int32.toNatClampNeg (ws k))) = sumN (fun j => Int32.toNatClampNeg (sz (Int32.toNatClampNeg (ws (k + 1 + j))))) m + r := by
      have e2 : sumN (fun j => Int32.toNatClampNeg (sz (Int32.toNatClampNeg (ws (k + 1 + j))))) m = sumN (fun j => Int32.toNatClampNeg (sz (Int32.toNatClampNeg (ws (k + (j + 1)))))) m := sumN_congr m (fun j _ => by rw [show k + 1 + j = k + (j + 1) by omega])
      rw [e2]
      omega
    rw [e, latF_top m (k + 1) r (by rw [show k + 1 + m = k + (m + 1) by omega]; exact h), show k + 1 + m = k + (m + 1) by omega]
theorem blkM_add {n : Int32} {lt sz : Nat → Int32} {tot cnt last said : Int32} {ls : Nat → Int32} {p g : Int32} {ws : Nat → Int32} {w : Nat} (h : blkM n lt sz tot cnt last said ls p g ws) (hw : w < Int32.toNatClampNeg n) (hp : Int32.toNatClampNeg p < 6) (ht : totF sz ws (Int32.toNatClampNeg p) + Int32.toNatClampNeg (sz w) ≤ 60) (hn : Int32.toNatClampNeg n ≤ 12) :
    blkM n lt sz (nI (totF sz ws (Int32.toNatClampNeg p) + Int32.toNatClampNeg (sz w))) (cnt + 1) (nI w) said (rowW ls (totF sz ws (Int32.toNatClampNeg p)) (Int32.toNatClampNeg (sz w)) (fun i => lt (10 * w + i))) (p + 1) g (upd ws (Int32.toNatClampNeg p) (nI w)) := by
  obtain ⟨m1, m2, m3, m4, m5, m6, ⟨j, hj, ej⟩, m8, m9, m10⟩ := h
  obtain ⟨ep, bp⟩ := rg_num m1 (by decide)
  have ep1 : p + 1 = nI (Int32.toNatClampNeg p + 1) := by conv => lhs; rw [ep, nI_1]
  have np1 : Int32.toNatClampNeg (p + 1) = Int32.toNatClampNeg p + 1 := by rw [ep1, nnum (by omega)]
  have hup : ∀ k, k < Int32.toNatClampNeg p → upd ws (Int32.toNatClampNeg p) (nI w) k = ws k := fun k hk => if_neg (by omega)
  have htp : upd ws (Int32.toNatClampNeg p) (nI w) (Int32.toNatClampNeg p) = nI w := if_pos rfl
  have htot0 : totF sz (upd ws (Int32.toNatClampNeg p) (nI w)) (Int32.toNatClampNeg p) = totF sz ws (Int32.toNatClampNeg p) := sumN_congr _ (fun k hk => by rw [hup k hk])
  have htot : totF sz (upd ws (Int32.toNatClampNeg p) (nI w)) (Int32.toNatClampNeg (p + 1)) = totF sz ws (Int32.toNatClampNeg p) + Int32.toNatClampNeg (sz w) := by
    rw [np1]
    show totF sz (upd ws (Int32.toNatClampNeg p) (nI w)) (Int32.toNatClampNeg p) + Int32.toNatClampNeg (sz (Int32.toNatClampNeg (upd ws (Int32.toNatClampNeg p) (nI w) (Int32.toNatClampNeg p)))) = _
    rw [htot0, htp, nnum (by omega)]
  refine ⟨by rw [ep1]; exact rg_mk (by omega), fun k hk => ?_, by rw [htot]; exact ht, by rw [htot], by rw [m5], m6, ⟨j, by rw [htot]; omega, ej⟩, fun i hi => ?_, fun q => by rw [np1] at q; omega, fun _ => ?_⟩
  · rw [np1] at hk
    by_cases hk2 : k < Int32.toNatClampNeg p
    · rw [hup k hk2]
      exact m2 k hk2
    · have : k = Int32.toNatClampNeg p := by omega
      rw [this, htp]
      exact ⟨w, hw, rfl⟩
  · rw [htot] at hi
    rw [np1]
    have e0 : sumN (fun j => Int32.toNatClampNeg (sz (Int32.toNatClampNeg (upd ws (Int32.toNatClampNeg p) (nI w) (0 + j))))) (Int32.toNatClampNeg p) = totF sz ws (Int32.toNatClampNeg p) := by
      rw [← htot0]
      exact sumN_congr _ (fun k hk => by rw [Nat.zero_add])
    by_cases hlow : i < totF sz ws (Int32.toNatClampNeg p)
    · rw [rowW_out (Or.inl hlow), m8 i hlow, latF_low (Int32.toNatClampNeg p) 0 i (by rw [e0]; exact hlow)]
      exact latF_congr _ _ _ (fun k h1 h2 => (hup k (by omega)).symm)
    · obtain ⟨r, rfl⟩ : ∃ r, i = totF sz ws (Int32.toNatClampNeg p) + r := ⟨i - totF sz ws (Int32.toNatClampNeg p), by omega⟩
      have hr : r < Int32.toNatClampNeg (sz w) := by omega
      rw [rowW_in hr]
      have := latF_top (sz := sz) (lt := lt) (ws := upd ws (Int32.toNatClampNeg p) (nI w)) (Int32.toNatClampNeg p) 0 r (by rw [Nat.zero_add, htp, nnum (by omega)]; exact hr)
      rw [e0, Nat.zero_add, htp, nnum (by omega)] at this
      exact this.symm
  · rw [np1, Nat.add_sub_cancel, htp]
theorem eq_preach {l : Launch} {G : Geo} {s : St} (h : RI s) (x1 : Int32) : Eqv l G 110 156 [.int x1] s := by
  have hW := ri_wl h
  have hsm := ri_sm h
  have ht := tot_eq h
  obtain ⟨ez, hz⟩ := siz4 hW
  obtain ⟨b1, b2, ⟨w1, w2, w3, w4, w5, w6, w7, w8, w9, w10⟩, b4, hM, b6⟩ := id h
  obtain ⟨m1, m2, m3, m4, m5, m6, m7, m8, m9, m10⟩ := id hM
  obtain ⟨ep, bp⟩ := rg_num m1 (by decide)
  by_cases hnw : ¬ ∃ w, w < Int32.toNatClampNeg (s.1 4 3) ∧ x1 = nI w
  · have hh := fun q => hnw ((has_iff (o := 4) hW.1).mp q)
    have hi := fun q => hnw ((isw_iff h).mp q)
    refine p_X10_preach _ s (fun q => absurd q hh) ?_
    unfold f_X10_preach
    rw [iC_f hh]
    refine p_X11_preach _ s (fun q => absurd q hi) ?_
    unfold f_X11_preach
    rw [iC_f hi]
    exact ⟨rfl, h⟩
  have hw := Classical.not_not.mp hnw
  clear hnw
  have hh := (has_iff (o := 4) hW.1).mpr hw
  have hi := (isw_iff h).mpr hw
  obtain ⟨w, hw, rfl⟩ := hw
  obtain ⟨el, hl⟩ := len4 hW w
  have i12 : vp_in (nI w) 12 := w_in (by omega)
  -- room
  have room : b_X6_hasRoom s 18 (v_X9_lengthOf s 4 (nI w)) ↔ Int32.toNatClampNeg (s.1 51 23) < 6 ∧ totF (s.1 6) (s.1 60) (Int32.toNatClampNeg (s.1 51 23)) + Int32.toNatClampNeg (s.1 6 w) ≤ 60 := by
    rw [v_len4 hW hw]
    unfold b_X6_hasRoom
    rw [m5, m4]
    constructor
    · intro q
      have q1 : s.1 51 23 < 6 := Classical.byContradiction fun z => q.2 z
      have q2 := (q.1 q1).1
      rw [show (60 : Int32) = nI 60 from rfl, pk_sub m3, el, nlt (by omega) (by omega)] at q2
      rw [ep, show (6 : Int32) = nI 6 from rfl, nlt (by omega) (by omega)] at q1
      exact ⟨q1, Classical.byContradiction fun z => q2 (by omega)⟩
    · rintro ⟨q1, q2⟩
      refine ⟨fun _ => ⟨fun z => ?_, fun _ => trivial⟩, fun z => z (by rw [ep, show (6 : Int32) = nI 6 from rfl, nlt (by omega) (by omega)]; exact q1)⟩
      rw [show (60 : Int32) = nI 60 from rfl, pk_sub m3, el, nlt (by omega) (by omega)] at z
      omega
  have okap : b_X6_hasRoom s 18 (v_X9_lengthOf s 4 (nI w)) → ok_X6_append s 18 (nI w) := fun q => ⟨rfl, hW, ⟨w, hw, rfl, _, m4, (room.mp q).2⟩, q⟩
  have hlast : (v_X6_lastWord s 18 = -1) ↔ ¬ 0 < s.1 51 23 := by
    show s.1 18 3 = -1 ↔ _
    rw [ep, l0, nlt (by omega) (by omega)]
    constructor
    · intro q z
      obtain ⟨v, hv, e⟩ := m2 (Int32.toNatClampNeg (s.1 51 23) - 1) (by omega)
      rw [m10 z, e] at q
      have : (nI v).toInt = (-1 : Int32).toInt := by rw [q]
      rw [nI_i (by omega)] at this
      have q9 : (-1 : Int32).toInt = -1 := rfl
      omega
    · intro q
      exact m9 (by omega)
  have hfol : 0 < s.1 51 23 → (b_X9_mayFollow s 4 (v_X9_sortOf s 4 (v_X6_lastWord s 18)) (v_X9_sortOf s 4 (nI w)) ↔ b_X11_mayFollow s (s.1 60 (Int32.toNatClampNeg (s.1 51 23 - 1))) (nI w)) := by
    intro q
    have hp0 : 0 < Int32.toNatClampNeg (s.1 51 23) := by
      rw [ep, l0, nlt (by omega) (by omega)] at q
      exact q
    obtain ⟨v, hv, e⟩ := m2 (Int32.toNatClampNeg (s.1 51 23) - 1) (by omega)
    have e7 : Int32.toNatClampNeg (s.1 51 23 - 1) = Int32.toNatClampNeg (s.1 51 23) - 1 := by
      conv => lhs; rw [ep, l1, pk_sub (by omega), nnum (by omega)]
    have e8 : v_X6_lastWord s 18 = nI v := (m10 hp0).trans e
    unfold b_X11_mayFollow
    rw [e7, e, e8, v_sort4 hW hv, v_sort4 hW hw, hasb, nnum (by omega), nnum (by omega), w7, w10]
    unfold b_X9_mayFollow
    exact ⟨fun q z => q.1 z, fun q => ⟨fun z => absurd z q, fun _ => trivial⟩⟩
  -- the end, where there is room
  have good : Int32.toNatClampNeg (s.1 51 23) < 6 → totF (s.1 6) (s.1 60) (Int32.toNatClampNeg (s.1 51 23)) + Int32.toNatClampNeg (s.1 6 w) ≤ 60 → ∃ s2, sput (sput (g_X6_append s 18 (nI w)) 60 (Int32.toNatClampNeg (s.1 51 23)) (nI w)) 51 23 (s.1 51 23 + 1) = s2 ∧ v_X11_lettersOf s2 = v_X6_letterTotal (g_X6_append s 18 (nI w)) 18 ∧ RI s2 := by
    intro q1 q2
    refine ⟨_, rfl, ?_, ?_⟩
    · have hB := blkM_add hM hw q1 q2 hz
      obtain ⟨-, -, -, t4, -⟩ := hB
      show nI (totF (s.1 54) ((sput s 60 (Int32.toNatClampNeg (s.1 51 23)) (nI w)).1 60) (Int32.toNatClampNeg (s.1 51 23 + 1))) = nI (Int32.toNatClampNeg (s.1 18 1) + Int32.toNatClampNeg (s.1 6 (Int32.toNatClampNeg (nI w))))
      rw [w9, ← upd_put, ← t4, m4, nnum (by omega), nnum (by omega)]
    · have hB := blkM_add hM hw q1 q2 hz
      refine ⟨b1, b2, ⟨w1, w2, w3, w4, w5, w6, w7, w8, w9, w10⟩, b4, ?_, b6⟩
      show blkM (s.1 4 3) (s.1 5) (s.1 6) (nI (Int32.toNatClampNeg (s.1 18 1) + Int32.toNatClampNeg (s.1 6 (Int32.toNatClampNeg (nI w))))) (s.1 18 2 + 1) (nI w) (s.1 18 4) (rowW (s.1 19) (Int32.toNatClampNeg (s.1 18 1)) (Int32.toNatClampNeg (s.1 6 (Int32.toNatClampNeg (nI w)))) (fun i => s.1 5 (10 * Int32.toNatClampNeg (nI w) + i))) (s.1 51 23 + 1) (s.1 51 25) ((sput s 60 (Int32.toNatClampNeg (s.1 51 23)) (nI w)).1 60)
      rw [← upd_put, m4, nnum (by omega), nnum (by omega)]
      exact hB
  have smO : ∀ t : St, t.1 51 23 = s.1 51 23 → t.1 60 = s.1 60 → t.1 54 = s.1 54 → ok_X11_lettersOf t := by
    intro t q1 q2 q3
    unfold ok_X11_lettersOf smR
    rw [q1, q2, q3]
    exact hsm
  -- the reference's run from any store that differs in the class's sermon alone
  have run : ∀ (t : St), t.1 51 = s.1 51 → t.1 60 = s.1 60 → t.1 54 = s.1 54 → t.1 53 = s.1 53 → ∀ Q : Int32 → St → Prop, (0 < s.1 51 23 → ¬ b_X11_mayFollow s (s.1 60 (Int32.toNatClampNeg (s.1 51 23 - 1))) (nI w) → Q (-4) t) → ((0 < s.1 51 23 → b_X11_mayFollow s (s.1 60 (Int32.toNatClampNeg (s.1 51 23 - 1))) (nI w)) → ¬ (Int32.toNatClampNeg (s.1 51 23) < 6 ∧ totF (s.1 6) (s.1 60) (Int32.toNatClampNeg (s.1 51 23)) + Int32.toNatClampNeg (s.1 6 w) ≤ 60) → Q (-5) t) → ((0 < s.1 51 23 → b_X11_mayFollow s (s.1 60 (Int32.toNatClampNeg (s.1 51 23 - 1))) (nI w)) → Int32.toNatClampNeg (s.1 51 23) < 6 → totF (s.1 6) (s.1 60) (Int32.toNatClampNeg (s.1 51 23)) + Int32.toNatClampNeg (s.1 6 w) ≤ 60 → Q (v_X11_lettersOf (sput (sput t 60 (Int32.toNatClampNeg (s.1 51 23)) (nI w)) 51 23 (s.1 51 23 + 1))) (sput (sput t 60 (Int32.toNatClampNeg (s.1 51 23)) (nI w)) 51 23 (s.1 51 23 + 1))) → DoesI l G 20 156 [.ref 51, .int (nI w)] t Q := by
    intro t q1 q2 q3 q4 Q k1 k2 k3
    have hiw : b_X11_isWord t (nI w) := by
      have : b_X11_isWord t (nI w) ↔ b_X11_isWord s (nI w) := by
        unfold b_X11_isWord
        rw [q1]
        exact ⟨fun q => in_iff.mpr (in_iff.mp q), fun q => in_iff.mpr (in_iff.mp q)⟩
      exact this.mpr hi
    have hmf : b_X11_mayFollow t (t.1 60 (Int32.toNatClampNeg (t.1 51 23 - 1))) (nI w) ↔ b_X11_mayFollow s (s.1 60 (Int32.toNatClampNeg (s.1 51 23 - 1))) (nI w) := by
      unfold b_X11_mayFollow
      rw [q1, q2, q4, hasb, hasb]
    have hlo : v_X11_lettersOf t = nI (totF (s.1 6) (s.1 60) (Int32.toNatClampNeg (s.1 51 23))) := by
      rw [← m4, ← ht]
      unfold v_X11_lettersOf
      rw [q1, q2, q3]
    have h6 : t.1 51 23 = 6 ↔ ¬ Int32.toNatClampNeg (s.1 51 23) < 6 := by
      rw [q1, ep, show (6 : Int32) = nI 6 from rfl, neq (by omega) (by omega), nnum (by omega)]
      omega
    have h60 : 60 < v_X11_lettersOf t + t.1 54 (Int32.toNatClampNeg (nI w)) ↔ ¬ totF (s.1 6) (s.1 60) (Int32.toNatClampNeg (s.1 51 23)) + Int32.toNatClampNeg (s.1 6 w) ≤ 60 := by
      rw [hlo, q3, w9, nnum (by omega), el, nI_add, show (60 : Int32) = nI 60 from rfl, nlt (by omega) (by omega), nnum (by omega)]
      omega
    have okt := smO t (by rw [q1]) q2 q3
    have oke : Int32.toNatClampNeg (s.1 51 23) < 6 → ok_X11_lettersOf (sput (sput t 60 (Int32.toNatClampNeg (t.1 51 23)) (nI w)) 51 23 ((sput t 60 (Int32.toNatClampNeg (t.1 51 23)) (nI w)).1 51 23 + 1)) := by
      intro q6
      have e9 : s.1 51 23 + 1 = nI (Int32.toNatClampNeg (s.1 51 23) + 1) := by conv => lhs; rw [ep, nI_1]
      have e10 : (sput t 60 (Int32.toNatClampNeg (t.1 51 23)) (nI w)).1 51 23 = s.1 51 23 := by
        show t.1 51 23 = _
        rw [q1]
      unfold ok_X11_lettersOf smR
      rw [e10]
      have e11 : (sput (sput t 60 (Int32.toNatClampNeg (t.1 51 23)) (nI w)) 51 23 (s.1 51 23 + 1)).1 51 23 = nI (Int32.toNatClampNeg (s.1 51 23) + 1) := by rw [sp_s, e9]
      rw [e11, nnum (by omega)]
      refine ⟨rg_mk (by omega), fun k hk => ?_, ?_⟩
      · show ∃ v, v < 12 ∧ (sput t 60 (Int32.toNatClampNeg (t.1 51 23)) (nI w)).1 60 k = nI v
        rw [q1]
        by_cases hk2 : k = Int32.toNatClampNeg (s.1 51 23)
        · rw [hk2, sp_s]
          exact ⟨w, by omega, rfl⟩
        · rw [sp_k hk2, q2]
          exact hsm.2.1 k (by omega)
      · show ∀ v, rg (t.1 54 v) 10
        rw [q3]
        exact hsm.2.2
    have okend : Int32.toNatClampNeg (s.1 51 23) < 6 → (vp_in (t.1 51 23) (alen 60)) ∧ ok_X11_lettersOf (sput (sput t 60 (Int32.toNatClampNeg (t.1 51 23)) (nI w)) 51 23 ((sput t 60 (Int32.toNatClampNeg (t.1 51 23)) (nI w)).1 51 23 + 1)) := fun q6 => ⟨by
      rw [q1, ep]
      exact vin (show Int32.toNatClampNeg (s.1 51 23) < 6 from q6) (by decide), oke q6⟩
    refine p_X11_preach _ t (fun _ => ⟨fun q => ?_, fun _ q6 => ⟨okt, i12, fun _ => okend (Classical.byContradiction fun z => q6 (h6.mpr z))⟩⟩) ?_
    · have hp0 : 0 < Int32.toNatClampNeg (s.1 51 23) := by
        rw [q1, ep, l0, nlt (by omega) (by omega)] at q
        exact q
      obtain ⟨v, hv, e⟩ := m2 (Int32.toNatClampNeg (s.1 51 23) - 1) (by omega)
      have e7 : Int32.toNatClampNeg (s.1 51 23 - 1) = Int32.toNatClampNeg (s.1 51 23) - 1 := by
        conv => lhs; rw [ep, l1, pk_sub (by omega), nnum (by omega)]
      refine ⟨?_, ⟨?_, i12⟩, fun _ q6 => ⟨okt, i12, fun _ => okend (Classical.byContradiction fun z => q6 (h6.mpr z))⟩⟩
      · rw [q1, ep, l1, pk_sub (by omega)]
        exact vin (show Int32.toNatClampNeg (s.1 51 23) - 1 < 6 by omega) (by decide)
      · rw [q1, q2, e7, e]
        exact w_in (by omega)
    · unfold f_X11_preach
      rw [iC_t hiw]
      have e10 : (sput t 60 (Int32.toNatClampNeg (t.1 51 23)) (nI w)).1 51 23 = s.1 51 23 := by
        show t.1 51 23 = _
        rw [q1]
      have tail : (0 < s.1 51 23 → b_X11_mayFollow s (s.1 60 (Int32.toNatClampNeg (s.1 51 23 - 1))) (nI w)) → Q (iC (t.1 51 23 = 6) (-5, t) (iC (60 < v_X11_lettersOf t + t.1 54 (Int32.toNatClampNeg (nI w))) (-5, t) (v_X11_lettersOf (sput (sput t 60 (Int32.toNatClampNeg (t.1 51 23)) (nI w)) 51 23 ((sput t 60 (Int32.toNatClampNeg (t.1 51 23)) (nI w)).1 51 23 + 1)), sput (sput t 60 (Int32.toNatClampNeg (t.1 51 23)) (nI w)) 51 23 ((sput t 60 (Int32.toNatClampNeg (t.1 51 23)) (nI w)).1 51 23 + 1)))).1 (iC (t.1 51 23 = 6) (-5, t) (iC (60 < v_X11_lettersOf t + t.1 54 (Int32.toNatClampNeg (nI w))) (-5, t) (v_X11_lettersOf (sput (sput t 60 (Int32.toNatClampNeg (t.1 51 23)) (nI w)) 51 23 ((sput t 60 (Int32.toNatClampNeg (t.1 51 23)) (nI w)).1 51 23 + 1)), sput (sput t 60 (Int32.toNatClampNeg (t.1 51 23)) (nI w)) 51 23 ((sput t 60 (Int32.toNatClampNeg (t.1 51 23)) (nI w)).1 51 23 + 1)))).2 := by
        intro kf
        rw [e10]
        by_cases q6 : Int32.toNatClampNeg (s.1 51 23) < 6
        · rw [iC_f (fun q => (h6.mp q) q6)]
          by_cases q7 : totF (s.1 6) (s.1 60) (Int32.toNatClampNeg (s.1 51 23)) + Int32.toNatClampNeg (s.1 6 w) ≤ 60
          · rw [iC_f (fun q => (h60.mp q) q7), q1]
            exact k3 kf q6 q7
          · rw [iC_t (h60.mpr q7)]
            exact k2 kf (fun q => q7 q.2)
        · rw [iC_t (h6.mpr q6)]
          exact k2 kf (fun q => q6 q.1)
      by_cases q0 : 0 < t.1 51 23
      · have q0' : 0 < s.1 51 23 := by rw [q1] at q0; exact q0
        rw [iC_t q0]
        by_cases q5 : b_X11_mayFollow s (s.1 60 (Int32.toNatClampNeg (s.1 51 23 - 1))) (nI w)
        · rw [iC_t (hmf.mpr q5)]
          exact tail (fun _ => q5)
        · rw [iC_f (fun q => q5 (hmf.mp q))]
          exact k1 q0' q5
      · have q0' : ¬ 0 < s.1 51 23 := by rw [q1] at q0; exact q0
        rw [iC_f q0]
        exact tail (fun q => absurd q q0')
  -- the class's run
  refine p_X10_preach _ s (fun _ => ⟨fun _ => ⟨ok_len (Or.inl rfl) hW _, okap⟩, fun _ => ⟨ok_sort (Or.inl rfl) hW _, ok_sort (Or.inl rfl) hW _, fun _ => ⟨ok_len (Or.inl rfl) hW _, okap⟩⟩⟩) ?_
  unfold f_X10_preach
  rw [iC_t hh]
  have tail : (0 < s.1 51 23 → b_X11_mayFollow s (s.1 60 (Int32.toNatClampNeg (s.1 51 23 - 1))) (nI w)) → DoesI l G 20 156 [.ref 51, .int (nI w)] (iC (b_X6_hasRoom s 18 (v_X9_lengthOf s 4 (nI w))) (v_X6_letterTotal (g_X6_append s 18 (nI w)) 18, g_X6_append s 18 (nI w)) (-5, s)).2 (fun r2 s2 => (iC (b_X6_hasRoom s 18 (v_X9_lengthOf s 4 (nI w))) (v_X6_letterTotal (g_X6_append s 18 (nI w)) 18, g_X6_append s 18 (nI w)) (-5, s)).1 = r2 ∧ RI s2) := by
    intro kf
    by_cases q : b_X6_hasRoom s 18 (v_X9_lengthOf s 4 (nI w))
    · rw [iC_t q]
      obtain ⟨r1, r2⟩ := room.mp q
      refine run (g_X6_append s 18 (nI w)) rfl rfl rfl rfl _ (fun z1 z2 => absurd (kf z1) z2) (fun _ z => absurd ⟨r1, r2⟩ z) (fun _ _ _ => ?_)
      obtain ⟨s2, e5, e6, e7⟩ := good r1 r2
      rw [e5]
      exact ⟨e6.symm, e7⟩
    · rw [iC_f q]
      exact run s rfl rfl rfl rfl _ (fun z1 z2 => absurd (kf z1) z2) (fun _ _ => ⟨rfl, h⟩) (fun _ z1 z2 => absurd (room.mpr ⟨z1, z2⟩) q)
  by_cases q0 : 0 < s.1 51 23
  · rw [iC_f (fun z => (hlast.mp z) q0)]
    by_cases q5 : b_X11_mayFollow s (s.1 60 (Int32.toNatClampNeg (s.1 51 23 - 1))) (nI w)
    · rw [iC_t ((hfol q0).mpr q5)]
      exact tail (fun _ => q5)
    · rw [iC_f (fun q => q5 ((hfol q0).mp q))]
      exact run s rfl rfl rfl rfl _ (fun _ _ => ⟨rfl, h⟩) (fun z => absurd (z q0) q5) (fun z => absurd (z q0) q5)
  · rw [iC_t (hlast.mpr q0)]
    exact tail (fun z => absurd z q0)
