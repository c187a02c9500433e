/-! the law's start: String constants, the world behind both constructors, the relation there; printed by wip/gen/gen_start.py -/
def stm (i : Nat) : Jvm.Term := .string RX3 (sIdx.getD i 0)
theorem st_ln : ∀ i : Nat, i < 9 → slen.getD i 0 < 2 ^ 31 := by decide +kernel
theorem st_ex : ∀ i : Nat, i < 9 → Cond.exactly (stm i) "java/lang/String" ∈ flatC (Jvm.Cond.and given_1 narrow_1) := by decide +kernel
theorem st_co : ∀ i : Nat, i < 9 → Cond.eq (.field (stm i) "java/lang/String" "coder" "B") (.int 0) ∈ flatC (Jvm.Cond.and given_1 narrow_1) := by decide +kernel
theorem st_ar : ∀ i : Nat, i < 9 → Cond.arrayOf (.field (stm i) "java/lang/String" "value" "[B") .byte ∈ flatC (Jvm.Cond.and given_1 narrow_1) := by decide +kernel
theorem st_le : ∀ i : Nat, i < 9 → Cond.eq (.length (.field (stm i) "java/lang/String" "value" "[B")) (.int (Int32.ofNat (slen.getD i 0))) ∈ flatC (Jvm.Cond.and given_1 narrow_1) := by decide +kernel
theorem st_el : ∀ i : Nat, i < 9 → ∀ j : Nat, j < slen.getD i 0 → Cond.eq (.elem (.field (stm i) "java/lang/String" "value" "[B") (.int (Int32.ofNat j))) (.int ((sbyt.getD i []).getD j 0)) ∈ flatC (Jvm.Cond.and given_1 narrow_1) := by decide +kernel
theorem st_ne : ∀ i : Nat, i < 9 → ∀ j : Nat, j < 9 → i ≠ j → (Cond.not (Cond.eq (stm i) (stm j)) ∈ flatC (Jvm.Cond.and given_1 narrow_1) ∨ Cond.not (Cond.eq (stm j) (stm i)) ∈ flatC (Jvm.Cond.and given_1 narrow_1)) := by decide +kernel
theorem st_rf : ∀ i : Nat, i < 9 → Cond.stringRef RX3 (sIdx.getD i 0) (sTxt.getD i "") ∈ lw_tbl := by decide +kernel
theorem lw_str {b : Nat} {s : State} (hgv : (Jvm.Cond.and given_1 narrow_1).before #[Value.ref b] s = true) (hts : ∀ w ∈ lw_tbl, w.before #[Value.ref b] s = true) : ∃ (aK aV : Nat → Nat) (f z : Nat), vk_S 9 slen sbyt aK aV (fun q : Nat => s.heap.size ≤ q) s s.heap ∧ (∀ i, i < 9 → vk_R RX3 (sIdx.getD i 0) (sTxt.getD i "") (aK i) s) ∧ va_Z "java/lang/String" "COMPACT_STRINGS" "Z" (.int 1) (fun q : Nat => s.heap.size ≤ q) s s.heap ∧ va_Z "jdk/internal/util/Preconditions" "SIOOBE_FORMATTER" "Ljava/util/function/BiFunction;" (if z = 0 then .ref f else .null) (fun q : Nat => s.heap.size ≤ q) s s.heap := by
  have hs := flat_of_before _ hgv
  have hA : ∀ a : Nat, a < s.heap.size → ¬ (fun q : Nat => s.heap.size ≤ q) a := fun a h => Nat.not_le.mpr h
  obtain ⟨aK, aV, h1, h2⟩ := vk_Sof (args := #[Value.ref b]) (s := s) (N := 9) (tm := stm) (len := slen) (byt := sbyt) (A := fun q : Nat => s.heap.size ≤ q) st_ln (fun i hi => hs _ (st_ex i hi)) (fun i hi => hs _ (st_co i hi)) (fun i hi => hs _ (st_ar i hi)) (fun i hi => hs _ (st_le i hi)) (fun i hi j hj => hs _ (st_el i hi j hj)) (fun i j hi hj hij => (st_ne i hi j hj hij).elim (fun q => Or.inl (hs _ q)) (fun q => Or.inr (hs _ q))) hA
  have h3 : ∀ i, i < 9 → vk_R RX3 (sIdx.getD i 0) (sTxt.getD i "") (aK i) s := fun i hi => vk_R.of (hts _ (st_rf i hi)) (h2 i hi)
  have h4 := va_Zof (hts (Cond.laysStatic "java/lang/String" "COMPACT_STRINGS" "Z") (by decide +kernel)) (hts (.initialized "java/lang/String") (by decide +kernel)) (va_eqi (hs (Cond.eq (.static "java/lang/String" "COMPACT_STRINGS" "Z") (.int 1)) (by decide +kernel))) hA
  have h5 := va_Zqof (hts (Cond.laysStatic "jdk/internal/util/Preconditions" "SIOOBE_FORMATTER" "Ljava/util/function/BiFunction;") (by decide +kernel)) (hts (.initialized "jdk/internal/util/Preconditions") (by decide +kernel)) (hs (Cond.isRef (.static "jdk/internal/util/Preconditions" "SIOOBE_FORMATTER" "Ljava/util/function/BiFunction;")) (by decide +kernel)) hA
  rcases h5 with h5 | ⟨t, h5⟩
  · exact ⟨aK, aV, 0, 1, h1, h3, h4, h5⟩
  · exact ⟨aK, aV, t, 0, h1, h3, h4, h5⟩
def z0 : St := (fun _ _ => 0, 0)
def s0L : St := sput (sput (sput (sput (sput (sput (sput (sput (sput z0 4 4 511) 11 4 511) 8 1 3) 15 1 3) 18 3 (-1)) 20 3 (-1)) 22 3 (-1)) 51 0 3) 51 8 511
theorem ri_start : RI s0L := by
  refine ⟨⟨rg0 _, fun j => rg0 _, rfl, rfl⟩, ⟨⟨3, by decide, by decide, rfl⟩, fun j => rg0 _, rfl, rfl, rfl, rfl⟩, ⟨rg0 _, fun w => rg0 _, fun w => rg0 _, fun j => rg0 _, fun w hw => absurd hw (Nat.not_lt_zero w), rfl, rfl, rfl, rfl, rfl⟩, ⟨rg0 _, fun j => rg0 _, rfl, rfl⟩, blkM0, ?_, ?_, Or.inl rfl, Or.inl rfl, fun q => absurd q (show ¬ (0 : Int32) = 1 by decide), fun q => absurd q (show ¬ (0 : Int32) = 1 by decide)⟩
  · exact ⟨fun q => absurd (show ((0 : Int32) >>> (nI 0 &&& 31)) &&& 1 = 0 by decide +kernel) q, fun q => absurd q (show ¬ (0 : Int32) = 1 by decide)⟩
  · exact ⟨fun q => absurd (show ((0 : Int32) >>> (nI 1 &&& 31)) &&& 1 = 0 by decide +kernel) q, fun q => absurd q (show ¬ (0 : Int32) = 1 by decide)⟩
def adr (A : List Nat) (aK aV : Nat → Nat) (f z q : Nat) : Nat := if q < 68 then A.getD q 0 else if q < 200 then aK (q - 100) else if q < 300 then aV (q - 200) else if q = 300 then f else z
def gL (q0 : Nat) (u : Nat → Nat → Nat) (q8 : Nat) (v : Nat → Nat) : List Nat := [q0, u 0 0, u 1 0, u 0 1, u 2 0, u 2 1, u 2 2, u 2 3, u 2 4, u 2 5, u 0 2, u 3 0, u 3 1, u 3 2, u 3 3, u 3 4, u 3 5, u 0 3, u 0 4, u 5 0, u 0 5, u 6 0, u 0 6, u 7 0, u 0 7, u 8 0, u 0 8, u 9 0, u 9 1, u 9 2, u 9 2 + 1 + 0, u 9 2 + 1 + 1, u 9 2 + 1 + 2, u 9 2 + 1 + 3, u 9 2 + 1 + 4, u 9 2 + 1 + 5, u 9 2 + 1 + 6, u 9 3, u 9 3 + 1 + 0, u 9 3 + 1 + 1, u 9 3 + 1 + 2, u 9 3 + 1 + 3, u 9 3 + 1 + 4, u 9 3 + 1 + 5, u 9 3 + 1 + 6, u 0 9, u 10 0, u 0 10, u 11 0, u 11 1, u 11 2, q8, v 0, v 1, v 2, v 3, v 4, v 5, v 6, v 7, v 8, v 9, v 10, v 11, v 12, v 13, v 14, v 15]
def gG (D : va_G) (cI cZ cQ : ClassId) (q0 : Nat) (u : Nat → Nat → Nat) (q8 : Nat) (v aK aV : Nat → Nat) (f z : Nat) : Geo := (D, adr (gL q0 u q8 v) aK aV f z, cI, cZ, cQ)
section GS
variable {D : va_G} {cI cZ cQ : ClassId} {q0 q8 f z : Nat} {u : Nat → Nat → Nat} {v aK aV : Nat → Nat}
theorem gs_out {k : Nat} {a : Nat} (h : ∀ j, j < 7 → (gG D cI cZ cQ q0 u q8 v aK aV f z).2.1 (k + j) = a + 1 + j) : (fun j => if j < 7 then some ((gG D cI cZ cQ q0 u q8 v aK aV f z).2.1 (k + j)) else none) = fun j => if j < 7 then some (a + 1 + j) else none := by
  funext j
  by_cases hj : j < 7
  · rw [if_pos hj, if_pos hj, h j hj]
  · rw [if_neg hj, if_neg hj]
theorem gs_30 : ∀ j, j < 7 → (gG D cI cZ cQ q0 u q8 v aK aV f z).2.1 (30 + j) = u 9 2 + 1 + j := by
  intro j hj
  match j, hj with
  | 0, _ => rfl
  | 1, _ => rfl
  | 2, _ => rfl
  | 3, _ => rfl
  | 4, _ => rfl
  | 5, _ => rfl
  | 6, _ => rfl
  | j + 7, hj => omega
theorem gs_38 : ∀ j, j < 7 → (gG D cI cZ cQ q0 u q8 v aK aV f z).2.1 (38 + j) = u 9 3 + 1 + j := by
  intro j hj
  match j, hj with
  | 0, _ => rfl
  | 1, _ => rfl
  | 2, _ => rfl
  | 3, _ => rfl
  | 4, _ => rfl
  | 5, _ => rfl
  | 6, _ => rfl
  | j + 7, hj => omega
theorem ga_0 : (wo10 cI cZ cQ q0 u ++ wo11 cI cZ cQ q8 v)[0]? = some ((gG D cI cZ cQ q0 u q8 v aK aV f z).2.1 0, wcell (gG D cI cZ cQ q0 u q8 v aK aV f z) s0L 0) := rfl
theorem ga_1 : (wo10 cI cZ cQ q0 u ++ wo11 cI cZ cQ q8 v)[1]? = some ((gG D cI cZ cQ q0 u q8 v aK aV f z).2.1 1, wcell (gG D cI cZ cQ q0 u q8 v aK aV f z) s0L 1) := rfl
theorem ga_2 : (wo10 cI cZ cQ q0 u ++ wo11 cI cZ cQ q8 v)[2]? = some ((gG D cI cZ cQ q0 u q8 v aK aV f z).2.1 2, wcell (gG D cI cZ cQ q0 u q8 v aK aV f z) s0L 2) := rfl
theorem ga_3 : (wo10 cI cZ cQ q0 u ++ wo11 cI cZ cQ q8 v)[3]? = some ((gG D cI cZ cQ q0 u q8 v aK aV f z).2.1 3, wcell (gG D cI cZ cQ q0 u q8 v aK aV f z) s0L 3) := rfl
theorem ga_4 : (wo10 cI cZ cQ q0 u ++ wo11 cI cZ cQ q8 v)[4]? = some ((gG D cI cZ cQ q0 u q8 v aK aV f z).2.1 4, wcell (gG D cI cZ cQ q0 u q8 v aK aV f z) s0L 4) := rfl
theorem ga_5 : (wo10 cI cZ cQ q0 u ++ wo11 cI cZ cQ q8 v)[5]? = some ((gG D cI cZ cQ q0 u q8 v aK aV f z).2.1 5, wcell (gG D cI cZ cQ q0 u q8 v aK aV f z) s0L 5) := rfl
theorem ga_6 : (wo10 cI cZ cQ q0 u ++ wo11 cI cZ cQ q8 v)[6]? = some ((gG D cI cZ cQ q0 u q8 v aK aV f z).2.1 6, wcell (gG D cI cZ cQ q0 u q8 v aK aV f z) s0L 6) := rfl
theorem ga_7 : (wo10 cI cZ cQ q0 u ++ wo11 cI cZ cQ q8 v)[7]? = some ((gG D cI cZ cQ q0 u q8 v aK aV f z).2.1 7, wcell (gG D cI cZ cQ q0 u q8 v aK aV f z) s0L 7) := rfl
theorem ga_8 : (wo10 cI cZ cQ q0 u ++ wo11 cI cZ cQ q8 v)[8]? = some ((gG D cI cZ cQ q0 u q8 v aK aV f z).2.1 8, wcell (gG D cI cZ cQ q0 u q8 v aK aV f z) s0L 8) := rfl
theorem ga_9 : (wo10 cI cZ cQ q0 u ++ wo11 cI cZ cQ q8 v)[9]? = some ((gG D cI cZ cQ q0 u q8 v aK aV f z).2.1 9, wcell (gG D cI cZ cQ q0 u q8 v aK aV f z) s0L 9) := rfl
theorem ga_10 : (wo10 cI cZ cQ q0 u ++ wo11 cI cZ cQ q8 v)[10]? = some ((gG D cI cZ cQ q0 u q8 v aK aV f z).2.1 10, wcell (gG D cI cZ cQ q0 u q8 v aK aV f z) s0L 10) := rfl
theorem ga_11 : (wo10 cI cZ cQ q0 u ++ wo11 cI cZ cQ q8 v)[11]? = some ((gG D cI cZ cQ q0 u q8 v aK aV f z).2.1 11, wcell (gG D cI cZ cQ q0 u q8 v aK aV f z) s0L 11) := rfl
theorem ga_12 : (wo10 cI cZ cQ q0 u ++ wo11 cI cZ cQ q8 v)[12]? = some ((gG D cI cZ cQ q0 u q8 v aK aV f z).2.1 12, wcell (gG D cI cZ cQ q0 u q8 v aK aV f z) s0L 12) := rfl
theorem ga_13 : (wo10 cI cZ cQ q0 u ++ wo11 cI cZ cQ q8 v)[13]? = some ((gG D cI cZ cQ q0 u q8 v aK aV f z).2.1 13, wcell (gG D cI cZ cQ q0 u q8 v aK aV f z) s0L 13) := rfl
theorem ga_14 : (wo10 cI cZ cQ q0 u ++ wo11 cI cZ cQ q8 v)[14]? = some ((gG D cI cZ cQ q0 u q8 v aK aV f z).2.1 14, wcell (gG D cI cZ cQ q0 u q8 v aK aV f z) s0L 14) := rfl
theorem ga_15 : (wo10 cI cZ cQ q0 u ++ wo11 cI cZ cQ q8 v)[15]? = some ((gG D cI cZ cQ q0 u q8 v aK aV f z).2.1 15, wcell (gG D cI cZ cQ q0 u q8 v aK aV f z) s0L 15) := rfl
theorem ga_16 : (wo10 cI cZ cQ q0 u ++ wo11 cI cZ cQ q8 v)[16]? = some ((gG D cI cZ cQ q0 u q8 v aK aV f z).2.1 16, wcell (gG D cI cZ cQ q0 u q8 v aK aV f z) s0L 16) := rfl
theorem ga_17 : (wo10 cI cZ cQ q0 u ++ wo11 cI cZ cQ q8 v)[17]? = some ((gG D cI cZ cQ q0 u q8 v aK aV f z).2.1 17, wcell (gG D cI cZ cQ q0 u q8 v aK aV f z) s0L 17) := rfl
theorem ga_18 : (wo10 cI cZ cQ q0 u ++ wo11 cI cZ cQ q8 v)[18]? = some ((gG D cI cZ cQ q0 u q8 v aK aV f z).2.1 18, wcell (gG D cI cZ cQ q0 u q8 v aK aV f z) s0L 18) := rfl
theorem ga_19 : (wo10 cI cZ cQ q0 u ++ wo11 cI cZ cQ q8 v)[19]? = some ((gG D cI cZ cQ q0 u q8 v aK aV f z).2.1 19, wcell (gG D cI cZ cQ q0 u q8 v aK aV f z) s0L 19) := rfl
theorem ga_20 : (wo10 cI cZ cQ q0 u ++ wo11 cI cZ cQ q8 v)[20]? = some ((gG D cI cZ cQ q0 u q8 v aK aV f z).2.1 20, wcell (gG D cI cZ cQ q0 u q8 v aK aV f z) s0L 20) := rfl
theorem ga_21 : (wo10 cI cZ cQ q0 u ++ wo11 cI cZ cQ q8 v)[21]? = some ((gG D cI cZ cQ q0 u q8 v aK aV f z).2.1 21, wcell (gG D cI cZ cQ q0 u q8 v aK aV f z) s0L 21) := rfl
theorem ga_22 : (wo10 cI cZ cQ q0 u ++ wo11 cI cZ cQ q8 v)[22]? = some ((gG D cI cZ cQ q0 u q8 v aK aV f z).2.1 22, wcell (gG D cI cZ cQ q0 u q8 v aK aV f z) s0L 22) := rfl
theorem ga_23 : (wo10 cI cZ cQ q0 u ++ wo11 cI cZ cQ q8 v)[23]? = some ((gG D cI cZ cQ q0 u q8 v aK aV f z).2.1 23, wcell (gG D cI cZ cQ q0 u q8 v aK aV f z) s0L 23) := rfl
theorem ga_24 : (wo10 cI cZ cQ q0 u ++ wo11 cI cZ cQ q8 v)[24]? = some ((gG D cI cZ cQ q0 u q8 v aK aV f z).2.1 24, wcell (gG D cI cZ cQ q0 u q8 v aK aV f z) s0L 24) := rfl
theorem ga_25 : (wo10 cI cZ cQ q0 u ++ wo11 cI cZ cQ q8 v)[25]? = some ((gG D cI cZ cQ q0 u q8 v aK aV f z).2.1 25, wcell (gG D cI cZ cQ q0 u q8 v aK aV f z) s0L 25) := rfl
theorem ga_26 : (wo10 cI cZ cQ q0 u ++ wo11 cI cZ cQ q8 v)[26]? = some ((gG D cI cZ cQ q0 u q8 v aK aV f z).2.1 26, wcell (gG D cI cZ cQ q0 u q8 v aK aV f z) s0L 26) := rfl
theorem ga_27 : (wo10 cI cZ cQ q0 u ++ wo11 cI cZ cQ q8 v)[27]? = some ((gG D cI cZ cQ q0 u q8 v aK aV f z).2.1 27, wcell (gG D cI cZ cQ q0 u q8 v aK aV f z) s0L 27) := rfl
theorem ga_28 : (wo10 cI cZ cQ q0 u ++ wo11 cI cZ cQ q8 v)[28]? = some ((gG D cI cZ cQ q0 u q8 v aK aV f z).2.1 28, wcell (gG D cI cZ cQ q0 u q8 v aK aV f z) s0L 28) := rfl
theorem ga_29 : (wo10 cI cZ cQ q0 u ++ wo11 cI cZ cQ q8 v)[29]? = some ((gG D cI cZ cQ q0 u q8 v aK aV f z).2.1 29, wcell (gG D cI cZ cQ q0 u q8 v aK aV f z) s0L 29) := by
  show some (u 9 2, Sum.inl (cQ, 7, Sum.inr (Sum.inr (Sum.inr (Sum.inr (fun j => if j < 7 then some (u 9 2 + 1 + j) else none)))))) = some (u 9 2, Sum.inl (cQ, 7, Sum.inr (Sum.inr (Sum.inr (Sum.inr (fun j => if j < 7 then some ((gG D cI cZ cQ q0 u q8 v aK aV f z).2.1 (30 + j)) else none))))))
  rw [gs_out gs_30]
theorem ga_30 : (wo10 cI cZ cQ q0 u ++ wo11 cI cZ cQ q8 v)[30]? = some ((gG D cI cZ cQ q0 u q8 v aK aV f z).2.1 30, wcell (gG D cI cZ cQ q0 u q8 v aK aV f z) s0L 30) := rfl
theorem ga_31 : (wo10 cI cZ cQ q0 u ++ wo11 cI cZ cQ q8 v)[31]? = some ((gG D cI cZ cQ q0 u q8 v aK aV f z).2.1 31, wcell (gG D cI cZ cQ q0 u q8 v aK aV f z) s0L 31) := rfl
theorem ga_32 : (wo10 cI cZ cQ q0 u ++ wo11 cI cZ cQ q8 v)[32]? = some ((gG D cI cZ cQ q0 u q8 v aK aV f z).2.1 32, wcell (gG D cI cZ cQ q0 u q8 v aK aV f z) s0L 32) := rfl
theorem ga_33 : (wo10 cI cZ cQ q0 u ++ wo11 cI cZ cQ q8 v)[33]? = some ((gG D cI cZ cQ q0 u q8 v aK aV f z).2.1 33, wcell (gG D cI cZ cQ q0 u q8 v aK aV f z) s0L 33) := rfl
theorem ga_34 : (wo10 cI cZ cQ q0 u ++ wo11 cI cZ cQ q8 v)[34]? = some ((gG D cI cZ cQ q0 u q8 v aK aV f z).2.1 34, wcell (gG D cI cZ cQ q0 u q8 v aK aV f z) s0L 34) := rfl
theorem ga_35 : (wo10 cI cZ cQ q0 u ++ wo11 cI cZ cQ q8 v)[35]? = some ((gG D cI cZ cQ q0 u q8 v aK aV f z).2.1 35, wcell (gG D cI cZ cQ q0 u q8 v aK aV f z) s0L 35) := rfl
theorem ga_36 : (wo10 cI cZ cQ q0 u ++ wo11 cI cZ cQ q8 v)[36]? = some ((gG D cI cZ cQ q0 u q8 v aK aV f z).2.1 36, wcell (gG D cI cZ cQ q0 u q8 v aK aV f z) s0L 36) := rfl
theorem ga_37 : (wo10 cI cZ cQ q0 u ++ wo11 cI cZ cQ q8 v)[37]? = some ((gG D cI cZ cQ q0 u q8 v aK aV f z).2.1 37, wcell (gG D cI cZ cQ q0 u q8 v aK aV f z) s0L 37) := by
  show some (u 9 3, Sum.inl (cQ, 7, Sum.inr (Sum.inr (Sum.inr (Sum.inr (fun j => if j < 7 then some (u 9 3 + 1 + j) else none)))))) = some (u 9 3, Sum.inl (cQ, 7, Sum.inr (Sum.inr (Sum.inr (Sum.inr (fun j => if j < 7 then some ((gG D cI cZ cQ q0 u q8 v aK aV f z).2.1 (38 + j)) else none))))))
  rw [gs_out gs_38]
theorem ga_38 : (wo10 cI cZ cQ q0 u ++ wo11 cI cZ cQ q8 v)[38]? = some ((gG D cI cZ cQ q0 u q8 v aK aV f z).2.1 38, wcell (gG D cI cZ cQ q0 u q8 v aK aV f z) s0L 38) := rfl
theorem ga_39 : (wo10 cI cZ cQ q0 u ++ wo11 cI cZ cQ q8 v)[39]? = some ((gG D cI cZ cQ q0 u q8 v aK aV f z).2.1 39, wcell (gG D cI cZ cQ q0 u q8 v aK aV f z) s0L 39) := rfl
theorem ga_40 : (wo10 cI cZ cQ q0 u ++ wo11 cI cZ cQ q8 v)[40]? = some ((gG D cI cZ cQ q0 u q8 v aK aV f z).2.1 40, wcell (gG D cI cZ cQ q0 u q8 v aK aV f z) s0L 40) := rfl
theorem ga_41 : (wo10 cI cZ cQ q0 u ++ wo11 cI cZ cQ q8 v)[41]? = some ((gG D cI cZ cQ q0 u q8 v aK aV f z).2.1 41, wcell (gG D cI cZ cQ q0 u q8 v aK aV f z) s0L 41) := rfl
theorem ga_42 : (wo10 cI cZ cQ q0 u ++ wo11 cI cZ cQ q8 v)[42]? = some ((gG D cI cZ cQ q0 u q8 v aK aV f z).2.1 42, wcell (gG D cI cZ cQ q0 u q8 v aK aV f z) s0L 42) := rfl
theorem ga_43 : (wo10 cI cZ cQ q0 u ++ wo11 cI cZ cQ q8 v)[43]? = some ((gG D cI cZ cQ q0 u q8 v aK aV f z).2.1 43, wcell (gG D cI cZ cQ q0 u q8 v aK aV f z) s0L 43) := rfl
theorem ga_44 : (wo10 cI cZ cQ q0 u ++ wo11 cI cZ cQ q8 v)[44]? = some ((gG D cI cZ cQ q0 u q8 v aK aV f z).2.1 44, wcell (gG D cI cZ cQ q0 u q8 v aK aV f z) s0L 44) := rfl
theorem ga_45 : (wo10 cI cZ cQ q0 u ++ wo11 cI cZ cQ q8 v)[45]? = some ((gG D cI cZ cQ q0 u q8 v aK aV f z).2.1 45, wcell (gG D cI cZ cQ q0 u q8 v aK aV f z) s0L 45) := rfl
theorem ga_46 : (wo10 cI cZ cQ q0 u ++ wo11 cI cZ cQ q8 v)[46]? = some ((gG D cI cZ cQ q0 u q8 v aK aV f z).2.1 46, wcell (gG D cI cZ cQ q0 u q8 v aK aV f z) s0L 46) := rfl
theorem ga_47 : (wo10 cI cZ cQ q0 u ++ wo11 cI cZ cQ q8 v)[47]? = some ((gG D cI cZ cQ q0 u q8 v aK aV f z).2.1 47, wcell (gG D cI cZ cQ q0 u q8 v aK aV f z) s0L 47) := rfl
theorem ga_48 : (wo10 cI cZ cQ q0 u ++ wo11 cI cZ cQ q8 v)[48]? = some ((gG D cI cZ cQ q0 u q8 v aK aV f z).2.1 48, wcell (gG D cI cZ cQ q0 u q8 v aK aV f z) s0L 48) := rfl
theorem ga_49 : (wo10 cI cZ cQ q0 u ++ wo11 cI cZ cQ q8 v)[49]? = some ((gG D cI cZ cQ q0 u q8 v aK aV f z).2.1 49, wcell (gG D cI cZ cQ q0 u q8 v aK aV f z) s0L 49) := rfl
theorem ga_50 : (wo10 cI cZ cQ q0 u ++ wo11 cI cZ cQ q8 v)[50]? = some ((gG D cI cZ cQ q0 u q8 v aK aV f z).2.1 50, wcell (gG D cI cZ cQ q0 u q8 v aK aV f z) s0L 50) := rfl
theorem ga_52 : (wo10 cI cZ cQ q0 u ++ wo11 cI cZ cQ q8 v)[52]? = some ((gG D cI cZ cQ q0 u q8 v aK aV f z).2.1 52, wcell (gG D cI cZ cQ q0 u q8 v aK aV f z) s0L 52) := rfl
theorem ga_53 : (wo10 cI cZ cQ q0 u ++ wo11 cI cZ cQ q8 v)[53]? = some ((gG D cI cZ cQ q0 u q8 v aK aV f z).2.1 53, wcell (gG D cI cZ cQ q0 u q8 v aK aV f z) s0L 53) := rfl
theorem ga_54 : (wo10 cI cZ cQ q0 u ++ wo11 cI cZ cQ q8 v)[54]? = some ((gG D cI cZ cQ q0 u q8 v aK aV f z).2.1 54, wcell (gG D cI cZ cQ q0 u q8 v aK aV f z) s0L 54) := rfl
theorem ga_55 : (wo10 cI cZ cQ q0 u ++ wo11 cI cZ cQ q8 v)[55]? = some ((gG D cI cZ cQ q0 u q8 v aK aV f z).2.1 55, wcell (gG D cI cZ cQ q0 u q8 v aK aV f z) s0L 55) := rfl
theorem ga_56 : (wo10 cI cZ cQ q0 u ++ wo11 cI cZ cQ q8 v)[56]? = some ((gG D cI cZ cQ q0 u q8 v aK aV f z).2.1 56, wcell (gG D cI cZ cQ q0 u q8 v aK aV f z) s0L 56) := rfl
theorem ga_57 : (wo10 cI cZ cQ q0 u ++ wo11 cI cZ cQ q8 v)[57]? = some ((gG D cI cZ cQ q0 u q8 v aK aV f z).2.1 57, wcell (gG D cI cZ cQ q0 u q8 v aK aV f z) s0L 57) := rfl
theorem ga_58 : (wo10 cI cZ cQ q0 u ++ wo11 cI cZ cQ q8 v)[58]? = some ((gG D cI cZ cQ q0 u q8 v aK aV f z).2.1 58, wcell (gG D cI cZ cQ q0 u q8 v aK aV f z) s0L 58) := rfl
theorem ga_59 : (wo10 cI cZ cQ q0 u ++ wo11 cI cZ cQ q8 v)[59]? = some ((gG D cI cZ cQ q0 u q8 v aK aV f z).2.1 59, wcell (gG D cI cZ cQ q0 u q8 v aK aV f z) s0L 59) := rfl
theorem ga_60 : (wo10 cI cZ cQ q0 u ++ wo11 cI cZ cQ q8 v)[60]? = some ((gG D cI cZ cQ q0 u q8 v aK aV f z).2.1 60, wcell (gG D cI cZ cQ q0 u q8 v aK aV f z) s0L 60) := rfl
theorem ga_61 : (wo10 cI cZ cQ q0 u ++ wo11 cI cZ cQ q8 v)[61]? = some ((gG D cI cZ cQ q0 u q8 v aK aV f z).2.1 61, wcell (gG D cI cZ cQ q0 u q8 v aK aV f z) s0L 61) := rfl
theorem ga_62 : (wo10 cI cZ cQ q0 u ++ wo11 cI cZ cQ q8 v)[62]? = some ((gG D cI cZ cQ q0 u q8 v aK aV f z).2.1 62, wcell (gG D cI cZ cQ q0 u q8 v aK aV f z) s0L 62) := rfl
theorem ga_63 : (wo10 cI cZ cQ q0 u ++ wo11 cI cZ cQ q8 v)[63]? = some ((gG D cI cZ cQ q0 u q8 v aK aV f z).2.1 63, wcell (gG D cI cZ cQ q0 u q8 v aK aV f z) s0L 63) := rfl
theorem ga_64 : (wo10 cI cZ cQ q0 u ++ wo11 cI cZ cQ q8 v)[64]? = some ((gG D cI cZ cQ q0 u q8 v aK aV f z).2.1 64, wcell (gG D cI cZ cQ q0 u q8 v aK aV f z) s0L 64) := rfl
theorem ga_65 : (wo10 cI cZ cQ q0 u ++ wo11 cI cZ cQ q8 v)[65]? = some ((gG D cI cZ cQ q0 u q8 v aK aV f z).2.1 65, wcell (gG D cI cZ cQ q0 u q8 v aK aV f z) s0L 65) := rfl
theorem ga_66 : (wo10 cI cZ cQ q0 u ++ wo11 cI cZ cQ q8 v)[66]? = some ((gG D cI cZ cQ q0 u q8 v aK aV f z).2.1 66, wcell (gG D cI cZ cQ q0 u q8 v aK aV f z) s0L 66) := rfl
theorem ga_67 : (wo10 cI cZ cQ q0 u ++ wo11 cI cZ cQ q8 v)[67]? = some ((gG D cI cZ cQ q0 u q8 v aK aV f z).2.1 67, wcell (gG D cI cZ cQ q0 u q8 v aK aV f z) s0L 67) := rfl
end GS
