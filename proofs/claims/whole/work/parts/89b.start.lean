def mapI (f : Nat → Nat → Value) : Nat → List Nat → List Value
  | _, [] => []
  | n, a :: l => f n a :: mapI f (n + 1) l
theorem mapI_at (f : Nat → Nat → Value) : ∀ (l : List Nat) (n k : Nat), (mapI f n l)[k]? = l[k]?.map (f (n + k)) := by
  intro l
  induction l with
  | nil => intro n k; rfl
  | cons a l ih =>
    intro n k
    cases k with
    | zero => rfl
    | succ k =>
      show (mapI f (n + 1) l)[k]? = l[k]?.map (f (n + (k + 1)))
      rw [ih, show n + 1 + k = n + (k + 1) by omega]
theorem mapI_is (f : Nat → Nat → Value) (l : List Nat) : l.mapIdx f = mapI f 0 l := by
  apply List.ext_getElem?
  intro k
  rw [mapI_at, List.getElem?_mapIdx, Nat.zero_add]
section GS
variable {D : va_G} {cI cZ cQ : ClassId} {q0 q8 f z : Nat} {u : Nat → Nat → Nat} {v aK aV : Nat → Nat}
set_option maxHeartbeats 8000000 in
set_option maxRecDepth 100000 in
theorem gb_51 : mapI (fun k kind => fval (gG D cI cZ cQ q0 u q8 v aK aV f z) s0L 51 k kind) 0 [0, 0, 0, 54, 0, 55, 56, 57, 0, 0, 58, 0, 0, 1, 0, 0, 0, 0, 0, 0, 59, 60, 61, 0, 62, 0, 0, 63, 64, 65, 66, 67, 68, 69] = [.int 3, .int 0, .int 0, .ref (v 0), .int 0, .ref (v 1), .ref (v 2), .ref (v 3), .int 511, .int 0, .ref (v 4), .int 0, .int 0, .long 0, .int 0, .int 0, .int 0, .int 0, .int 0, .int 0, .ref (v 5), .ref (v 6), .ref (v 7), .int 0, .ref (v 8), .int 0, .int 0, .ref (v 9), .ref (v 10), .ref (v 11), .ref (v 12), .ref (v 13), .ref (v 14), .ref (v 15)] := rfl
set_option maxHeartbeats 8000000 in
set_option maxRecDepth 100000 in
theorem ga_51 : (wo10 cI cZ cQ q0 u ++ wo11 cI cZ cQ q8 v)[51]? = some ((gG D cI cZ cQ q0 u q8 v aK aV f z).2.1 51, wcell (gG D cI cZ cQ q0 u q8 v aK aV f z) s0L 51) := by
  rw [wc_obj (show lay 51 = (0, 11, [0, 0, 0, 54, 0, 55, 56, 57, 0, 0, 58, 0, 0, 1, 0, 0, 0, 0, 0, 0, 59, 60, 61, 0, 62, 0, 0, 63, 64, 65, 66, 67, 68, 69]) from rfl), mapI_is, gb_51]
  rfl
theorem ga_all : ∀ k, k < 68 → (wo10 cI cZ cQ q0 u ++ wo11 cI cZ cQ q8 v)[k]? = some ((gG D cI cZ cQ q0 u q8 v aK aV f z).2.1 k, wcell (gG D cI cZ cQ q0 u q8 v aK aV f z) s0L k) := by
  intro k hk
  match k, hk with
  | 0, _ => exact ga_0
  | 1, _ => exact ga_1
  | 2, _ => exact ga_2
  | 3, _ => exact ga_3
  | 4, _ => exact ga_4
  | 5, _ => exact ga_5
  | 6, _ => exact ga_6
  | 7, _ => exact ga_7
  | 8, _ => exact ga_8
  | 9, _ => exact ga_9
  | 10, _ => exact ga_10
  | 11, _ => exact ga_11
  | 12, _ => exact ga_12
  | 13, _ => exact ga_13
  | 14, _ => exact ga_14
  | 15, _ => exact ga_15
  | 16, _ => exact ga_16
  | 17, _ => exact ga_17
  | 18, _ => exact ga_18
  | 19, _ => exact ga_19
  | 20, _ => exact ga_20
  | 21, _ => exact ga_21
  | 22, _ => exact ga_22
  | 23, _ => exact ga_23
  | 24, _ => exact ga_24
  | 25, _ => exact ga_25
  | 26, _ => exact ga_26
  | 27, _ => exact ga_27
  | 28, _ => exact ga_28
  | 29, _ => exact ga_29
  | 30, _ => exact ga_30
  | 31, _ => exact ga_31
  | 32, _ => exact ga_32
  | 33, _ => exact ga_33
  | 34, _ => exact ga_34
  | 35, _ => exact ga_35
  | 36, _ => exact ga_36
  | 37, _ => exact ga_37
  | 38, _ => exact ga_38
  | 39, _ => exact ga_39
  | 40, _ => exact ga_40
  | 41, _ => exact ga_41
  | 42, _ => exact ga_42
  | 43, _ => exact ga_43
  | 44, _ => exact ga_44
  | 45, _ => exact ga_45
  | 46, _ => exact ga_46
  | 47, _ => exact ga_47
  | 48, _ => exact ga_48
  | 49, _ => exact ga_49
  | 50, _ => exact ga_50
  | 51, _ => exact ga_51
  | 52, _ => exact ga_52
  | 53, _ => exact ga_53
  | 54, _ => exact ga_54
  | 55, _ => exact ga_55
  | 56, _ => exact ga_56
  | 57, _ => exact ga_57
  | 58, _ => exact ga_58
  | 59, _ => exact ga_59
  | 60, _ => exact ga_60
  | 61, _ => exact ga_61
  | 62, _ => exact ga_62
  | 63, _ => exact ga_63
  | 64, _ => exact ga_64
  | 65, _ => exact ga_65
  | 66, _ => exact ga_66
  | 67, _ => exact ga_67
  | k + 68, hk => omega
theorem gs_P {H : Heap} (hP : va_P D cls (wo10 cI cZ cQ q0 u ++ wo11 cI cZ cQ q8 v) H) : va_P D cls (wcells (gG D cI cZ cQ q0 u q8 v aK aV f z) s0L) H := by
  intro k x hk
  obtain ⟨h1, rfl⟩ := wc_of hk
  exact hP k _ (ga_all k h1)
theorem gs_dst {A : Nat → Prop} (hD : va_D A (wo10 cI cZ cQ q0 u ++ wo11 cI cZ cQ q8 v)) : dst (gG D cI cZ cQ q0 u q8 v aK aV f z) := fun i j hi hj e => hD.1 i j _ _ (ga_all (D := D) (aK := aK) (aV := aV) (f := f) (z := z) i hi) (ga_all (D := D) (aK := aK) (aV := aV) (f := f) (z := z) j hj) e
theorem gs_A {A : Nat → Prop} (hD : va_D A (wo10 cI cZ cQ q0 u ++ wo11 cI cZ cQ q8 v)) : ∀ q, q < 68 → A ((gG D cI cZ cQ q0 u q8 v aK aV f z).2.1 q) := fun q hq => hD.2 q _ (ga_all (D := D) (aK := aK) (aV := aV) (f := f) (z := z) q hq)
theorem gs_strs {s : State} (hge : ∀ q, q < 68 → s.heap.size ≤ (gG D cI cZ cQ q0 u q8 v aK aV f z).2.1 q) (h1 : vk_S 9 slen sbyt aK aV (fun q : Nat => s.heap.size ≤ q) s s.heap) (h2 : ∀ i, i < 9 → vk_R RX3 (sIdx.getD i 0) (sTxt.getD i "") (aK i) s) (h3 : va_Z "java/lang/String" "COMPACT_STRINGS" "Z" (.int 1) (fun q : Nat => s.heap.size ≤ q) s s.heap) (h4 : va_Z "jdk/internal/util/Preconditions" "SIOOBE_FORMATTER" "Ljava/util/function/BiFunction;" (if z = 0 then .ref f else .null) (fun q : Nat => s.heap.size ≤ q) s s.heap) : strs (gG D cI cZ cQ q0 u q8 v aK aV f z) s s.heap := by
  have hw : ∀ q, inW (gG D cI cZ cQ q0 u q8 v aK aV f z) q → s.heap.size ≤ q := by
    rintro q ⟨k, hk, rfl⟩
    exact hge k hk
  have eK : ∀ i, i < 9 → (gG D cI cZ cQ q0 u q8 v aK aV f z).2.1 (100 + i) = aK i := by
    intro i hi
    show (if 100 + i < 68 then _ else if 100 + i < 200 then aK (100 + i - 100) else _) = aK i
    rw [if_neg (by omega), if_pos (by omega), Nat.add_sub_cancel_left]
  have eV : ∀ i, i < 9 → (gG D cI cZ cQ q0 u q8 v aK aV f z).2.1 (200 + i) = aV i := by
    intro i hi
    show (if 200 + i < 68 then _ else if 200 + i < 200 then _ else if 200 + i < 300 then aV (200 + i - 200) else _) = aV i
    rw [if_neg (by omega), if_neg (by omega), if_pos (by omega), Nat.add_sub_cancel_left]
  have hn := h1.narrow hw
  refine ⟨⟨fun i hi => ?_, fun i j hi hj e => ?_⟩, fun i hi => ?_, h3.narrow hw, ?_⟩
  · show va_O _ ((gG D cI cZ cQ q0 u q8 v aK aV f z).2.1 (100 + i)) _ _ _ ∧ va_OF _ _ _ _ ((gG D cI cZ cQ q0 u q8 v aK aV f z).2.1 (100 + i)) _ _ _ ∧ va_OF _ _ _ (.ref ((gG D cI cZ cQ q0 u q8 v aK aV f z).2.1 (200 + i))) ((gG D cI cZ cQ q0 u q8 v aK aV f z).2.1 (100 + i)) _ _ _ ∧ va_T _ ((gG D cI cZ cQ q0 u q8 v aK aV f z).2.1 (200 + i)) _ _ _ _ _
    rw [eK i hi, eV i hi]
    exact hn.1 i hi
  · have e' : (gG D cI cZ cQ q0 u q8 v aK aV f z).2.1 (100 + i) = (gG D cI cZ cQ q0 u q8 v aK aV f z).2.1 (100 + j) := e
    rw [eK i hi, eK j hj] at e'
    exact hn.2 i j hi hj e'
  · rw [eK i hi]
    exact h2 i hi
  · exact h4.narrow hw
end GS
theorem cl_inst : ∀ q ∈ cls, Cond.instantiable q.1 q.2.2 ∈ lw_tbl := by decide +kernel
