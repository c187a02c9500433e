section LWD
variable {p : Program} {l : Launch} {e : Jvm.Env} {s : State} {m : MethodId} {below : List Frame} {meth : Method} {c : Code} {b L : Nat} {xs : Nat → Int32} {G : Geo} {H : Heap} {locs : List Loc} {cells slots : Nat} {Q : State → Prop}
theorem law_0 {σ : St} {ls : Array Slot} {x3 : Int32} {i : Nat} (F : LwF p s m meth c b L xs G) (hP : va_P G.1 cls (wcells G σ) H) (hS : va_S (inW G) s.heap H locs) (hL : L ≤ 2048) (e3 : x3 = nI i) (hi : i + 4 ≤ L) (hl : lv_has ls 4 [(3, .int x3), (2, .ref (G.2.1 51)), (1, .ref (G.2.1 0)), (0, .ref b)]) (hR : RI σ) (hcl : cells ≤ 600000) (hsl : slots ≤ 7302250)
    (kk : ∀ (σ' : St) (H1 : Heap) (locs1 : List Loc), RI σ' → va_P G.1 cls (wcells G σ') H1 → va_S (inW G) s.heap H1 locs1 → W p l e room_1 s m #[Value.ref b] below meth c H1 locs1 cells slots Q (F0 m 773 ls [])) : W p l e room_1 s m #[Value.ref b] below meth c H locs cells slots Q (F0 m 148 ls []) := by
  obtain ⟨hi0, hi1, hi2, hi3⟩ := lw_ins i e3 hi hL
  have hbA := lw_nin F
  obtain ⟨hx, hb, hr, hml, hown, hts, hX, hbl, hlocks, hgv⟩ := F.1
  refine lv_aload_n hx hb d_law_148 rfl (lv_at hl 2 rfl) ?_
  refine lv_aload_n hx hb d_law_149 rfl (lv_at hl 3 rfl) ?_
  refine lv_iload_n hx hb d_law_150 rfl (lv_at hl 0 rfl) ?_
  refine lv_iconst (v := 1) hx hb d_law_151 (by decide) ?_
  refine lv_iadd hx hb d_law_152 ?_
  refine va_sld hx hb hX hbl hbA hS hi1 d_law_153 ?_
  refine lv_i2l hx hb d_law_154 rfl ?_
  refine lv_bipush (v := 32) hx hb d_law_155 (by decide) ?_
  refine lv_lshl hx hb d_law_157 rfl ?_
  refine lv_aload_n hx hb d_law_158 rfl (lv_at hl 3 rfl) ?_
  refine lv_iload_n hx hb d_law_159 rfl (lv_at hl 0 rfl) ?_
  refine lv_iconst (v := 2) hx hb d_law_160 (by decide) ?_
  refine lv_iadd hx hb d_law_161 ?_
  refine va_sld hx hb hX hbl hbA hS hi2 d_law_162 ?_
  refine lv_i2l hx hb d_law_163 rfl ?_
  refine lv_ldc2 (v := 4294967295) hx hb hown (hts _ (List.mem_of_getElem? (i := 1323) (by decide +kernel))) d_law_164 ?_
  refine lv_land hx hb d_law_167 ?_
  refine lv_lor hx hb d_law_168 ?_
  refine lv_aload_n hx hb d_law_169 rfl (lv_at hl 3 rfl) ?_
  refine lv_iload_n hx hb d_law_170 rfl (lv_at hl 0 rfl) ?_
  refine lv_iconst (v := 3) hx hb d_law_171 (by decide) ?_
  refine lv_iadd hx hb d_law_172 ?_
  refine va_sld hx hb hX hbl hbA hS hi3 d_law_173 ?_
  refine lw_call (k := 104) (o := 0) (ci := 10) (g' := sX10_write) (av := [.long (((Int32.toInt64 (xs (Int32.toNatClampNeg (x3 + 1)))) <<< (Int32.toInt64 32 &&& 63)) ||| ((Int32.toInt64 (xs (Int32.toNatClampNeg (x3 + 2)))) &&& 4294967295)), .int (xs (Int32.toNatClampNeg (x3 + 3)))]) (rest := []) F hP hS hl.1 rfl rfl rfl rfl (gt_has (i := 331) (by decide +kernel)) (gt_has (i := 332) (by decide +kernel)) (gt_has (i := 333) (by decide +kernel)) (gt_has (i := 66) (by decide +kernel)) (show (parseMethodDescriptor (sX10_write).1.desc).map (fun d => d.parameters.length) = some 2 by decide +kernel) (eq_write hR (((Int32.toInt64 (xs (Int32.toNatClampNeg (x3 + 1)))) <<< (Int32.toInt64 32 &&& 63)) ||| ((Int32.toInt64 (xs (Int32.toNatClampNeg (x3 + 2)))) &&& 4294967295)) (xs (Int32.toNatClampNeg (x3 + 3)))) (Nat.le_of_ble_eq_true rfl) hcl hsl d_law_174 (fun r1 σ1 H locs hD2 hP hS => ?_)
  refine lv_aload_n hx hb d_law_177 rfl (lv_at hl 1 rfl) ?_
  refine lv_aload_n hx hb d_law_178 rfl (lv_at hl 3 rfl) ?_
  refine lv_iload_n hx hb d_law_179 rfl (lv_at hl 0 rfl) ?_
  refine lv_iconst (v := 1) hx hb d_law_180 (by decide) ?_
  refine lv_iadd hx hb d_law_181 ?_
  refine va_sld hx hb hX hbl hbA hS hi1 d_law_182 ?_
  refine lv_i2l hx hb d_law_183 rfl ?_
  refine lv_bipush (v := 32) hx hb d_law_184 (by decide) ?_
  refine lv_lshl hx hb d_law_186 rfl ?_
  refine lv_aload_n hx hb d_law_187 rfl (lv_at hl 3 rfl) ?_
  refine lv_iload_n hx hb d_law_188 rfl (lv_at hl 0 rfl) ?_
  refine lv_iconst (v := 2) hx hb d_law_189 (by decide) ?_
  refine lv_iadd hx hb d_law_190 ?_
  refine va_sld hx hb hX hbl hbA hS hi2 d_law_191 ?_
  refine lv_i2l hx hb d_law_192 rfl ?_
  refine lv_ldc2 (v := 4294967295) hx hb hown (hts _ (List.mem_of_getElem? (i := 1323) (by decide +kernel))) d_law_193 ?_
  refine lv_land hx hb d_law_196 ?_
  refine lv_lor hx hb d_law_197 ?_
  refine lv_aload_n hx hb d_law_198 rfl (lv_at hl 3 rfl) ?_
  refine lv_iload_n hx hb d_law_199 rfl (lv_at hl 0 rfl) ?_
  refine lv_iconst (v := 3) hx hb d_law_200 (by decide) ?_
  refine lv_iadd hx hb d_law_201 ?_
  refine va_sld hx hb hX hbl hbA hS hi3 d_law_202 ?_
  refine lw_call (k := 135) (o := 51) (ci := 11) (g' := sX11_write) (av := [.long (((Int32.toInt64 (xs (Int32.toNatClampNeg (x3 + 1)))) <<< (Int32.toInt64 32 &&& 63)) ||| ((Int32.toInt64 (xs (Int32.toNatClampNeg (x3 + 2)))) &&& 4294967295)), .int (xs (Int32.toNatClampNeg (x3 + 3)))]) (rest := [.int r1]) F hP hS hl.1 rfl rfl rfl rfl (gt_has (i := 1079) (by decide +kernel)) (gt_has (i := 1080) (by decide +kernel)) (gt_has (i := 1081) (by decide +kernel)) (gt_has (i := 77) (by decide +kernel)) (show (parseMethodDescriptor (sX11_write).1.desc).map (fun d => d.parameters.length) = some 2 by decide +kernel) hD2 (Nat.le_of_ble_eq_true rfl) hcl hsl d_law_203 (fun r2 σ2 H locs hq hP hS => ?_)
  exact lv_icmp_eq (tgt := 773) hx hb d_law_206 (by decide) (fun _ => kk σ2 H locs hq.2 hP hS) (fun z => absurd hq.1 z)
theorem law_1 {σ : St} {ls : Array Slot} {x3 : Int32} {i : Nat} (F : LwF p s m meth c b L xs G) (hP : va_P G.1 cls (wcells G σ) H) (hS : va_S (inW G) s.heap H locs) (hL : L ≤ 2048) (e3 : x3 = nI i) (hi : i + 4 ≤ L) (hl : lv_has ls 4 [(3, .int x3), (2, .ref (G.2.1 51)), (1, .ref (G.2.1 0)), (0, .ref b)]) (hR : RI σ) (hcl : cells ≤ 600000) (hsl : slots ≤ 7302250)
    (kk : ∀ (σ' : St) (H1 : Heap) (locs1 : List Loc), RI σ' → va_P G.1 cls (wcells G σ') H1 → va_S (inW G) s.heap H1 locs1 → W p l e room_1 s m #[Value.ref b] below meth c H1 locs1 cells slots Q (F0 m 773 ls [])) : W p l e room_1 s m #[Value.ref b] below meth c H locs cells slots Q (F0 m 211 ls []) := by
  obtain ⟨hi0, hi1, hi2, hi3⟩ := lw_ins i e3 hi hL
  have hbA := lw_nin F
  obtain ⟨hx, hb, hr, hml, hown, hts, hX, hbl, hlocks, hgv⟩ := F.1
  refine lv_aload_n hx hb d_law_211 rfl (lv_at hl 2 rfl) ?_
  refine lw_call (k := 105) (o := 0) (ci := 10) (g' := sX10_erase) (av := []) (rest := []) F hP hS hl.1 rfl rfl rfl rfl (gt_has (i := 348) (by decide +kernel)) (gt_has (i := 349) (by decide +kernel)) (gt_has (i := 350) (by decide +kernel)) (gt_has (i := 66) (by decide +kernel)) (show (parseMethodDescriptor (sX10_erase).1.desc).map (fun d => d.parameters.length) = some 0 by decide +kernel) (eq_erase hR) (Nat.le_of_ble_eq_true rfl) hcl hsl d_law_212 (fun r1 σ1 H locs hD2 hP hS => ?_)
  refine lv_aload_n hx hb d_law_215 rfl (lv_at hl 1 rfl) ?_
  refine lw_call (k := 136) (o := 51) (ci := 11) (g' := sX11_erase) (av := []) (rest := [.int r1]) F hP hS hl.1 rfl rfl rfl rfl (gt_has (i := 1087) (by decide +kernel)) (gt_has (i := 1088) (by decide +kernel)) (gt_has (i := 1089) (by decide +kernel)) (gt_has (i := 77) (by decide +kernel)) (show (parseMethodDescriptor (sX11_erase).1.desc).map (fun d => d.parameters.length) = some 0 by decide +kernel) hD2 (Nat.le_of_ble_eq_true rfl) hcl hsl d_law_216 (fun r2 σ2 H locs hq hP hS => ?_)
  exact lv_icmp_eq (tgt := 773) hx hb d_law_219 (by decide) (fun _ => kk σ2 H locs hq.2 hP hS) (fun z => absurd hq.1 z)
theorem law_2 {σ : St} {ls : Array Slot} {x3 : Int32} {i : Nat} (F : LwF p s m meth c b L xs G) (hP : va_P G.1 cls (wcells G σ) H) (hS : va_S (inW G) s.heap H locs) (hL : L ≤ 2048) (e3 : x3 = nI i) (hi : i + 4 ≤ L) (hl : lv_has ls 4 [(3, .int x3), (2, .ref (G.2.1 51)), (1, .ref (G.2.1 0)), (0, .ref b)]) (hR : RI σ) (hcl : cells ≤ 600000) (hsl : slots ≤ 7302250)
    (kk : ∀ (σ' : St) (H1 : Heap) (locs1 : List Loc), RI σ' → va_P G.1 cls (wcells G σ') H1 → va_S (inW G) s.heap H1 locs1 → W p l e room_1 s m #[Value.ref b] below meth c H1 locs1 cells slots Q (F0 m 773 ls [])) : W p l e room_1 s m #[Value.ref b] below meth c H locs cells slots Q (F0 m 224 ls []) := by
  obtain ⟨hi0, hi1, hi2, hi3⟩ := lw_ins i e3 hi hL
  have hbA := lw_nin F
  obtain ⟨hx, hb, hr, hml, hown, hts, hX, hbl, hlocks, hgv⟩ := F.1
  refine lv_aload_n hx hb d_law_224 rfl (lv_at hl 2 rfl) ?_
  refine lw_call (k := 106) (o := 0) (ci := 10) (g' := sX10_fault) (av := []) (rest := []) F hP hS hl.1 rfl rfl rfl rfl (gt_has (i := 356) (by decide +kernel)) (gt_has (i := 357) (by decide +kernel)) (gt_has (i := 358) (by decide +kernel)) (gt_has (i := 66) (by decide +kernel)) (show (parseMethodDescriptor (sX10_fault).1.desc).map (fun d => d.parameters.length) = some 0 by decide +kernel) (eq_fault hR) (Nat.le_of_ble_eq_true rfl) hcl hsl d_law_225 (fun r1 σ1 H locs hD2 hP hS => ?_)
  refine lv_aload_n hx hb d_law_228 rfl (lv_at hl 1 rfl) ?_
  refine lw_call (k := 146) (o := 51) (ci := 11) (g' := sX11_fault) (av := []) (rest := [.int r1]) F hP hS hl.1 rfl rfl rfl rfl (gt_has (i := 1091) (by decide +kernel)) (gt_has (i := 1092) (by decide +kernel)) (gt_has (i := 1093) (by decide +kernel)) (gt_has (i := 77) (by decide +kernel)) (show (parseMethodDescriptor (sX11_fault).1.desc).map (fun d => d.parameters.length) = some 0 by decide +kernel) hD2 (Nat.le_of_ble_eq_true rfl) hcl hsl d_law_229 (fun r2 σ2 H locs hq hP hS => ?_)
  exact lv_icmp_eq (tgt := 773) hx hb d_law_232 (by decide) (fun _ => kk σ2 H locs hq.2 hP hS) (fun z => absurd hq.1 z)
theorem law_3 {σ : St} {ls : Array Slot} {x3 : Int32} {i : Nat} (F : LwF p s m meth c b L xs G) (hP : va_P G.1 cls (wcells G σ) H) (hS : va_S (inW G) s.heap H locs) (hL : L ≤ 2048) (e3 : x3 = nI i) (hi : i + 4 ≤ L) (hl : lv_has ls 4 [(3, .int x3), (2, .ref (G.2.1 51)), (1, .ref (G.2.1 0)), (0, .ref b)]) (hR : RI σ) (hcl : cells ≤ 600000) (hsl : slots ≤ 7302250)
    (kk : ∀ (σ' : St) (H1 : Heap) (locs1 : List Loc), RI σ' → va_P G.1 cls (wcells G σ') H1 → va_S (inW G) s.heap H1 locs1 → W p l e room_1 s m #[Value.ref b] below meth c H1 locs1 cells slots Q (F0 m 773 ls [])) : W p l e room_1 s m #[Value.ref b] below meth c H locs cells slots Q (F0 m 237 ls []) := by
  obtain ⟨hi0, hi1, hi2, hi3⟩ := lw_ins i e3 hi hL
  have hbA := lw_nin F
  obtain ⟨hx, hb, hr, hml, hown, hts, hX, hbl, hlocks, hgv⟩ := F.1
  refine lv_aload_n hx hb d_law_237 rfl (lv_at hl 2 rfl) ?_
  refine lw_call (k := 107) (o := 0) (ci := 10) (g' := sX10_order) (av := []) (rest := []) F hP hS hl.1 rfl rfl rfl rfl (gt_has (i := 554) (by decide +kernel)) (gt_has (i := 555) (by decide +kernel)) (gt_has (i := 556) (by decide +kernel)) (gt_has (i := 66) (by decide +kernel)) (show (parseMethodDescriptor (sX10_order).1.desc).map (fun d => d.parameters.length) = some 0 by decide +kernel) (eq_order hR) (Nat.le_of_ble_eq_true rfl) hcl hsl d_law_238 (fun r1 σ1 H locs hD2 hP hS => ?_)
  refine lv_aload_n hx hb d_law_241 rfl (lv_at hl 1 rfl) ?_
  refine lw_call (k := 149) (o := 51) (ci := 11) (g' := sX11_order) (av := []) (rest := [.int r1]) F hP hS hl.1 rfl rfl rfl rfl (gt_has (i := 1146) (by decide +kernel)) (gt_has (i := 1147) (by decide +kernel)) (gt_has (i := 1148) (by decide +kernel)) (gt_has (i := 77) (by decide +kernel)) (show (parseMethodDescriptor (sX11_order).1.desc).map (fun d => d.parameters.length) = some 0 by decide +kernel) hD2 (Nat.le_of_ble_eq_true rfl) hcl hsl d_law_242 (fun r2 σ2 H locs hq hP hS => ?_)
  exact lv_icmp_eq (tgt := 773) hx hb d_law_245 (by decide) (fun _ => kk σ2 H locs hq.2 hP hS) (fun z => absurd hq.1 z)
theorem law_4 {σ : St} {ls : Array Slot} {x3 : Int32} {i : Nat} (F : LwF p s m meth c b L xs G) (hP : va_P G.1 cls (wcells G σ) H) (hS : va_S (inW G) s.heap H locs) (hL : L ≤ 2048) (e3 : x3 = nI i) (hi : i + 4 ≤ L) (hl : lv_has ls 4 [(3, .int x3), (2, .ref (G.2.1 51)), (1, .ref (G.2.1 0)), (0, .ref b)]) (hR : RI σ) (hcl : cells ≤ 600000) (hsl : slots ≤ 7302250)
    (kk : ∀ (σ' : St) (H1 : Heap) (locs1 : List Loc), RI σ' → va_P G.1 cls (wcells G σ') H1 → va_S (inW G) s.heap H1 locs1 → W p l e room_1 s m #[Value.ref b] below meth c H1 locs1 cells slots Q (F0 m 773 ls [])) : W p l e room_1 s m #[Value.ref b] below meth c H locs cells slots Q (F0 m 250 ls []) := by
  obtain ⟨hi0, hi1, hi2, hi3⟩ := lw_ins i e3 hi hL
  have hbA := lw_nin F
  obtain ⟨hx, hb, hr, hml, hown, hts, hX, hbl, hlocks, hgv⟩ := F.1
  refine lv_aload_n hx hb d_law_250 rfl (lv_at hl 2 rfl) ?_
  refine lv_aload_n hx hb d_law_251 rfl (lv_at hl 3 rfl) ?_
  refine lv_iload_n hx hb d_law_252 rfl (lv_at hl 0 rfl) ?_
  refine lv_iconst (v := 1) hx hb d_law_253 (by decide) ?_
  refine lv_iadd hx hb d_law_254 ?_
  refine va_sld hx hb hX hbl hbA hS hi1 d_law_255 ?_
  refine lv_aload_n hx hb d_law_256 rfl (lv_at hl 3 rfl) ?_
  refine lv_iload_n hx hb d_law_257 rfl (lv_at hl 0 rfl) ?_
  refine lv_iconst (v := 2) hx hb d_law_258 (by decide) ?_
  refine lv_iadd hx hb d_law_259 ?_
  refine va_sld hx hb hX hbl hbA hS hi2 d_law_260 ?_
  refine lw_call (k := 108) (o := 0) (ci := 10) (g' := sX10_word) (av := [.int (xs (Int32.toNatClampNeg (x3 + 1))), .int (xs (Int32.toNatClampNeg (x3 + 2)))]) (rest := []) F hP hS hl.1 rfl rfl rfl rfl (gt_has (i := 570) (by decide +kernel)) (gt_has (i := 571) (by decide +kernel)) (gt_has (i := 572) (by decide +kernel)) (gt_has (i := 66) (by decide +kernel)) (show (parseMethodDescriptor (sX10_word).1.desc).map (fun d => d.parameters.length) = some 2 by decide +kernel) (eq_word hR (xs (Int32.toNatClampNeg (x3 + 1))) (xs (Int32.toNatClampNeg (x3 + 2)))) (Nat.le_of_ble_eq_true rfl) hcl hsl d_law_261 (fun r1 σ1 H locs hD2 hP hS => ?_)
  refine lv_aload_n hx hb d_law_264 rfl (lv_at hl 1 rfl) ?_
  refine lv_aload_n hx hb d_law_265 rfl (lv_at hl 3 rfl) ?_
  refine lv_iload_n hx hb d_law_266 rfl (lv_at hl 0 rfl) ?_
  refine lv_iconst (v := 1) hx hb d_law_267 (by decide) ?_
  refine lv_iadd hx hb d_law_268 ?_
  refine va_sld hx hb hX hbl hbA hS hi1 d_law_269 ?_
  refine lv_aload_n hx hb d_law_270 rfl (lv_at hl 3 rfl) ?_
  refine lv_iload_n hx hb d_law_271 rfl (lv_at hl 0 rfl) ?_
  refine lv_iconst (v := 2) hx hb d_law_272 (by decide) ?_
  refine lv_iadd hx hb d_law_273 ?_
  refine va_sld hx hb hX hbl hbA hS hi2 d_law_274 ?_
  refine lw_call (k := 150) (o := 51) (ci := 11) (g' := sX11_word) (av := [.int (xs (Int32.toNatClampNeg (x3 + 1))), .int (xs (Int32.toNatClampNeg (x3 + 2)))]) (rest := [.int r1]) F hP hS hl.1 rfl rfl rfl rfl (gt_has (i := 1158) (by decide +kernel)) (gt_has (i := 1159) (by decide +kernel)) (gt_has (i := 1160) (by decide +kernel)) (gt_has (i := 77) (by decide +kernel)) (show (parseMethodDescriptor (sX11_word).1.desc).map (fun d => d.parameters.length) = some 2 by decide +kernel) hD2 (Nat.le_of_ble_eq_true rfl) hcl hsl d_law_275 (fun r2 σ2 H locs hq hP hS => ?_)
  exact lv_icmp_eq (tgt := 773) hx hb d_law_278 (by decide) (fun _ => kk σ2 H locs hq.2 hP hS) (fun z => absurd hq.1 z)
theorem law_5 {σ : St} {ls : Array Slot} {x3 : Int32} {i : Nat} (F : LwF p s m meth c b L xs G) (hP : va_P G.1 cls (wcells G σ) H) (hS : va_S (inW G) s.heap H locs) (hL : L ≤ 2048) (e3 : x3 = nI i) (hi : i + 4 ≤ L) (hl : lv_has ls 4 [(3, .int x3), (2, .ref (G.2.1 51)), (1, .ref (G.2.1 0)), (0, .ref b)]) (hR : RI σ) (hcl : cells ≤ 600000) (hsl : slots ≤ 7302250)
    (kk : ∀ (σ' : St) (H1 : Heap) (locs1 : List Loc), RI σ' → va_P G.1 cls (wcells G σ') H1 → va_S (inW G) s.heap H1 locs1 → W p l e room_1 s m #[Value.ref b] below meth c H1 locs1 cells slots Q (F0 m 773 ls [])) : W p l e room_1 s m #[Value.ref b] below meth c H locs cells slots Q (F0 m 283 ls []) := by
  obtain ⟨hi0, hi1, hi2, hi3⟩ := lw_ins i e3 hi hL
  have hbA := lw_nin F
  obtain ⟨hx, hb, hr, hml, hown, hts, hX, hbl, hlocks, hgv⟩ := F.1
  refine lv_aload_n hx hb d_law_283 rfl (lv_at hl 2 rfl) ?_
  refine lv_aload_n hx hb d_law_284 rfl (lv_at hl 3 rfl) ?_
  refine lv_iload_n hx hb d_law_285 rfl (lv_at hl 0 rfl) ?_
  refine lv_iconst (v := 1) hx hb d_law_286 (by decide) ?_
  refine lv_iadd hx hb d_law_287 ?_
  refine va_sld hx hb hX hbl hbA hS hi1 d_law_288 ?_
  refine lv_aload_n hx hb d_law_289 rfl (lv_at hl 3 rfl) ?_
  refine lv_iload_n hx hb d_law_290 rfl (lv_at hl 0 rfl) ?_
  refine lv_iconst (v := 2) hx hb d_law_291 (by decide) ?_
  refine lv_iadd hx hb d_law_292 ?_
  refine va_sld hx hb hX hbl hbA hS hi2 d_law_293 ?_
  refine lw_call (k := 109) (o := 0) (ci := 10) (g' := sX10_voice) (av := [.int (xs (Int32.toNatClampNeg (x3 + 1))), .int (xs (Int32.toNatClampNeg (x3 + 2)))]) (rest := []) F hP hS hl.1 rfl rfl rfl rfl (gt_has (i := 584) (by decide +kernel)) (gt_has (i := 585) (by decide +kernel)) (gt_has (i := 586) (by decide +kernel)) (gt_has (i := 66) (by decide +kernel)) (show (parseMethodDescriptor (sX10_voice).1.desc).map (fun d => d.parameters.length) = some 2 by decide +kernel) (eq_voice hR (xs (Int32.toNatClampNeg (x3 + 1))) (xs (Int32.toNatClampNeg (x3 + 2)))) (Nat.le_of_ble_eq_true rfl) hcl hsl d_law_294 (fun r1 σ1 H locs hD2 hP hS => ?_)
  refine lv_aload_n hx hb d_law_297 rfl (lv_at hl 1 rfl) ?_
  refine lv_aload_n hx hb d_law_298 rfl (lv_at hl 3 rfl) ?_
  refine lv_iload_n hx hb d_law_299 rfl (lv_at hl 0 rfl) ?_
  refine lv_iconst (v := 1) hx hb d_law_300 (by decide) ?_
  refine lv_iadd hx hb d_law_301 ?_
  refine va_sld hx hb hX hbl hbA hS hi1 d_law_302 ?_
  refine lv_aload_n hx hb d_law_303 rfl (lv_at hl 3 rfl) ?_
  refine lv_iload_n hx hb d_law_304 rfl (lv_at hl 0 rfl) ?_
  refine lv_iconst (v := 2) hx hb d_law_305 (by decide) ?_
  refine lv_iadd hx hb d_law_306 ?_
  refine va_sld hx hb hX hbl hbA hS hi2 d_law_307 ?_
  refine lw_call (k := 154) (o := 51) (ci := 11) (g' := sX11_voice) (av := [.int (xs (Int32.toNatClampNeg (x3 + 1))), .int (xs (Int32.toNatClampNeg (x3 + 2)))]) (rest := [.int r1]) F hP hS hl.1 rfl rfl rfl rfl (gt_has (i := 1166) (by decide +kernel)) (gt_has (i := 1167) (by decide +kernel)) (gt_has (i := 1168) (by decide +kernel)) (gt_has (i := 77) (by decide +kernel)) (show (parseMethodDescriptor (sX11_voice).1.desc).map (fun d => d.parameters.length) = some 2 by decide +kernel) hD2 (Nat.le_of_ble_eq_true rfl) hcl hsl d_law_308 (fun r2 σ2 H locs hq hP hS => ?_)
  exact lv_icmp_eq (tgt := 773) hx hb d_law_311 (by decide) (fun _ => kk σ2 H locs hq.2 hP hS) (fun z => absurd hq.1 z)
theorem law_6 {σ : St} {ls : Array Slot} {x3 : Int32} {i : Nat} (F : LwF p s m meth c b L xs G) (hP : va_P G.1 cls (wcells G σ) H) (hS : va_S (inW G) s.heap H locs) (hL : L ≤ 2048) (e3 : x3 = nI i) (hi : i + 4 ≤ L) (hl : lv_has ls 4 [(3, .int x3), (2, .ref (G.2.1 51)), (1, .ref (G.2.1 0)), (0, .ref b)]) (hR : RI σ) (hcl : cells ≤ 600000) (hsl : slots ≤ 7302250)
    (kk : ∀ (σ' : St) (H1 : Heap) (locs1 : List Loc), RI σ' → va_P G.1 cls (wcells G σ') H1 → va_S (inW G) s.heap H1 locs1 → W p l e room_1 s m #[Value.ref b] below meth c H1 locs1 cells slots Q (F0 m 773 ls [])) : W p l e room_1 s m #[Value.ref b] below meth c H locs cells slots Q (F0 m 316 ls []) := by
  obtain ⟨hi0, hi1, hi2, hi3⟩ := lw_ins i e3 hi hL
  have hbA := lw_nin F
  obtain ⟨hx, hb, hr, hml, hown, hts, hX, hbl, hlocks, hgv⟩ := F.1
  refine lv_aload_n hx hb d_law_316 rfl (lv_at hl 2 rfl) ?_
  refine lv_aload_n hx hb d_law_317 rfl (lv_at hl 3 rfl) ?_
  refine lv_iload_n hx hb d_law_318 rfl (lv_at hl 0 rfl) ?_
  refine lv_iconst (v := 1) hx hb d_law_319 (by decide) ?_
  refine lv_iadd hx hb d_law_320 ?_
  refine va_sld hx hb hX hbl hbA hS hi1 d_law_321 ?_
  refine lw_call (k := 110) (o := 0) (ci := 10) (g' := sX10_preach) (av := [.int (xs (Int32.toNatClampNeg (x3 + 1)))]) (rest := []) F hP hS hl.1 rfl rfl rfl rfl (gt_has (i := 616) (by decide +kernel)) (gt_has (i := 617) (by decide +kernel)) (gt_has (i := 618) (by decide +kernel)) (gt_has (i := 66) (by decide +kernel)) (show (parseMethodDescriptor (sX10_preach).1.desc).map (fun d => d.parameters.length) = some 1 by decide +kernel) (eq_preach hR (xs (Int32.toNatClampNeg (x3 + 1)))) (Nat.le_of_ble_eq_true rfl) hcl hsl d_law_322 (fun r1 σ1 H locs hD2 hP hS => ?_)
  refine lv_aload_n hx hb d_law_325 rfl (lv_at hl 1 rfl) ?_
  refine lv_aload_n hx hb d_law_326 rfl (lv_at hl 3 rfl) ?_
  refine lv_iload_n hx hb d_law_327 rfl (lv_at hl 0 rfl) ?_
  refine lv_iconst (v := 1) hx hb d_law_328 (by decide) ?_
  refine lv_iadd hx hb d_law_329 ?_
  refine va_sld hx hb hX hbl hbA hS hi1 d_law_330 ?_
  refine lw_call (k := 156) (o := 51) (ci := 11) (g' := sX11_preach) (av := [.int (xs (Int32.toNatClampNeg (x3 + 1)))]) (rest := [.int r1]) F hP hS hl.1 rfl rfl rfl rfl (gt_has (i := 1181) (by decide +kernel)) (gt_has (i := 1182) (by decide +kernel)) (gt_has (i := 1183) (by decide +kernel)) (gt_has (i := 77) (by decide +kernel)) (show (parseMethodDescriptor (sX11_preach).1.desc).map (fun d => d.parameters.length) = some 1 by decide +kernel) hD2 (Nat.le_of_ble_eq_true rfl) hcl hsl d_law_331 (fun r2 σ2 H locs hq hP hS => ?_)
  exact lv_icmp_eq (tgt := 773) hx hb d_law_334 (by decide) (fun _ => kk σ2 H locs hq.2 hP hS) (fun z => absurd hq.1 z)
theorem law_7 {σ : St} {ls : Array Slot} {x3 : Int32} {i : Nat} (F : LwF p s m meth c b L xs G) (hP : va_P G.1 cls (wcells G σ) H) (hS : va_S (inW G) s.heap H locs) (hL : L ≤ 2048) (e3 : x3 = nI i) (hi : i + 4 ≤ L) (hl : lv_has ls 4 [(3, .int x3), (2, .ref (G.2.1 51)), (1, .ref (G.2.1 0)), (0, .ref b)]) (hR : RI σ) (hcl : cells ≤ 600000) (hsl : slots ≤ 7302250)
    (kk : ∀ (σ' : St) (H1 : Heap) (locs1 : List Loc), RI σ' → va_P G.1 cls (wcells G σ') H1 → va_S (inW G) s.heap H1 locs1 → W p l e room_1 s m #[Value.ref b] below meth c H1 locs1 cells slots Q (F0 m 773 ls [])) : W p l e room_1 s m #[Value.ref b] below meth c H locs cells slots Q (F0 m 339 ls []) := by
  obtain ⟨hi0, hi1, hi2, hi3⟩ := lw_ins i e3 hi hL
  have hbA := lw_nin F
  obtain ⟨hx, hb, hr, hml, hown, hts, hX, hbl, hlocks, hgv⟩ := F.1
  refine lv_aload_n hx hb d_law_339 rfl (lv_at hl 2 rfl) ?_
  refine lw_call (k := 111) (o := 0) (ci := 10) (g' := sX10_amen) (av := []) (rest := []) F hP hS hl.1 rfl rfl rfl rfl (gt_has (i := 643) (by decide +kernel)) (gt_has (i := 644) (by decide +kernel)) (gt_has (i := 645) (by decide +kernel)) (gt_has (i := 66) (by decide +kernel)) (show (parseMethodDescriptor (sX10_amen).1.desc).map (fun d => d.parameters.length) = some 0 by decide +kernel) (eq_amen hR) (Nat.le_of_ble_eq_true rfl) hcl hsl d_law_340 (fun r1 σ1 H locs hD2 hP hS => ?_)
  refine lv_aload_n hx hb d_law_343 rfl (lv_at hl 1 rfl) ?_
  refine lw_call (k := 157) (o := 51) (ci := 11) (g' := sX11_amen) (av := []) (rest := [.int r1]) F hP hS hl.1 rfl rfl rfl rfl (gt_has (i := 1193) (by decide +kernel)) (gt_has (i := 1194) (by decide +kernel)) (gt_has (i := 1195) (by decide +kernel)) (gt_has (i := 77) (by decide +kernel)) (show (parseMethodDescriptor (sX11_amen).1.desc).map (fun d => d.parameters.length) = some 0 by decide +kernel) hD2 (Nat.le_of_ble_eq_true rfl) hcl hsl d_law_344 (fun r2 σ2 H locs hq hP hS => ?_)
  exact lv_icmp_eq (tgt := 773) hx hb d_law_347 (by decide) (fun _ => kk σ2 H locs hq.2 hP hS) (fun z => absurd hq.1 z)
theorem law_8 {σ : St} {ls : Array Slot} {x3 : Int32} {i : Nat} (F : LwF p s m meth c b L xs G) (hP : va_P G.1 cls (wcells G σ) H) (hS : va_S (inW G) s.heap H locs) (hL : L ≤ 2048) (e3 : x3 = nI i) (hi : i + 4 ≤ L) (hl : lv_has ls 4 [(3, .int x3), (2, .ref (G.2.1 51)), (1, .ref (G.2.1 0)), (0, .ref b)]) (hR : RI σ) (hcl : cells ≤ 600000) (hsl : slots ≤ 7302250)
    (kk : ∀ (σ' : St) (H1 : Heap) (locs1 : List Loc), RI σ' → va_P G.1 cls (wcells G σ') H1 → va_S (inW G) s.heap H1 locs1 → W p l e room_1 s m #[Value.ref b] below meth c H1 locs1 cells slots Q (F0 m 773 ls [])) : W p l e room_1 s m #[Value.ref b] below meth c H locs cells slots Q (F0 m 352 ls []) := by
  obtain ⟨hi0, hi1, hi2, hi3⟩ := lw_ins i e3 hi hL
  have hbA := lw_nin F
  obtain ⟨hx, hb, hr, hml, hown, hts, hX, hbl, hlocks, hgv⟩ := F.1
  refine lv_aload_n hx hb d_law_352 rfl (lv_at hl 2 rfl) ?_
  refine lv_aload_n hx hb d_law_353 rfl (lv_at hl 3 rfl) ?_
  refine lv_iload_n hx hb d_law_354 rfl (lv_at hl 0 rfl) ?_
  refine lv_iconst (v := 1) hx hb d_law_355 (by decide) ?_
  refine lv_iadd hx hb d_law_356 ?_
  refine va_sld hx hb hX hbl hbA hS hi1 d_law_357 ?_
  refine lw_call (k := 112) (o := 0) (ci := 10) (g' := sX10_say) (av := [.int (xs (Int32.toNatClampNeg (x3 + 1)))]) (rest := []) F hP hS hl.1 rfl rfl rfl rfl (gt_has (i := 651) (by decide +kernel)) (gt_has (i := 652) (by decide +kernel)) (gt_has (i := 653) (by decide +kernel)) (gt_has (i := 66) (by decide +kernel)) (show (parseMethodDescriptor (sX10_say).1.desc).map (fun d => d.parameters.length) = some 1 by decide +kernel) (eq_say hR (xs (Int32.toNatClampNeg (x3 + 1)))) (Nat.le_of_ble_eq_true rfl) hcl hsl d_law_358 (fun r1 σ1 H locs hD2 hP hS => ?_)
  refine lv_aload_n hx hb d_law_361 rfl (lv_at hl 1 rfl) ?_
  refine lv_aload_n hx hb d_law_362 rfl (lv_at hl 3 rfl) ?_
  refine lv_iload_n hx hb d_law_363 rfl (lv_at hl 0 rfl) ?_
  refine lv_iconst (v := 1) hx hb d_law_364 (by decide) ?_
  refine lv_iadd hx hb d_law_365 ?_
  refine va_sld hx hb hX hbl hbA hS hi1 d_law_366 ?_
  refine lw_call (k := 158) (o := 51) (ci := 11) (g' := sX11_say) (av := [.int (xs (Int32.toNatClampNeg (x3 + 1)))]) (rest := [.int r1]) F hP hS hl.1 rfl rfl rfl rfl (gt_has (i := 1197) (by decide +kernel)) (gt_has (i := 1198) (by decide +kernel)) (gt_has (i := 1199) (by decide +kernel)) (gt_has (i := 77) (by decide +kernel)) (show (parseMethodDescriptor (sX11_say).1.desc).map (fun d => d.parameters.length) = some 1 by decide +kernel) hD2 (Nat.le_of_ble_eq_true rfl) hcl hsl d_law_367 (fun r2 σ2 H locs hq hP hS => ?_)
  exact lv_icmp_eq (tgt := 773) hx hb d_law_370 (by decide) (fun _ => kk σ2 H locs hq.2 hP hS) (fun z => absurd hq.1 z)
theorem law_9 {σ : St} {ls : Array Slot} {x3 : Int32} {i : Nat} (F : LwF p s m meth c b L xs G) (hP : va_P G.1 cls (wcells G σ) H) (hS : va_S (inW G) s.heap H locs) (hL : L ≤ 2048) (e3 : x3 = nI i) (hi : i + 4 ≤ L) (hl : lv_has ls 4 [(3, .int x3), (2, .ref (G.2.1 51)), (1, .ref (G.2.1 0)), (0, .ref b)]) (hR : RI σ) (hcl : cells ≤ 600000) (hsl : slots ≤ 7302250)
    (kk : ∀ (σ' : St) (H1 : Heap) (locs1 : List Loc), RI σ' → va_P G.1 cls (wcells G σ') H1 → va_S (inW G) s.heap H1 locs1 → W p l e room_1 s m #[Value.ref b] below meth c H1 locs1 cells slots Q (F0 m 773 ls [])) : W p l e room_1 s m #[Value.ref b] below meth c H locs cells slots Q (F0 m 375 ls []) := by
  obtain ⟨hi0, hi1, hi2, hi3⟩ := lw_ins i e3 hi hL
  have hbA := lw_nin F
  obtain ⟨hx, hb, hr, hml, hown, hts, hX, hbl, hlocks, hgv⟩ := F.1
  refine lv_aload_n hx hb d_law_375 rfl (lv_at hl 2 rfl) ?_
  refine lv_aload_n hx hb d_law_376 rfl (lv_at hl 3 rfl) ?_
  refine lv_iload_n hx hb d_law_377 rfl (lv_at hl 0 rfl) ?_
  refine lv_iconst (v := 1) hx hb d_law_378 (by decide) ?_
  refine lv_iadd hx hb d_law_379 ?_
  refine va_sld hx hb hX hbl hbA hS hi1 d_law_380 ?_
  refine lw_call (k := 113) (o := 0) (ci := 10) (g' := sX10_heard) (av := [.int (xs (Int32.toNatClampNeg (x3 + 1)))]) (rest := []) F hP hS hl.1 rfl rfl rfl rfl (gt_has (i := 664) (by decide +kernel)) (gt_has (i := 665) (by decide +kernel)) (gt_has (i := 666) (by decide +kernel)) (gt_has (i := 66) (by decide +kernel)) (show (parseMethodDescriptor (sX10_heard).1.desc).map (fun d => d.parameters.length) = some 1 by decide +kernel) (eq_heard hR (xs (Int32.toNatClampNeg (x3 + 1)))) (Nat.le_of_ble_eq_true rfl) hcl hsl d_law_381 (fun r1 σ1 H locs hD2 hP hS => ?_)
  refine lv_aload_n hx hb d_law_384 rfl (lv_at hl 1 rfl) ?_
  refine lv_aload_n hx hb d_law_385 rfl (lv_at hl 3 rfl) ?_
  refine lv_iload_n hx hb d_law_386 rfl (lv_at hl 0 rfl) ?_
  refine lv_iconst (v := 1) hx hb d_law_387 (by decide) ?_
  refine lv_iadd hx hb d_law_388 ?_
  refine va_sld hx hb hX hbl hbA hS hi1 d_law_389 ?_
  refine lw_call (k := 160) (o := 51) (ci := 11) (g' := sX11_heard) (av := [.int (xs (Int32.toNatClampNeg (x3 + 1)))]) (rest := [.int r1]) F hP hS hl.1 rfl rfl rfl rfl (gt_has (i := 1201) (by decide +kernel)) (gt_has (i := 1202) (by decide +kernel)) (gt_has (i := 1203) (by decide +kernel)) (gt_has (i := 77) (by decide +kernel)) (show (parseMethodDescriptor (sX11_heard).1.desc).map (fun d => d.parameters.length) = some 1 by decide +kernel) hD2 (Nat.le_of_ble_eq_true rfl) hcl hsl d_law_390 (fun r2 σ2 H locs hq hP hS => ?_)
  exact lv_icmp_eq (tgt := 773) hx hb d_law_393 (by decide) (fun _ => kk σ2 H locs hq.2 hP hS) (fun z => absurd hq.1 z)
theorem law_10 {σ : St} {ls : Array Slot} {x3 : Int32} {i : Nat} (F : LwF p s m meth c b L xs G) (hP : va_P G.1 cls (wcells G σ) H) (hS : va_S (inW G) s.heap H locs) (hL : L ≤ 2048) (e3 : x3 = nI i) (hi : i + 4 ≤ L) (hl : lv_has ls 4 [(3, .int x3), (2, .ref (G.2.1 51)), (1, .ref (G.2.1 0)), (0, .ref b)]) (hR : RI σ) (hcl : cells ≤ 600000) (hsl : slots ≤ 7302250)
    (kk : ∀ (σ' : St) (H1 : Heap) (locs1 : List Loc), RI σ' → va_P G.1 cls (wcells G σ') H1 → va_S (inW G) s.heap H1 locs1 → W p l e room_1 s m #[Value.ref b] below meth c H1 locs1 cells slots Q (F0 m 773 ls [])) : W p l e room_1 s m #[Value.ref b] below meth c H locs cells slots Q (F0 m 398 ls []) := by
  obtain ⟨hi0, hi1, hi2, hi3⟩ := lw_ins i e3 hi hL
  have hbA := lw_nin F
  obtain ⟨hx, hb, hr, hml, hown, hts, hX, hbl, hlocks, hgv⟩ := F.1
  refine lv_aload_n hx hb d_law_398 rfl (lv_at hl 2 rfl) ?_
  refine lv_aload_n hx hb d_law_399 rfl (lv_at hl 3 rfl) ?_
  refine lv_iload_n hx hb d_law_400 rfl (lv_at hl 0 rfl) ?_
  refine lv_iconst (v := 1) hx hb d_law_401 (by decide) ?_
  refine lv_iadd hx hb d_law_402 ?_
  refine va_sld hx hb hX hbl hbA hS hi1 d_law_403 ?_
  refine lw_call (k := 114) (o := 0) (ci := 10) (g' := sX10_tally) (av := [.int (xs (Int32.toNatClampNeg (x3 + 1)))]) (rest := []) F hP hS hl.1 rfl rfl rfl rfl (gt_has (i := 676) (by decide +kernel)) (gt_has (i := 677) (by decide +kernel)) (gt_has (i := 678) (by decide +kernel)) (gt_has (i := 66) (by decide +kernel)) (show (parseMethodDescriptor (sX10_tally).1.desc).map (fun d => d.parameters.length) = some 1 by decide +kernel) (eq_tally hR (xs (Int32.toNatClampNeg (x3 + 1)))) (Nat.le_of_ble_eq_true rfl) hcl hsl d_law_404 (fun r1 σ1 H locs hD2 hP hS => ?_)
  refine lv_aload_n hx hb d_law_407 rfl (lv_at hl 1 rfl) ?_
  refine lv_aload_n hx hb d_law_408 rfl (lv_at hl 3 rfl) ?_
  refine lv_iload_n hx hb d_law_409 rfl (lv_at hl 0 rfl) ?_
  refine lv_iconst (v := 1) hx hb d_law_410 (by decide) ?_
  refine lv_iadd hx hb d_law_411 ?_
  refine va_sld hx hb hX hbl hbA hS hi1 d_law_412 ?_
  refine lw_call (k := 161) (o := 51) (ci := 11) (g' := sX11_tally) (av := [.int (xs (Int32.toNatClampNeg (x3 + 1)))]) (rest := [.int r1]) F hP hS hl.1 rfl rfl rfl rfl (gt_has (i := 1213) (by decide +kernel)) (gt_has (i := 1214) (by decide +kernel)) (gt_has (i := 1215) (by decide +kernel)) (gt_has (i := 77) (by decide +kernel)) (show (parseMethodDescriptor (sX11_tally).1.desc).map (fun d => d.parameters.length) = some 1 by decide +kernel) hD2 (Nat.le_of_ble_eq_true rfl) hcl hsl d_law_413 (fun r2 σ2 H locs hq hP hS => ?_)
  exact lv_icmp_eq (tgt := 773) hx hb d_law_416 (by decide) (fun _ => kk σ2 H locs hq.2 hP hS) (fun z => absurd hq.1 z)
theorem law_11 {σ : St} {ls : Array Slot} {x3 : Int32} {i : Nat} (F : LwF p s m meth c b L xs G) (hP : va_P G.1 cls (wcells G σ) H) (hS : va_S (inW G) s.heap H locs) (hL : L ≤ 2048) (e3 : x3 = nI i) (hi : i + 4 ≤ L) (hl : lv_has ls 4 [(3, .int x3), (2, .ref (G.2.1 51)), (1, .ref (G.2.1 0)), (0, .ref b)]) (hR : RI σ) (hcl : cells ≤ 600000) (hsl : slots ≤ 7302250)
    (kk : ∀ (σ' : St) (H1 : Heap) (locs1 : List Loc), RI σ' → va_P G.1 cls (wcells G σ') H1 → va_S (inW G) s.heap H1 locs1 → W p l e room_1 s m #[Value.ref b] below meth c H1 locs1 cells slots Q (F0 m 773 ls [])) : W p l e room_1 s m #[Value.ref b] below meth c H locs cells slots Q (F0 m 421 ls []) := by
  obtain ⟨hi0, hi1, hi2, hi3⟩ := lw_ins i e3 hi hL
  have hbA := lw_nin F
  obtain ⟨hx, hb, hr, hml, hown, hts, hX, hbl, hlocks, hgv⟩ := F.1
  refine lv_aload_n hx hb d_law_421 rfl (lv_at hl 2 rfl) ?_
  refine lv_aload_n hx hb d_law_422 rfl (lv_at hl 3 rfl) ?_
  refine lv_iload_n hx hb d_law_423 rfl (lv_at hl 0 rfl) ?_
  refine lv_iconst (v := 1) hx hb d_law_424 (by decide) ?_
  refine lv_iadd hx hb d_law_425 ?_
  refine va_sld hx hb hX hbl hbA hS hi1 d_law_426 ?_
  refine lw_call (k := 115) (o := 0) (ci := 10) (g' := sX10_sound) (av := [.int (xs (Int32.toNatClampNeg (x3 + 1)))]) (rest := []) F hP hS hl.1 rfl rfl rfl rfl (gt_has (i := 685) (by decide +kernel)) (gt_has (i := 686) (by decide +kernel)) (gt_has (i := 687) (by decide +kernel)) (gt_has (i := 66) (by decide +kernel)) (show (parseMethodDescriptor (sX10_sound).1.desc).map (fun d => d.parameters.length) = some 1 by decide +kernel) (eq_sound hR (xs (Int32.toNatClampNeg (x3 + 1)))) (Nat.le_of_ble_eq_true rfl) hcl hsl d_law_427 (fun r1 σ1 H locs hD2 hP hS => ?_)
  refine lv_aload_n hx hb d_law_430 rfl (lv_at hl 1 rfl) ?_
  refine lv_aload_n hx hb d_law_431 rfl (lv_at hl 3 rfl) ?_
  refine lv_iload_n hx hb d_law_432 rfl (lv_at hl 0 rfl) ?_
  refine lv_iconst (v := 1) hx hb d_law_433 (by decide) ?_
  refine lv_iadd hx hb d_law_434 ?_
  refine va_sld hx hb hX hbl hbA hS hi1 d_law_435 ?_
  refine lw_call (k := 162) (o := 51) (ci := 11) (g' := sX11_sound) (av := [.int (xs (Int32.toNatClampNeg (x3 + 1)))]) (rest := [.int r1]) F hP hS hl.1 rfl rfl rfl rfl (gt_has (i := 1217) (by decide +kernel)) (gt_has (i := 1218) (by decide +kernel)) (gt_has (i := 1219) (by decide +kernel)) (gt_has (i := 77) (by decide +kernel)) (show (parseMethodDescriptor (sX11_sound).1.desc).map (fun d => d.parameters.length) = some 1 by decide +kernel) hD2 (Nat.le_of_ble_eq_true rfl) hcl hsl d_law_436 (fun r2 σ2 H locs hq hP hS => ?_)
  exact lv_icmp_eq (tgt := 773) hx hb d_law_439 (by decide) (fun _ => kk σ2 H locs hq.2 hP hS) (fun z => absurd hq.1 z)
theorem law_12 {σ : St} {ls : Array Slot} {x3 : Int32} {i : Nat} (F : LwF p s m meth c b L xs G) (hP : va_P G.1 cls (wcells G σ) H) (hS : va_S (inW G) s.heap H locs) (hL : L ≤ 2048) (e3 : x3 = nI i) (hi : i + 4 ≤ L) (hl : lv_has ls 4 [(3, .int x3), (2, .ref (G.2.1 51)), (1, .ref (G.2.1 0)), (0, .ref b)]) (hR : RI σ) (hcl : cells ≤ 600000) (hsl : slots ≤ 7302250)
    (kk : ∀ (σ' : St) (H1 : Heap) (locs1 : List Loc), RI σ' → va_P G.1 cls (wcells G σ') H1 → va_S (inW G) s.heap H1 locs1 → W p l e room_1 s m #[Value.ref b] below meth c H1 locs1 cells slots Q (F0 m 773 ls [])) : W p l e room_1 s m #[Value.ref b] below meth c H locs cells slots Q (F0 m 444 ls []) := by
  obtain ⟨hi0, hi1, hi2, hi3⟩ := lw_ins i e3 hi hL
  have hbA := lw_nin F
  obtain ⟨hx, hb, hr, hml, hown, hts, hX, hbl, hlocks, hgv⟩ := F.1
  refine lv_aload_n hx hb d_law_444 rfl (lv_at hl 2 rfl) ?_
  refine lw_call (k := 116) (o := 0) (ci := 10) (g' := sX10_listen) (av := []) (rest := []) F hP hS hl.1 rfl rfl rfl rfl (gt_has (i := 702) (by decide +kernel)) (gt_has (i := 703) (by decide +kernel)) (gt_has (i := 704) (by decide +kernel)) (gt_has (i := 66) (by decide +kernel)) (show (parseMethodDescriptor (sX10_listen).1.desc).map (fun d => d.parameters.length) = some 0 by decide +kernel) (eq_listen hR) (Nat.le_of_ble_eq_true rfl) hcl hsl d_law_445 (fun r1 σ1 H locs hD2 hP hS => ?_)
  refine lv_aload_n hx hb d_law_448 rfl (lv_at hl 1 rfl) ?_
  refine lw_call (k := 163) (o := 51) (ci := 11) (g' := sX11_listen) (av := []) (rest := [.int r1]) F hP hS hl.1 rfl rfl rfl rfl (gt_has (i := 1221) (by decide +kernel)) (gt_has (i := 1222) (by decide +kernel)) (gt_has (i := 1223) (by decide +kernel)) (gt_has (i := 77) (by decide +kernel)) (show (parseMethodDescriptor (sX11_listen).1.desc).map (fun d => d.parameters.length) = some 0 by decide +kernel) hD2 (Nat.le_of_ble_eq_true rfl) hcl hsl d_law_449 (fun r2 σ2 H locs hq hP hS => ?_)
  exact lv_icmp_eq (tgt := 773) hx hb d_law_452 (by decide) (fun _ => kk σ2 H locs hq.2 hP hS) (fun z => absurd hq.1 z)
theorem law_13 {σ : St} {ls : Array Slot} {x3 : Int32} {i : Nat} (F : LwF p s m meth c b L xs G) (hP : va_P G.1 cls (wcells G σ) H) (hS : va_S (inW G) s.heap H locs) (hL : L ≤ 2048) (e3 : x3 = nI i) (hi : i + 4 ≤ L) (hl : lv_has ls 4 [(3, .int x3), (2, .ref (G.2.1 51)), (1, .ref (G.2.1 0)), (0, .ref b)]) (hR : RI σ) (hcl : cells ≤ 600000) (hsl : slots ≤ 7302250)
    (kk : ∀ (σ' : St) (H1 : Heap) (locs1 : List Loc), RI σ' → va_P G.1 cls (wcells G σ') H1 → va_S (inW G) s.heap H1 locs1 → W p l e room_1 s m #[Value.ref b] below meth c H1 locs1 cells slots Q (F0 m 773 ls [])) : W p l e room_1 s m #[Value.ref b] below meth c H locs cells slots Q (F0 m 457 ls []) := by
  obtain ⟨hi0, hi1, hi2, hi3⟩ := lw_ins i e3 hi hL
  have hbA := lw_nin F
  obtain ⟨hx, hb, hr, hml, hown, hts, hX, hbl, hlocks, hgv⟩ := F.1
  refine lv_aload_n hx hb d_law_457 rfl (lv_at hl 2 rfl) ?_
  refine lw_call (k := 117) (o := 0) (ci := 10) (g' := sX10_hush) (av := []) (rest := []) F hP hS hl.1 rfl rfl rfl rfl (gt_has (i := 706) (by decide +kernel)) (gt_has (i := 707) (by decide +kernel)) (gt_has (i := 708) (by decide +kernel)) (gt_has (i := 66) (by decide +kernel)) (show (parseMethodDescriptor (sX10_hush).1.desc).map (fun d => d.parameters.length) = some 0 by decide +kernel) (eq_hush hR) (Nat.le_of_ble_eq_true rfl) hcl hsl d_law_458 (fun r1 σ1 H locs hD2 hP hS => ?_)
  refine lv_aload_n hx hb d_law_461 rfl (lv_at hl 1 rfl) ?_
  refine lw_call (k := 164) (o := 51) (ci := 11) (g' := sX11_hush) (av := []) (rest := [.int r1]) F hP hS hl.1 rfl rfl rfl rfl (gt_has (i := 1225) (by decide +kernel)) (gt_has (i := 1226) (by decide +kernel)) (gt_has (i := 1227) (by decide +kernel)) (gt_has (i := 77) (by decide +kernel)) (show (parseMethodDescriptor (sX11_hush).1.desc).map (fun d => d.parameters.length) = some 0 by decide +kernel) hD2 (Nat.le_of_ble_eq_true rfl) hcl hsl d_law_462 (fun r2 σ2 H locs hq hP hS => ?_)
  exact lv_icmp_eq (tgt := 773) hx hb d_law_465 (by decide) (fun _ => kk σ2 H locs hq.2 hP hS) (fun z => absurd hq.1 z)
theorem law_14 {σ : St} {ls : Array Slot} {x3 : Int32} {i : Nat} (F : LwF p s m meth c b L xs G) (hP : va_P G.1 cls (wcells G σ) H) (hS : va_S (inW G) s.heap H locs) (hL : L ≤ 2048) (e3 : x3 = nI i) (hi : i + 4 ≤ L) (hl : lv_has ls 4 [(3, .int x3), (2, .ref (G.2.1 51)), (1, .ref (G.2.1 0)), (0, .ref b)]) (hR : RI σ) (hcl : cells ≤ 600000) (hsl : slots ≤ 7302250)
    (kk : ∀ (σ' : St) (H1 : Heap) (locs1 : List Loc), RI σ' → va_P G.1 cls (wcells G σ') H1 → va_S (inW G) s.heap H1 locs1 → W p l e room_1 s m #[Value.ref b] below meth c H1 locs1 cells slots Q (F0 m 773 ls [])) : W p l e room_1 s m #[Value.ref b] below meth c H locs cells slots Q (F0 m 470 ls []) := by
  obtain ⟨hi0, hi1, hi2, hi3⟩ := lw_ins i e3 hi hL
  have hbA := lw_nin F
  obtain ⟨hx, hb, hr, hml, hown, hts, hX, hbl, hlocks, hgv⟩ := F.1
  refine lv_aload_n hx hb d_law_470 rfl (lv_at hl 2 rfl) ?_
  refine lv_aload_n hx hb d_law_471 rfl (lv_at hl 3 rfl) ?_
  refine lv_iload_n hx hb d_law_472 rfl (lv_at hl 0 rfl) ?_
  refine lv_iconst (v := 1) hx hb d_law_473 (by decide) ?_
  refine lv_iadd hx hb d_law_474 ?_
  refine va_sld hx hb hX hbl hbA hS hi1 d_law_475 ?_
  refine lv_aload_n hx hb d_law_476 rfl (lv_at hl 3 rfl) ?_
  refine lv_iload_n hx hb d_law_477 rfl (lv_at hl 0 rfl) ?_
  refine lv_iconst (v := 2) hx hb d_law_478 (by decide) ?_
  refine lv_iadd hx hb d_law_479 ?_
  refine va_sld hx hb hX hbl hbA hS hi2 d_law_480 ?_
  refine lw_call (k := 118) (o := 0) (ci := 10) (g' := sX10_fits) (av := [.int (xs (Int32.toNatClampNeg (x3 + 1))), .int (xs (Int32.toNatClampNeg (x3 + 2)))]) (rest := []) F hP hS hl.1 rfl rfl rfl rfl (gt_has (i := 710) (by decide +kernel)) (gt_has (i := 711) (by decide +kernel)) (gt_has (i := 712) (by decide +kernel)) (gt_has (i := 66) (by decide +kernel)) (show (parseMethodDescriptor (sX10_fits).1.desc).map (fun d => d.parameters.length) = some 2 by decide +kernel) (eq_fits hR (xs (Int32.toNatClampNeg (x3 + 1))) (xs (Int32.toNatClampNeg (x3 + 2)))) (Nat.le_of_ble_eq_true rfl) hcl hsl d_law_481 (fun r1 σ1 H locs hD2 hP hS => ?_)
  refine lv_aload_n hx hb d_law_484 rfl (lv_at hl 1 rfl) ?_
  refine lv_aload_n hx hb d_law_485 rfl (lv_at hl 3 rfl) ?_
  refine lv_iload_n hx hb d_law_486 rfl (lv_at hl 0 rfl) ?_
  refine lv_iconst (v := 1) hx hb d_law_487 (by decide) ?_
  refine lv_iadd hx hb d_law_488 ?_
  refine va_sld hx hb hX hbl hbA hS hi1 d_law_489 ?_
  refine lv_aload_n hx hb d_law_490 rfl (lv_at hl 3 rfl) ?_
  refine lv_iload_n hx hb d_law_491 rfl (lv_at hl 0 rfl) ?_
  refine lv_iconst (v := 2) hx hb d_law_492 (by decide) ?_
  refine lv_iadd hx hb d_law_493 ?_
  refine va_sld hx hb hX hbl hbA hS hi2 d_law_494 ?_
  refine lw_call (k := 166) (o := 51) (ci := 11) (g' := sX11_fits) (av := [.int (xs (Int32.toNatClampNeg (x3 + 1))), .int (xs (Int32.toNatClampNeg (x3 + 2)))]) (rest := [.int r1]) F hP hS hl.1 rfl rfl rfl rfl (gt_has (i := 1229) (by decide +kernel)) (gt_has (i := 1230) (by decide +kernel)) (gt_has (i := 1231) (by decide +kernel)) (gt_has (i := 77) (by decide +kernel)) (show (parseMethodDescriptor (sX11_fits).1.desc).map (fun d => d.parameters.length) = some 2 by decide +kernel) hD2 (Nat.le_of_ble_eq_true rfl) hcl hsl d_law_495 (fun r2 σ2 H locs hq hP hS => ?_)
  exact lv_icmp_eq (tgt := 773) hx hb d_law_498 (by decide) (fun _ => kk σ2 H locs hq.2 hP hS) (fun z => absurd hq.1 z)
theorem law_15 {σ : St} {ls : Array Slot} {x3 : Int32} {i : Nat} (F : LwF p s m meth c b L xs G) (hP : va_P G.1 cls (wcells G σ) H) (hS : va_S (inW G) s.heap H locs) (hL : L ≤ 2048) (e3 : x3 = nI i) (hi : i + 4 ≤ L) (hl : lv_has ls 4 [(3, .int x3), (2, .ref (G.2.1 51)), (1, .ref (G.2.1 0)), (0, .ref b)]) (hR : RI σ) (hcl : cells ≤ 600000) (hsl : slots ≤ 7302250)
    (kk : ∀ (σ' : St) (H1 : Heap) (locs1 : List Loc), RI σ' → va_P G.1 cls (wcells G σ') H1 → va_S (inW G) s.heap H1 locs1 → W p l e room_1 s m #[Value.ref b] below meth c H1 locs1 cells slots Q (F0 m 773 ls [])) : W p l e room_1 s m #[Value.ref b] below meth c H locs cells slots Q (F0 m 503 ls []) := by
  obtain ⟨hi0, hi1, hi2, hi3⟩ := lw_ins i e3 hi hL
  have hbA := lw_nin F
  obtain ⟨hx, hb, hr, hml, hown, hts, hX, hbl, hlocks, hgv⟩ := F.1
  refine lv_aload_n hx hb d_law_503 rfl (lv_at hl 2 rfl) ?_
  refine lv_aload_n hx hb d_law_504 rfl (lv_at hl 3 rfl) ?_
  refine lv_iload_n hx hb d_law_505 rfl (lv_at hl 0 rfl) ?_
  refine lv_iconst (v := 1) hx hb d_law_506 (by decide) ?_
  refine lv_iadd hx hb d_law_507 ?_
  refine va_sld hx hb hX hbl hbA hS hi1 d_law_508 ?_
  refine lw_call (k := 119) (o := 0) (ci := 10) (g' := sX10_readings) (av := [.int (xs (Int32.toNatClampNeg (x3 + 1)))]) (rest := []) F hP hS hl.1 rfl rfl rfl rfl (gt_has (i := 724) (by decide +kernel)) (gt_has (i := 725) (by decide +kernel)) (gt_has (i := 726) (by decide +kernel)) (gt_has (i := 66) (by decide +kernel)) (show (parseMethodDescriptor (sX10_readings).1.desc).map (fun d => d.parameters.length) = some 1 by decide +kernel) (eq_readings hR (xs (Int32.toNatClampNeg (x3 + 1)))) (Nat.le_of_ble_eq_true rfl) hcl hsl d_law_509 (fun r1 σ1 H locs hD2 hP hS => ?_)
  refine lv_aload_n hx hb d_law_512 rfl (lv_at hl 1 rfl) ?_
  refine lv_aload_n hx hb d_law_513 rfl (lv_at hl 3 rfl) ?_
  refine lv_iload_n hx hb d_law_514 rfl (lv_at hl 0 rfl) ?_
  refine lv_iconst (v := 1) hx hb d_law_515 (by decide) ?_
  refine lv_iadd hx hb d_law_516 ?_
  refine va_sld hx hb hX hbl hbA hS hi1 d_law_517 ?_
  refine lw_call (k := 172) (o := 51) (ci := 11) (g' := sX11_readings) (av := [.int (xs (Int32.toNatClampNeg (x3 + 1)))]) (rest := [.int r1]) F hP hS hl.1 rfl rfl rfl rfl (gt_has (i := 1237) (by decide +kernel)) (gt_has (i := 1238) (by decide +kernel)) (gt_has (i := 1239) (by decide +kernel)) (gt_has (i := 77) (by decide +kernel)) (show (parseMethodDescriptor (sX11_readings).1.desc).map (fun d => d.parameters.length) = some 1 by decide +kernel) hD2 (Nat.le_of_ble_eq_true rfl) hcl hsl d_law_518 (fun r2 σ2 H locs hq hP hS => ?_)
  exact lv_icmp_eq (tgt := 773) hx hb d_law_521 (by decide) (fun _ => kk σ2 H locs hq.2 hP hS) (fun z => absurd hq.1 z)
theorem law_16 {σ : St} {ls : Array Slot} {x3 : Int32} {i : Nat} (F : LwF p s m meth c b L xs G) (hP : va_P G.1 cls (wcells G σ) H) (hS : va_S (inW G) s.heap H locs) (hL : L ≤ 2048) (e3 : x3 = nI i) (hi : i + 4 ≤ L) (hl : lv_has ls 4 [(3, .int x3), (2, .ref (G.2.1 51)), (1, .ref (G.2.1 0)), (0, .ref b)]) (hR : RI σ) (hcl : cells ≤ 600000) (hsl : slots ≤ 7302250)
    (kk : ∀ (σ' : St) (H1 : Heap) (locs1 : List Loc), RI σ' → va_P G.1 cls (wcells G σ') H1 → va_S (inW G) s.heap H1 locs1 → W p l e room_1 s m #[Value.ref b] below meth c H1 locs1 cells slots Q (F0 m 773 ls [])) : W p l e room_1 s m #[Value.ref b] below meth c H locs cells slots Q (F0 m 526 ls []) := by
  obtain ⟨hi0, hi1, hi2, hi3⟩ := lw_ins i e3 hi hL
  have hbA := lw_nin F
  obtain ⟨hx, hb, hr, hml, hown, hts, hX, hbl, hlocks, hgv⟩ := F.1
  refine lv_aload_n hx hb d_law_526 rfl (lv_at hl 2 rfl) ?_
  refine lv_aload_n hx hb d_law_527 rfl (lv_at hl 3 rfl) ?_
  refine lv_iload_n hx hb d_law_528 rfl (lv_at hl 0 rfl) ?_
  refine lv_iconst (v := 1) hx hb d_law_529 (by decide) ?_
  refine lv_iadd hx hb d_law_530 ?_
  refine va_sld hx hb hX hbl hbA hS hi1 d_law_531 ?_
  refine lw_call (k := 120) (o := 0) (ci := 10) (g' := sX10_came) (av := [.int (xs (Int32.toNatClampNeg (x3 + 1)))]) (rest := []) F hP hS hl.1 rfl rfl rfl rfl (gt_has (i := 793) (by decide +kernel)) (gt_has (i := 794) (by decide +kernel)) (gt_has (i := 795) (by decide +kernel)) (gt_has (i := 66) (by decide +kernel)) (show (parseMethodDescriptor (sX10_came).1.desc).map (fun d => d.parameters.length) = some 1 by decide +kernel) (eq_came hR (xs (Int32.toNatClampNeg (x3 + 1)))) (Nat.le_of_ble_eq_true rfl) hcl hsl d_law_532 (fun r1 σ1 H locs hD2 hP hS => ?_)
  refine lv_aload_n hx hb d_law_535 rfl (lv_at hl 1 rfl) ?_
  refine lv_aload_n hx hb d_law_536 rfl (lv_at hl 3 rfl) ?_
  refine lv_iload_n hx hb d_law_537 rfl (lv_at hl 0 rfl) ?_
  refine lv_iconst (v := 1) hx hb d_law_538 (by decide) ?_
  refine lv_iadd hx hb d_law_539 ?_
  refine va_sld hx hb hX hbl hbA hS hi1 d_law_540 ?_
  refine lw_call (k := 173) (o := 51) (ci := 11) (g' := sX11_came) (av := [.int (xs (Int32.toNatClampNeg (x3 + 1)))]) (rest := [.int r1]) F hP hS hl.1 rfl rfl rfl rfl (gt_has (i := 1261) (by decide +kernel)) (gt_has (i := 1262) (by decide +kernel)) (gt_has (i := 1263) (by decide +kernel)) (gt_has (i := 77) (by decide +kernel)) (show (parseMethodDescriptor (sX11_came).1.desc).map (fun d => d.parameters.length) = some 1 by decide +kernel) hD2 (Nat.le_of_ble_eq_true rfl) hcl hsl d_law_541 (fun r2 σ2 H locs hq hP hS => ?_)
  exact lv_icmp_eq (tgt := 773) hx hb d_law_544 (by decide) (fun _ => kk σ2 H locs hq.2 hP hS) (fun z => absurd hq.1 z)
theorem law_17 {σ : St} {ls : Array Slot} {x3 : Int32} {i : Nat} (F : LwF p s m meth c b L xs G) (hP : va_P G.1 cls (wcells G σ) H) (hS : va_S (inW G) s.heap H locs) (hL : L ≤ 2048) (e3 : x3 = nI i) (hi : i + 4 ≤ L) (hl : lv_has ls 4 [(3, .int x3), (2, .ref (G.2.1 51)), (1, .ref (G.2.1 0)), (0, .ref b)]) (hR : RI σ) (hcl : cells ≤ 600000) (hsl : slots ≤ 7302250)
    (kk : ∀ (σ' : St) (H1 : Heap) (locs1 : List Loc), RI σ' → va_P G.1 cls (wcells G σ') H1 → va_S (inW G) s.heap H1 locs1 → W p l e room_1 s m #[Value.ref b] below meth c H1 locs1 cells slots Q (F0 m 773 ls [])) : W p l e room_1 s m #[Value.ref b] below meth c H locs cells slots Q (F0 m 549 ls []) := by
  obtain ⟨hi0, hi1, hi2, hi3⟩ := lw_ins i e3 hi hL
  have hbA := lw_nin F
  obtain ⟨hx, hb, hr, hml, hown, hts, hX, hbl, hlocks, hgv⟩ := F.1
  refine lv_aload_n hx hb d_law_549 rfl (lv_at hl 2 rfl) ?_
  refine lv_aload_n hx hb d_law_550 rfl (lv_at hl 3 rfl) ?_
  refine lv_iload_n hx hb d_law_551 rfl (lv_at hl 0 rfl) ?_
  refine lv_iconst (v := 1) hx hb d_law_552 (by decide) ?_
  refine lv_iadd hx hb d_law_553 ?_
  refine va_sld hx hb hX hbl hbA hS hi1 d_law_554 ?_
  refine lv_aload_n hx hb d_law_555 rfl (lv_at hl 3 rfl) ?_
  refine lv_iload_n hx hb d_law_556 rfl (lv_at hl 0 rfl) ?_
  refine lv_iconst (v := 2) hx hb d_law_557 (by decide) ?_
  refine lv_iadd hx hb d_law_558 ?_
  refine va_sld hx hb hX hbl hbA hS hi2 d_law_559 ?_
  refine lw_call (k := 121) (o := 0) (ci := 10) (g' := sX10_alone) (av := [.int (xs (Int32.toNatClampNeg (x3 + 1))), .int (xs (Int32.toNatClampNeg (x3 + 2)))]) (rest := []) F hP hS hl.1 rfl rfl rfl rfl (gt_has (i := 815) (by decide +kernel)) (gt_has (i := 816) (by decide +kernel)) (gt_has (i := 817) (by decide +kernel)) (gt_has (i := 66) (by decide +kernel)) (show (parseMethodDescriptor (sX10_alone).1.desc).map (fun d => d.parameters.length) = some 2 by decide +kernel) (eq_alone hR (xs (Int32.toNatClampNeg (x3 + 1))) (xs (Int32.toNatClampNeg (x3 + 2)))) (Nat.le_of_ble_eq_true rfl) hcl hsl d_law_560 (fun r1 σ1 H locs hD2 hP hS => ?_)
  refine lv_aload_n hx hb d_law_563 rfl (lv_at hl 1 rfl) ?_
  refine lv_aload_n hx hb d_law_564 rfl (lv_at hl 3 rfl) ?_
  refine lv_iload_n hx hb d_law_565 rfl (lv_at hl 0 rfl) ?_
  refine lv_iconst (v := 1) hx hb d_law_566 (by decide) ?_
  refine lv_iadd hx hb d_law_567 ?_
  refine va_sld hx hb hX hbl hbA hS hi1 d_law_568 ?_
  refine lv_aload_n hx hb d_law_569 rfl (lv_at hl 3 rfl) ?_
  refine lv_iload_n hx hb d_law_570 rfl (lv_at hl 0 rfl) ?_
  refine lv_iconst (v := 2) hx hb d_law_571 (by decide) ?_
  refine lv_iadd hx hb d_law_572 ?_
  refine va_sld hx hb hX hbl hbA hS hi2 d_law_573 ?_
  refine lw_call (k := 175) (o := 51) (ci := 11) (g' := sX11_alone) (av := [.int (xs (Int32.toNatClampNeg (x3 + 1))), .int (xs (Int32.toNatClampNeg (x3 + 2)))]) (rest := [.int r1]) F hP hS hl.1 rfl rfl rfl rfl (gt_has (i := 1265) (by decide +kernel)) (gt_has (i := 1266) (by decide +kernel)) (gt_has (i := 1267) (by decide +kernel)) (gt_has (i := 77) (by decide +kernel)) (show (parseMethodDescriptor (sX11_alone).1.desc).map (fun d => d.parameters.length) = some 2 by decide +kernel) hD2 (Nat.le_of_ble_eq_true rfl) hcl hsl d_law_574 (fun r2 σ2 H locs hq hP hS => ?_)
  exact lv_icmp_eq (tgt := 773) hx hb d_law_577 (by decide) (fun _ => kk σ2 H locs hq.2 hP hS) (fun z => absurd hq.1 z)
theorem law_18 {σ : St} {ls : Array Slot} {x3 : Int32} {i : Nat} (F : LwF p s m meth c b L xs G) (hP : va_P G.1 cls (wcells G σ) H) (hS : va_S (inW G) s.heap H locs) (hL : L ≤ 2048) (e3 : x3 = nI i) (hi : i + 4 ≤ L) (hl : lv_has ls 4 [(3, .int x3), (2, .ref (G.2.1 51)), (1, .ref (G.2.1 0)), (0, .ref b)]) (hR : RI σ) (hcl : cells ≤ 600000) (hsl : slots ≤ 7302250)
    (kk : ∀ (σ' : St) (H1 : Heap) (locs1 : List Loc), RI σ' → va_P G.1 cls (wcells G σ') H1 → va_S (inW G) s.heap H1 locs1 → W p l e room_1 s m #[Value.ref b] below meth c H1 locs1 cells slots Q (F0 m 773 ls [])) : W p l e room_1 s m #[Value.ref b] below meth c H locs cells slots Q (F0 m 582 ls []) := by
  obtain ⟨hi0, hi1, hi2, hi3⟩ := lw_ins i e3 hi hL
  have hbA := lw_nin F
  obtain ⟨hx, hb, hr, hml, hown, hts, hX, hbl, hlocks, hgv⟩ := F.1
  refine lv_aload_n hx hb d_law_582 rfl (lv_at hl 2 rfl) ?_
  refine lv_aload_n hx hb d_law_583 rfl (lv_at hl 3 rfl) ?_
  refine lv_iload_n hx hb d_law_584 rfl (lv_at hl 0 rfl) ?_
  refine lv_iconst (v := 1) hx hb d_law_585 (by decide) ?_
  refine lv_iadd hx hb d_law_586 ?_
  refine va_sld hx hb hX hbl hbA hS hi1 d_law_587 ?_
  refine lv_aload_n hx hb d_law_588 rfl (lv_at hl 3 rfl) ?_
  refine lv_iload_n hx hb d_law_589 rfl (lv_at hl 0 rfl) ?_
  refine lv_iconst (v := 2) hx hb d_law_590 (by decide) ?_
  refine lv_iadd hx hb d_law_591 ?_
  refine va_sld hx hb hX hbl hbA hS hi2 d_law_592 ?_
  refine lw_call (k := 122) (o := 0) (ci := 10) (g' := sX10_twins) (av := [.int (xs (Int32.toNatClampNeg (x3 + 1))), .int (xs (Int32.toNatClampNeg (x3 + 2)))]) (rest := []) F hP hS hl.1 rfl rfl rfl rfl (gt_has (i := 835) (by decide +kernel)) (gt_has (i := 836) (by decide +kernel)) (gt_has (i := 837) (by decide +kernel)) (gt_has (i := 66) (by decide +kernel)) (show (parseMethodDescriptor (sX10_twins).1.desc).map (fun d => d.parameters.length) = some 2 by decide +kernel) (eq_twins hR (xs (Int32.toNatClampNeg (x3 + 1))) (xs (Int32.toNatClampNeg (x3 + 2)))) (Nat.le_of_ble_eq_true rfl) hcl hsl d_law_593 (fun r1 σ1 H locs hD2 hP hS => ?_)
  refine lv_aload_n hx hb d_law_596 rfl (lv_at hl 1 rfl) ?_
  refine lv_aload_n hx hb d_law_597 rfl (lv_at hl 3 rfl) ?_
  refine lv_iload_n hx hb d_law_598 rfl (lv_at hl 0 rfl) ?_
  refine lv_iconst (v := 1) hx hb d_law_599 (by decide) ?_
  refine lv_iadd hx hb d_law_600 ?_
  refine va_sld hx hb hX hbl hbA hS hi1 d_law_601 ?_
  refine lv_aload_n hx hb d_law_602 rfl (lv_at hl 3 rfl) ?_
  refine lv_iload_n hx hb d_law_603 rfl (lv_at hl 0 rfl) ?_
  refine lv_iconst (v := 2) hx hb d_law_604 (by decide) ?_
  refine lv_iadd hx hb d_law_605 ?_
  refine va_sld hx hb hX hbl hbA hS hi2 d_law_606 ?_
  refine lw_call (k := 176) (o := 51) (ci := 11) (g' := sX11_twins) (av := [.int (xs (Int32.toNatClampNeg (x3 + 1))), .int (xs (Int32.toNatClampNeg (x3 + 2)))]) (rest := [.int r1]) F hP hS hl.1 rfl rfl rfl rfl (gt_has (i := 1273) (by decide +kernel)) (gt_has (i := 1274) (by decide +kernel)) (gt_has (i := 1275) (by decide +kernel)) (gt_has (i := 77) (by decide +kernel)) (show (parseMethodDescriptor (sX11_twins).1.desc).map (fun d => d.parameters.length) = some 2 by decide +kernel) hD2 (Nat.le_of_ble_eq_true rfl) hcl hsl d_law_607 (fun r2 σ2 H locs hq hP hS => ?_)
  exact lv_icmp_eq (tgt := 773) hx hb d_law_610 (by decide) (fun _ => kk σ2 H locs hq.2 hP hS) (fun z => absurd hq.1 z)
theorem law_19 {σ : St} {ls : Array Slot} {x3 : Int32} {i : Nat} (F : LwF p s m meth c b L xs G) (hP : va_P G.1 cls (wcells G σ) H) (hS : va_S (inW G) s.heap H locs) (hL : L ≤ 2048) (e3 : x3 = nI i) (hi : i + 4 ≤ L) (hl : lv_has ls 4 [(3, .int x3), (2, .ref (G.2.1 51)), (1, .ref (G.2.1 0)), (0, .ref b)]) (hR : RI σ) (hcl : cells ≤ 600000) (hsl : slots ≤ 7302250)
    (kk : ∀ (σ' : St) (H1 : Heap) (locs1 : List Loc), RI σ' → va_P G.1 cls (wcells G σ') H1 → va_S (inW G) s.heap H1 locs1 → W p l e room_1 s m #[Value.ref b] below meth c H1 locs1 cells slots Q (F0 m 773 ls [])) : W p l e room_1 s m #[Value.ref b] below meth c H locs cells slots Q (F0 m 615 ls []) := by
  obtain ⟨hi0, hi1, hi2, hi3⟩ := lw_ins i e3 hi hL
  have hbA := lw_nin F
  obtain ⟨hx, hb, hr, hml, hown, hts, hX, hbl, hlocks, hgv⟩ := F.1
  refine lv_aload_n hx hb d_law_615 rfl (lv_at hl 2 rfl) ?_
  refine lv_aload_n hx hb d_law_616 rfl (lv_at hl 3 rfl) ?_
  refine lv_iload_n hx hb d_law_617 rfl (lv_at hl 0 rfl) ?_
  refine lv_iconst (v := 1) hx hb d_law_618 (by decide) ?_
  refine lv_iadd hx hb d_law_619 ?_
  refine va_sld hx hb hX hbl hbA hS hi1 d_law_620 ?_
  refine lv_aload_n hx hb d_law_621 rfl (lv_at hl 3 rfl) ?_
  refine lv_iload_n hx hb d_law_622 rfl (lv_at hl 0 rfl) ?_
  refine lv_iconst (v := 2) hx hb d_law_623 (by decide) ?_
  refine lv_iadd hx hb d_law_624 ?_
  refine va_sld hx hb hX hbl hbA hS hi2 d_law_625 ?_
  refine lv_aload_n hx hb d_law_626 rfl (lv_at hl 3 rfl) ?_
  refine lv_iload_n hx hb d_law_627 rfl (lv_at hl 0 rfl) ?_
  refine lv_iconst (v := 3) hx hb d_law_628 (by decide) ?_
  refine lv_iadd hx hb d_law_629 ?_
  refine va_sld hx hb hX hbl hbA hS hi3 d_law_630 ?_
  refine lw_call (k := 123) (o := 0) (ci := 10) (g' := sX10_learnt) (av := [.int (xs (Int32.toNatClampNeg (x3 + 1))), .int (xs (Int32.toNatClampNeg (x3 + 2))), .int (xs (Int32.toNatClampNeg (x3 + 3)))]) (rest := []) F hP hS hl.1 rfl rfl rfl rfl (gt_has (i := 853) (by decide +kernel)) (gt_has (i := 854) (by decide +kernel)) (gt_has (i := 855) (by decide +kernel)) (gt_has (i := 66) (by decide +kernel)) (show (parseMethodDescriptor (sX10_learnt).1.desc).map (fun d => d.parameters.length) = some 3 by decide +kernel) (eq_learnt hR (xs (Int32.toNatClampNeg (x3 + 1))) (xs (Int32.toNatClampNeg (x3 + 2))) (xs (Int32.toNatClampNeg (x3 + 3)))) (Nat.le_of_ble_eq_true rfl) hcl hsl d_law_631 (fun r1 σ1 H locs hD2 hP hS => ?_)
  refine lv_aload_n hx hb d_law_634 rfl (lv_at hl 1 rfl) ?_
  refine lv_aload_n hx hb d_law_635 rfl (lv_at hl 3 rfl) ?_
  refine lv_iload_n hx hb d_law_636 rfl (lv_at hl 0 rfl) ?_
  refine lv_iconst (v := 1) hx hb d_law_637 (by decide) ?_
  refine lv_iadd hx hb d_law_638 ?_
  refine va_sld hx hb hX hbl hbA hS hi1 d_law_639 ?_
  refine lv_aload_n hx hb d_law_640 rfl (lv_at hl 3 rfl) ?_
  refine lv_iload_n hx hb d_law_641 rfl (lv_at hl 0 rfl) ?_
  refine lv_iconst (v := 2) hx hb d_law_642 (by decide) ?_
  refine lv_iadd hx hb d_law_643 ?_
  refine va_sld hx hb hX hbl hbA hS hi2 d_law_644 ?_
  refine lv_aload_n hx hb d_law_645 rfl (lv_at hl 3 rfl) ?_
  refine lv_iload_n hx hb d_law_646 rfl (lv_at hl 0 rfl) ?_
  refine lv_iconst (v := 3) hx hb d_law_647 (by decide) ?_
  refine lv_iadd hx hb d_law_648 ?_
  refine va_sld hx hb hX hbl hbA hS hi3 d_law_649 ?_
  refine lw_call (k := 179) (o := 51) (ci := 11) (g' := sX11_learnt) (av := [.int (xs (Int32.toNatClampNeg (x3 + 1))), .int (xs (Int32.toNatClampNeg (x3 + 2))), .int (xs (Int32.toNatClampNeg (x3 + 3)))]) (rest := [.int r1]) F hP hS hl.1 rfl rfl rfl rfl (gt_has (i := 1277) (by decide +kernel)) (gt_has (i := 1278) (by decide +kernel)) (gt_has (i := 1279) (by decide +kernel)) (gt_has (i := 77) (by decide +kernel)) (show (parseMethodDescriptor (sX11_learnt).1.desc).map (fun d => d.parameters.length) = some 3 by decide +kernel) hD2 (Nat.le_of_ble_eq_true rfl) hcl hsl d_law_650 (fun r2 σ2 H locs hq hP hS => ?_)
  exact lv_icmp_eq (tgt := 773) hx hb d_law_653 (by decide) (fun _ => kk σ2 H locs hq.2 hP hS) (fun z => absurd hq.1 z)
theorem law_20 {σ : St} {ls : Array Slot} {x3 : Int32} {i : Nat} (F : LwF p s m meth c b L xs G) (hP : va_P G.1 cls (wcells G σ) H) (hS : va_S (inW G) s.heap H locs) (hL : L ≤ 2048) (e3 : x3 = nI i) (hi : i + 4 ≤ L) (hl : lv_has ls 4 [(3, .int x3), (2, .ref (G.2.1 51)), (1, .ref (G.2.1 0)), (0, .ref b)]) (hR : RI σ) (hcl : cells ≤ 600000) (hsl : slots ≤ 7302250)
    (kk : ∀ (σ' : St) (H1 : Heap) (locs1 : List Loc), RI σ' → va_P G.1 cls (wcells G σ') H1 → va_S (inW G) s.heap H1 locs1 → W p l e room_1 s m #[Value.ref b] below meth c H1 locs1 cells slots Q (F0 m 773 ls [])) : W p l e room_1 s m #[Value.ref b] below meth c H locs cells slots Q (F0 m 658 ls []) := by
  obtain ⟨hi0, hi1, hi2, hi3⟩ := lw_ins i e3 hi hL
  have hbA := lw_nin F
  obtain ⟨hx, hb, hr, hml, hown, hts, hX, hbl, hlocks, hgv⟩ := F.1
  refine lv_aload_n hx hb d_law_658 rfl (lv_at hl 2 rfl) ?_
  refine lv_aload_n hx hb d_law_659 rfl (lv_at hl 3 rfl) ?_
  refine lv_iload_n hx hb d_law_660 rfl (lv_at hl 0 rfl) ?_
  refine lv_iconst (v := 1) hx hb d_law_661 (by decide) ?_
  refine lv_iadd hx hb d_law_662 ?_
  refine va_sld hx hb hX hbl hbA hS hi1 d_law_663 ?_
  refine lw_call (k := 124) (o := 0) (ci := 10) (g' := sX10_seats) (av := [.int (xs (Int32.toNatClampNeg (x3 + 1)))]) (rest := []) F hP hS hl.1 rfl rfl rfl rfl (gt_has (i := 878) (by decide +kernel)) (gt_has (i := 879) (by decide +kernel)) (gt_has (i := 880) (by decide +kernel)) (gt_has (i := 66) (by decide +kernel)) (show (parseMethodDescriptor (sX10_seats).1.desc).map (fun d => d.parameters.length) = some 1 by decide +kernel) (eq_seats hR (xs (Int32.toNatClampNeg (x3 + 1)))) (Nat.le_of_ble_eq_true rfl) hcl hsl d_law_664 (fun r1 σ1 H locs hD2 hP hS => ?_)
  refine lv_aload_n hx hb d_law_667 rfl (lv_at hl 1 rfl) ?_
  refine lv_aload_n hx hb d_law_668 rfl (lv_at hl 3 rfl) ?_
  refine lv_iload_n hx hb d_law_669 rfl (lv_at hl 0 rfl) ?_
  refine lv_iconst (v := 1) hx hb d_law_670 (by decide) ?_
  refine lv_iadd hx hb d_law_671 ?_
  refine va_sld hx hb hX hbl hbA hS hi1 d_law_672 ?_
  refine lw_call (k := 182) (o := 51) (ci := 11) (g' := sX11_seats) (av := [.int (xs (Int32.toNatClampNeg (x3 + 1)))]) (rest := [.int r1]) F hP hS hl.1 rfl rfl rfl rfl (gt_has (i := 1288) (by decide +kernel)) (gt_has (i := 1289) (by decide +kernel)) (gt_has (i := 1290) (by decide +kernel)) (gt_has (i := 77) (by decide +kernel)) (show (parseMethodDescriptor (sX11_seats).1.desc).map (fun d => d.parameters.length) = some 1 by decide +kernel) hD2 (Nat.le_of_ble_eq_true rfl) hcl hsl d_law_673 (fun r2 σ2 H locs hq hP hS => ?_)
  exact lv_icmp_eq (tgt := 773) hx hb d_law_676 (by decide) (fun _ => kk σ2 H locs hq.2 hP hS) (fun z => absurd hq.1 z)
theorem law_21 {σ : St} {ls : Array Slot} {x3 : Int32} {i : Nat} (F : LwF p s m meth c b L xs G) (hP : va_P G.1 cls (wcells G σ) H) (hS : va_S (inW G) s.heap H locs) (hL : L ≤ 2048) (e3 : x3 = nI i) (hi : i + 4 ≤ L) (hl : lv_has ls 4 [(3, .int x3), (2, .ref (G.2.1 51)), (1, .ref (G.2.1 0)), (0, .ref b)]) (hR : RI σ) (hcl : cells ≤ 600000) (hsl : slots ≤ 7302250)
    (kk : ∀ (σ' : St) (H1 : Heap) (locs1 : List Loc), RI σ' → va_P G.1 cls (wcells G σ') H1 → va_S (inW G) s.heap H1 locs1 → W p l e room_1 s m #[Value.ref b] below meth c H1 locs1 cells slots Q (F0 m 773 ls [])) : W p l e room_1 s m #[Value.ref b] below meth c H locs cells slots Q (F0 m 681 ls []) := by
  obtain ⟨hi0, hi1, hi2, hi3⟩ := lw_ins i e3 hi hL
  have hbA := lw_nin F
  obtain ⟨hx, hb, hr, hml, hown, hts, hX, hbl, hlocks, hgv⟩ := F.1
  refine lv_aload_n hx hb d_law_681 rfl (lv_at hl 2 rfl) ?_
  refine lv_aload_n hx hb d_law_682 rfl (lv_at hl 3 rfl) ?_
  refine lv_iload_n hx hb d_law_683 rfl (lv_at hl 0 rfl) ?_
  refine lv_iconst (v := 1) hx hb d_law_684 (by decide) ?_
  refine lv_iadd hx hb d_law_685 ?_
  refine va_sld hx hb hX hbl hbA hS hi1 d_law_686 ?_
  refine lw_call (k := 125) (o := 0) (ci := 10) (g' := sX10_bears) (av := [.int (xs (Int32.toNatClampNeg (x3 + 1)))]) (rest := []) F hP hS hl.1 rfl rfl rfl rfl (gt_has (i := 927) (by decide +kernel)) (gt_has (i := 928) (by decide +kernel)) (gt_has (i := 929) (by decide +kernel)) (gt_has (i := 66) (by decide +kernel)) (show (parseMethodDescriptor (sX10_bears).1.desc).map (fun d => d.parameters.length) = some 1 by decide +kernel) (eq_bears hR (xs (Int32.toNatClampNeg (x3 + 1)))) (Nat.le_of_ble_eq_true rfl) hcl hsl d_law_687 (fun r1 σ1 H locs hD2 hP hS => ?_)
  refine lv_aload_n hx hb d_law_690 rfl (lv_at hl 1 rfl) ?_
  refine lv_aload_n hx hb d_law_691 rfl (lv_at hl 3 rfl) ?_
  refine lv_iload_n hx hb d_law_692 rfl (lv_at hl 0 rfl) ?_
  refine lv_iconst (v := 1) hx hb d_law_693 (by decide) ?_
  refine lv_iadd hx hb d_law_694 ?_
  refine va_sld hx hb hX hbl hbA hS hi1 d_law_695 ?_
  refine lw_call (k := 185) (o := 51) (ci := 11) (g' := sX11_bears) (av := [.int (xs (Int32.toNatClampNeg (x3 + 1)))]) (rest := [.int r1]) F hP hS hl.1 rfl rfl rfl rfl (gt_has (i := 1300) (by decide +kernel)) (gt_has (i := 1301) (by decide +kernel)) (gt_has (i := 1302) (by decide +kernel)) (gt_has (i := 77) (by decide +kernel)) (show (parseMethodDescriptor (sX11_bears).1.desc).map (fun d => d.parameters.length) = some 1 by decide +kernel) hD2 (Nat.le_of_ble_eq_true rfl) hcl hsl d_law_696 (fun r2 σ2 H locs hq hP hS => ?_)
  exact lv_icmp_eq (tgt := 773) hx hb d_law_699 (by decide) (fun _ => kk σ2 H locs hq.2 hP hS) (fun z => absurd hq.1 z)
theorem law_22 {σ : St} {ls : Array Slot} {x3 : Int32} {i : Nat} (F : LwF p s m meth c b L xs G) (hP : va_P G.1 cls (wcells G σ) H) (hS : va_S (inW G) s.heap H locs) (hL : L ≤ 2048) (e3 : x3 = nI i) (hi : i + 4 ≤ L) (hl : lv_has ls 4 [(3, .int x3), (2, .ref (G.2.1 51)), (1, .ref (G.2.1 0)), (0, .ref b)]) (hR : RI σ) (hcl : cells ≤ 600000) (hsl : slots ≤ 7302250)
    (kk : ∀ (σ' : St) (H1 : Heap) (locs1 : List Loc), RI σ' → va_P G.1 cls (wcells G σ') H1 → va_S (inW G) s.heap H1 locs1 → W p l e room_1 s m #[Value.ref b] below meth c H1 locs1 cells slots Q (F0 m 773 ls [])) : W p l e room_1 s m #[Value.ref b] below meth c H locs cells slots Q (F0 m 704 ls []) := by
  obtain ⟨hi0, hi1, hi2, hi3⟩ := lw_ins i e3 hi hL
  have hbA := lw_nin F
  obtain ⟨hx, hb, hr, hml, hown, hts, hX, hbl, hlocks, hgv⟩ := F.1
  refine lv_aload_n hx hb d_law_704 rfl (lv_at hl 2 rfl) ?_
  refine lv_aload_n hx hb d_law_705 rfl (lv_at hl 3 rfl) ?_
  refine lv_iload_n hx hb d_law_706 rfl (lv_at hl 0 rfl) ?_
  refine lv_iconst (v := 1) hx hb d_law_707 (by decide) ?_
  refine lv_iadd hx hb d_law_708 ?_
  refine va_sld hx hb hX hbl hbA hS hi1 d_law_709 ?_
  refine lw_call (k := 126) (o := 0) (ci := 10) (g' := sX10_keep) (av := [.int (xs (Int32.toNatClampNeg (x3 + 1)))]) (rest := []) F hP hS hl.1 rfl rfl rfl rfl (gt_has (i := 944) (by decide +kernel)) (gt_has (i := 945) (by decide +kernel)) (gt_has (i := 946) (by decide +kernel)) (gt_has (i := 66) (by decide +kernel)) (show (parseMethodDescriptor (sX10_keep).1.desc).map (fun d => d.parameters.length) = some 1 by decide +kernel) (eq_keep hR (xs (Int32.toNatClampNeg (x3 + 1)))) (Nat.le_of_ble_eq_true rfl) hcl hsl d_law_710 (fun r1 σ1 H locs hD2 hP hS => ?_)
  refine lv_aload_n hx hb d_law_713 rfl (lv_at hl 1 rfl) ?_
  refine lv_aload_n hx hb d_law_714 rfl (lv_at hl 3 rfl) ?_
  refine lv_iload_n hx hb d_law_715 rfl (lv_at hl 0 rfl) ?_
  refine lv_iconst (v := 1) hx hb d_law_716 (by decide) ?_
  refine lv_iadd hx hb d_law_717 ?_
  refine va_sld hx hb hX hbl hbA hS hi1 d_law_718 ?_
  refine lw_call (k := 186) (o := 51) (ci := 11) (g' := sX11_keep) (av := [.int (xs (Int32.toNatClampNeg (x3 + 1)))]) (rest := [.int r1]) F hP hS hl.1 rfl rfl rfl rfl (gt_has (i := 1311) (by decide +kernel)) (gt_has (i := 1312) (by decide +kernel)) (gt_has (i := 1313) (by decide +kernel)) (gt_has (i := 77) (by decide +kernel)) (show (parseMethodDescriptor (sX11_keep).1.desc).map (fun d => d.parameters.length) = some 1 by decide +kernel) hD2 (Nat.le_of_ble_eq_true rfl) hcl hsl d_law_719 (fun r2 σ2 H locs hq hP hS => ?_)
  exact lv_icmp_eq (tgt := 773) hx hb d_law_722 (by decide) (fun _ => kk σ2 H locs hq.2 hP hS) (fun z => absurd hq.1 z)
theorem law_23 {σ : St} {ls : Array Slot} {x3 : Int32} {i : Nat} (F : LwF p s m meth c b L xs G) (hP : va_P G.1 cls (wcells G σ) H) (hS : va_S (inW G) s.heap H locs) (hL : L ≤ 2048) (e3 : x3 = nI i) (hi : i + 4 ≤ L) (hl : lv_has ls 4 [(3, .int x3), (2, .ref (G.2.1 51)), (1, .ref (G.2.1 0)), (0, .ref b)]) (hR : RI σ) (hcl : cells ≤ 600000) (hsl : slots ≤ 7302250)
    (kk : ∀ (σ' : St) (H1 : Heap) (locs1 : List Loc), RI σ' → va_P G.1 cls (wcells G σ') H1 → va_S (inW G) s.heap H1 locs1 → W p l e room_1 s m #[Value.ref b] below meth c H1 locs1 cells slots Q (F0 m 773 ls [])) : W p l e room_1 s m #[Value.ref b] below meth c H locs cells slots Q (F0 m 727 ls []) := by
  obtain ⟨hi0, hi1, hi2, hi3⟩ := lw_ins i e3 hi hL
  have hbA := lw_nin F
  obtain ⟨hx, hb, hr, hml, hown, hts, hX, hbl, hlocks, hgv⟩ := F.1
  refine lv_aload_n hx hb d_law_727 rfl (lv_at hl 2 rfl) ?_
  refine lv_aload_n hx hb d_law_728 rfl (lv_at hl 3 rfl) ?_
  refine lv_iload_n hx hb d_law_729 rfl (lv_at hl 0 rfl) ?_
  refine lv_iconst (v := 1) hx hb d_law_730 (by decide) ?_
  refine lv_iadd hx hb d_law_731 ?_
  refine va_sld hx hb hX hbl hbA hS hi1 d_law_732 ?_
  refine lw_call (k := 127) (o := 0) (ci := 10) (g' := sX10_back) (av := [.int (xs (Int32.toNatClampNeg (x3 + 1)))]) (rest := []) F hP hS hl.1 rfl rfl rfl rfl (gt_has (i := 957) (by decide +kernel)) (gt_has (i := 958) (by decide +kernel)) (gt_has (i := 959) (by decide +kernel)) (gt_has (i := 66) (by decide +kernel)) (show (parseMethodDescriptor (sX10_back).1.desc).map (fun d => d.parameters.length) = some 1 by decide +kernel) (eq_back hR (xs (Int32.toNatClampNeg (x3 + 1)))) (Nat.le_of_ble_eq_true rfl) hcl hsl d_law_733 (fun r1 σ1 H locs hD2 hP hS => ?_)
  refine lv_aload_n hx hb d_law_736 rfl (lv_at hl 1 rfl) ?_
  refine lv_aload_n hx hb d_law_737 rfl (lv_at hl 3 rfl) ?_
  refine lv_iload_n hx hb d_law_738 rfl (lv_at hl 0 rfl) ?_
  refine lv_iconst (v := 1) hx hb d_law_739 (by decide) ?_
  refine lv_iadd hx hb d_law_740 ?_
  refine va_sld hx hb hX hbl hbA hS hi1 d_law_741 ?_
  refine lw_call (k := 187) (o := 51) (ci := 11) (g' := sX11_back) (av := [.int (xs (Int32.toNatClampNeg (x3 + 1)))]) (rest := [.int r1]) F hP hS hl.1 rfl rfl rfl rfl (gt_has (i := 1315) (by decide +kernel)) (gt_has (i := 1316) (by decide +kernel)) (gt_has (i := 1317) (by decide +kernel)) (gt_has (i := 77) (by decide +kernel)) (show (parseMethodDescriptor (sX11_back).1.desc).map (fun d => d.parameters.length) = some 1 by decide +kernel) hD2 (Nat.le_of_ble_eq_true rfl) hcl hsl d_law_742 (fun r2 σ2 H locs hq hP hS => ?_)
  exact lv_icmp_eq (tgt := 773) hx hb d_law_745 (by decide) (fun _ => kk σ2 H locs hq.2 hP hS) (fun z => absurd hq.1 z)
theorem law_24 {σ : St} {ls : Array Slot} {x3 : Int32} {i : Nat} (F : LwF p s m meth c b L xs G) (hP : va_P G.1 cls (wcells G σ) H) (hS : va_S (inW G) s.heap H locs) (hL : L ≤ 2048) (e3 : x3 = nI i) (hi : i + 4 ≤ L) (hl : lv_has ls 4 [(3, .int x3), (2, .ref (G.2.1 51)), (1, .ref (G.2.1 0)), (0, .ref b)]) (hR : RI σ) (hcl : cells ≤ 600000) (hsl : slots ≤ 7302250)
    (kk : ∀ (σ' : St) (H1 : Heap) (locs1 : List Loc), RI σ' → va_P G.1 cls (wcells G σ') H1 → va_S (inW G) s.heap H1 locs1 → W p l e room_1 s m #[Value.ref b] below meth c H1 locs1 cells slots Q (F0 m 773 ls [])) : W p l e room_1 s m #[Value.ref b] below meth c H locs cells slots Q (F0 m 750 ls []) := by
  obtain ⟨hi0, hi1, hi2, hi3⟩ := lw_ins i e3 hi hL
  have hbA := lw_nin F
  obtain ⟨hx, hb, hr, hml, hown, hts, hX, hbl, hlocks, hgv⟩ := F.1
  refine lv_aload_n hx hb d_law_750 rfl (lv_at hl 2 rfl) ?_
  refine lv_aload_n hx hb d_law_751 rfl (lv_at hl 3 rfl) ?_
  refine lv_iload_n hx hb d_law_752 rfl (lv_at hl 0 rfl) ?_
  refine lv_iconst (v := 1) hx hb d_law_753 (by decide) ?_
  refine lv_iadd hx hb d_law_754 ?_
  refine va_sld hx hb hX hbl hbA hS hi1 d_law_755 ?_
  refine lw_call (k := 128) (o := 0) (ci := 10) (g' := sX10_count) (av := [.int (xs (Int32.toNatClampNeg (x3 + 1)))]) (rest := []) F hP hS hl.1 rfl rfl rfl rfl (gt_has (i := 961) (by decide +kernel)) (gt_has (i := 962) (by decide +kernel)) (gt_has (i := 963) (by decide +kernel)) (gt_has (i := 66) (by decide +kernel)) (show (parseMethodDescriptor (sX10_count).1.desc).map (fun d => d.parameters.length) = some 1 by decide +kernel) (eq_count hR (xs (Int32.toNatClampNeg (x3 + 1)))) (Nat.le_of_ble_eq_true rfl) hcl hsl d_law_756 (fun r1 σ1 H locs hD2 hP hS => ?_)
  refine lv_aload_n hx hb d_law_759 rfl (lv_at hl 1 rfl) ?_
  refine lv_aload_n hx hb d_law_760 rfl (lv_at hl 3 rfl) ?_
  refine lv_iload_n hx hb d_law_761 rfl (lv_at hl 0 rfl) ?_
  refine lv_iconst (v := 1) hx hb d_law_762 (by decide) ?_
  refine lv_iadd hx hb d_law_763 ?_
  refine va_sld hx hb hX hbl hbA hS hi1 d_law_764 ?_
  refine lw_call (k := 188) (o := 51) (ci := 11) (g' := sX11_count) (av := [.int (xs (Int32.toNatClampNeg (x3 + 1)))]) (rest := [.int r1]) F hP hS hl.1 rfl rfl rfl rfl (gt_has (i := 1319) (by decide +kernel)) (gt_has (i := 1320) (by decide +kernel)) (gt_has (i := 1321) (by decide +kernel)) (gt_has (i := 77) (by decide +kernel)) (show (parseMethodDescriptor (sX11_count).1.desc).map (fun d => d.parameters.length) = some 1 by decide +kernel) hD2 (Nat.le_of_ble_eq_true rfl) hcl hsl d_law_765 (fun r2 σ2 H locs hq hP hS => ?_)
  exact lv_icmp_eq (tgt := 773) hx hb d_law_768 (by decide) (fun _ => kk σ2 H locs hq.2 hP hS) (fun z => absurd hq.1 z)
theorem law_and (x : Int32) : ∃ k : Nat, k < 32 ∧ x &&& 31 = nI k := by
  refine ⟨(x &&& 31).toBitVec.toNat, ?_, ?_⟩
  · have h : (x &&& 31).toBitVec = x.toBitVec &&& (31#32) := rfl
    rw [h, BitVec.toNat_and]
    have := Nat.and_le_right (n := x.toBitVec.toNat) (m := (31#32).toNat)
    have h31 : (31#32).toNat = 31 := rfl
    omega
  · refine Int32.toBitVec_inj.mp ?_
    show (x &&& 31).toBitVec = BitVec.ofNat 32 ((x &&& 31).toBitVec.toNat)
    simp
theorem law_le {L i : Nat} (hL : L ≤ 2048) (hi : i ≤ 4096) (h : ¬ Int32.ofNat L - 4 < nI i) : i + 4 ≤ L := by
  have e : Int32.ofNat L = nI L := rfl
  rw [e, show (4 : Int32) = nI 4 from rfl] at h
  rcases Nat.lt_or_ge L 4 with q | q
  · exfalso
    refine h ?_
    have h1 := pk_sneg (show 4 < 2 ^ 30 by decide) q
    rw [i_lt] at h1 ⊢
    rw [nI_i (by omega)]
    have h0 : (0 : Int32).toInt = 0 := rfl
    omega
  · rw [pk_sub q, nlt (by omega) (by omega)] at h
    omega
theorem law_loop (F : LwF p s m meth c b L xs G) (hL : L ≤ 2048) (hcl : cells ≤ 600000) (hsl : slots ≤ 7302250) (hQ : Q = lw_Z below #[Value.ref b] s) : ∀ (n i : Nat) (σ : St) (H : Heap) (locs : List Loc) (ls : Array Slot) (x3 : Int32), L < i + n → i ≤ 2060 → x3 = nI i → RI σ → va_P G.1 cls (wcells G σ) H → va_S (inW G) s.heap H locs → lv_has ls 4 [(3, .int x3), (2, .ref (G.2.1 51)), (1, .ref (G.2.1 0)), (0, .ref b)] → W p l e room_1 s m #[Value.ref b] below meth c H locs cells slots Q (F0 m 18 ls []) := by
  have hbA := lw_nin F
  have hge := F.2.2.2.2
  obtain ⟨hx, hb, hr, hml, hown, hts, hX, hbl, hlocks, hgv⟩ := id F.1
  intro n
  induction n with
  | zero =>
    intro i σ H locs ls x3 hn hi2 e3 hR hP hS hl
    refine lv_iload_n hx hb d_law_18 rfl (lv_at hl 0 rfl) ?_
    refine lv_aload_n hx hb d_law_19 rfl (lv_at hl 3 rfl) ?_
    refine va_slen hx hb hX hbl hbA hS d_law_20 ?_
    refine lv_iconst (v := 4) hx hb d_law_21 (by decide) ?_
    refine lv_isub hx hb d_law_22 ?_
    refine lv_icmp_gt (tgt := 779) hx hb d_law_23 (by decide) (fun _ => ?_) (fun z => ?_)
    · refine lv_iconst (v := 1) hx hb d_law_779 (by decide) ?_
      refine va_forget (fun q hq => ?_) ?_
      · obtain ⟨a, ha, e⟩ := hS.2.2 q hq
        rw [e]
        exact hge a ha
      · refine W.widen (k := 600000) (n := 7302250) hcl hsl ?_
        rw [hQ]
        exact lw_ret hx hb hr hlocks d_law_780
    · rw [e3] at z
      have := law_le hL (by omega) z
      omega
  | succ n ih =>
    intro i σ H locs ls x3 hn hi2 e3 hR hP hS hl
    refine lv_iload_n hx hb d_law_18 rfl (lv_at hl 0 rfl) ?_
    refine lv_aload_n hx hb d_law_19 rfl (lv_at hl 3 rfl) ?_
    refine va_slen hx hb hX hbl hbA hS d_law_20 ?_
    refine lv_iconst (v := 4) hx hb d_law_21 (by decide) ?_
    refine lv_isub hx hb d_law_22 ?_
    refine lv_icmp_gt (tgt := 779) hx hb d_law_23 (by decide) (fun _ => ?_) (fun z => ?_)
    · refine lv_iconst (v := 1) hx hb d_law_779 (by decide) ?_
      refine va_forget (fun q hq => ?_) ?_
      · obtain ⟨a, ha, e⟩ := hS.2.2 q hq
        rw [e]
        exact hge a ha
      · refine W.widen (k := 600000) (n := 7302250) hcl hsl ?_
        rw [hQ]
        exact lw_ret hx hb hr hlocks d_law_780
    · rw [e3] at z
      have hi := law_le hL (by omega) z
      obtain ⟨hi0, hi1, hi2, hi3⟩ := lw_ins i e3 hi hL
      have kk : ∀ (σ' : St) (H1 : Heap) (locs1 : List Loc), RI σ' → va_P G.1 cls (wcells G σ') H1 → va_S (inW G) s.heap H1 locs1 → W p l e room_1 s m #[Value.ref b] below meth c H1 locs1 cells slots Q (F0 m 773 ls []) := by
        intro σ' H1 locs1 hR1 hP1 hS1
        refine lv_iinc (v := nI (i + 4)) (lv' := [(3, .int (nI (i + 4))), (2, .ref (G.2.1 51)), (1, .ref (G.2.1 0)), (0, .ref b)]) hx hb d_law_773 hl (k := 0) rfl (by rw [e3]; exact nI_add i 4) (by decide) rfl (fun ls hl => ?_)
        refine lv_goto (tgt := 18) hx hb d_law_776 (by decide) ?_
        exact ih (i + 4) σ' H1 locs1 ls (nI (i + 4)) (by omega) (by omega) rfl hR1 hP1 hS1 hl
      refine lv_aload_n hx hb d_law_26 rfl (lv_at hl 3 rfl) ?_
      refine lv_iload_n hx hb d_law_27 rfl (lv_at hl 0 rfl) ?_
      refine va_sld hx hb hX hbl hbA hS hi0 d_law_28 ?_
      refine lv_bipush (v := 31) hx hb d_law_29 (by decide) ?_
      refine lv_iand hx hb d_law_31 ?_
      obtain ⟨k, hk, ek⟩ := law_and (xs x3.toNatClampNeg)
      rw [ek]
      match k, hk with
      | 0, _ => exact lv_tableIn (off := 116) (tgt := 148) hx hb d_law_32 (by decide) (by decide) (by decide +kernel) (by decide) (law_0 F hP hS hL e3 hi hl hR hcl hsl kk)
      | 1, _ => exact lv_tableIn (off := 179) (tgt := 211) hx hb d_law_32 (by decide) (by decide) (by decide +kernel) (by decide) (law_1 F hP hS hL e3 hi hl hR hcl hsl kk)
      | 2, _ => exact lv_tableIn (off := 192) (tgt := 224) hx hb d_law_32 (by decide) (by decide) (by decide +kernel) (by decide) (law_2 F hP hS hL e3 hi hl hR hcl hsl kk)
      | 3, _ => exact lv_tableIn (off := 205) (tgt := 237) hx hb d_law_32 (by decide) (by decide) (by decide +kernel) (by decide) (law_3 F hP hS hL e3 hi hl hR hcl hsl kk)
      | 4, _ => exact lv_tableIn (off := 218) (tgt := 250) hx hb d_law_32 (by decide) (by decide) (by decide +kernel) (by decide) (law_4 F hP hS hL e3 hi hl hR hcl hsl kk)
      | 5, _ => exact lv_tableIn (off := 251) (tgt := 283) hx hb d_law_32 (by decide) (by decide) (by decide +kernel) (by decide) (law_5 F hP hS hL e3 hi hl hR hcl hsl kk)
      | 6, _ => exact lv_tableIn (off := 284) (tgt := 316) hx hb d_law_32 (by decide) (by decide) (by decide +kernel) (by decide) (law_6 F hP hS hL e3 hi hl hR hcl hsl kk)
      | 7, _ => exact lv_tableIn (off := 307) (tgt := 339) hx hb d_law_32 (by decide) (by decide) (by decide +kernel) (by decide) (law_7 F hP hS hL e3 hi hl hR hcl hsl kk)
      | 8, _ => exact lv_tableIn (off := 320) (tgt := 352) hx hb d_law_32 (by decide) (by decide) (by decide +kernel) (by decide) (law_8 F hP hS hL e3 hi hl hR hcl hsl kk)
      | 9, _ => exact lv_tableIn (off := 343) (tgt := 375) hx hb d_law_32 (by decide) (by decide) (by decide +kernel) (by decide) (law_9 F hP hS hL e3 hi hl hR hcl hsl kk)
      | 10, _ => exact lv_tableIn (off := 366) (tgt := 398) hx hb d_law_32 (by decide) (by decide) (by decide +kernel) (by decide) (law_10 F hP hS hL e3 hi hl hR hcl hsl kk)
      | 11, _ => exact lv_tableIn (off := 389) (tgt := 421) hx hb d_law_32 (by decide) (by decide) (by decide +kernel) (by decide) (law_11 F hP hS hL e3 hi hl hR hcl hsl kk)
      | 12, _ => exact lv_tableIn (off := 412) (tgt := 444) hx hb d_law_32 (by decide) (by decide) (by decide +kernel) (by decide) (law_12 F hP hS hL e3 hi hl hR hcl hsl kk)
      | 13, _ => exact lv_tableIn (off := 425) (tgt := 457) hx hb d_law_32 (by decide) (by decide) (by decide +kernel) (by decide) (law_13 F hP hS hL e3 hi hl hR hcl hsl kk)
      | 14, _ => exact lv_tableIn (off := 438) (tgt := 470) hx hb d_law_32 (by decide) (by decide) (by decide +kernel) (by decide) (law_14 F hP hS hL e3 hi hl hR hcl hsl kk)
      | 15, _ => exact lv_tableIn (off := 471) (tgt := 503) hx hb d_law_32 (by decide) (by decide) (by decide +kernel) (by decide) (law_15 F hP hS hL e3 hi hl hR hcl hsl kk)
      | 16, _ => exact lv_tableIn (off := 494) (tgt := 526) hx hb d_law_32 (by decide) (by decide) (by decide +kernel) (by decide) (law_16 F hP hS hL e3 hi hl hR hcl hsl kk)
      | 17, _ => exact lv_tableIn (off := 517) (tgt := 549) hx hb d_law_32 (by decide) (by decide) (by decide +kernel) (by decide) (law_17 F hP hS hL e3 hi hl hR hcl hsl kk)
      | 18, _ => exact lv_tableIn (off := 550) (tgt := 582) hx hb d_law_32 (by decide) (by decide) (by decide +kernel) (by decide) (law_18 F hP hS hL e3 hi hl hR hcl hsl kk)
      | 19, _ => exact lv_tableIn (off := 583) (tgt := 615) hx hb d_law_32 (by decide) (by decide) (by decide +kernel) (by decide) (law_19 F hP hS hL e3 hi hl hR hcl hsl kk)
      | 20, _ => exact lv_tableIn (off := 626) (tgt := 658) hx hb d_law_32 (by decide) (by decide) (by decide +kernel) (by decide) (law_20 F hP hS hL e3 hi hl hR hcl hsl kk)
      | 21, _ => exact lv_tableIn (off := 649) (tgt := 681) hx hb d_law_32 (by decide) (by decide) (by decide +kernel) (by decide) (law_21 F hP hS hL e3 hi hl hR hcl hsl kk)
      | 22, _ => exact lv_tableIn (off := 672) (tgt := 704) hx hb d_law_32 (by decide) (by decide) (by decide +kernel) (by decide) (law_22 F hP hS hL e3 hi hl hR hcl hsl kk)
      | 23, _ => exact lv_tableIn (off := 695) (tgt := 727) hx hb d_law_32 (by decide) (by decide) (by decide +kernel) (by decide) (law_23 F hP hS hL e3 hi hl hR hcl hsl kk)
      | 24, _ => exact lv_tableIn (off := 718) (tgt := 750) hx hb d_law_32 (by decide) (by decide) (by decide +kernel) (by decide) (law_24 F hP hS hL e3 hi hl hR hcl hsl kk)
      | 25, _ => exact lv_tableOut (tgt := 773) hx hb d_law_32 (Or.inr (by decide)) (by decide) (kk σ H locs hR hP hS)
      | 26, _ => exact lv_tableOut (tgt := 773) hx hb d_law_32 (Or.inr (by decide)) (by decide) (kk σ H locs hR hP hS)
      | 27, _ => exact lv_tableOut (tgt := 773) hx hb d_law_32 (Or.inr (by decide)) (by decide) (kk σ H locs hR hP hS)
      | 28, _ => exact lv_tableOut (tgt := 773) hx hb d_law_32 (Or.inr (by decide)) (by decide) (kk σ H locs hR hP hS)
      | 29, _ => exact lv_tableOut (tgt := 773) hx hb d_law_32 (Or.inr (by decide)) (by decide) (kk σ H locs hR hP hS)
      | 30, _ => exact lv_tableOut (tgt := 773) hx hb d_law_32 (Or.inr (by decide)) (by decide) (kk σ H locs hR hP hS)
      | 31, _ => exact lv_tableOut (tgt := 773) hx hb d_law_32 (Or.inr (by decide)) (by decide) (kk σ H locs hR hP hS)
      | k + 32, hk => omega
end LWD
