/-! the law's cases (gen/lawgen.py) -/
theorem lsld {p : Program} {l : Launch} {e : Env} {s : State} {m : MethodId} {args : Array Value} {below : List Frame} {meth : Method} {c : Code} {H : Heap} {locs : List Loc} {cells slots : Nat} {Q : State → Prop} {pc : Nat} {ls : Array Slot} {rest : List Value} {R : Room} {cc : ByteArray} (hx : p.tables.exec = Jvm.exec) (hb : c.code = cc) {b L : Nat} {xs : Nat → Int32} (hX : va_X b L xs s s.heap) (hbl : b < s.heap.size) (hS : va_S (lA s) s.heap H locs) (hL : L ≤ 3072) {i : Nat} (k : Nat) {kk : Int32} (hk : kk = nI k) (hik : i + k < L) (hdg : decode cc pc = .ok (.iaload, 1)) (K : W p l e R s m args below meth c H locs cells slots Q (F0 m (pc + 1) ls (.int (xs (i + k)) :: rest))) : W p l e R s m args below meth c H locs cells slots Q (F0 m pc ls (.int (nI i + kk) :: .ref b :: rest)) := by
  subst hk
  rw [nI_add]
  refine va_sld hx hb hX hbl (show ¬ lA s b from Nat.not_le.mpr hbl) hS (vp_in_nI hik (by omega)) hdg ?_
  rw [nI_clamp (by omega)]
  exact K
set_option maxHeartbeats 4000000 in
set_option maxRecDepth 100000 in
theorem law_case_0 {p : Program} {l : Launch} {e : Env} {s : State} {m : MethodId} {below : List Frame} {meth : Method} {c : Code} {D : va_G} {Z : Nat → ClassId} {E : Nat → Nat} {ad : Nat → Nat → Nat} {bb : Nat → Nat} {b L : Nat} {xs : Nat → Int32} {t : CS} {σ : MS} {H : Heap} {locs : List Loc} {cells slots : Nat} {ls : Array Slot} {i : Nat} {Q : State → Prop} {Inv : CS → MS → Prop} (C : CC p s m #[Value.ref b] c code 4 RL D Z E (lA s)) (hX : va_X b L xs s s.heap) (hbl : b < s.heap.size) (hL : L ≤ 3072) (hi : i + 6 ≤ L) (hst : wp_C_place 1170 14200 t (xs (i + 1)) (xs (i + 2)) (fun v t1 => wp_M_place σ (xs (i + 1)) (xs (i + 2)) (fun w σ1 => v = w ∧ Inv t1 σ1))) (hH : LH D Z E ad bb s t σ H locs) (hl : lv_has ls 4 [(0, .ref b), (1, .ref (ad 5 0)), (2, .ref (bb 69)), (3, .int (nI i))]) (hc : cells + 1170 ≤ 600000 ∧ slots + 14200 ≤ 7302250) (hcont : ∀ (t1 : CS) (σ1 : MS) (ad1 : Nat → Nat → Nat) (H1 : Heap) (locs1 : List Loc), ad1 5 0 = ad 5 0 → Inv t1 σ1 → LH D Z E ad1 bb s t1 σ1 H1 locs1 → W p l e room_1 s m #[Value.ref b] below meth c H1 locs1 (cells + 1170) (slots + 14200) Q (F0 m 1258 ls [])) : W p l e room_1 s m #[Value.ref b] below meth c H locs cells slots Q (F0 m 168 ls []) := by
  obtain ⟨⟨hx, hb, hml, hown, hts⟩, hK⟩ := id C
  refine lv_aload_n hx hb dL_law_168 rfl (lv_at hl 1 rfl) ?_
  refine lv_aload_n hx hb dL_law_169 rfl (lv_at hl 0 rfl) ?_
  refine lv_iload_n hx hb dL_law_170 rfl (lv_at hl 3 rfl) ?_
  refine lv_iconst (v := 1) hx hb dL_law_171 (by decide) ?_
  refine lv_iadd hx hb dL_law_172 ?_
  refine lsld hx hb hX hbl hH.S hL 1 (by decide) (by omega) dL_law_173 ?_
  refine lv_aload_n hx hb dL_law_174 rfl (lv_at hl 0 rfl) ?_
  refine lv_iload_n hx hb dL_law_175 rfl (lv_at hl 3 rfl) ?_
  refine lv_iconst (v := 2) hx hb dL_law_176 (by decide) ?_
  refine lv_iadd hx hb dL_law_177 ?_
  refine lsld hx hb hX hbl hH.S hL 2 (by decide) (by omega) dL_law_178 ?_
  refine lcC C hH (B := fun A' => cPostN D Z E (ad 5 0) A') (fun _ _ _ h => h) [.int (xs (i + 1)), .int (xs (i + 2))] (c_C_place l D Z E ad 1170 14200 t (xs (i + 1)) (xs (i + 2)) _ hst) (cwTV 2 hts wd_276 wd_277 wd_278 wd_1 wd_279 rfl rfl (by decide +kernel) ⟨Nat.le_of_ble_eq_true rfl, Nat.le_of_ble_eq_true rfl⟩) rfl hl.1 rfl (Nat.le_of_ble_eq_true rfl) dL_law_179 hc (fun r t1 ad1 H locs hst had hH => ?_)
  refine lv_aload_n hx hb dL_law_182 rfl (lv_at hl 2 rfl) ?_
  refine lv_aload_n hx hb dL_law_183 rfl (lv_at hl 0 rfl) ?_
  refine lv_iload_n hx hb dL_law_184 rfl (lv_at hl 3 rfl) ?_
  refine lv_iconst (v := 1) hx hb dL_law_185 (by decide) ?_
  refine lv_iadd hx hb dL_law_186 ?_
  refine lsld hx hb hX hbl hH.S hL 1 (by decide) (by omega) dL_law_187 ?_
  refine lv_aload_n hx hb dL_law_188 rfl (lv_at hl 0 rfl) ?_
  refine lv_iload_n hx hb dL_law_189 rfl (lv_at hl 3 rfl) ?_
  refine lv_iconst (v := 2) hx hb dL_law_190 (by decide) ?_
  refine lv_iadd hx hb dL_law_191 ?_
  refine lsld hx hb hX hbl hH.S hL 2 (by decide) (by omega) dL_law_192 ?_
  refine lcM C hH [.int (xs (i + 1)), .int (xs (i + 2))] (c_M_place l D Z bb σ (xs (i + 1)) (xs (i + 2)) _ hst) (cwTV 2 hts wd_1238 wd_1239 wd_1240 wd_14 wd_1241 rfl rfl (by decide +kernel) ⟨Nat.le_of_ble_eq_true rfl, Nat.le_of_ble_eq_true rfl⟩) rfl hl.1 rfl (Nat.le_of_ble_eq_true rfl) dL_law_193 hc (fun r2 σ1 H locs hst hH => ?_)
  refine lv_icmp_eq (tgt := 1258) hx hb dL_law_196 (by decide) (fun _ => ?_) (fun q => absurd hst.1 q)
  exact W.widen (k := cells + 1170) (n := slots + 14200) (by omega) (by omega) (hcont t1 σ1 ad1 H locs had hst.2 hH)
set_option maxHeartbeats 4000000 in
set_option maxRecDepth 100000 in
theorem law_case_1 {p : Program} {l : Launch} {e : Env} {s : State} {m : MethodId} {below : List Frame} {meth : Method} {c : Code} {D : va_G} {Z : Nat → ClassId} {E : Nat → Nat} {ad : Nat → Nat → Nat} {bb : Nat → Nat} {b L : Nat} {xs : Nat → Int32} {t : CS} {σ : MS} {H : Heap} {locs : List Loc} {cells slots : Nat} {ls : Array Slot} {i : Nat} {Q : State → Prop} {Inv : CS → MS → Prop} (C : CC p s m #[Value.ref b] c code 4 RL D Z E (lA s)) (hX : va_X b L xs s s.heap) (hbl : b < s.heap.size) (hL : L ≤ 3072) (hi : i + 6 ≤ L) (hst : wp_C_tide t (xs (i + 1)) (xs (i + 2)) (xs (i + 3)) (fun v t1 => wp_M_tide σ (xs (i + 1)) (xs (i + 2)) (xs (i + 3)) (fun w σ1 => v = w ∧ Inv t1 σ1))) (hH : LH D Z E ad bb s t σ H locs) (hl : lv_has ls 4 [(0, .ref b), (1, .ref (ad 5 0)), (2, .ref (bb 69)), (3, .int (nI i))]) (hc : cells + 1170 ≤ 600000 ∧ slots + 14200 ≤ 7302250) (hcont : ∀ (t1 : CS) (σ1 : MS) (ad1 : Nat → Nat → Nat) (H1 : Heap) (locs1 : List Loc), ad1 5 0 = ad 5 0 → Inv t1 σ1 → LH D Z E ad1 bb s t1 σ1 H1 locs1 → W p l e room_1 s m #[Value.ref b] below meth c H1 locs1 (cells + 1170) (slots + 14200) Q (F0 m 1258 ls [])) : W p l e room_1 s m #[Value.ref b] below meth c H locs cells slots Q (F0 m 201 ls []) := by
  obtain ⟨⟨hx, hb, hml, hown, hts⟩, hK⟩ := id C
  refine lv_aload_n hx hb dL_law_201 rfl (lv_at hl 1 rfl) ?_
  refine lv_aload_n hx hb dL_law_202 rfl (lv_at hl 0 rfl) ?_
  refine lv_iload_n hx hb dL_law_203 rfl (lv_at hl 3 rfl) ?_
  refine lv_iconst (v := 1) hx hb dL_law_204 (by decide) ?_
  refine lv_iadd hx hb dL_law_205 ?_
  refine lsld hx hb hX hbl hH.S hL 1 (by decide) (by omega) dL_law_206 ?_
  refine lv_aload_n hx hb dL_law_207 rfl (lv_at hl 0 rfl) ?_
  refine lv_iload_n hx hb dL_law_208 rfl (lv_at hl 3 rfl) ?_
  refine lv_iconst (v := 2) hx hb dL_law_209 (by decide) ?_
  refine lv_iadd hx hb dL_law_210 ?_
  refine lsld hx hb hX hbl hH.S hL 2 (by decide) (by omega) dL_law_211 ?_
  refine lv_aload_n hx hb dL_law_212 rfl (lv_at hl 0 rfl) ?_
  refine lv_iload_n hx hb dL_law_213 rfl (lv_at hl 3 rfl) ?_
  refine lv_iconst (v := 3) hx hb dL_law_214 (by decide) ?_
  refine lv_iadd hx hb dL_law_215 ?_
  refine lsld hx hb hX hbl hH.S hL 3 (by decide) (by omega) dL_law_216 ?_
  refine lcC C hH (B := fun A' => cPost D Z E ad A') toN [.int (xs (i + 1)), .int (xs (i + 2)), .int (xs (i + 3))] (c_C_tide l D Z E ad t (xs (i + 1)) (xs (i + 2)) (xs (i + 3)) _ hst) (cwTV 3 hts wd_312 wd_313 wd_314 wd_1 wd_315 rfl rfl (by decide +kernel) ⟨Nat.le_of_ble_eq_true rfl, Nat.le_of_ble_eq_true rfl⟩) rfl hl.1 rfl (Nat.le_of_ble_eq_true rfl) dL_law_217 ⟨(show cells + 0 ≤ 600000 by omega), (show slots + 0 ≤ 7302250 by omega)⟩ (fun r t1 ad1 H locs hst had hH => ?_)
  refine lv_aload_n hx hb dL_law_220 rfl (lv_at hl 2 rfl) ?_
  refine lv_aload_n hx hb dL_law_221 rfl (lv_at hl 0 rfl) ?_
  refine lv_iload_n hx hb dL_law_222 rfl (lv_at hl 3 rfl) ?_
  refine lv_iconst (v := 1) hx hb dL_law_223 (by decide) ?_
  refine lv_iadd hx hb dL_law_224 ?_
  refine lsld hx hb hX hbl hH.S hL 1 (by decide) (by omega) dL_law_225 ?_
  refine lv_aload_n hx hb dL_law_226 rfl (lv_at hl 0 rfl) ?_
  refine lv_iload_n hx hb dL_law_227 rfl (lv_at hl 3 rfl) ?_
  refine lv_iconst (v := 2) hx hb dL_law_228 (by decide) ?_
  refine lv_iadd hx hb dL_law_229 ?_
  refine lsld hx hb hX hbl hH.S hL 2 (by decide) (by omega) dL_law_230 ?_
  refine lv_aload_n hx hb dL_law_231 rfl (lv_at hl 0 rfl) ?_
  refine lv_iload_n hx hb dL_law_232 rfl (lv_at hl 3 rfl) ?_
  refine lv_iconst (v := 3) hx hb dL_law_233 (by decide) ?_
  refine lv_iadd hx hb dL_law_234 ?_
  refine lsld hx hb hX hbl hH.S hL 3 (by decide) (by omega) dL_law_235 ?_
  refine lcM C hH [.int (xs (i + 1)), .int (xs (i + 2)), .int (xs (i + 3))] (c_M_tide l D Z bb σ (xs (i + 1)) (xs (i + 2)) (xs (i + 3)) _ hst) (cwTV 3 hts wd_1245 wd_1246 wd_1247 wd_14 wd_1248 rfl rfl (by decide +kernel) ⟨Nat.le_of_ble_eq_true rfl, Nat.le_of_ble_eq_true rfl⟩) rfl hl.1 rfl (Nat.le_of_ble_eq_true rfl) dL_law_236 ⟨(show cells + 0 ≤ 600000 by omega), (show slots + 0 ≤ 7302250 by omega)⟩ (fun r2 σ1 H locs hst hH => ?_)
  refine lv_icmp_eq (tgt := 1258) hx hb dL_law_239 (by decide) (fun _ => ?_) (fun q => absurd hst.1 q)
  exact W.widen (k := cells + 1170) (n := slots + 14200) (by omega) (by omega) (hcont t1 σ1 ad1 H locs had hst.2 hH)
set_option maxHeartbeats 4000000 in
set_option maxRecDepth 100000 in
theorem law_case_2 {p : Program} {l : Launch} {e : Env} {s : State} {m : MethodId} {below : List Frame} {meth : Method} {c : Code} {D : va_G} {Z : Nat → ClassId} {E : Nat → Nat} {ad : Nat → Nat → Nat} {bb : Nat → Nat} {b L : Nat} {xs : Nat → Int32} {t : CS} {σ : MS} {H : Heap} {locs : List Loc} {cells slots : Nat} {ls : Array Slot} {i : Nat} {Q : State → Prop} {Inv : CS → MS → Prop} (C : CC p s m #[Value.ref b] c code 4 RL D Z E (lA s)) (hX : va_X b L xs s s.heap) (hbl : b < s.heap.size) (hL : L ≤ 3072) (hi : i + 6 ≤ L) (hst : wp_C_rain t (xs (i + 1)) (xs (i + 2)) (fun v t1 => wp_M_rain σ (xs (i + 1)) (xs (i + 2)) (fun w σ1 => v = w ∧ Inv t1 σ1))) (hH : LH D Z E ad bb s t σ H locs) (hl : lv_has ls 4 [(0, .ref b), (1, .ref (ad 5 0)), (2, .ref (bb 69)), (3, .int (nI i))]) (hc : cells + 1170 ≤ 600000 ∧ slots + 14200 ≤ 7302250) (hcont : ∀ (t1 : CS) (σ1 : MS) (ad1 : Nat → Nat → Nat) (H1 : Heap) (locs1 : List Loc), ad1 5 0 = ad 5 0 → Inv t1 σ1 → LH D Z E ad1 bb s t1 σ1 H1 locs1 → W p l e room_1 s m #[Value.ref b] below meth c H1 locs1 (cells + 1170) (slots + 14200) Q (F0 m 1258 ls [])) : W p l e room_1 s m #[Value.ref b] below meth c H locs cells slots Q (F0 m 244 ls []) := by
  obtain ⟨⟨hx, hb, hml, hown, hts⟩, hK⟩ := id C
  refine lv_aload_n hx hb dL_law_244 rfl (lv_at hl 1 rfl) ?_
  refine lv_aload_n hx hb dL_law_245 rfl (lv_at hl 0 rfl) ?_
  refine lv_iload_n hx hb dL_law_246 rfl (lv_at hl 3 rfl) ?_
  refine lv_iconst (v := 1) hx hb dL_law_247 (by decide) ?_
  refine lv_iadd hx hb dL_law_248 ?_
  refine lsld hx hb hX hbl hH.S hL 1 (by decide) (by omega) dL_law_249 ?_
  refine lv_aload_n hx hb dL_law_250 rfl (lv_at hl 0 rfl) ?_
  refine lv_iload_n hx hb dL_law_251 rfl (lv_at hl 3 rfl) ?_
  refine lv_iconst (v := 2) hx hb dL_law_252 (by decide) ?_
  refine lv_iadd hx hb dL_law_253 ?_
  refine lsld hx hb hX hbl hH.S hL 2 (by decide) (by omega) dL_law_254 ?_
  refine lcC C hH (B := fun A' => cPost D Z E ad A') toN [.int (xs (i + 1)), .int (xs (i + 2))] (c_C_rain l D Z E ad t (xs (i + 1)) (xs (i + 2)) _ hst) (cwTV 2 hts wd_334 wd_335 wd_336 wd_1 wd_337 rfl rfl (by decide +kernel) ⟨Nat.le_of_ble_eq_true rfl, Nat.le_of_ble_eq_true rfl⟩) rfl hl.1 rfl (Nat.le_of_ble_eq_true rfl) dL_law_255 ⟨(show cells + 0 ≤ 600000 by omega), (show slots + 0 ≤ 7302250 by omega)⟩ (fun r t1 ad1 H locs hst had hH => ?_)
  refine lv_aload_n hx hb dL_law_258 rfl (lv_at hl 2 rfl) ?_
  refine lv_aload_n hx hb dL_law_259 rfl (lv_at hl 0 rfl) ?_
  refine lv_iload_n hx hb dL_law_260 rfl (lv_at hl 3 rfl) ?_
  refine lv_iconst (v := 1) hx hb dL_law_261 (by decide) ?_
  refine lv_iadd hx hb dL_law_262 ?_
  refine lsld hx hb hX hbl hH.S hL 1 (by decide) (by omega) dL_law_263 ?_
  refine lv_aload_n hx hb dL_law_264 rfl (lv_at hl 0 rfl) ?_
  refine lv_iload_n hx hb dL_law_265 rfl (lv_at hl 3 rfl) ?_
  refine lv_iconst (v := 2) hx hb dL_law_266 (by decide) ?_
  refine lv_iadd hx hb dL_law_267 ?_
  refine lsld hx hb hX hbl hH.S hL 2 (by decide) (by omega) dL_law_268 ?_
  refine lcM C hH [.int (xs (i + 1)), .int (xs (i + 2))] (c_M_rain l D Z bb σ (xs (i + 1)) (xs (i + 2)) _ hst) (cwTV 2 hts wd_1253 wd_1254 wd_1255 wd_14 wd_1256 rfl rfl (by decide +kernel) ⟨Nat.le_of_ble_eq_true rfl, Nat.le_of_ble_eq_true rfl⟩) rfl hl.1 rfl (Nat.le_of_ble_eq_true rfl) dL_law_269 ⟨(show cells + 0 ≤ 600000 by omega), (show slots + 0 ≤ 7302250 by omega)⟩ (fun r2 σ1 H locs hst hH => ?_)
  refine lv_icmp_eq (tgt := 1258) hx hb dL_law_272 (by decide) (fun _ => ?_) (fun q => absurd hst.1 q)
  exact W.widen (k := cells + 1170) (n := slots + 14200) (by omega) (by omega) (hcont t1 σ1 ad1 H locs had hst.2 hH)
set_option maxHeartbeats 4000000 in
set_option maxRecDepth 100000 in
theorem law_case_3 {p : Program} {l : Launch} {e : Env} {s : State} {m : MethodId} {below : List Frame} {meth : Method} {c : Code} {D : va_G} {Z : Nat → ClassId} {E : Nat → Nat} {ad : Nat → Nat → Nat} {bb : Nat → Nat} {b L : Nat} {xs : Nat → Int32} {t : CS} {σ : MS} {H : Heap} {locs : List Loc} {cells slots : Nat} {ls : Array Slot} {i : Nat} {Q : State → Prop} {Inv : CS → MS → Prop} (C : CC p s m #[Value.ref b] c code 4 RL D Z E (lA s)) (hX : va_X b L xs s s.heap) (hbl : b < s.heap.size) (hL : L ≤ 3072) (hi : i + 6 ≤ L) (hst : wp_C_way t (xs (i + 1)) (xs (i + 2)) (xs (i + 3)) (fun v t1 => wp_M_way σ (xs (i + 1)) (xs (i + 2)) (xs (i + 3)) (fun w σ1 => v = w ∧ Inv t1 σ1))) (hH : LH D Z E ad bb s t σ H locs) (hl : lv_has ls 4 [(0, .ref b), (1, .ref (ad 5 0)), (2, .ref (bb 69)), (3, .int (nI i))]) (hc : cells + 1170 ≤ 600000 ∧ slots + 14200 ≤ 7302250) (hcont : ∀ (t1 : CS) (σ1 : MS) (ad1 : Nat → Nat → Nat) (H1 : Heap) (locs1 : List Loc), ad1 5 0 = ad 5 0 → Inv t1 σ1 → LH D Z E ad1 bb s t1 σ1 H1 locs1 → W p l e room_1 s m #[Value.ref b] below meth c H1 locs1 (cells + 1170) (slots + 14200) Q (F0 m 1258 ls [])) : W p l e room_1 s m #[Value.ref b] below meth c H locs cells slots Q (F0 m 277 ls []) := by
  obtain ⟨⟨hx, hb, hml, hown, hts⟩, hK⟩ := id C
  refine lv_aload_n hx hb dL_law_277 rfl (lv_at hl 1 rfl) ?_
  refine lv_aload_n hx hb dL_law_278 rfl (lv_at hl 0 rfl) ?_
  refine lv_iload_n hx hb dL_law_279 rfl (lv_at hl 3 rfl) ?_
  refine lv_iconst (v := 1) hx hb dL_law_280 (by decide) ?_
  refine lv_iadd hx hb dL_law_281 ?_
  refine lsld hx hb hX hbl hH.S hL 1 (by decide) (by omega) dL_law_282 ?_
  refine lv_aload_n hx hb dL_law_283 rfl (lv_at hl 0 rfl) ?_
  refine lv_iload_n hx hb dL_law_284 rfl (lv_at hl 3 rfl) ?_
  refine lv_iconst (v := 2) hx hb dL_law_285 (by decide) ?_
  refine lv_iadd hx hb dL_law_286 ?_
  refine lsld hx hb hX hbl hH.S hL 2 (by decide) (by omega) dL_law_287 ?_
  refine lv_aload_n hx hb dL_law_288 rfl (lv_at hl 0 rfl) ?_
  refine lv_iload_n hx hb dL_law_289 rfl (lv_at hl 3 rfl) ?_
  refine lv_iconst (v := 3) hx hb dL_law_290 (by decide) ?_
  refine lv_iadd hx hb dL_law_291 ?_
  refine lsld hx hb hX hbl hH.S hL 3 (by decide) (by omega) dL_law_292 ?_
  refine lcC C hH (B := fun A' => cPost D Z E ad A') toN [.int (xs (i + 1)), .int (xs (i + 2)), .int (xs (i + 3))] (c_C_way l D Z E ad t (xs (i + 1)) (xs (i + 2)) (xs (i + 3)) _ hst) (cwTV 3 hts wd_343 wd_344 wd_345 wd_1 wd_346 rfl rfl (by decide +kernel) ⟨Nat.le_of_ble_eq_true rfl, Nat.le_of_ble_eq_true rfl⟩) rfl hl.1 rfl (Nat.le_of_ble_eq_true rfl) dL_law_293 ⟨(show cells + 0 ≤ 600000 by omega), (show slots + 0 ≤ 7302250 by omega)⟩ (fun r t1 ad1 H locs hst had hH => ?_)
  refine lv_aload_n hx hb dL_law_296 rfl (lv_at hl 2 rfl) ?_
  refine lv_aload_n hx hb dL_law_297 rfl (lv_at hl 0 rfl) ?_
  refine lv_iload_n hx hb dL_law_298 rfl (lv_at hl 3 rfl) ?_
  refine lv_iconst (v := 1) hx hb dL_law_299 (by decide) ?_
  refine lv_iadd hx hb dL_law_300 ?_
  refine lsld hx hb hX hbl hH.S hL 1 (by decide) (by omega) dL_law_301 ?_
  refine lv_aload_n hx hb dL_law_302 rfl (lv_at hl 0 rfl) ?_
  refine lv_iload_n hx hb dL_law_303 rfl (lv_at hl 3 rfl) ?_
  refine lv_iconst (v := 2) hx hb dL_law_304 (by decide) ?_
  refine lv_iadd hx hb dL_law_305 ?_
  refine lsld hx hb hX hbl hH.S hL 2 (by decide) (by omega) dL_law_306 ?_
  refine lv_aload_n hx hb dL_law_307 rfl (lv_at hl 0 rfl) ?_
  refine lv_iload_n hx hb dL_law_308 rfl (lv_at hl 3 rfl) ?_
  refine lv_iconst (v := 3) hx hb dL_law_309 (by decide) ?_
  refine lv_iadd hx hb dL_law_310 ?_
  refine lsld hx hb hX hbl hH.S hL 3 (by decide) (by omega) dL_law_311 ?_
  refine lcM C hH [.int (xs (i + 1)), .int (xs (i + 2)), .int (xs (i + 3))] (c_M_way l D Z bb σ (xs (i + 1)) (xs (i + 2)) (xs (i + 3)) _ hst) (cwTV 3 hts wd_1259 wd_1260 wd_1261 wd_14 wd_1262 rfl rfl (by decide +kernel) ⟨Nat.le_of_ble_eq_true rfl, Nat.le_of_ble_eq_true rfl⟩) rfl hl.1 rfl (Nat.le_of_ble_eq_true rfl) dL_law_312 ⟨(show cells + 0 ≤ 600000 by omega), (show slots + 0 ≤ 7302250 by omega)⟩ (fun r2 σ1 H locs hst hH => ?_)
  refine lv_icmp_eq (tgt := 1258) hx hb dL_law_315 (by decide) (fun _ => ?_) (fun q => absurd hst.1 q)
  exact W.widen (k := cells + 1170) (n := slots + 14200) (by omega) (by omega) (hcont t1 σ1 ad1 H locs had hst.2 hH)
set_option maxHeartbeats 4000000 in
set_option maxRecDepth 100000 in
theorem law_case_4 {p : Program} {l : Launch} {e : Env} {s : State} {m : MethodId} {below : List Frame} {meth : Method} {c : Code} {D : va_G} {Z : Nat → ClassId} {E : Nat → Nat} {ad : Nat → Nat → Nat} {bb : Nat → Nat} {b L : Nat} {xs : Nat → Int32} {t : CS} {σ : MS} {H : Heap} {locs : List Loc} {cells slots : Nat} {ls : Array Slot} {i : Nat} {Q : State → Prop} {Inv : CS → MS → Prop} (C : CC p s m #[Value.ref b] c code 4 RL D Z E (lA s)) (hX : va_X b L xs s s.heap) (hbl : b < s.heap.size) (hL : L ≤ 3072) (hi : i + 6 ≤ L) (hst : wp_C_man 1170 14200 t (xs (i + 1)) (xs (i + 2)) (xs (i + 3)) (xs (i + 4)) (fun v t1 => wp_M_man σ (xs (i + 1)) (xs (i + 2)) (xs (i + 3)) (xs (i + 4)) (fun w σ1 => v = w ∧ Inv t1 σ1))) (hH : LH D Z E ad bb s t σ H locs) (hl : lv_has ls 4 [(0, .ref b), (1, .ref (ad 5 0)), (2, .ref (bb 69)), (3, .int (nI i))]) (hc : cells + 1170 ≤ 600000 ∧ slots + 14200 ≤ 7302250) (hcont : ∀ (t1 : CS) (σ1 : MS) (ad1 : Nat → Nat → Nat) (H1 : Heap) (locs1 : List Loc), ad1 5 0 = ad 5 0 → Inv t1 σ1 → LH D Z E ad1 bb s t1 σ1 H1 locs1 → W p l e room_1 s m #[Value.ref b] below meth c H1 locs1 (cells + 1170) (slots + 14200) Q (F0 m 1258 ls [])) : W p l e room_1 s m #[Value.ref b] below meth c H locs cells slots Q (F0 m 320 ls []) := by
  obtain ⟨⟨hx, hb, hml, hown, hts⟩, hK⟩ := id C
  refine lv_aload_n hx hb dL_law_320 rfl (lv_at hl 1 rfl) ?_
  refine lv_aload_n hx hb dL_law_321 rfl (lv_at hl 0 rfl) ?_
  refine lv_iload_n hx hb dL_law_322 rfl (lv_at hl 3 rfl) ?_
  refine lv_iconst (v := 1) hx hb dL_law_323 (by decide) ?_
  refine lv_iadd hx hb dL_law_324 ?_
  refine lsld hx hb hX hbl hH.S hL 1 (by decide) (by omega) dL_law_325 ?_
  refine lv_aload_n hx hb dL_law_326 rfl (lv_at hl 0 rfl) ?_
  refine lv_iload_n hx hb dL_law_327 rfl (lv_at hl 3 rfl) ?_
  refine lv_iconst (v := 2) hx hb dL_law_328 (by decide) ?_
  refine lv_iadd hx hb dL_law_329 ?_
  refine lsld hx hb hX hbl hH.S hL 2 (by decide) (by omega) dL_law_330 ?_
  refine lv_aload_n hx hb dL_law_331 rfl (lv_at hl 0 rfl) ?_
  refine lv_iload_n hx hb dL_law_332 rfl (lv_at hl 3 rfl) ?_
  refine lv_iconst (v := 3) hx hb dL_law_333 (by decide) ?_
  refine lv_iadd hx hb dL_law_334 ?_
  refine lsld hx hb hX hbl hH.S hL 3 (by decide) (by omega) dL_law_335 ?_
  refine lv_aload_n hx hb dL_law_336 rfl (lv_at hl 0 rfl) ?_
  refine lv_iload_n hx hb dL_law_337 rfl (lv_at hl 3 rfl) ?_
  refine lv_iconst (v := 4) hx hb dL_law_338 (by decide) ?_
  refine lv_iadd hx hb dL_law_339 ?_
  refine lsld hx hb hX hbl hH.S hL 4 (by decide) (by omega) dL_law_340 ?_
  refine lcC C hH (B := fun A' => cPostN D Z E (ad 5 0) A') (fun _ _ _ h => h) [.int (xs (i + 1)), .int (xs (i + 2)), .int (xs (i + 3)), .int (xs (i + 4))] (c_C_man l D Z E ad 1170 14200 t (xs (i + 1)) (xs (i + 2)) (xs (i + 3)) (xs (i + 4)) _ hst) (cwTV 4 hts wd_366 wd_367 wd_368 wd_1 wd_369 rfl rfl (by decide +kernel) ⟨Nat.le_of_ble_eq_true rfl, Nat.le_of_ble_eq_true rfl⟩) rfl hl.1 rfl (Nat.le_of_ble_eq_true rfl) dL_law_341 hc (fun r t1 ad1 H locs hst had hH => ?_)
  refine lv_aload_n hx hb dL_law_344 rfl (lv_at hl 2 rfl) ?_
  refine lv_aload_n hx hb dL_law_345 rfl (lv_at hl 0 rfl) ?_
  refine lv_iload_n hx hb dL_law_346 rfl (lv_at hl 3 rfl) ?_
  refine lv_iconst (v := 1) hx hb dL_law_347 (by decide) ?_
  refine lv_iadd hx hb dL_law_348 ?_
  refine lsld hx hb hX hbl hH.S hL 1 (by decide) (by omega) dL_law_349 ?_
  refine lv_aload_n hx hb dL_law_350 rfl (lv_at hl 0 rfl) ?_
  refine lv_iload_n hx hb dL_law_351 rfl (lv_at hl 3 rfl) ?_
  refine lv_iconst (v := 2) hx hb dL_law_352 (by decide) ?_
  refine lv_iadd hx hb dL_law_353 ?_
  refine lsld hx hb hX hbl hH.S hL 2 (by decide) (by omega) dL_law_354 ?_
  refine lv_aload_n hx hb dL_law_355 rfl (lv_at hl 0 rfl) ?_
  refine lv_iload_n hx hb dL_law_356 rfl (lv_at hl 3 rfl) ?_
  refine lv_iconst (v := 3) hx hb dL_law_357 (by decide) ?_
  refine lv_iadd hx hb dL_law_358 ?_
  refine lsld hx hb hX hbl hH.S hL 3 (by decide) (by omega) dL_law_359 ?_
  refine lv_aload_n hx hb dL_law_360 rfl (lv_at hl 0 rfl) ?_
  refine lv_iload_n hx hb dL_law_361 rfl (lv_at hl 3 rfl) ?_
  refine lv_iconst (v := 4) hx hb dL_law_362 (by decide) ?_
  refine lv_iadd hx hb dL_law_363 ?_
  refine lsld hx hb hX hbl hH.S hL 4 (by decide) (by omega) dL_law_364 ?_
  refine lcM C hH [.int (xs (i + 1)), .int (xs (i + 2)), .int (xs (i + 3)), .int (xs (i + 4))] (c_M_man l D Z bb σ (xs (i + 1)) (xs (i + 2)) (xs (i + 3)) (xs (i + 4)) _ hst) (cwTV 4 hts wd_1279 wd_1280 wd_1281 wd_14 wd_1282 rfl rfl (by decide +kernel) ⟨Nat.le_of_ble_eq_true rfl, Nat.le_of_ble_eq_true rfl⟩) rfl hl.1 rfl (Nat.le_of_ble_eq_true rfl) dL_law_365 hc (fun r2 σ1 H locs hst hH => ?_)
  refine lv_icmp_eq (tgt := 1258) hx hb dL_law_368 (by decide) (fun _ => ?_) (fun q => absurd hst.1 q)
  exact W.widen (k := cells + 1170) (n := slots + 14200) (by omega) (by omega) (hcont t1 σ1 ad1 H locs had hst.2 hH)
set_option maxHeartbeats 4000000 in
set_option maxRecDepth 100000 in
theorem law_case_5 {p : Program} {l : Launch} {e : Env} {s : State} {m : MethodId} {below : List Frame} {meth : Method} {c : Code} {D : va_G} {Z : Nat → ClassId} {E : Nat → Nat} {ad : Nat → Nat → Nat} {bb : Nat → Nat} {b L : Nat} {xs : Nat → Int32} {t : CS} {σ : MS} {H : Heap} {locs : List Loc} {cells slots : Nat} {ls : Array Slot} {i : Nat} {Q : State → Prop} {Inv : CS → MS → Prop} (C : CC p s m #[Value.ref b] c code 4 RL D Z E (lA s)) (hX : va_X b L xs s s.heap) (hbl : b < s.heap.size) (hL : L ≤ 3072) (hi : i + 6 ≤ L) (hst : wp_C_join 1170 14200 t (xs (i + 1)) (fun v t1 => wp_M_join σ (xs (i + 1)) (fun w σ1 => v = w ∧ Inv t1 σ1))) (hH : LH D Z E ad bb s t σ H locs) (hl : lv_has ls 4 [(0, .ref b), (1, .ref (ad 5 0)), (2, .ref (bb 69)), (3, .int (nI i))]) (hc : cells + 1170 ≤ 600000 ∧ slots + 14200 ≤ 7302250) (hcont : ∀ (t1 : CS) (σ1 : MS) (ad1 : Nat → Nat → Nat) (H1 : Heap) (locs1 : List Loc), ad1 5 0 = ad 5 0 → Inv t1 σ1 → LH D Z E ad1 bb s t1 σ1 H1 locs1 → W p l e room_1 s m #[Value.ref b] below meth c H1 locs1 (cells + 1170) (slots + 14200) Q (F0 m 1258 ls [])) : W p l e room_1 s m #[Value.ref b] below meth c H locs cells slots Q (F0 m 373 ls []) := by
  obtain ⟨⟨hx, hb, hml, hown, hts⟩, hK⟩ := id C
  refine lv_aload_n hx hb dL_law_373 rfl (lv_at hl 1 rfl) ?_
  refine lv_aload_n hx hb dL_law_374 rfl (lv_at hl 0 rfl) ?_
  refine lv_iload_n hx hb dL_law_375 rfl (lv_at hl 3 rfl) ?_
  refine lv_iconst (v := 1) hx hb dL_law_376 (by decide) ?_
  refine lv_iadd hx hb dL_law_377 ?_
  refine lsld hx hb hX hbl hH.S hL 1 (by decide) (by omega) dL_law_378 ?_
  refine lcC C hH (B := fun A' => cPost D Z E ad A') toN [.int (xs (i + 1))] (c_C_join l D Z E ad 1170 14200 t (xs (i + 1)) _ hst) (cwTV 1 hts wd_426 wd_427 wd_428 wd_1 wd_429 rfl rfl (by decide +kernel) ⟨Nat.le_of_ble_eq_true rfl, Nat.le_of_ble_eq_true rfl⟩) rfl hl.1 rfl (Nat.le_of_ble_eq_true rfl) dL_law_379 hc (fun r t1 ad1 H locs hst had hH => ?_)
  refine lv_aload_n hx hb dL_law_382 rfl (lv_at hl 2 rfl) ?_
  refine lv_aload_n hx hb dL_law_383 rfl (lv_at hl 0 rfl) ?_
  refine lv_iload_n hx hb dL_law_384 rfl (lv_at hl 3 rfl) ?_
  refine lv_iconst (v := 1) hx hb dL_law_385 (by decide) ?_
  refine lv_iadd hx hb dL_law_386 ?_
  refine lsld hx hb hX hbl hH.S hL 1 (by decide) (by omega) dL_law_387 ?_
  refine lcM C hH [.int (xs (i + 1))] (c_M_join l D Z bb σ (xs (i + 1)) _ hst) (cwTV 1 hts wd_1286 wd_1287 wd_1288 wd_14 wd_1289 rfl rfl (by decide +kernel) ⟨Nat.le_of_ble_eq_true rfl, Nat.le_of_ble_eq_true rfl⟩) rfl hl.1 rfl (Nat.le_of_ble_eq_true rfl) dL_law_388 hc (fun r2 σ1 H locs hst hH => ?_)
  refine lv_icmp_eq (tgt := 1258) hx hb dL_law_391 (by decide) (fun _ => ?_) (fun q => absurd hst.1 q)
  exact W.widen (k := cells + 1170) (n := slots + 14200) (by omega) (by omega) (hcont t1 σ1 ad1 H locs had hst.2 hH)
set_option maxHeartbeats 4000000 in
set_option maxRecDepth 100000 in
theorem law_case_6 {p : Program} {l : Launch} {e : Env} {s : State} {m : MethodId} {below : List Frame} {meth : Method} {c : Code} {D : va_G} {Z : Nat → ClassId} {E : Nat → Nat} {ad : Nat → Nat → Nat} {bb : Nat → Nat} {b L : Nat} {xs : Nat → Int32} {t : CS} {σ : MS} {H : Heap} {locs : List Loc} {cells slots : Nat} {ls : Array Slot} {i : Nat} {Q : State → Prop} {Inv : CS → MS → Prop} (C : CC p s m #[Value.ref b] c code 4 RL D Z E (lA s)) (hX : va_X b L xs s s.heap) (hbl : b < s.heap.size) (hL : L ≤ 3072) (hi : i + 6 ≤ L) (hst : wp_C_leave t (xs (i + 1)) (fun v t1 => wp_M_leave σ (xs (i + 1)) (fun w σ1 => v = w ∧ Inv t1 σ1))) (hH : LH D Z E ad bb s t σ H locs) (hl : lv_has ls 4 [(0, .ref b), (1, .ref (ad 5 0)), (2, .ref (bb 69)), (3, .int (nI i))]) (hc : cells + 1170 ≤ 600000 ∧ slots + 14200 ≤ 7302250) (hcont : ∀ (t1 : CS) (σ1 : MS) (ad1 : Nat → Nat → Nat) (H1 : Heap) (locs1 : List Loc), ad1 5 0 = ad 5 0 → Inv t1 σ1 → LH D Z E ad1 bb s t1 σ1 H1 locs1 → W p l e room_1 s m #[Value.ref b] below meth c H1 locs1 (cells + 1170) (slots + 14200) Q (F0 m 1258 ls [])) : W p l e room_1 s m #[Value.ref b] below meth c H locs cells slots Q (F0 m 396 ls []) := by
  obtain ⟨⟨hx, hb, hml, hown, hts⟩, hK⟩ := id C
  refine lv_aload_n hx hb dL_law_396 rfl (lv_at hl 1 rfl) ?_
  refine lv_aload_n hx hb dL_law_397 rfl (lv_at hl 0 rfl) ?_
  refine lv_iload_n hx hb dL_law_398 rfl (lv_at hl 3 rfl) ?_
  refine lv_iconst (v := 1) hx hb dL_law_399 (by decide) ?_
  refine lv_iadd hx hb dL_law_400 ?_
  refine lsld hx hb hX hbl hH.S hL 1 (by decide) (by omega) dL_law_401 ?_
  refine lcC C hH (B := fun A' => cPost D Z E ad A') toN [.int (xs (i + 1))] (c_C_leave l D Z E ad t (xs (i + 1)) _ hst) (cwTV 1 hts wd_449 wd_450 wd_451 wd_1 wd_452 rfl rfl (by decide +kernel) ⟨Nat.le_of_ble_eq_true rfl, Nat.le_of_ble_eq_true rfl⟩) rfl hl.1 rfl (Nat.le_of_ble_eq_true rfl) dL_law_402 ⟨(show cells + 0 ≤ 600000 by omega), (show slots + 0 ≤ 7302250 by omega)⟩ (fun r t1 ad1 H locs hst had hH => ?_)
  refine lv_aload_n hx hb dL_law_405 rfl (lv_at hl 2 rfl) ?_
  refine lv_aload_n hx hb dL_law_406 rfl (lv_at hl 0 rfl) ?_
  refine lv_iload_n hx hb dL_law_407 rfl (lv_at hl 3 rfl) ?_
  refine lv_iconst (v := 1) hx hb dL_law_408 (by decide) ?_
  refine lv_iadd hx hb dL_law_409 ?_
  refine lsld hx hb hX hbl hH.S hL 1 (by decide) (by omega) dL_law_410 ?_
  refine lcM C hH [.int (xs (i + 1))] (c_M_leave l D Z bb σ (xs (i + 1)) _ hst) (cwTV 1 hts wd_1302 wd_1303 wd_1304 wd_14 wd_1305 rfl rfl (by decide +kernel) ⟨Nat.le_of_ble_eq_true rfl, Nat.le_of_ble_eq_true rfl⟩) rfl hl.1 rfl (Nat.le_of_ble_eq_true rfl) dL_law_411 ⟨(show cells + 0 ≤ 600000 by omega), (show slots + 0 ≤ 7302250 by omega)⟩ (fun r2 σ1 H locs hst hH => ?_)
  refine lv_icmp_eq (tgt := 1258) hx hb dL_law_414 (by decide) (fun _ => ?_) (fun q => absurd hst.1 q)
  exact W.widen (k := cells + 1170) (n := slots + 14200) (by omega) (by omega) (hcont t1 σ1 ad1 H locs had hst.2 hH)
set_option maxHeartbeats 4000000 in
set_option maxRecDepth 100000 in
theorem law_case_7 {p : Program} {l : Launch} {e : Env} {s : State} {m : MethodId} {below : List Frame} {meth : Method} {c : Code} {D : va_G} {Z : Nat → ClassId} {E : Nat → Nat} {ad : Nat → Nat → Nat} {bb : Nat → Nat} {b L : Nat} {xs : Nat → Int32} {t : CS} {σ : MS} {H : Heap} {locs : List Loc} {cells slots : Nat} {ls : Array Slot} {i : Nat} {Q : State → Prop} {Inv : CS → MS → Prop} (C : CC p s m #[Value.ref b] c code 4 RL D Z E (lA s)) (hX : va_X b L xs s s.heap) (hbl : b < s.heap.size) (hL : L ≤ 3072) (hi : i + 6 ≤ L) (hst : wp_C_gone t (xs (i + 1)) (fun v t1 => wp_M_gone σ (xs (i + 1)) (fun w σ1 => v = w ∧ Inv t1 σ1))) (hH : LH D Z E ad bb s t σ H locs) (hl : lv_has ls 4 [(0, .ref b), (1, .ref (ad 5 0)), (2, .ref (bb 69)), (3, .int (nI i))]) (hc : cells + 1170 ≤ 600000 ∧ slots + 14200 ≤ 7302250) (hcont : ∀ (t1 : CS) (σ1 : MS) (ad1 : Nat → Nat → Nat) (H1 : Heap) (locs1 : List Loc), ad1 5 0 = ad 5 0 → Inv t1 σ1 → LH D Z E ad1 bb s t1 σ1 H1 locs1 → W p l e room_1 s m #[Value.ref b] below meth c H1 locs1 (cells + 1170) (slots + 14200) Q (F0 m 1258 ls [])) : W p l e room_1 s m #[Value.ref b] below meth c H locs cells slots Q (F0 m 419 ls []) := by
  obtain ⟨⟨hx, hb, hml, hown, hts⟩, hK⟩ := id C
  refine lv_aload_n hx hb dL_law_419 rfl (lv_at hl 1 rfl) ?_
  refine lv_aload_n hx hb dL_law_420 rfl (lv_at hl 0 rfl) ?_
  refine lv_iload_n hx hb dL_law_421 rfl (lv_at hl 3 rfl) ?_
  refine lv_iconst (v := 1) hx hb dL_law_422 (by decide) ?_
  refine lv_iadd hx hb dL_law_423 ?_
  refine lsld hx hb hX hbl hH.S hL 1 (by decide) (by omega) dL_law_424 ?_
  refine lcC C hH (B := fun A' => cPost D Z E ad A') toN [.int (xs (i + 1))] (c_C_gone l D Z E ad t (xs (i + 1)) _ hst) (cwTV 1 hts wd_467 wd_468 wd_469 wd_1 wd_470 rfl rfl (by decide +kernel) ⟨Nat.le_of_ble_eq_true rfl, Nat.le_of_ble_eq_true rfl⟩) rfl hl.1 rfl (Nat.le_of_ble_eq_true rfl) dL_law_425 ⟨(show cells + 0 ≤ 600000 by omega), (show slots + 0 ≤ 7302250 by omega)⟩ (fun r t1 ad1 H locs hst had hH => ?_)
  refine lv_aload_n hx hb dL_law_428 rfl (lv_at hl 2 rfl) ?_
  refine lv_aload_n hx hb dL_law_429 rfl (lv_at hl 0 rfl) ?_
  refine lv_iload_n hx hb dL_law_430 rfl (lv_at hl 3 rfl) ?_
  refine lv_iconst (v := 1) hx hb dL_law_431 (by decide) ?_
  refine lv_iadd hx hb dL_law_432 ?_
  refine lsld hx hb hX hbl hH.S hL 1 (by decide) (by omega) dL_law_433 ?_
  refine lcM C hH [.int (xs (i + 1))] (c_M_gone l D Z bb σ (xs (i + 1)) _ hst) (cwTV 1 hts wd_1310 wd_1311 wd_1312 wd_14 wd_1313 rfl rfl (by decide +kernel) ⟨Nat.le_of_ble_eq_true rfl, Nat.le_of_ble_eq_true rfl⟩) rfl hl.1 rfl (Nat.le_of_ble_eq_true rfl) dL_law_434 ⟨(show cells + 0 ≤ 600000 by omega), (show slots + 0 ≤ 7302250 by omega)⟩ (fun r2 σ1 H locs hst hH => ?_)
  refine lv_icmp_eq (tgt := 1258) hx hb dL_law_437 (by decide) (fun _ => ?_) (fun q => absurd hst.1 q)
  exact W.widen (k := cells + 1170) (n := slots + 14200) (by omega) (by omega) (hcont t1 σ1 ad1 H locs had hst.2 hH)
set_option maxHeartbeats 4000000 in
set_option maxRecDepth 100000 in
theorem law_case_8 {p : Program} {l : Launch} {e : Env} {s : State} {m : MethodId} {below : List Frame} {meth : Method} {c : Code} {D : va_G} {Z : Nat → ClassId} {E : Nat → Nat} {ad : Nat → Nat → Nat} {bb : Nat → Nat} {b L : Nat} {xs : Nat → Int32} {t : CS} {σ : MS} {H : Heap} {locs : List Loc} {cells slots : Nat} {ls : Array Slot} {i : Nat} {Q : State → Prop} {Inv : CS → MS → Prop} (C : CC p s m #[Value.ref b] c code 4 RL D Z E (lA s)) (hX : va_X b L xs s s.heap) (hbl : b < s.heap.size) (hL : L ≤ 3072) (hi : i + 6 ≤ L) (hst : wp_C_about t (xs (i + 1)) (xs (i + 2)) (fun v t1 => wp_M_about σ (xs (i + 1)) (xs (i + 2)) (fun w σ1 => v = w ∧ Inv t1 σ1))) (hH : LH D Z E ad bb s t σ H locs) (hl : lv_has ls 4 [(0, .ref b), (1, .ref (ad 5 0)), (2, .ref (bb 69)), (3, .int (nI i))]) (hc : cells + 1170 ≤ 600000 ∧ slots + 14200 ≤ 7302250) (hcont : ∀ (t1 : CS) (σ1 : MS) (ad1 : Nat → Nat → Nat) (H1 : Heap) (locs1 : List Loc), ad1 5 0 = ad 5 0 → Inv t1 σ1 → LH D Z E ad1 bb s t1 σ1 H1 locs1 → W p l e room_1 s m #[Value.ref b] below meth c H1 locs1 (cells + 1170) (slots + 14200) Q (F0 m 1258 ls [])) : W p l e room_1 s m #[Value.ref b] below meth c H locs cells slots Q (F0 m 442 ls []) := by
  obtain ⟨⟨hx, hb, hml, hown, hts⟩, hK⟩ := id C
  refine lv_aload_n hx hb dL_law_442 rfl (lv_at hl 1 rfl) ?_
  refine lv_aload_n hx hb dL_law_443 rfl (lv_at hl 0 rfl) ?_
  refine lv_iload_n hx hb dL_law_444 rfl (lv_at hl 3 rfl) ?_
  refine lv_iconst (v := 1) hx hb dL_law_445 (by decide) ?_
  refine lv_iadd hx hb dL_law_446 ?_
  refine lsld hx hb hX hbl hH.S hL 1 (by decide) (by omega) dL_law_447 ?_
  refine lv_aload_n hx hb dL_law_448 rfl (lv_at hl 0 rfl) ?_
  refine lv_iload_n hx hb dL_law_449 rfl (lv_at hl 3 rfl) ?_
  refine lv_iconst (v := 2) hx hb dL_law_450 (by decide) ?_
  refine lv_iadd hx hb dL_law_451 ?_
  refine lsld hx hb hX hbl hH.S hL 2 (by decide) (by omega) dL_law_452 ?_
  refine lcC C hH (B := fun A' => cPost D Z E ad A') toN [.int (xs (i + 1)), .int (xs (i + 2))] (c_C_about l D Z E ad t (xs (i + 1)) (xs (i + 2)) _ hst) (cwTV 2 hts wd_471 wd_472 wd_473 wd_1 wd_474 rfl rfl (by decide +kernel) ⟨Nat.le_of_ble_eq_true rfl, Nat.le_of_ble_eq_true rfl⟩) rfl hl.1 rfl (Nat.le_of_ble_eq_true rfl) dL_law_453 ⟨(show cells + 0 ≤ 600000 by omega), (show slots + 0 ≤ 7302250 by omega)⟩ (fun r t1 ad1 H locs hst had hH => ?_)
  refine lv_aload_n hx hb dL_law_456 rfl (lv_at hl 2 rfl) ?_
  refine lv_aload_n hx hb dL_law_457 rfl (lv_at hl 0 rfl) ?_
  refine lv_iload_n hx hb dL_law_458 rfl (lv_at hl 3 rfl) ?_
  refine lv_iconst (v := 1) hx hb dL_law_459 (by decide) ?_
  refine lv_iadd hx hb dL_law_460 ?_
  refine lsld hx hb hX hbl hH.S hL 1 (by decide) (by omega) dL_law_461 ?_
  refine lv_aload_n hx hb dL_law_462 rfl (lv_at hl 0 rfl) ?_
  refine lv_iload_n hx hb dL_law_463 rfl (lv_at hl 3 rfl) ?_
  refine lv_iconst (v := 2) hx hb dL_law_464 (by decide) ?_
  refine lv_iadd hx hb dL_law_465 ?_
  refine lsld hx hb hX hbl hH.S hL 2 (by decide) (by omega) dL_law_466 ?_
  refine lcM C hH [.int (xs (i + 1)), .int (xs (i + 2))] (c_M_about l D Z bb σ (xs (i + 1)) (xs (i + 2)) _ hst) (cwTV 2 hts wd_1314 wd_1315 wd_1316 wd_14 wd_1317 rfl rfl (by decide +kernel) ⟨Nat.le_of_ble_eq_true rfl, Nat.le_of_ble_eq_true rfl⟩) rfl hl.1 rfl (Nat.le_of_ble_eq_true rfl) dL_law_467 ⟨(show cells + 0 ≤ 600000 by omega), (show slots + 0 ≤ 7302250 by omega)⟩ (fun r2 σ1 H locs hst hH => ?_)
  refine lv_icmp_eq (tgt := 1258) hx hb dL_law_470 (by decide) (fun _ => ?_) (fun q => absurd hst.1 q)
  exact W.widen (k := cells + 1170) (n := slots + 14200) (by omega) (by omega) (hcont t1 σ1 ad1 H locs had hst.2 hH)
set_option maxHeartbeats 4000000 in
set_option maxRecDepth 100000 in
theorem law_case_9 {p : Program} {l : Launch} {e : Env} {s : State} {m : MethodId} {below : List Frame} {meth : Method} {c : Code} {D : va_G} {Z : Nat → ClassId} {E : Nat → Nat} {ad : Nat → Nat → Nat} {bb : Nat → Nat} {b L : Nat} {xs : Nat → Int32} {t : CS} {σ : MS} {H : Heap} {locs : List Loc} {cells slots : Nat} {ls : Array Slot} {i : Nat} {Q : State → Prop} {Inv : CS → MS → Prop} (C : CC p s m #[Value.ref b] c code 4 RL D Z E (lA s)) (hX : va_X b L xs s s.heap) (hbl : b < s.heap.size) (hL : L ≤ 3072) (hi : i + 6 ≤ L) (hst : wp_C_turn t (xs (i + 1)) (xs (i + 2)) (fun v t1 => wp_M_turn σ (xs (i + 1)) (xs (i + 2)) (fun w σ1 => v = w ∧ Inv t1 σ1))) (hH : LH D Z E ad bb s t σ H locs) (hl : lv_has ls 4 [(0, .ref b), (1, .ref (ad 5 0)), (2, .ref (bb 69)), (3, .int (nI i))]) (hc : cells + 1170 ≤ 600000 ∧ slots + 14200 ≤ 7302250) (hcont : ∀ (t1 : CS) (σ1 : MS) (ad1 : Nat → Nat → Nat) (H1 : Heap) (locs1 : List Loc), ad1 5 0 = ad 5 0 → Inv t1 σ1 → LH D Z E ad1 bb s t1 σ1 H1 locs1 → W p l e room_1 s m #[Value.ref b] below meth c H1 locs1 (cells + 1170) (slots + 14200) Q (F0 m 1258 ls [])) : W p l e room_1 s m #[Value.ref b] below meth c H locs cells slots Q (F0 m 475 ls []) := by
  obtain ⟨⟨hx, hb, hml, hown, hts⟩, hK⟩ := id C
  refine lv_aload_n hx hb dL_law_475 rfl (lv_at hl 1 rfl) ?_
  refine lv_aload_n hx hb dL_law_476 rfl (lv_at hl 0 rfl) ?_
  refine lv_iload_n hx hb dL_law_477 rfl (lv_at hl 3 rfl) ?_
  refine lv_iconst (v := 1) hx hb dL_law_478 (by decide) ?_
  refine lv_iadd hx hb dL_law_479 ?_
  refine lsld hx hb hX hbl hH.S hL 1 (by decide) (by omega) dL_law_480 ?_
  refine lv_aload_n hx hb dL_law_481 rfl (lv_at hl 0 rfl) ?_
  refine lv_iload_n hx hb dL_law_482 rfl (lv_at hl 3 rfl) ?_
  refine lv_iconst (v := 2) hx hb dL_law_483 (by decide) ?_
  refine lv_iadd hx hb dL_law_484 ?_
  refine lsld hx hb hX hbl hH.S hL 2 (by decide) (by omega) dL_law_485 ?_
  refine lcC C hH (B := fun A' => cPost D Z E ad A') toN [.int (xs (i + 1)), .int (xs (i + 2))] (c_C_turn l D Z E ad t (xs (i + 1)) (xs (i + 2)) _ hst) (cwTV 2 hts wd_475 wd_476 wd_477 wd_1 wd_478 rfl rfl (by decide +kernel) ⟨Nat.le_of_ble_eq_true rfl, Nat.le_of_ble_eq_true rfl⟩) rfl hl.1 rfl (Nat.le_of_ble_eq_true rfl) dL_law_486 ⟨(show cells + 0 ≤ 600000 by omega), (show slots + 0 ≤ 7302250 by omega)⟩ (fun r t1 ad1 H locs hst had hH => ?_)
  refine lv_aload_n hx hb dL_law_489 rfl (lv_at hl 2 rfl) ?_
  refine lv_aload_n hx hb dL_law_490 rfl (lv_at hl 0 rfl) ?_
  refine lv_iload_n hx hb dL_law_491 rfl (lv_at hl 3 rfl) ?_
  refine lv_iconst (v := 1) hx hb dL_law_492 (by decide) ?_
  refine lv_iadd hx hb dL_law_493 ?_
  refine lsld hx hb hX hbl hH.S hL 1 (by decide) (by omega) dL_law_494 ?_
  refine lv_aload_n hx hb dL_law_495 rfl (lv_at hl 0 rfl) ?_
  refine lv_iload_n hx hb dL_law_496 rfl (lv_at hl 3 rfl) ?_
  refine lv_iconst (v := 2) hx hb dL_law_497 (by decide) ?_
  refine lv_iadd hx hb dL_law_498 ?_
  refine lsld hx hb hX hbl hH.S hL 2 (by decide) (by omega) dL_law_499 ?_
  refine lcM C hH [.int (xs (i + 1)), .int (xs (i + 2))] (c_M_turn l D Z bb σ (xs (i + 1)) (xs (i + 2)) _ hst) (cwTV 2 hts wd_1318 wd_1319 wd_1320 wd_14 wd_1321 rfl rfl (by decide +kernel) ⟨Nat.le_of_ble_eq_true rfl, Nat.le_of_ble_eq_true rfl⟩) rfl hl.1 rfl (Nat.le_of_ble_eq_true rfl) dL_law_500 ⟨(show cells + 0 ≤ 600000 by omega), (show slots + 0 ≤ 7302250 by omega)⟩ (fun r2 σ1 H locs hst hH => ?_)
  refine lv_icmp_eq (tgt := 1258) hx hb dL_law_503 (by decide) (fun _ => ?_) (fun q => absurd hst.1 q)
  exact W.widen (k := cells + 1170) (n := slots + 14200) (by omega) (by omega) (hcont t1 σ1 ad1 H locs had hst.2 hH)
set_option maxHeartbeats 4000000 in
set_option maxRecDepth 100000 in
theorem law_case_10 {p : Program} {l : Launch} {e : Env} {s : State} {m : MethodId} {below : List Frame} {meth : Method} {c : Code} {D : va_G} {Z : Nat → ClassId} {E : Nat → Nat} {ad : Nat → Nat → Nat} {bb : Nat → Nat} {b L : Nat} {xs : Nat → Int32} {t : CS} {σ : MS} {H : Heap} {locs : List Loc} {cells slots : Nat} {ls : Array Slot} {i : Nat} {Q : State → Prop} {Inv : CS → MS → Prop} (C : CC p s m #[Value.ref b] c code 4 RL D Z E (lA s)) (hX : va_X b L xs s s.heap) (hbl : b < s.heap.size) (hL : L ≤ 3072) (hi : i + 6 ≤ L) (hst : wp_C_dice t (xs (i + 1)) (xs (i + 2)) (xs (i + 3)) (fun v t1 => wp_M_dice σ (xs (i + 1)) (xs (i + 2)) (xs (i + 3)) (fun w σ1 => v = w ∧ Inv t1 σ1))) (hH : LH D Z E ad bb s t σ H locs) (hl : lv_has ls 4 [(0, .ref b), (1, .ref (ad 5 0)), (2, .ref (bb 69)), (3, .int (nI i))]) (hc : cells + 1170 ≤ 600000 ∧ slots + 14200 ≤ 7302250) (hcont : ∀ (t1 : CS) (σ1 : MS) (ad1 : Nat → Nat → Nat) (H1 : Heap) (locs1 : List Loc), ad1 5 0 = ad 5 0 → Inv t1 σ1 → LH D Z E ad1 bb s t1 σ1 H1 locs1 → W p l e room_1 s m #[Value.ref b] below meth c H1 locs1 (cells + 1170) (slots + 14200) Q (F0 m 1258 ls [])) : W p l e room_1 s m #[Value.ref b] below meth c H locs cells slots Q (F0 m 508 ls []) := by
  obtain ⟨⟨hx, hb, hml, hown, hts⟩, hK⟩ := id C
  refine lv_aload_n hx hb dL_law_508 rfl (lv_at hl 1 rfl) ?_
  refine lv_aload_n hx hb dL_law_509 rfl (lv_at hl 0 rfl) ?_
  refine lv_iload_n hx hb dL_law_510 rfl (lv_at hl 3 rfl) ?_
  refine lv_iconst (v := 1) hx hb dL_law_511 (by decide) ?_
  refine lv_iadd hx hb dL_law_512 ?_
  refine lsld hx hb hX hbl hH.S hL 1 (by decide) (by omega) dL_law_513 ?_
  refine lv_aload_n hx hb dL_law_514 rfl (lv_at hl 0 rfl) ?_
  refine lv_iload_n hx hb dL_law_515 rfl (lv_at hl 3 rfl) ?_
  refine lv_iconst (v := 2) hx hb dL_law_516 (by decide) ?_
  refine lv_iadd hx hb dL_law_517 ?_
  refine lsld hx hb hX hbl hH.S hL 2 (by decide) (by omega) dL_law_518 ?_
  refine lv_aload_n hx hb dL_law_519 rfl (lv_at hl 0 rfl) ?_
  refine lv_iload_n hx hb dL_law_520 rfl (lv_at hl 3 rfl) ?_
  refine lv_iconst (v := 3) hx hb dL_law_521 (by decide) ?_
  refine lv_iadd hx hb dL_law_522 ?_
  refine lsld hx hb hX hbl hH.S hL 3 (by decide) (by omega) dL_law_523 ?_
  refine lcC C hH (B := fun A' => cPost D Z E ad A') toN [.int (xs (i + 1)), .int (xs (i + 2)), .int (xs (i + 3))] (c_C_dice l D Z E ad t (xs (i + 1)) (xs (i + 2)) (xs (i + 3)) _ hst) (cwTV 3 hts wd_479 wd_480 wd_481 wd_1 wd_482 rfl rfl (by decide +kernel) ⟨Nat.le_of_ble_eq_true rfl, Nat.le_of_ble_eq_true rfl⟩) rfl hl.1 rfl (Nat.le_of_ble_eq_true rfl) dL_law_524 ⟨(show cells + 0 ≤ 600000 by omega), (show slots + 0 ≤ 7302250 by omega)⟩ (fun r t1 ad1 H locs hst had hH => ?_)
  refine lv_aload_n hx hb dL_law_527 rfl (lv_at hl 2 rfl) ?_
  refine lv_aload_n hx hb dL_law_528 rfl (lv_at hl 0 rfl) ?_
  refine lv_iload_n hx hb dL_law_529 rfl (lv_at hl 3 rfl) ?_
  refine lv_iconst (v := 1) hx hb dL_law_530 (by decide) ?_
  refine lv_iadd hx hb dL_law_531 ?_
  refine lsld hx hb hX hbl hH.S hL 1 (by decide) (by omega) dL_law_532 ?_
  refine lv_aload_n hx hb dL_law_533 rfl (lv_at hl 0 rfl) ?_
  refine lv_iload_n hx hb dL_law_534 rfl (lv_at hl 3 rfl) ?_
  refine lv_iconst (v := 2) hx hb dL_law_535 (by decide) ?_
  refine lv_iadd hx hb dL_law_536 ?_
  refine lsld hx hb hX hbl hH.S hL 2 (by decide) (by omega) dL_law_537 ?_
  refine lv_aload_n hx hb dL_law_538 rfl (lv_at hl 0 rfl) ?_
  refine lv_iload_n hx hb dL_law_539 rfl (lv_at hl 3 rfl) ?_
  refine lv_iconst (v := 3) hx hb dL_law_540 (by decide) ?_
  refine lv_iadd hx hb dL_law_541 ?_
  refine lsld hx hb hX hbl hH.S hL 3 (by decide) (by omega) dL_law_542 ?_
  refine lcM C hH [.int (xs (i + 1)), .int (xs (i + 2)), .int (xs (i + 3))] (c_M_dice l D Z bb σ (xs (i + 1)) (xs (i + 2)) (xs (i + 3)) _ hst) (cwTV 3 hts wd_1322 wd_1323 wd_1324 wd_14 wd_1325 rfl rfl (by decide +kernel) ⟨Nat.le_of_ble_eq_true rfl, Nat.le_of_ble_eq_true rfl⟩) rfl hl.1 rfl (Nat.le_of_ble_eq_true rfl) dL_law_543 ⟨(show cells + 0 ≤ 600000 by omega), (show slots + 0 ≤ 7302250 by omega)⟩ (fun r2 σ1 H locs hst hH => ?_)
  refine lv_icmp_eq (tgt := 1258) hx hb dL_law_546 (by decide) (fun _ => ?_) (fun q => absurd hst.1 q)
  exact W.widen (k := cells + 1170) (n := slots + 14200) (by omega) (by omega) (hcont t1 σ1 ad1 H locs had hst.2 hH)
set_option maxHeartbeats 4000000 in
set_option maxRecDepth 100000 in
theorem law_case_11 {p : Program} {l : Launch} {e : Env} {s : State} {m : MethodId} {below : List Frame} {meth : Method} {c : Code} {D : va_G} {Z : Nat → ClassId} {E : Nat → Nat} {ad : Nat → Nat → Nat} {bb : Nat → Nat} {b L : Nat} {xs : Nat → Int32} {t : CS} {σ : MS} {H : Heap} {locs : List Loc} {cells slots : Nat} {ls : Array Slot} {i : Nat} {Q : State → Prop} {Inv : CS → MS → Prop} (C : CC p s m #[Value.ref b] c code 4 RL D Z E (lA s)) (hX : va_X b L xs s s.heap) (hbl : b < s.heap.size) (hL : L ≤ 3072) (hi : i + 6 ≤ L) (hst : wp_C_feed t (xs (i + 1)) (xs (i + 2)) (xs (i + 3)) (xs (i + 4)) (xs (i + 5)) (fun v t1 => wp_M_feed σ (xs (i + 1)) (xs (i + 2)) (xs (i + 3)) (xs (i + 4)) (xs (i + 5)) (fun w σ1 => v = w ∧ Inv t1 σ1))) (hH : LH D Z E ad bb s t σ H locs) (hl : lv_has ls 4 [(0, .ref b), (1, .ref (ad 5 0)), (2, .ref (bb 69)), (3, .int (nI i))]) (hc : cells + 1170 ≤ 600000 ∧ slots + 14200 ≤ 7302250) (hcont : ∀ (t1 : CS) (σ1 : MS) (ad1 : Nat → Nat → Nat) (H1 : Heap) (locs1 : List Loc), ad1 5 0 = ad 5 0 → Inv t1 σ1 → LH D Z E ad1 bb s t1 σ1 H1 locs1 → W p l e room_1 s m #[Value.ref b] below meth c H1 locs1 (cells + 1170) (slots + 14200) Q (F0 m 1258 ls [])) : W p l e room_1 s m #[Value.ref b] below meth c H locs cells slots Q (F0 m 551 ls []) := by
  obtain ⟨⟨hx, hb, hml, hown, hts⟩, hK⟩ := id C
  refine lv_aload_n hx hb dL_law_551 rfl (lv_at hl 1 rfl) ?_
  refine lv_aload_n hx hb dL_law_552 rfl (lv_at hl 0 rfl) ?_
  refine lv_iload_n hx hb dL_law_553 rfl (lv_at hl 3 rfl) ?_
  refine lv_iconst (v := 1) hx hb dL_law_554 (by decide) ?_
  refine lv_iadd hx hb dL_law_555 ?_
  refine lsld hx hb hX hbl hH.S hL 1 (by decide) (by omega) dL_law_556 ?_
  refine lv_aload_n hx hb dL_law_557 rfl (lv_at hl 0 rfl) ?_
  refine lv_iload_n hx hb dL_law_558 rfl (lv_at hl 3 rfl) ?_
  refine lv_iconst (v := 2) hx hb dL_law_559 (by decide) ?_
  refine lv_iadd hx hb dL_law_560 ?_
  refine lsld hx hb hX hbl hH.S hL 2 (by decide) (by omega) dL_law_561 ?_
  refine lv_aload_n hx hb dL_law_562 rfl (lv_at hl 0 rfl) ?_
  refine lv_iload_n hx hb dL_law_563 rfl (lv_at hl 3 rfl) ?_
  refine lv_iconst (v := 3) hx hb dL_law_564 (by decide) ?_
  refine lv_iadd hx hb dL_law_565 ?_
  refine lsld hx hb hX hbl hH.S hL 3 (by decide) (by omega) dL_law_566 ?_
  refine lv_aload_n hx hb dL_law_567 rfl (lv_at hl 0 rfl) ?_
  refine lv_iload_n hx hb dL_law_568 rfl (lv_at hl 3 rfl) ?_
  refine lv_iconst (v := 4) hx hb dL_law_569 (by decide) ?_
  refine lv_iadd hx hb dL_law_570 ?_
  refine lsld hx hb hX hbl hH.S hL 4 (by decide) (by omega) dL_law_571 ?_
  refine lv_aload_n hx hb dL_law_572 rfl (lv_at hl 0 rfl) ?_
  refine lv_iload_n hx hb dL_law_573 rfl (lv_at hl 3 rfl) ?_
  refine lv_iconst (v := 5) hx hb dL_law_574 (by decide) ?_
  refine lv_iadd hx hb dL_law_575 ?_
  refine lsld hx hb hX hbl hH.S hL 5 (by decide) (by omega) dL_law_576 ?_
  refine lcC C hH (B := fun A' => cPost D Z E ad A') toN [.int (xs (i + 1)), .int (xs (i + 2)), .int (xs (i + 3)), .int (xs (i + 4)), .int (xs (i + 5))] (c_C_feed l D Z E ad t (xs (i + 1)) (xs (i + 2)) (xs (i + 3)) (xs (i + 4)) (xs (i + 5)) _ hst) (cwTV 5 hts wd_483 wd_484 wd_485 wd_1 wd_486 rfl rfl (by decide +kernel) ⟨Nat.le_of_ble_eq_true rfl, Nat.le_of_ble_eq_true rfl⟩) rfl hl.1 rfl (Nat.le_of_ble_eq_true rfl) dL_law_577 ⟨(show cells + 0 ≤ 600000 by omega), (show slots + 0 ≤ 7302250 by omega)⟩ (fun r t1 ad1 H locs hst had hH => ?_)
  refine lv_aload_n hx hb dL_law_580 rfl (lv_at hl 2 rfl) ?_
  refine lv_aload_n hx hb dL_law_581 rfl (lv_at hl 0 rfl) ?_
  refine lv_iload_n hx hb dL_law_582 rfl (lv_at hl 3 rfl) ?_
  refine lv_iconst (v := 1) hx hb dL_law_583 (by decide) ?_
  refine lv_iadd hx hb dL_law_584 ?_
  refine lsld hx hb hX hbl hH.S hL 1 (by decide) (by omega) dL_law_585 ?_
  refine lv_aload_n hx hb dL_law_586 rfl (lv_at hl 0 rfl) ?_
  refine lv_iload_n hx hb dL_law_587 rfl (lv_at hl 3 rfl) ?_
  refine lv_iconst (v := 2) hx hb dL_law_588 (by decide) ?_
  refine lv_iadd hx hb dL_law_589 ?_
  refine lsld hx hb hX hbl hH.S hL 2 (by decide) (by omega) dL_law_590 ?_
  refine lv_aload_n hx hb dL_law_591 rfl (lv_at hl 0 rfl) ?_
  refine lv_iload_n hx hb dL_law_592 rfl (lv_at hl 3 rfl) ?_
  refine lv_iconst (v := 3) hx hb dL_law_593 (by decide) ?_
  refine lv_iadd hx hb dL_law_594 ?_
  refine lsld hx hb hX hbl hH.S hL 3 (by decide) (by omega) dL_law_595 ?_
  refine lv_aload_n hx hb dL_law_596 rfl (lv_at hl 0 rfl) ?_
  refine lv_iload_n hx hb dL_law_597 rfl (lv_at hl 3 rfl) ?_
  refine lv_iconst (v := 4) hx hb dL_law_598 (by decide) ?_
  refine lv_iadd hx hb dL_law_599 ?_
  refine lsld hx hb hX hbl hH.S hL 4 (by decide) (by omega) dL_law_600 ?_
  refine lv_aload_n hx hb dL_law_601 rfl (lv_at hl 0 rfl) ?_
  refine lv_iload_n hx hb dL_law_602 rfl (lv_at hl 3 rfl) ?_
  refine lv_iconst (v := 5) hx hb dL_law_603 (by decide) ?_
  refine lv_iadd hx hb dL_law_604 ?_
  refine lsld hx hb hX hbl hH.S hL 5 (by decide) (by omega) dL_law_605 ?_
  refine lcM C hH [.int (xs (i + 1)), .int (xs (i + 2)), .int (xs (i + 3)), .int (xs (i + 4)), .int (xs (i + 5))] (c_M_feed l D Z bb σ (xs (i + 1)) (xs (i + 2)) (xs (i + 3)) (xs (i + 4)) (xs (i + 5)) _ hst) (cwTV 5 hts wd_1326 wd_1327 wd_1328 wd_14 wd_1329 rfl rfl (by decide +kernel) ⟨Nat.le_of_ble_eq_true rfl, Nat.le_of_ble_eq_true rfl⟩) rfl hl.1 rfl (Nat.le_of_ble_eq_true rfl) dL_law_606 ⟨(show cells + 0 ≤ 600000 by omega), (show slots + 0 ≤ 7302250 by omega)⟩ (fun r2 σ1 H locs hst hH => ?_)
  refine lv_icmp_eq (tgt := 1258) hx hb dL_law_609 (by decide) (fun _ => ?_) (fun q => absurd hst.1 q)
  exact W.widen (k := cells + 1170) (n := slots + 14200) (by omega) (by omega) (hcont t1 σ1 ad1 H locs had hst.2 hH)
set_option maxHeartbeats 4000000 in
set_option maxRecDepth 100000 in
theorem law_case_12 {p : Program} {l : Launch} {e : Env} {s : State} {m : MethodId} {below : List Frame} {meth : Method} {c : Code} {D : va_G} {Z : Nat → ClassId} {E : Nat → Nat} {ad : Nat → Nat → Nat} {bb : Nat → Nat} {b L : Nat} {xs : Nat → Int32} {t : CS} {σ : MS} {H : Heap} {locs : List Loc} {cells slots : Nat} {ls : Array Slot} {i : Nat} {Q : State → Prop} {Inv : CS → MS → Prop} (C : CC p s m #[Value.ref b] c code 4 RL D Z E (lA s)) (hX : va_X b L xs s s.heap) (hbl : b < s.heap.size) (hL : L ≤ 3072) (hi : i + 6 ≤ L) (hst : wp_C_end t (xs (i + 1)) (fun v t1 => wp_M_end σ (xs (i + 1)) (fun w σ1 => v = w ∧ Inv t1 σ1))) (hH : LH D Z E ad bb s t σ H locs) (hl : lv_has ls 4 [(0, .ref b), (1, .ref (ad 5 0)), (2, .ref (bb 69)), (3, .int (nI i))]) (hc : cells + 1170 ≤ 600000 ∧ slots + 14200 ≤ 7302250) (hcont : ∀ (t1 : CS) (σ1 : MS) (ad1 : Nat → Nat → Nat) (H1 : Heap) (locs1 : List Loc), ad1 5 0 = ad 5 0 → Inv t1 σ1 → LH D Z E ad1 bb s t1 σ1 H1 locs1 → W p l e room_1 s m #[Value.ref b] below meth c H1 locs1 (cells + 1170) (slots + 14200) Q (F0 m 1258 ls [])) : W p l e room_1 s m #[Value.ref b] below meth c H locs cells slots Q (F0 m 614 ls []) := by
  obtain ⟨⟨hx, hb, hml, hown, hts⟩, hK⟩ := id C
  refine lv_aload_n hx hb dL_law_614 rfl (lv_at hl 1 rfl) ?_
  refine lv_aload_n hx hb dL_law_615 rfl (lv_at hl 0 rfl) ?_
  refine lv_iload_n hx hb dL_law_616 rfl (lv_at hl 3 rfl) ?_
  refine lv_iconst (v := 1) hx hb dL_law_617 (by decide) ?_
  refine lv_iadd hx hb dL_law_618 ?_
  refine lsld hx hb hX hbl hH.S hL 1 (by decide) (by omega) dL_law_619 ?_
  refine lcC C hH (B := fun A' => cPost D Z E ad A') toN [.int (xs (i + 1))] (c_C_end l D Z E ad t (xs (i + 1)) _ hst) (cwTV 1 hts wd_491 wd_492 wd_493 wd_1 wd_494 rfl rfl (by decide +kernel) ⟨Nat.le_of_ble_eq_true rfl, Nat.le_of_ble_eq_true rfl⟩) rfl hl.1 rfl (Nat.le_of_ble_eq_true rfl) dL_law_620 ⟨(show cells + 0 ≤ 600000 by omega), (show slots + 0 ≤ 7302250 by omega)⟩ (fun r t1 ad1 H locs hst had hH => ?_)
  refine lv_aload_n hx hb dL_law_623 rfl (lv_at hl 2 rfl) ?_
  refine lv_aload_n hx hb dL_law_624 rfl (lv_at hl 0 rfl) ?_
  refine lv_iload_n hx hb dL_law_625 rfl (lv_at hl 3 rfl) ?_
  refine lv_iconst (v := 1) hx hb dL_law_626 (by decide) ?_
  refine lv_iadd hx hb dL_law_627 ?_
  refine lsld hx hb hX hbl hH.S hL 1 (by decide) (by omega) dL_law_628 ?_
  refine lcM C hH [.int (xs (i + 1))] (c_M_end l D Z bb σ (xs (i + 1)) _ hst) (cwTV 1 hts wd_1334 wd_1335 wd_1336 wd_14 wd_1337 rfl rfl (by decide +kernel) ⟨Nat.le_of_ble_eq_true rfl, Nat.le_of_ble_eq_true rfl⟩) rfl hl.1 rfl (Nat.le_of_ble_eq_true rfl) dL_law_629 ⟨(show cells + 0 ≤ 600000 by omega), (show slots + 0 ≤ 7302250 by omega)⟩ (fun r2 σ1 H locs hst hH => ?_)
  refine lv_icmp_eq (tgt := 1258) hx hb dL_law_632 (by decide) (fun _ => ?_) (fun q => absurd hst.1 q)
  exact W.widen (k := cells + 1170) (n := slots + 14200) (by omega) (by omega) (hcont t1 σ1 ad1 H locs had hst.2 hH)
set_option maxHeartbeats 4000000 in
set_option maxRecDepth 100000 in
theorem law_case_13 {p : Program} {l : Launch} {e : Env} {s : State} {m : MethodId} {below : List Frame} {meth : Method} {c : Code} {D : va_G} {Z : Nat → ClassId} {E : Nat → Nat} {ad : Nat → Nat → Nat} {bb : Nat → Nat} {b L : Nat} {xs : Nat → Int32} {t : CS} {σ : MS} {H : Heap} {locs : List Loc} {cells slots : Nat} {ls : Array Slot} {i : Nat} {Q : State → Prop} {Inv : CS → MS → Prop} (C : CC p s m #[Value.ref b] c code 4 RL D Z E (lA s)) (hX : va_X b L xs s s.heap) (hbl : b < s.heap.size) (hL : L ≤ 3072) (hi : i + 6 ≤ L) (hst : wp_C_law 1170 14200 t (xs (i + 1)) (xs (i + 2)) (xs (i + 3)) (fun v t1 => wp_M_law σ (xs (i + 1)) (xs (i + 2)) (xs (i + 3)) (fun w σ1 => v = w ∧ Inv t1 σ1))) (hH : LH D Z E ad bb s t σ H locs) (hl : lv_has ls 4 [(0, .ref b), (1, .ref (ad 5 0)), (2, .ref (bb 69)), (3, .int (nI i))]) (hc : cells + 1170 ≤ 600000 ∧ slots + 14200 ≤ 7302250) (hcont : ∀ (t1 : CS) (σ1 : MS) (ad1 : Nat → Nat → Nat) (H1 : Heap) (locs1 : List Loc), ad1 5 0 = ad 5 0 → Inv t1 σ1 → LH D Z E ad1 bb s t1 σ1 H1 locs1 → W p l e room_1 s m #[Value.ref b] below meth c H1 locs1 (cells + 1170) (slots + 14200) Q (F0 m 1258 ls [])) : W p l e room_1 s m #[Value.ref b] below meth c H locs cells slots Q (F0 m 637 ls []) := by
  obtain ⟨⟨hx, hb, hml, hown, hts⟩, hK⟩ := id C
  refine lv_aload_n hx hb dL_law_637 rfl (lv_at hl 1 rfl) ?_
  refine lv_aload_n hx hb dL_law_638 rfl (lv_at hl 0 rfl) ?_
  refine lv_iload_n hx hb dL_law_639 rfl (lv_at hl 3 rfl) ?_
  refine lv_iconst (v := 1) hx hb dL_law_640 (by decide) ?_
  refine lv_iadd hx hb dL_law_641 ?_
  refine lsld hx hb hX hbl hH.S hL 1 (by decide) (by omega) dL_law_642 ?_
  refine lv_aload_n hx hb dL_law_643 rfl (lv_at hl 0 rfl) ?_
  refine lv_iload_n hx hb dL_law_644 rfl (lv_at hl 3 rfl) ?_
  refine lv_iconst (v := 2) hx hb dL_law_645 (by decide) ?_
  refine lv_iadd hx hb dL_law_646 ?_
  refine lsld hx hb hX hbl hH.S hL 2 (by decide) (by omega) dL_law_647 ?_
  refine lv_aload_n hx hb dL_law_648 rfl (lv_at hl 0 rfl) ?_
  refine lv_iload_n hx hb dL_law_649 rfl (lv_at hl 3 rfl) ?_
  refine lv_iconst (v := 3) hx hb dL_law_650 (by decide) ?_
  refine lv_iadd hx hb dL_law_651 ?_
  refine lsld hx hb hX hbl hH.S hL 3 (by decide) (by omega) dL_law_652 ?_
  refine lcC C hH (B := fun A' => cPostN D Z E (ad 5 0) A') (fun _ _ _ h => h) [.int (xs (i + 1)), .int (xs (i + 2)), .int (xs (i + 3))] (c_C_law l D Z E ad 1170 14200 t (xs (i + 1)) (xs (i + 2)) (xs (i + 3)) _ hst) (cwTV 3 hts wd_495 wd_496 wd_497 wd_1 wd_498 rfl rfl (by decide +kernel) ⟨Nat.le_of_ble_eq_true rfl, Nat.le_of_ble_eq_true rfl⟩) rfl hl.1 rfl (Nat.le_of_ble_eq_true rfl) dL_law_653 hc (fun r t1 ad1 H locs hst had hH => ?_)
  refine lv_aload_n hx hb dL_law_656 rfl (lv_at hl 2 rfl) ?_
  refine lv_aload_n hx hb dL_law_657 rfl (lv_at hl 0 rfl) ?_
  refine lv_iload_n hx hb dL_law_658 rfl (lv_at hl 3 rfl) ?_
  refine lv_iconst (v := 1) hx hb dL_law_659 (by decide) ?_
  refine lv_iadd hx hb dL_law_660 ?_
  refine lsld hx hb hX hbl hH.S hL 1 (by decide) (by omega) dL_law_661 ?_
  refine lv_aload_n hx hb dL_law_662 rfl (lv_at hl 0 rfl) ?_
  refine lv_iload_n hx hb dL_law_663 rfl (lv_at hl 3 rfl) ?_
  refine lv_iconst (v := 2) hx hb dL_law_664 (by decide) ?_
  refine lv_iadd hx hb dL_law_665 ?_
  refine lsld hx hb hX hbl hH.S hL 2 (by decide) (by omega) dL_law_666 ?_
  refine lv_aload_n hx hb dL_law_667 rfl (lv_at hl 0 rfl) ?_
  refine lv_iload_n hx hb dL_law_668 rfl (lv_at hl 3 rfl) ?_
  refine lv_iconst (v := 3) hx hb dL_law_669 (by decide) ?_
  refine lv_iadd hx hb dL_law_670 ?_
  refine lsld hx hb hX hbl hH.S hL 3 (by decide) (by omega) dL_law_671 ?_
  refine lcM C hH [.int (xs (i + 1)), .int (xs (i + 2)), .int (xs (i + 3))] (c_M_law l D Z bb σ (xs (i + 1)) (xs (i + 2)) (xs (i + 3)) _ hst) (cwTV 3 hts wd_1338 wd_1339 wd_1340 wd_14 wd_1341 rfl rfl (by decide +kernel) ⟨Nat.le_of_ble_eq_true rfl, Nat.le_of_ble_eq_true rfl⟩) rfl hl.1 rfl (Nat.le_of_ble_eq_true rfl) dL_law_672 hc (fun r2 σ1 H locs hst hH => ?_)
  refine lv_icmp_eq (tgt := 1258) hx hb dL_law_675 (by decide) (fun _ => ?_) (fun q => absurd hst.1 q)
  exact W.widen (k := cells + 1170) (n := slots + 14200) (by omega) (by omega) (hcont t1 σ1 ad1 H locs had hst.2 hH)
set_option maxHeartbeats 4000000 in
set_option maxRecDepth 100000 in
theorem law_case_14 {p : Program} {l : Launch} {e : Env} {s : State} {m : MethodId} {below : List Frame} {meth : Method} {c : Code} {D : va_G} {Z : Nat → ClassId} {E : Nat → Nat} {ad : Nat → Nat → Nat} {bb : Nat → Nat} {b L : Nat} {xs : Nat → Int32} {t : CS} {σ : MS} {H : Heap} {locs : List Loc} {cells slots : Nat} {ls : Array Slot} {i : Nat} {Q : State → Prop} {Inv : CS → MS → Prop} (C : CC p s m #[Value.ref b] c code 4 RL D Z E (lA s)) (hX : va_X b L xs s s.heap) (hbl : b < s.heap.size) (hL : L ≤ 3072) (hi : i + 6 ≤ L) (hst : wp_C_inForce t (xs (i + 1)) (xs (i + 2)) (xs (i + 3)) (xs (i + 4)) (fun v t1 => wp_M_inForce σ (xs (i + 1)) (xs (i + 2)) (xs (i + 3)) (xs (i + 4)) (fun w σ1 => v = w ∧ Inv t1 σ1))) (hH : LH D Z E ad bb s t σ H locs) (hl : lv_has ls 4 [(0, .ref b), (1, .ref (ad 5 0)), (2, .ref (bb 69)), (3, .int (nI i))]) (hc : cells + 1170 ≤ 600000 ∧ slots + 14200 ≤ 7302250) (hcont : ∀ (t1 : CS) (σ1 : MS) (ad1 : Nat → Nat → Nat) (H1 : Heap) (locs1 : List Loc), ad1 5 0 = ad 5 0 → Inv t1 σ1 → LH D Z E ad1 bb s t1 σ1 H1 locs1 → W p l e room_1 s m #[Value.ref b] below meth c H1 locs1 (cells + 1170) (slots + 14200) Q (F0 m 1258 ls [])) : W p l e room_1 s m #[Value.ref b] below meth c H locs cells slots Q (F0 m 680 ls []) := by
  obtain ⟨⟨hx, hb, hml, hown, hts⟩, hK⟩ := id C
  refine lv_aload_n hx hb dL_law_680 rfl (lv_at hl 1 rfl) ?_
  refine lv_aload_n hx hb dL_law_681 rfl (lv_at hl 0 rfl) ?_
  refine lv_iload_n hx hb dL_law_682 rfl (lv_at hl 3 rfl) ?_
  refine lv_iconst (v := 1) hx hb dL_law_683 (by decide) ?_
  refine lv_iadd hx hb dL_law_684 ?_
  refine lsld hx hb hX hbl hH.S hL 1 (by decide) (by omega) dL_law_685 ?_
  refine lv_aload_n hx hb dL_law_686 rfl (lv_at hl 0 rfl) ?_
  refine lv_iload_n hx hb dL_law_687 rfl (lv_at hl 3 rfl) ?_
  refine lv_iconst (v := 2) hx hb dL_law_688 (by decide) ?_
  refine lv_iadd hx hb dL_law_689 ?_
  refine lsld hx hb hX hbl hH.S hL 2 (by decide) (by omega) dL_law_690 ?_
  refine lv_aload_n hx hb dL_law_691 rfl (lv_at hl 0 rfl) ?_
  refine lv_iload_n hx hb dL_law_692 rfl (lv_at hl 3 rfl) ?_
  refine lv_iconst (v := 3) hx hb dL_law_693 (by decide) ?_
  refine lv_iadd hx hb dL_law_694 ?_
  refine lsld hx hb hX hbl hH.S hL 3 (by decide) (by omega) dL_law_695 ?_
  refine lv_aload_n hx hb dL_law_696 rfl (lv_at hl 0 rfl) ?_
  refine lv_iload_n hx hb dL_law_697 rfl (lv_at hl 3 rfl) ?_
  refine lv_iconst (v := 4) hx hb dL_law_698 (by decide) ?_
  refine lv_iadd hx hb dL_law_699 ?_
  refine lsld hx hb hX hbl hH.S hL 4 (by decide) (by omega) dL_law_700 ?_
  refine lcC C hH (B := fun A' => cPost D Z E ad A') toN [.int (xs (i + 1)), .int (xs (i + 2)), .int (xs (i + 3)), .int (xs (i + 4))] (c_C_inForce l D Z E ad t (xs (i + 1)) (xs (i + 2)) (xs (i + 3)) (xs (i + 4)) _ hst) (cwTV 4 hts wd_686 wd_687 wd_688 wd_1 wd_689 rfl rfl (by decide +kernel) ⟨Nat.le_of_ble_eq_true rfl, Nat.le_of_ble_eq_true rfl⟩) rfl hl.1 rfl (Nat.le_of_ble_eq_true rfl) dL_law_701 ⟨(show cells + 0 ≤ 600000 by omega), (show slots + 0 ≤ 7302250 by omega)⟩ (fun r t1 ad1 H locs hst had hH => ?_)
  refine lv_aload_n hx hb dL_law_704 rfl (lv_at hl 2 rfl) ?_
  refine lv_aload_n hx hb dL_law_705 rfl (lv_at hl 0 rfl) ?_
  refine lv_iload_n hx hb dL_law_706 rfl (lv_at hl 3 rfl) ?_
  refine lv_iconst (v := 1) hx hb dL_law_707 (by decide) ?_
  refine lv_iadd hx hb dL_law_708 ?_
  refine lsld hx hb hX hbl hH.S hL 1 (by decide) (by omega) dL_law_709 ?_
  refine lv_aload_n hx hb dL_law_710 rfl (lv_at hl 0 rfl) ?_
  refine lv_iload_n hx hb dL_law_711 rfl (lv_at hl 3 rfl) ?_
  refine lv_iconst (v := 2) hx hb dL_law_712 (by decide) ?_
  refine lv_iadd hx hb dL_law_713 ?_
  refine lsld hx hb hX hbl hH.S hL 2 (by decide) (by omega) dL_law_714 ?_
  refine lv_aload_n hx hb dL_law_715 rfl (lv_at hl 0 rfl) ?_
  refine lv_iload_n hx hb dL_law_716 rfl (lv_at hl 3 rfl) ?_
  refine lv_iconst (v := 3) hx hb dL_law_717 (by decide) ?_
  refine lv_iadd hx hb dL_law_718 ?_
  refine lsld hx hb hX hbl hH.S hL 3 (by decide) (by omega) dL_law_719 ?_
  refine lv_aload_n hx hb dL_law_720 rfl (lv_at hl 0 rfl) ?_
  refine lv_iload_n hx hb dL_law_721 rfl (lv_at hl 3 rfl) ?_
  refine lv_iconst (v := 4) hx hb dL_law_722 (by decide) ?_
  refine lv_iadd hx hb dL_law_723 ?_
  refine lsld hx hb hX hbl hH.S hL 4 (by decide) (by omega) dL_law_724 ?_
  refine lcM C hH [.int (xs (i + 1)), .int (xs (i + 2)), .int (xs (i + 3)), .int (xs (i + 4))] (c_M_inForce l D Z bb σ (xs (i + 1)) (xs (i + 2)) (xs (i + 3)) (xs (i + 4)) _ hst) (cwTV 4 hts wd_1409 wd_1410 wd_1411 wd_14 wd_1412 rfl rfl (by decide +kernel) ⟨Nat.le_of_ble_eq_true rfl, Nat.le_of_ble_eq_true rfl⟩) rfl hl.1 rfl (Nat.le_of_ble_eq_true rfl) dL_law_725 ⟨(show cells + 0 ≤ 600000 by omega), (show slots + 0 ≤ 7302250 by omega)⟩ (fun r2 σ1 H locs hst hH => ?_)
  refine lv_icmp_eq (tgt := 1258) hx hb dL_law_728 (by decide) (fun _ => ?_) (fun q => absurd hst.1 q)
  exact W.widen (k := cells + 1170) (n := slots + 14200) (by omega) (by omega) (hcont t1 σ1 ad1 H locs had hst.2 hH)
set_option maxHeartbeats 4000000 in
set_option maxRecDepth 100000 in
theorem law_case_15 {p : Program} {l : Launch} {e : Env} {s : State} {m : MethodId} {below : List Frame} {meth : Method} {c : Code} {D : va_G} {Z : Nat → ClassId} {E : Nat → Nat} {ad : Nat → Nat → Nat} {bb : Nat → Nat} {b L : Nat} {xs : Nat → Int32} {t : CS} {σ : MS} {H : Heap} {locs : List Loc} {cells slots : Nat} {ls : Array Slot} {i : Nat} {Q : State → Prop} {Inv : CS → MS → Prop} (C : CC p s m #[Value.ref b] c code 4 RL D Z E (lA s)) (hX : va_X b L xs s s.heap) (hbl : b < s.heap.size) (hL : L ≤ 3072) (hi : i + 6 ≤ L) (hst : wp_C_says t (xs (i + 1)) (xs (i + 2)) (xs (i + 3)) (xs (i + 4)) (fun v t1 => wp_M_says σ (xs (i + 1)) (xs (i + 2)) (xs (i + 3)) (xs (i + 4)) (fun w σ1 => v = w ∧ Inv t1 σ1))) (hH : LH D Z E ad bb s t σ H locs) (hl : lv_has ls 4 [(0, .ref b), (1, .ref (ad 5 0)), (2, .ref (bb 69)), (3, .int (nI i))]) (hc : cells + 1170 ≤ 600000 ∧ slots + 14200 ≤ 7302250) (hcont : ∀ (t1 : CS) (σ1 : MS) (ad1 : Nat → Nat → Nat) (H1 : Heap) (locs1 : List Loc), ad1 5 0 = ad 5 0 → Inv t1 σ1 → LH D Z E ad1 bb s t1 σ1 H1 locs1 → W p l e room_1 s m #[Value.ref b] below meth c H1 locs1 (cells + 1170) (slots + 14200) Q (F0 m 1258 ls [])) : W p l e room_1 s m #[Value.ref b] below meth c H locs cells slots Q (F0 m 733 ls []) := by
  obtain ⟨⟨hx, hb, hml, hown, hts⟩, hK⟩ := id C
  refine lv_aload_n hx hb dL_law_733 rfl (lv_at hl 1 rfl) ?_
  refine lv_aload_n hx hb dL_law_734 rfl (lv_at hl 0 rfl) ?_
  refine lv_iload_n hx hb dL_law_735 rfl (lv_at hl 3 rfl) ?_
  refine lv_iconst (v := 1) hx hb dL_law_736 (by decide) ?_
  refine lv_iadd hx hb dL_law_737 ?_
  refine lsld hx hb hX hbl hH.S hL 1 (by decide) (by omega) dL_law_738 ?_
  refine lv_aload_n hx hb dL_law_739 rfl (lv_at hl 0 rfl) ?_
  refine lv_iload_n hx hb dL_law_740 rfl (lv_at hl 3 rfl) ?_
  refine lv_iconst (v := 2) hx hb dL_law_741 (by decide) ?_
  refine lv_iadd hx hb dL_law_742 ?_
  refine lsld hx hb hX hbl hH.S hL 2 (by decide) (by omega) dL_law_743 ?_
  refine lv_aload_n hx hb dL_law_744 rfl (lv_at hl 0 rfl) ?_
  refine lv_iload_n hx hb dL_law_745 rfl (lv_at hl 3 rfl) ?_
  refine lv_iconst (v := 3) hx hb dL_law_746 (by decide) ?_
  refine lv_iadd hx hb dL_law_747 ?_
  refine lsld hx hb hX hbl hH.S hL 3 (by decide) (by omega) dL_law_748 ?_
  refine lv_aload_n hx hb dL_law_749 rfl (lv_at hl 0 rfl) ?_
  refine lv_iload_n hx hb dL_law_750 rfl (lv_at hl 3 rfl) ?_
  refine lv_iconst (v := 4) hx hb dL_law_751 (by decide) ?_
  refine lv_iadd hx hb dL_law_752 ?_
  refine lsld hx hb hX hbl hH.S hL 4 (by decide) (by omega) dL_law_753 ?_
  refine lcC C hH (B := fun A' => cPost D Z E ad A') toN [.int (xs (i + 1)), .int (xs (i + 2)), .int (xs (i + 3)), .int (xs (i + 4))] (c_C_says l D Z E ad t (xs (i + 1)) (xs (i + 2)) (xs (i + 3)) (xs (i + 4)) _ hst) (cwTV 4 hts wd_694 wd_695 wd_696 wd_1 wd_697 rfl rfl (by decide +kernel) ⟨Nat.le_of_ble_eq_true rfl, Nat.le_of_ble_eq_true rfl⟩) rfl hl.1 rfl (Nat.le_of_ble_eq_true rfl) dL_law_754 ⟨(show cells + 0 ≤ 600000 by omega), (show slots + 0 ≤ 7302250 by omega)⟩ (fun r t1 ad1 H locs hst had hH => ?_)
  refine lv_aload_n hx hb dL_law_757 rfl (lv_at hl 2 rfl) ?_
  refine lv_aload_n hx hb dL_law_758 rfl (lv_at hl 0 rfl) ?_
  refine lv_iload_n hx hb dL_law_759 rfl (lv_at hl 3 rfl) ?_
  refine lv_iconst (v := 1) hx hb dL_law_760 (by decide) ?_
  refine lv_iadd hx hb dL_law_761 ?_
  refine lsld hx hb hX hbl hH.S hL 1 (by decide) (by omega) dL_law_762 ?_
  refine lv_aload_n hx hb dL_law_763 rfl (lv_at hl 0 rfl) ?_
  refine lv_iload_n hx hb dL_law_764 rfl (lv_at hl 3 rfl) ?_
  refine lv_iconst (v := 2) hx hb dL_law_765 (by decide) ?_
  refine lv_iadd hx hb dL_law_766 ?_
  refine lsld hx hb hX hbl hH.S hL 2 (by decide) (by omega) dL_law_767 ?_
  refine lv_aload_n hx hb dL_law_768 rfl (lv_at hl 0 rfl) ?_
  refine lv_iload_n hx hb dL_law_769 rfl (lv_at hl 3 rfl) ?_
  refine lv_iconst (v := 3) hx hb dL_law_770 (by decide) ?_
  refine lv_iadd hx hb dL_law_771 ?_
  refine lsld hx hb hX hbl hH.S hL 3 (by decide) (by omega) dL_law_772 ?_
  refine lv_aload_n hx hb dL_law_773 rfl (lv_at hl 0 rfl) ?_
  refine lv_iload_n hx hb dL_law_774 rfl (lv_at hl 3 rfl) ?_
  refine lv_iconst (v := 4) hx hb dL_law_775 (by decide) ?_
  refine lv_iadd hx hb dL_law_776 ?_
  refine lsld hx hb hX hbl hH.S hL 4 (by decide) (by omega) dL_law_777 ?_
  refine lcM C hH [.int (xs (i + 1)), .int (xs (i + 2)), .int (xs (i + 3)), .int (xs (i + 4))] (c_M_says l D Z bb σ (xs (i + 1)) (xs (i + 2)) (xs (i + 3)) (xs (i + 4)) _ hst) (cwTV 4 hts wd_1417 wd_1418 wd_1419 wd_14 wd_1420 rfl rfl (by decide +kernel) ⟨Nat.le_of_ble_eq_true rfl, Nat.le_of_ble_eq_true rfl⟩) rfl hl.1 rfl (Nat.le_of_ble_eq_true rfl) dL_law_778 ⟨(show cells + 0 ≤ 600000 by omega), (show slots + 0 ≤ 7302250 by omega)⟩ (fun r2 σ1 H locs hst hH => ?_)
  refine lv_icmp_eq (tgt := 1258) hx hb dL_law_781 (by decide) (fun _ => ?_) (fun q => absurd hst.1 q)
  exact W.widen (k := cells + 1170) (n := slots + 14200) (by omega) (by omega) (hcont t1 σ1 ad1 H locs had hst.2 hH)
set_option maxHeartbeats 4000000 in
set_option maxRecDepth 100000 in
theorem law_case_16 {p : Program} {l : Launch} {e : Env} {s : State} {m : MethodId} {below : List Frame} {meth : Method} {c : Code} {D : va_G} {Z : Nat → ClassId} {E : Nat → Nat} {ad : Nat → Nat → Nat} {bb : Nat → Nat} {b L : Nat} {xs : Nat → Int32} {t : CS} {σ : MS} {H : Heap} {locs : List Loc} {cells slots : Nat} {ls : Array Slot} {i : Nat} {Q : State → Prop} {Inv : CS → MS → Prop} (C : CC p s m #[Value.ref b] c code 4 RL D Z E (lA s)) (hX : va_X b L xs s s.heap) (hbl : b < s.heap.size) (hL : L ≤ 3072) (hi : i + 6 ≤ L) (hst : wp_C_load 1170 14200 t (xs (i + 1)) (xs (i + 2)) (xs (i + 3)) (xs (i + 4)) (fun v t1 => wp_M_load σ (xs (i + 1)) (xs (i + 2)) (xs (i + 3)) (xs (i + 4)) (fun w σ1 => v = w ∧ Inv t1 σ1))) (hH : LH D Z E ad bb s t σ H locs) (hl : lv_has ls 4 [(0, .ref b), (1, .ref (ad 5 0)), (2, .ref (bb 69)), (3, .int (nI i))]) (hc : cells + 1170 ≤ 600000 ∧ slots + 14200 ≤ 7302250) (hcont : ∀ (t1 : CS) (σ1 : MS) (ad1 : Nat → Nat → Nat) (H1 : Heap) (locs1 : List Loc), ad1 5 0 = ad 5 0 → Inv t1 σ1 → LH D Z E ad1 bb s t1 σ1 H1 locs1 → W p l e room_1 s m #[Value.ref b] below meth c H1 locs1 (cells + 1170) (slots + 14200) Q (F0 m 1258 ls [])) : W p l e room_1 s m #[Value.ref b] below meth c H locs cells slots Q (F0 m 786 ls []) := by
  obtain ⟨⟨hx, hb, hml, hown, hts⟩, hK⟩ := id C
  refine lv_aload_n hx hb dL_law_786 rfl (lv_at hl 1 rfl) ?_
  refine lv_aload_n hx hb dL_law_787 rfl (lv_at hl 0 rfl) ?_
  refine lv_iload_n hx hb dL_law_788 rfl (lv_at hl 3 rfl) ?_
  refine lv_iconst (v := 1) hx hb dL_law_789 (by decide) ?_
  refine lv_iadd hx hb dL_law_790 ?_
  refine lsld hx hb hX hbl hH.S hL 1 (by decide) (by omega) dL_law_791 ?_
  refine lv_aload_n hx hb dL_law_792 rfl (lv_at hl 0 rfl) ?_
  refine lv_iload_n hx hb dL_law_793 rfl (lv_at hl 3 rfl) ?_
  refine lv_iconst (v := 2) hx hb dL_law_794 (by decide) ?_
  refine lv_iadd hx hb dL_law_795 ?_
  refine lsld hx hb hX hbl hH.S hL 2 (by decide) (by omega) dL_law_796 ?_
  refine lv_aload_n hx hb dL_law_797 rfl (lv_at hl 0 rfl) ?_
  refine lv_iload_n hx hb dL_law_798 rfl (lv_at hl 3 rfl) ?_
  refine lv_iconst (v := 3) hx hb dL_law_799 (by decide) ?_
  refine lv_iadd hx hb dL_law_800 ?_
  refine lsld hx hb hX hbl hH.S hL 3 (by decide) (by omega) dL_law_801 ?_
  refine lv_aload_n hx hb dL_law_802 rfl (lv_at hl 0 rfl) ?_
  refine lv_iload_n hx hb dL_law_803 rfl (lv_at hl 3 rfl) ?_
  refine lv_iconst (v := 4) hx hb dL_law_804 (by decide) ?_
  refine lv_iadd hx hb dL_law_805 ?_
  refine lsld hx hb hX hbl hH.S hL 4 (by decide) (by omega) dL_law_806 ?_
  refine lcC C hH (B := fun A' => cPostN D Z E (ad 5 0) A') (fun _ _ _ h => h) [.int (xs (i + 1)), .int (xs (i + 2)), .int (xs (i + 3)), .int (xs (i + 4))] (c_C_load l D Z E ad 1170 14200 t (xs (i + 1)) (xs (i + 2)) (xs (i + 3)) (xs (i + 4)) _ hst) (cwTV 4 hts wd_765 wd_766 wd_767 wd_1 wd_768 rfl rfl (by decide +kernel) ⟨Nat.le_of_ble_eq_true rfl, Nat.le_of_ble_eq_true rfl⟩) rfl hl.1 rfl (Nat.le_of_ble_eq_true rfl) dL_law_807 hc (fun r t1 ad1 H locs hst had hH => ?_)
  refine lv_aload_n hx hb dL_law_810 rfl (lv_at hl 2 rfl) ?_
  refine lv_aload_n hx hb dL_law_811 rfl (lv_at hl 0 rfl) ?_
  refine lv_iload_n hx hb dL_law_812 rfl (lv_at hl 3 rfl) ?_
  refine lv_iconst (v := 1) hx hb dL_law_813 (by decide) ?_
  refine lv_iadd hx hb dL_law_814 ?_
  refine lsld hx hb hX hbl hH.S hL 1 (by decide) (by omega) dL_law_815 ?_
  refine lv_aload_n hx hb dL_law_816 rfl (lv_at hl 0 rfl) ?_
  refine lv_iload_n hx hb dL_law_817 rfl (lv_at hl 3 rfl) ?_
  refine lv_iconst (v := 2) hx hb dL_law_818 (by decide) ?_
  refine lv_iadd hx hb dL_law_819 ?_
  refine lsld hx hb hX hbl hH.S hL 2 (by decide) (by omega) dL_law_820 ?_
  refine lv_aload_n hx hb dL_law_821 rfl (lv_at hl 0 rfl) ?_
  refine lv_iload_n hx hb dL_law_822 rfl (lv_at hl 3 rfl) ?_
  refine lv_iconst (v := 3) hx hb dL_law_823 (by decide) ?_
  refine lv_iadd hx hb dL_law_824 ?_
  refine lsld hx hb hX hbl hH.S hL 3 (by decide) (by omega) dL_law_825 ?_
  refine lv_aload_n hx hb dL_law_826 rfl (lv_at hl 0 rfl) ?_
  refine lv_iload_n hx hb dL_law_827 rfl (lv_at hl 3 rfl) ?_
  refine lv_iconst (v := 4) hx hb dL_law_828 (by decide) ?_
  refine lv_iadd hx hb dL_law_829 ?_
  refine lsld hx hb hX hbl hH.S hL 4 (by decide) (by omega) dL_law_830 ?_
  refine lcM C hH [.int (xs (i + 1)), .int (xs (i + 2)), .int (xs (i + 3)), .int (xs (i + 4))] (c_M_load l D Z bb σ (xs (i + 1)) (xs (i + 2)) (xs (i + 3)) (xs (i + 4)) _ hst) (cwTV 4 hts wd_1445 wd_1446 wd_1447 wd_14 wd_1448 rfl rfl (by decide +kernel) ⟨Nat.le_of_ble_eq_true rfl, Nat.le_of_ble_eq_true rfl⟩) rfl hl.1 rfl (Nat.le_of_ble_eq_true rfl) dL_law_831 hc (fun r2 σ1 H locs hst hH => ?_)
  refine lv_icmp_eq (tgt := 1258) hx hb dL_law_834 (by decide) (fun _ => ?_) (fun q => absurd hst.1 q)
  exact W.widen (k := cells + 1170) (n := slots + 14200) (by omega) (by omega) (hcont t1 σ1 ad1 H locs had hst.2 hH)
set_option maxHeartbeats 4000000 in
set_option maxRecDepth 100000 in
theorem law_case_17 {p : Program} {l : Launch} {e : Env} {s : State} {m : MethodId} {below : List Frame} {meth : Method} {c : Code} {D : va_G} {Z : Nat → ClassId} {E : Nat → Nat} {ad : Nat → Nat → Nat} {bb : Nat → Nat} {b L : Nat} {xs : Nat → Int32} {t : CS} {σ : MS} {H : Heap} {locs : List Loc} {cells slots : Nat} {ls : Array Slot} {i : Nat} {Q : State → Prop} {Inv : CS → MS → Prop} (C : CC p s m #[Value.ref b] c code 4 RL D Z E (lA s)) (hX : va_X b L xs s s.heap) (hbl : b < s.heap.size) (hL : L ≤ 3072) (hi : i + 6 ≤ L) (hst : wp_C_whose t (xs (i + 1)) (fun v t1 => wp_M_whose σ (xs (i + 1)) (fun w σ1 => v = w ∧ Inv t1 σ1))) (hH : LH D Z E ad bb s t σ H locs) (hl : lv_has ls 4 [(0, .ref b), (1, .ref (ad 5 0)), (2, .ref (bb 69)), (3, .int (nI i))]) (hc : cells + 1170 ≤ 600000 ∧ slots + 14200 ≤ 7302250) (hcont : ∀ (t1 : CS) (σ1 : MS) (ad1 : Nat → Nat → Nat) (H1 : Heap) (locs1 : List Loc), ad1 5 0 = ad 5 0 → Inv t1 σ1 → LH D Z E ad1 bb s t1 σ1 H1 locs1 → W p l e room_1 s m #[Value.ref b] below meth c H1 locs1 (cells + 1170) (slots + 14200) Q (F0 m 1258 ls [])) : W p l e room_1 s m #[Value.ref b] below meth c H locs cells slots Q (F0 m 839 ls []) := by
  obtain ⟨⟨hx, hb, hml, hown, hts⟩, hK⟩ := id C
  refine lv_aload_n hx hb dL_law_839 rfl (lv_at hl 1 rfl) ?_
  refine lv_aload_n hx hb dL_law_840 rfl (lv_at hl 0 rfl) ?_
  refine lv_iload_n hx hb dL_law_841 rfl (lv_at hl 3 rfl) ?_
  refine lv_iconst (v := 1) hx hb dL_law_842 (by decide) ?_
  refine lv_iadd hx hb dL_law_843 ?_
  refine lsld hx hb hX hbl hH.S hL 1 (by decide) (by omega) dL_law_844 ?_
  refine lcC C hH (B := fun A' => cPost D Z E ad A') toN [.int (xs (i + 1))] (c_C_whose l D Z E ad t (xs (i + 1)) _ hst) (cwTV 1 hts wd_855 wd_856 wd_857 wd_1 wd_858 rfl rfl (by decide +kernel) ⟨Nat.le_of_ble_eq_true rfl, Nat.le_of_ble_eq_true rfl⟩) rfl hl.1 rfl (Nat.le_of_ble_eq_true rfl) dL_law_845 ⟨(show cells + 0 ≤ 600000 by omega), (show slots + 0 ≤ 7302250 by omega)⟩ (fun r t1 ad1 H locs hst had hH => ?_)
  refine lv_aload_n hx hb dL_law_848 rfl (lv_at hl 2 rfl) ?_
  refine lv_aload_n hx hb dL_law_849 rfl (lv_at hl 0 rfl) ?_
  refine lv_iload_n hx hb dL_law_850 rfl (lv_at hl 3 rfl) ?_
  refine lv_iconst (v := 1) hx hb dL_law_851 (by decide) ?_
  refine lv_iadd hx hb dL_law_852 ?_
  refine lsld hx hb hX hbl hH.S hL 1 (by decide) (by omega) dL_law_853 ?_
  refine lcM C hH [.int (xs (i + 1))] (c_M_whose l D Z bb σ (xs (i + 1)) _ hst) (cwTV 1 hts wd_1450 wd_1451 wd_1452 wd_14 wd_1453 rfl rfl (by decide +kernel) ⟨Nat.le_of_ble_eq_true rfl, Nat.le_of_ble_eq_true rfl⟩) rfl hl.1 rfl (Nat.le_of_ble_eq_true rfl) dL_law_854 ⟨(show cells + 0 ≤ 600000 by omega), (show slots + 0 ≤ 7302250 by omega)⟩ (fun r2 σ1 H locs hst hH => ?_)
  refine lv_icmp_eq (tgt := 1258) hx hb dL_law_857 (by decide) (fun _ => ?_) (fun q => absurd hst.1 q)
  exact W.widen (k := cells + 1170) (n := slots + 14200) (by omega) (by omega) (hcont t1 σ1 ad1 H locs had hst.2 hH)
set_option maxHeartbeats 4000000 in
set_option maxRecDepth 100000 in
theorem law_case_18 {p : Program} {l : Launch} {e : Env} {s : State} {m : MethodId} {below : List Frame} {meth : Method} {c : Code} {D : va_G} {Z : Nat → ClassId} {E : Nat → Nat} {ad : Nat → Nat → Nat} {bb : Nat → Nat} {b L : Nat} {xs : Nat → Int32} {t : CS} {σ : MS} {H : Heap} {locs : List Loc} {cells slots : Nat} {ls : Array Slot} {i : Nat} {Q : State → Prop} {Inv : CS → MS → Prop} (C : CC p s m #[Value.ref b] c code 4 RL D Z E (lA s)) (hX : va_X b L xs s s.heap) (hbl : b < s.heap.size) (hL : L ≤ 3072) (hi : i + 6 ≤ L) (hst : wp_C_why 1170 14200 t (xs (i + 1)) (xs (i + 2)) (fun v t1 => wp_M_why σ (xs (i + 1)) (xs (i + 2)) (fun w σ1 => v = w ∧ Inv t1 σ1))) (hH : LH D Z E ad bb s t σ H locs) (hl : lv_has ls 4 [(0, .ref b), (1, .ref (ad 5 0)), (2, .ref (bb 69)), (3, .int (nI i))]) (hc : cells + 1170 ≤ 600000 ∧ slots + 14200 ≤ 7302250) (hcont : ∀ (t1 : CS) (σ1 : MS) (ad1 : Nat → Nat → Nat) (H1 : Heap) (locs1 : List Loc), ad1 5 0 = ad 5 0 → Inv t1 σ1 → LH D Z E ad1 bb s t1 σ1 H1 locs1 → W p l e room_1 s m #[Value.ref b] below meth c H1 locs1 (cells + 1170) (slots + 14200) Q (F0 m 1258 ls [])) : W p l e room_1 s m #[Value.ref b] below meth c H locs cells slots Q (F0 m 862 ls []) := by
  obtain ⟨⟨hx, hb, hml, hown, hts⟩, hK⟩ := id C
  refine lv_aload_n hx hb dL_law_862 rfl (lv_at hl 1 rfl) ?_
  refine lv_aload_n hx hb dL_law_863 rfl (lv_at hl 0 rfl) ?_
  refine lv_iload_n hx hb dL_law_864 rfl (lv_at hl 3 rfl) ?_
  refine lv_iconst (v := 1) hx hb dL_law_865 (by decide) ?_
  refine lv_iadd hx hb dL_law_866 ?_
  refine lsld hx hb hX hbl hH.S hL 1 (by decide) (by omega) dL_law_867 ?_
  refine lv_aload_n hx hb dL_law_868 rfl (lv_at hl 0 rfl) ?_
  refine lv_iload_n hx hb dL_law_869 rfl (lv_at hl 3 rfl) ?_
  refine lv_iconst (v := 2) hx hb dL_law_870 (by decide) ?_
  refine lv_iadd hx hb dL_law_871 ?_
  refine lsld hx hb hX hbl hH.S hL 2 (by decide) (by omega) dL_law_872 ?_
  refine lcC C hH (B := fun A' => cPost D Z E ad A') toN [.int (xs (i + 1)), .int (xs (i + 2))] (c_C_why l D Z E ad 1170 14200 t (xs (i + 1)) (xs (i + 2)) _ hst) (cwTV 2 hts wd_863 wd_864 wd_865 wd_1 wd_866 rfl rfl (by decide +kernel) ⟨Nat.le_of_ble_eq_true rfl, Nat.le_of_ble_eq_true rfl⟩) rfl hl.1 rfl (Nat.le_of_ble_eq_true rfl) dL_law_873 hc (fun r t1 ad1 H locs hst had hH => ?_)
  refine lv_aload_n hx hb dL_law_876 rfl (lv_at hl 2 rfl) ?_
  refine lv_aload_n hx hb dL_law_877 rfl (lv_at hl 0 rfl) ?_
  refine lv_iload_n hx hb dL_law_878 rfl (lv_at hl 3 rfl) ?_
  refine lv_iconst (v := 1) hx hb dL_law_879 (by decide) ?_
  refine lv_iadd hx hb dL_law_880 ?_
  refine lsld hx hb hX hbl hH.S hL 1 (by decide) (by omega) dL_law_881 ?_
  refine lv_aload_n hx hb dL_law_882 rfl (lv_at hl 0 rfl) ?_
  refine lv_iload_n hx hb dL_law_883 rfl (lv_at hl 3 rfl) ?_
  refine lv_iconst (v := 2) hx hb dL_law_884 (by decide) ?_
  refine lv_iadd hx hb dL_law_885 ?_
  refine lsld hx hb hX hbl hH.S hL 2 (by decide) (by omega) dL_law_886 ?_
  refine lcM C hH [.int (xs (i + 1)), .int (xs (i + 2))] (c_M_why l D Z bb σ (xs (i + 1)) (xs (i + 2)) _ hst) (cwTV 2 hts wd_1458 wd_1459 wd_1460 wd_14 wd_1461 rfl rfl (by decide +kernel) ⟨Nat.le_of_ble_eq_true rfl, Nat.le_of_ble_eq_true rfl⟩) rfl hl.1 rfl (Nat.le_of_ble_eq_true rfl) dL_law_887 hc (fun r2 σ1 H locs hst hH => ?_)
  refine lv_icmp_eq (tgt := 1258) hx hb dL_law_890 (by decide) (fun _ => ?_) (fun q => absurd hst.1 q)
  exact W.widen (k := cells + 1170) (n := slots + 14200) (by omega) (by omega) (hcont t1 σ1 ad1 H locs had hst.2 hH)
set_option maxHeartbeats 4000000 in
set_option maxRecDepth 100000 in
theorem law_case_19 {p : Program} {l : Launch} {e : Env} {s : State} {m : MethodId} {below : List Frame} {meth : Method} {c : Code} {D : va_G} {Z : Nat → ClassId} {E : Nat → Nat} {ad : Nat → Nat → Nat} {bb : Nat → Nat} {b L : Nat} {xs : Nat → Int32} {t : CS} {σ : MS} {H : Heap} {locs : List Loc} {cells slots : Nat} {ls : Array Slot} {i : Nat} {Q : State → Prop} {Inv : CS → MS → Prop} (C : CC p s m #[Value.ref b] c code 4 RL D Z E (lA s)) (hX : va_X b L xs s s.heap) (hbl : b < s.heap.size) (hL : L ≤ 3072) (hi : i + 6 ≤ L) (hst : wp_C_send 1170 14200 t (xs (i + 1)) (xs (i + 2)) (fun v t1 => wp_M_send σ (xs (i + 1)) (xs (i + 2)) (fun w σ1 => v = w ∧ Inv t1 σ1))) (hH : LH D Z E ad bb s t σ H locs) (hl : lv_has ls 4 [(0, .ref b), (1, .ref (ad 5 0)), (2, .ref (bb 69)), (3, .int (nI i))]) (hc : cells + 1170 ≤ 600000 ∧ slots + 14200 ≤ 7302250) (hcont : ∀ (t1 : CS) (σ1 : MS) (ad1 : Nat → Nat → Nat) (H1 : Heap) (locs1 : List Loc), ad1 5 0 = ad 5 0 → Inv t1 σ1 → LH D Z E ad1 bb s t1 σ1 H1 locs1 → W p l e room_1 s m #[Value.ref b] below meth c H1 locs1 (cells + 1170) (slots + 14200) Q (F0 m 1258 ls [])) : W p l e room_1 s m #[Value.ref b] below meth c H locs cells slots Q (F0 m 895 ls []) := by
  obtain ⟨⟨hx, hb, hml, hown, hts⟩, hK⟩ := id C
  refine lv_aload_n hx hb dL_law_895 rfl (lv_at hl 1 rfl) ?_
  refine lv_aload_n hx hb dL_law_896 rfl (lv_at hl 0 rfl) ?_
  refine lv_iload_n hx hb dL_law_897 rfl (lv_at hl 3 rfl) ?_
  refine lv_iconst (v := 1) hx hb dL_law_898 (by decide) ?_
  refine lv_iadd hx hb dL_law_899 ?_
  refine lsld hx hb hX hbl hH.S hL 1 (by decide) (by omega) dL_law_900 ?_
  refine lv_aload_n hx hb dL_law_901 rfl (lv_at hl 0 rfl) ?_
  refine lv_iload_n hx hb dL_law_902 rfl (lv_at hl 3 rfl) ?_
  refine lv_iconst (v := 2) hx hb dL_law_903 (by decide) ?_
  refine lv_iadd hx hb dL_law_904 ?_
  refine lsld hx hb hX hbl hH.S hL 2 (by decide) (by omega) dL_law_905 ?_
  refine lcC C hH (B := fun A' => cPost D Z E ad A') toN [.int (xs (i + 1)), .int (xs (i + 2))] (c_C_send l D Z E ad 1170 14200 t (xs (i + 1)) (xs (i + 2)) _ hst) (cwTV 2 hts wd_896 wd_897 wd_898 wd_1 wd_899 rfl rfl (by decide +kernel) ⟨Nat.le_of_ble_eq_true rfl, Nat.le_of_ble_eq_true rfl⟩) rfl hl.1 rfl (Nat.le_of_ble_eq_true rfl) dL_law_906 hc (fun r t1 ad1 H locs hst had hH => ?_)
  refine lv_aload_n hx hb dL_law_909 rfl (lv_at hl 2 rfl) ?_
  refine lv_aload_n hx hb dL_law_910 rfl (lv_at hl 0 rfl) ?_
  refine lv_iload_n hx hb dL_law_911 rfl (lv_at hl 3 rfl) ?_
  refine lv_iconst (v := 1) hx hb dL_law_912 (by decide) ?_
  refine lv_iadd hx hb dL_law_913 ?_
  refine lsld hx hb hX hbl hH.S hL 1 (by decide) (by omega) dL_law_914 ?_
  refine lv_aload_n hx hb dL_law_915 rfl (lv_at hl 0 rfl) ?_
  refine lv_iload_n hx hb dL_law_916 rfl (lv_at hl 3 rfl) ?_
  refine lv_iconst (v := 2) hx hb dL_law_917 (by decide) ?_
  refine lv_iadd hx hb dL_law_918 ?_
  refine lsld hx hb hX hbl hH.S hL 2 (by decide) (by omega) dL_law_919 ?_
  refine lcM C hH [.int (xs (i + 1)), .int (xs (i + 2))] (c_M_send l D Z bb σ (xs (i + 1)) (xs (i + 2)) _ hst) (cwTV 2 hts wd_1483 wd_1484 wd_1485 wd_14 wd_1486 rfl rfl (by decide +kernel) ⟨Nat.le_of_ble_eq_true rfl, Nat.le_of_ble_eq_true rfl⟩) rfl hl.1 rfl (Nat.le_of_ble_eq_true rfl) dL_law_920 hc (fun r2 σ1 H locs hst hH => ?_)
  refine lv_icmp_eq (tgt := 1258) hx hb dL_law_923 (by decide) (fun _ => ?_) (fun q => absurd hst.1 q)
  exact W.widen (k := cells + 1170) (n := slots + 14200) (by omega) (by omega) (hcont t1 σ1 ad1 H locs had hst.2 hH)
set_option maxHeartbeats 4000000 in
set_option maxRecDepth 100000 in
theorem law_case_20 {p : Program} {l : Launch} {e : Env} {s : State} {m : MethodId} {below : List Frame} {meth : Method} {c : Code} {D : va_G} {Z : Nat → ClassId} {E : Nat → Nat} {ad : Nat → Nat → Nat} {bb : Nat → Nat} {b L : Nat} {xs : Nat → Int32} {t : CS} {σ : MS} {H : Heap} {locs : List Loc} {cells slots : Nat} {ls : Array Slot} {i : Nat} {Q : State → Prop} {Inv : CS → MS → Prop} (C : CC p s m #[Value.ref b] c code 4 RL D Z E (lA s)) (hX : va_X b L xs s s.heap) (hbl : b < s.heap.size) (hL : L ≤ 3072) (hi : i + 6 ≤ L) (hst : wp_C_off t (xs (i + 1)) (fun v t1 => wp_M_off σ (xs (i + 1)) (fun w σ1 => v = w ∧ Inv t1 σ1))) (hH : LH D Z E ad bb s t σ H locs) (hl : lv_has ls 4 [(0, .ref b), (1, .ref (ad 5 0)), (2, .ref (bb 69)), (3, .int (nI i))]) (hc : cells + 1170 ≤ 600000 ∧ slots + 14200 ≤ 7302250) (hcont : ∀ (t1 : CS) (σ1 : MS) (ad1 : Nat → Nat → Nat) (H1 : Heap) (locs1 : List Loc), ad1 5 0 = ad 5 0 → Inv t1 σ1 → LH D Z E ad1 bb s t1 σ1 H1 locs1 → W p l e room_1 s m #[Value.ref b] below meth c H1 locs1 (cells + 1170) (slots + 14200) Q (F0 m 1258 ls [])) : W p l e room_1 s m #[Value.ref b] below meth c H locs cells slots Q (F0 m 928 ls []) := by
  obtain ⟨⟨hx, hb, hml, hown, hts⟩, hK⟩ := id C
  refine lv_aload_n hx hb dL_law_928 rfl (lv_at hl 1 rfl) ?_
  refine lv_aload_n hx hb dL_law_929 rfl (lv_at hl 0 rfl) ?_
  refine lv_iload_n hx hb dL_law_930 rfl (lv_at hl 3 rfl) ?_
  refine lv_iconst (v := 1) hx hb dL_law_931 (by decide) ?_
  refine lv_iadd hx hb dL_law_932 ?_
  refine lsld hx hb hX hbl hH.S hL 1 (by decide) (by omega) dL_law_933 ?_
  refine lcC C hH (B := fun A' => cPost D Z E ad A') toN [.int (xs (i + 1))] (c_C_off l D Z E ad t (xs (i + 1)) _ hst) (cwTV 1 hts wd_904 wd_905 wd_906 wd_1 wd_907 rfl rfl (by decide +kernel) ⟨Nat.le_of_ble_eq_true rfl, Nat.le_of_ble_eq_true rfl⟩) rfl hl.1 rfl (Nat.le_of_ble_eq_true rfl) dL_law_934 ⟨(show cells + 0 ≤ 600000 by omega), (show slots + 0 ≤ 7302250 by omega)⟩ (fun r t1 ad1 H locs hst had hH => ?_)
  refine lv_aload_n hx hb dL_law_937 rfl (lv_at hl 2 rfl) ?_
  refine lv_aload_n hx hb dL_law_938 rfl (lv_at hl 0 rfl) ?_
  refine lv_iload_n hx hb dL_law_939 rfl (lv_at hl 3 rfl) ?_
  refine lv_iconst (v := 1) hx hb dL_law_940 (by decide) ?_
  refine lv_iadd hx hb dL_law_941 ?_
  refine lsld hx hb hX hbl hH.S hL 1 (by decide) (by omega) dL_law_942 ?_
  refine lcM C hH [.int (xs (i + 1))] (c_M_off l D Z bb σ (xs (i + 1)) _ hst) (cwTV 1 hts wd_1490 wd_1491 wd_1492 wd_14 wd_1493 rfl rfl (by decide +kernel) ⟨Nat.le_of_ble_eq_true rfl, Nat.le_of_ble_eq_true rfl⟩) rfl hl.1 rfl (Nat.le_of_ble_eq_true rfl) dL_law_943 ⟨(show cells + 0 ≤ 600000 by omega), (show slots + 0 ≤ 7302250 by omega)⟩ (fun r2 σ1 H locs hst hH => ?_)
  refine lv_icmp_eq (tgt := 1258) hx hb dL_law_946 (by decide) (fun _ => ?_) (fun q => absurd hst.1 q)
  exact W.widen (k := cells + 1170) (n := slots + 14200) (by omega) (by omega) (hcont t1 σ1 ad1 H locs had hst.2 hH)
set_option maxHeartbeats 4000000 in
set_option maxRecDepth 100000 in
theorem law_case_21 {p : Program} {l : Launch} {e : Env} {s : State} {m : MethodId} {below : List Frame} {meth : Method} {c : Code} {D : va_G} {Z : Nat → ClassId} {E : Nat → Nat} {ad : Nat → Nat → Nat} {bb : Nat → Nat} {b L : Nat} {xs : Nat → Int32} {t : CS} {σ : MS} {H : Heap} {locs : List Loc} {cells slots : Nat} {ls : Array Slot} {i : Nat} {Q : State → Prop} {Inv : CS → MS → Prop} (C : CC p s m #[Value.ref b] c code 4 RL D Z E (lA s)) (hX : va_X b L xs s s.heap) (hbl : b < s.heap.size) (hL : L ≤ 3072) (hi : i + 6 ≤ L) (hst : wp_C_fall t (xs (i + 1)) (xs (i + 2)) (xs (i + 3)) (fun v t1 => wp_M_fall σ (xs (i + 1)) (xs (i + 2)) (xs (i + 3)) (fun w σ1 => v = w ∧ Inv t1 σ1))) (hH : LH D Z E ad bb s t σ H locs) (hl : lv_has ls 4 [(0, .ref b), (1, .ref (ad 5 0)), (2, .ref (bb 69)), (3, .int (nI i))]) (hc : cells + 1170 ≤ 600000 ∧ slots + 14200 ≤ 7302250) (hcont : ∀ (t1 : CS) (σ1 : MS) (ad1 : Nat → Nat → Nat) (H1 : Heap) (locs1 : List Loc), ad1 5 0 = ad 5 0 → Inv t1 σ1 → LH D Z E ad1 bb s t1 σ1 H1 locs1 → W p l e room_1 s m #[Value.ref b] below meth c H1 locs1 (cells + 1170) (slots + 14200) Q (F0 m 1258 ls [])) : W p l e room_1 s m #[Value.ref b] below meth c H locs cells slots Q (F0 m 951 ls []) := by
  obtain ⟨⟨hx, hb, hml, hown, hts⟩, hK⟩ := id C
  refine lv_aload_n hx hb dL_law_951 rfl (lv_at hl 1 rfl) ?_
  refine lv_aload_n hx hb dL_law_952 rfl (lv_at hl 0 rfl) ?_
  refine lv_iload_n hx hb dL_law_953 rfl (lv_at hl 3 rfl) ?_
  refine lv_iconst (v := 1) hx hb dL_law_954 (by decide) ?_
  refine lv_iadd hx hb dL_law_955 ?_
  refine lsld hx hb hX hbl hH.S hL 1 (by decide) (by omega) dL_law_956 ?_
  refine lv_aload_n hx hb dL_law_957 rfl (lv_at hl 0 rfl) ?_
  refine lv_iload_n hx hb dL_law_958 rfl (lv_at hl 3 rfl) ?_
  refine lv_iconst (v := 2) hx hb dL_law_959 (by decide) ?_
  refine lv_iadd hx hb dL_law_960 ?_
  refine lsld hx hb hX hbl hH.S hL 2 (by decide) (by omega) dL_law_961 ?_
  refine lv_aload_n hx hb dL_law_962 rfl (lv_at hl 0 rfl) ?_
  refine lv_iload_n hx hb dL_law_963 rfl (lv_at hl 3 rfl) ?_
  refine lv_iconst (v := 3) hx hb dL_law_964 (by decide) ?_
  refine lv_iadd hx hb dL_law_965 ?_
  refine lsld hx hb hX hbl hH.S hL 3 (by decide) (by omega) dL_law_966 ?_
  refine lcC C hH (B := fun A' => cPost D Z E ad A') toN [.int (xs (i + 1)), .int (xs (i + 2)), .int (xs (i + 3))] (c_C_fall l D Z E ad t (xs (i + 1)) (xs (i + 2)) (xs (i + 3)) _ hst) (cwTV 3 hts wd_908 wd_909 wd_910 wd_1 wd_911 rfl rfl (by decide +kernel) ⟨Nat.le_of_ble_eq_true rfl, Nat.le_of_ble_eq_true rfl⟩) rfl hl.1 rfl (Nat.le_of_ble_eq_true rfl) dL_law_967 ⟨(show cells + 0 ≤ 600000 by omega), (show slots + 0 ≤ 7302250 by omega)⟩ (fun r t1 ad1 H locs hst had hH => ?_)
  refine lv_aload_n hx hb dL_law_970 rfl (lv_at hl 2 rfl) ?_
  refine lv_aload_n hx hb dL_law_971 rfl (lv_at hl 0 rfl) ?_
  refine lv_iload_n hx hb dL_law_972 rfl (lv_at hl 3 rfl) ?_
  refine lv_iconst (v := 1) hx hb dL_law_973 (by decide) ?_
  refine lv_iadd hx hb dL_law_974 ?_
  refine lsld hx hb hX hbl hH.S hL 1 (by decide) (by omega) dL_law_975 ?_
  refine lv_aload_n hx hb dL_law_976 rfl (lv_at hl 0 rfl) ?_
  refine lv_iload_n hx hb dL_law_977 rfl (lv_at hl 3 rfl) ?_
  refine lv_iconst (v := 2) hx hb dL_law_978 (by decide) ?_
  refine lv_iadd hx hb dL_law_979 ?_
  refine lsld hx hb hX hbl hH.S hL 2 (by decide) (by omega) dL_law_980 ?_
  refine lv_aload_n hx hb dL_law_981 rfl (lv_at hl 0 rfl) ?_
  refine lv_iload_n hx hb dL_law_982 rfl (lv_at hl 3 rfl) ?_
  refine lv_iconst (v := 3) hx hb dL_law_983 (by decide) ?_
  refine lv_iadd hx hb dL_law_984 ?_
  refine lsld hx hb hX hbl hH.S hL 3 (by decide) (by omega) dL_law_985 ?_
  refine lcM C hH [.int (xs (i + 1)), .int (xs (i + 2)), .int (xs (i + 3))] (c_M_fall l D Z bb σ (xs (i + 1)) (xs (i + 2)) (xs (i + 3)) _ hst) (cwTV 3 hts wd_1494 wd_1495 wd_1496 wd_14 wd_1497 rfl rfl (by decide +kernel) ⟨Nat.le_of_ble_eq_true rfl, Nat.le_of_ble_eq_true rfl⟩) rfl hl.1 rfl (Nat.le_of_ble_eq_true rfl) dL_law_986 ⟨(show cells + 0 ≤ 600000 by omega), (show slots + 0 ≤ 7302250 by omega)⟩ (fun r2 σ1 H locs hst hH => ?_)
  refine lv_icmp_eq (tgt := 1258) hx hb dL_law_989 (by decide) (fun _ => ?_) (fun q => absurd hst.1 q)
  exact W.widen (k := cells + 1170) (n := slots + 14200) (by omega) (by omega) (hcont t1 σ1 ad1 H locs had hst.2 hH)
set_option maxHeartbeats 4000000 in
set_option maxRecDepth 100000 in
theorem law_case_22 {p : Program} {l : Launch} {e : Env} {s : State} {m : MethodId} {below : List Frame} {meth : Method} {c : Code} {D : va_G} {Z : Nat → ClassId} {E : Nat → Nat} {ad : Nat → Nat → Nat} {bb : Nat → Nat} {b L : Nat} {xs : Nat → Int32} {t : CS} {σ : MS} {H : Heap} {locs : List Loc} {cells slots : Nat} {ls : Array Slot} {i : Nat} {Q : State → Prop} {Inv : CS → MS → Prop} (C : CC p s m #[Value.ref b] c code 4 RL D Z E (lA s)) (hX : va_X b L xs s s.heap) (hbl : b < s.heap.size) (hL : L ≤ 3072) (hi : i + 6 ≤ L) (hst : wp_C_told t (xs (i + 1)) (xs (i + 2)) (fun v t1 => wp_M_told σ (xs (i + 1)) (xs (i + 2)) (fun w σ1 => v = w ∧ Inv t1 σ1))) (hH : LH D Z E ad bb s t σ H locs) (hl : lv_has ls 4 [(0, .ref b), (1, .ref (ad 5 0)), (2, .ref (bb 69)), (3, .int (nI i))]) (hc : cells + 1170 ≤ 600000 ∧ slots + 14200 ≤ 7302250) (hcont : ∀ (t1 : CS) (σ1 : MS) (ad1 : Nat → Nat → Nat) (H1 : Heap) (locs1 : List Loc), ad1 5 0 = ad 5 0 → Inv t1 σ1 → LH D Z E ad1 bb s t1 σ1 H1 locs1 → W p l e room_1 s m #[Value.ref b] below meth c H1 locs1 (cells + 1170) (slots + 14200) Q (F0 m 1258 ls [])) : W p l e room_1 s m #[Value.ref b] below meth c H locs cells slots Q (F0 m 994 ls []) := by
  obtain ⟨⟨hx, hb, hml, hown, hts⟩, hK⟩ := id C
  refine lv_aload_n hx hb dL_law_994 rfl (lv_at hl 1 rfl) ?_
  refine lv_aload_n hx hb dL_law_995 rfl (lv_at hl 0 rfl) ?_
  refine lv_iload_n hx hb dL_law_996 rfl (lv_at hl 3 rfl) ?_
  refine lv_iconst (v := 1) hx hb dL_law_997 (by decide) ?_
  refine lv_iadd hx hb dL_law_998 ?_
  refine lsld hx hb hX hbl hH.S hL 1 (by decide) (by omega) dL_law_999 ?_
  refine lv_aload_n hx hb dL_law_1000 rfl (lv_at hl 0 rfl) ?_
  refine lv_iload_n hx hb dL_law_1001 rfl (lv_at hl 3 rfl) ?_
  refine lv_iconst (v := 2) hx hb dL_law_1002 (by decide) ?_
  refine lv_iadd hx hb dL_law_1003 ?_
  refine lsld hx hb hX hbl hH.S hL 2 (by decide) (by omega) dL_law_1004 ?_
  refine lcC C hH (B := fun A' => cPost D Z E ad A') toN [.int (xs (i + 1)), .int (xs (i + 2))] (c_C_told l D Z E ad t (xs (i + 1)) (xs (i + 2)) _ hst) (cwTV 2 hts wd_927 wd_928 wd_929 wd_1 wd_930 rfl rfl (by decide +kernel) ⟨Nat.le_of_ble_eq_true rfl, Nat.le_of_ble_eq_true rfl⟩) rfl hl.1 rfl (Nat.le_of_ble_eq_true rfl) dL_law_1005 ⟨(show cells + 0 ≤ 600000 by omega), (show slots + 0 ≤ 7302250 by omega)⟩ (fun r t1 ad1 H locs hst had hH => ?_)
  refine lv_aload_n hx hb dL_law_1008 rfl (lv_at hl 2 rfl) ?_
  refine lv_aload_n hx hb dL_law_1009 rfl (lv_at hl 0 rfl) ?_
  refine lv_iload_n hx hb dL_law_1010 rfl (lv_at hl 3 rfl) ?_
  refine lv_iconst (v := 1) hx hb dL_law_1011 (by decide) ?_
  refine lv_iadd hx hb dL_law_1012 ?_
  refine lsld hx hb hX hbl hH.S hL 1 (by decide) (by omega) dL_law_1013 ?_
  refine lv_aload_n hx hb dL_law_1014 rfl (lv_at hl 0 rfl) ?_
  refine lv_iload_n hx hb dL_law_1015 rfl (lv_at hl 3 rfl) ?_
  refine lv_iconst (v := 2) hx hb dL_law_1016 (by decide) ?_
  refine lv_iadd hx hb dL_law_1017 ?_
  refine lsld hx hb hX hbl hH.S hL 2 (by decide) (by omega) dL_law_1018 ?_
  refine lcM C hH [.int (xs (i + 1)), .int (xs (i + 2))] (c_M_told l D Z bb σ (xs (i + 1)) (xs (i + 2)) _ hst) (cwTV 2 hts wd_1506 wd_1507 wd_1508 wd_14 wd_1509 rfl rfl (by decide +kernel) ⟨Nat.le_of_ble_eq_true rfl, Nat.le_of_ble_eq_true rfl⟩) rfl hl.1 rfl (Nat.le_of_ble_eq_true rfl) dL_law_1019 ⟨(show cells + 0 ≤ 600000 by omega), (show slots + 0 ≤ 7302250 by omega)⟩ (fun r2 σ1 H locs hst hH => ?_)
  refine lv_icmp_eq (tgt := 1258) hx hb dL_law_1022 (by decide) (fun _ => ?_) (fun q => absurd hst.1 q)
  exact W.widen (k := cells + 1170) (n := slots + 14200) (by omega) (by omega) (hcont t1 σ1 ad1 H locs had hst.2 hH)
set_option maxHeartbeats 4000000 in
set_option maxRecDepth 100000 in
theorem law_case_23 {p : Program} {l : Launch} {e : Env} {s : State} {m : MethodId} {below : List Frame} {meth : Method} {c : Code} {D : va_G} {Z : Nat → ClassId} {E : Nat → Nat} {ad : Nat → Nat → Nat} {bb : Nat → Nat} {b L : Nat} {xs : Nat → Int32} {t : CS} {σ : MS} {H : Heap} {locs : List Loc} {cells slots : Nat} {ls : Array Slot} {i : Nat} {Q : State → Prop} {Inv : CS → MS → Prop} (C : CC p s m #[Value.ref b] c code 4 RL D Z E (lA s)) (hX : va_X b L xs s s.heap) (hbl : b < s.heap.size) (hL : L ≤ 3072) (hi : i + 6 ≤ L) (hst : wp_C_gang t (xs (i + 1)) (xs (i + 2)) (fun v t1 => wp_M_gang σ (xs (i + 1)) (xs (i + 2)) (fun w σ1 => v = w ∧ Inv t1 σ1))) (hH : LH D Z E ad bb s t σ H locs) (hl : lv_has ls 4 [(0, .ref b), (1, .ref (ad 5 0)), (2, .ref (bb 69)), (3, .int (nI i))]) (hc : cells + 1170 ≤ 600000 ∧ slots + 14200 ≤ 7302250) (hcont : ∀ (t1 : CS) (σ1 : MS) (ad1 : Nat → Nat → Nat) (H1 : Heap) (locs1 : List Loc), ad1 5 0 = ad 5 0 → Inv t1 σ1 → LH D Z E ad1 bb s t1 σ1 H1 locs1 → W p l e room_1 s m #[Value.ref b] below meth c H1 locs1 (cells + 1170) (slots + 14200) Q (F0 m 1258 ls [])) : W p l e room_1 s m #[Value.ref b] below meth c H locs cells slots Q (F0 m 1027 ls []) := by
  obtain ⟨⟨hx, hb, hml, hown, hts⟩, hK⟩ := id C
  refine lv_aload_n hx hb dL_law_1027 rfl (lv_at hl 1 rfl) ?_
  refine lv_aload_n hx hb dL_law_1028 rfl (lv_at hl 0 rfl) ?_
  refine lv_iload_n hx hb dL_law_1029 rfl (lv_at hl 3 rfl) ?_
  refine lv_iconst (v := 1) hx hb dL_law_1030 (by decide) ?_
  refine lv_iadd hx hb dL_law_1031 ?_
  refine lsld hx hb hX hbl hH.S hL 1 (by decide) (by omega) dL_law_1032 ?_
  refine lv_aload_n hx hb dL_law_1033 rfl (lv_at hl 0 rfl) ?_
  refine lv_iload_n hx hb dL_law_1034 rfl (lv_at hl 3 rfl) ?_
  refine lv_iconst (v := 2) hx hb dL_law_1035 (by decide) ?_
  refine lv_iadd hx hb dL_law_1036 ?_
  refine lsld hx hb hX hbl hH.S hL 2 (by decide) (by omega) dL_law_1037 ?_
  refine lcC C hH (B := fun A' => cPost D Z E ad A') toN [.int (xs (i + 1)), .int (xs (i + 2))] (c_C_gang l D Z E ad t (xs (i + 1)) (xs (i + 2)) _ hst) (cwTV 2 hts wd_935 wd_936 wd_937 wd_1 wd_938 rfl rfl (by decide +kernel) ⟨Nat.le_of_ble_eq_true rfl, Nat.le_of_ble_eq_true rfl⟩) rfl hl.1 rfl (Nat.le_of_ble_eq_true rfl) dL_law_1038 ⟨(show cells + 0 ≤ 600000 by omega), (show slots + 0 ≤ 7302250 by omega)⟩ (fun r t1 ad1 H locs hst had hH => ?_)
  refine lv_aload_n hx hb dL_law_1041 rfl (lv_at hl 2 rfl) ?_
  refine lv_aload_n hx hb dL_law_1042 rfl (lv_at hl 0 rfl) ?_
  refine lv_iload_n hx hb dL_law_1043 rfl (lv_at hl 3 rfl) ?_
  refine lv_iconst (v := 1) hx hb dL_law_1044 (by decide) ?_
  refine lv_iadd hx hb dL_law_1045 ?_
  refine lsld hx hb hX hbl hH.S hL 1 (by decide) (by omega) dL_law_1046 ?_
  refine lv_aload_n hx hb dL_law_1047 rfl (lv_at hl 0 rfl) ?_
  refine lv_iload_n hx hb dL_law_1048 rfl (lv_at hl 3 rfl) ?_
  refine lv_iconst (v := 2) hx hb dL_law_1049 (by decide) ?_
  refine lv_iadd hx hb dL_law_1050 ?_
  refine lsld hx hb hX hbl hH.S hL 2 (by decide) (by omega) dL_law_1051 ?_
  refine lcM C hH [.int (xs (i + 1)), .int (xs (i + 2))] (c_M_gang l D Z bb σ (xs (i + 1)) (xs (i + 2)) _ hst) (cwTV 2 hts wd_1514 wd_1515 wd_1516 wd_14 wd_1517 rfl rfl (by decide +kernel) ⟨Nat.le_of_ble_eq_true rfl, Nat.le_of_ble_eq_true rfl⟩) rfl hl.1 rfl (Nat.le_of_ble_eq_true rfl) dL_law_1052 ⟨(show cells + 0 ≤ 600000 by omega), (show slots + 0 ≤ 7302250 by omega)⟩ (fun r2 σ1 H locs hst hH => ?_)
  refine lv_icmp_eq (tgt := 1258) hx hb dL_law_1055 (by decide) (fun _ => ?_) (fun q => absurd hst.1 q)
  exact W.widen (k := cells + 1170) (n := slots + 14200) (by omega) (by omega) (hcont t1 σ1 ad1 H locs had hst.2 hH)
set_option maxHeartbeats 4000000 in
set_option maxRecDepth 100000 in
theorem law_case_24 {p : Program} {l : Launch} {e : Env} {s : State} {m : MethodId} {below : List Frame} {meth : Method} {c : Code} {D : va_G} {Z : Nat → ClassId} {E : Nat → Nat} {ad : Nat → Nat → Nat} {bb : Nat → Nat} {b L : Nat} {xs : Nat → Int32} {t : CS} {σ : MS} {H : Heap} {locs : List Loc} {cells slots : Nat} {ls : Array Slot} {i : Nat} {Q : State → Prop} {Inv : CS → MS → Prop} (C : CC p s m #[Value.ref b] c code 4 RL D Z E (lA s)) (hX : va_X b L xs s s.heap) (hbl : b < s.heap.size) (hL : L ≤ 3072) (hi : i + 6 ≤ L) (hst : wp_C_minutes 1170 14200 t (xs (i + 1)) (fun v t1 => wp_M_minutes σ (xs (i + 1)) (fun w σ1 => v = w ∧ Inv t1 σ1))) (hH : LH D Z E ad bb s t σ H locs) (hl : lv_has ls 4 [(0, .ref b), (1, .ref (ad 5 0)), (2, .ref (bb 69)), (3, .int (nI i))]) (hc : cells + 1170 ≤ 600000 ∧ slots + 14200 ≤ 7302250) (hcont : ∀ (t1 : CS) (σ1 : MS) (ad1 : Nat → Nat → Nat) (H1 : Heap) (locs1 : List Loc), ad1 5 0 = ad 5 0 → Inv t1 σ1 → LH D Z E ad1 bb s t1 σ1 H1 locs1 → W p l e room_1 s m #[Value.ref b] below meth c H1 locs1 (cells + 1170) (slots + 14200) Q (F0 m 1258 ls [])) : W p l e room_1 s m #[Value.ref b] below meth c H locs cells slots Q (F0 m 1060 ls []) := by
  obtain ⟨⟨hx, hb, hml, hown, hts⟩, hK⟩ := id C
  refine lv_aload_n hx hb dL_law_1060 rfl (lv_at hl 1 rfl) ?_
  refine lv_aload_n hx hb dL_law_1061 rfl (lv_at hl 0 rfl) ?_
  refine lv_iload_n hx hb dL_law_1062 rfl (lv_at hl 3 rfl) ?_
  refine lv_iconst (v := 1) hx hb dL_law_1063 (by decide) ?_
  refine lv_iadd hx hb dL_law_1064 ?_
  refine lsld hx hb hX hbl hH.S hL 1 (by decide) (by omega) dL_law_1065 ?_
  refine lcC C hH (B := fun A' => cPost D Z E ad A') toN [.int (xs (i + 1))] (c_C_minutes l D Z E ad 1170 14200 t (xs (i + 1)) _ hst) (cwTV 1 hts wd_939 wd_940 wd_941 wd_1 wd_942 rfl rfl (by decide +kernel) ⟨Nat.le_of_ble_eq_true rfl, Nat.le_of_ble_eq_true rfl⟩) rfl hl.1 rfl (Nat.le_of_ble_eq_true rfl) dL_law_1066 hc (fun r t1 ad1 H locs hst had hH => ?_)
  refine lv_aload_n hx hb dL_law_1069 rfl (lv_at hl 2 rfl) ?_
  refine lv_aload_n hx hb dL_law_1070 rfl (lv_at hl 0 rfl) ?_
  refine lv_iload_n hx hb dL_law_1071 rfl (lv_at hl 3 rfl) ?_
  refine lv_iconst (v := 1) hx hb dL_law_1072 (by decide) ?_
  refine lv_iadd hx hb dL_law_1073 ?_
  refine lsld hx hb hX hbl hH.S hL 1 (by decide) (by omega) dL_law_1074 ?_
  refine lcM C hH [.int (xs (i + 1))] (c_M_minutes l D Z bb σ (xs (i + 1)) _ hst) (cwTV 1 hts wd_1518 wd_1519 wd_1520 wd_14 wd_1521 rfl rfl (by decide +kernel) ⟨Nat.le_of_ble_eq_true rfl, Nat.le_of_ble_eq_true rfl⟩) rfl hl.1 rfl (Nat.le_of_ble_eq_true rfl) dL_law_1075 hc (fun r2 σ1 H locs hst hH => ?_)
  refine lv_icmp_eq (tgt := 1258) hx hb dL_law_1078 (by decide) (fun _ => ?_) (fun q => absurd hst.1 q)
  exact W.widen (k := cells + 1170) (n := slots + 14200) (by omega) (by omega) (hcont t1 σ1 ad1 H locs had hst.2 hH)
set_option maxHeartbeats 4000000 in
set_option maxRecDepth 100000 in
theorem law_case_25 {p : Program} {l : Launch} {e : Env} {s : State} {m : MethodId} {below : List Frame} {meth : Method} {c : Code} {D : va_G} {Z : Nat → ClassId} {E : Nat → Nat} {ad : Nat → Nat → Nat} {bb : Nat → Nat} {b L : Nat} {xs : Nat → Int32} {t : CS} {σ : MS} {H : Heap} {locs : List Loc} {cells slots : Nat} {ls : Array Slot} {i : Nat} {Q : State → Prop} {Inv : CS → MS → Prop} (C : CC p s m #[Value.ref b] c code 4 RL D Z E (lA s)) (hX : va_X b L xs s s.heap) (hbl : b < s.heap.size) (hL : L ≤ 3072) (hi : i + 6 ≤ L) (hst : wp_C_judged t (xs (i + 1)) (xs (i + 2)) (xs (i + 3)) (xs (i + 4)) (fun v t1 => wp_M_judged σ (xs (i + 1)) (xs (i + 2)) (xs (i + 3)) (xs (i + 4)) (fun w σ1 => v = w ∧ Inv t1 σ1))) (hH : LH D Z E ad bb s t σ H locs) (hl : lv_has ls 4 [(0, .ref b), (1, .ref (ad 5 0)), (2, .ref (bb 69)), (3, .int (nI i))]) (hc : cells + 1170 ≤ 600000 ∧ slots + 14200 ≤ 7302250) (hcont : ∀ (t1 : CS) (σ1 : MS) (ad1 : Nat → Nat → Nat) (H1 : Heap) (locs1 : List Loc), ad1 5 0 = ad 5 0 → Inv t1 σ1 → LH D Z E ad1 bb s t1 σ1 H1 locs1 → W p l e room_1 s m #[Value.ref b] below meth c H1 locs1 (cells + 1170) (slots + 14200) Q (F0 m 1258 ls [])) : W p l e room_1 s m #[Value.ref b] below meth c H locs cells slots Q (F0 m 1083 ls []) := by
  obtain ⟨⟨hx, hb, hml, hown, hts⟩, hK⟩ := id C
  refine lv_aload_n hx hb dL_law_1083 rfl (lv_at hl 1 rfl) ?_
  refine lv_aload_n hx hb dL_law_1084 rfl (lv_at hl 0 rfl) ?_
  refine lv_iload_n hx hb dL_law_1085 rfl (lv_at hl 3 rfl) ?_
  refine lv_iconst (v := 1) hx hb dL_law_1086 (by decide) ?_
  refine lv_iadd hx hb dL_law_1087 ?_
  refine lsld hx hb hX hbl hH.S hL 1 (by decide) (by omega) dL_law_1088 ?_
  refine lv_aload_n hx hb dL_law_1089 rfl (lv_at hl 0 rfl) ?_
  refine lv_iload_n hx hb dL_law_1090 rfl (lv_at hl 3 rfl) ?_
  refine lv_iconst (v := 2) hx hb dL_law_1091 (by decide) ?_
  refine lv_iadd hx hb dL_law_1092 ?_
  refine lsld hx hb hX hbl hH.S hL 2 (by decide) (by omega) dL_law_1093 ?_
  refine lv_aload_n hx hb dL_law_1094 rfl (lv_at hl 0 rfl) ?_
  refine lv_iload_n hx hb dL_law_1095 rfl (lv_at hl 3 rfl) ?_
  refine lv_iconst (v := 3) hx hb dL_law_1096 (by decide) ?_
  refine lv_iadd hx hb dL_law_1097 ?_
  refine lsld hx hb hX hbl hH.S hL 3 (by decide) (by omega) dL_law_1098 ?_
  refine lv_aload_n hx hb dL_law_1099 rfl (lv_at hl 0 rfl) ?_
  refine lv_iload_n hx hb dL_law_1100 rfl (lv_at hl 3 rfl) ?_
  refine lv_iconst (v := 4) hx hb dL_law_1101 (by decide) ?_
  refine lv_iadd hx hb dL_law_1102 ?_
  refine lsld hx hb hX hbl hH.S hL 4 (by decide) (by omega) dL_law_1103 ?_
  refine lcC C hH (B := fun A' => cPost D Z E ad A') toN [.int (xs (i + 1)), .int (xs (i + 2)), .int (xs (i + 3)), .int (xs (i + 4))] (c_C_judged l D Z E ad t (xs (i + 1)) (xs (i + 2)) (xs (i + 3)) (xs (i + 4)) _ hst) (cwTV 4 hts wd_984 wd_985 wd_986 wd_1 wd_987 rfl rfl (by decide +kernel) ⟨Nat.le_of_ble_eq_true rfl, Nat.le_of_ble_eq_true rfl⟩) rfl hl.1 rfl (Nat.le_of_ble_eq_true rfl) dL_law_1104 ⟨(show cells + 0 ≤ 600000 by omega), (show slots + 0 ≤ 7302250 by omega)⟩ (fun r t1 ad1 H locs hst had hH => ?_)
  refine lv_aload_n hx hb dL_law_1107 rfl (lv_at hl 2 rfl) ?_
  refine lv_aload_n hx hb dL_law_1108 rfl (lv_at hl 0 rfl) ?_
  refine lv_iload_n hx hb dL_law_1109 rfl (lv_at hl 3 rfl) ?_
  refine lv_iconst (v := 1) hx hb dL_law_1110 (by decide) ?_
  refine lv_iadd hx hb dL_law_1111 ?_
  refine lsld hx hb hX hbl hH.S hL 1 (by decide) (by omega) dL_law_1112 ?_
  refine lv_aload_n hx hb dL_law_1113 rfl (lv_at hl 0 rfl) ?_
  refine lv_iload_n hx hb dL_law_1114 rfl (lv_at hl 3 rfl) ?_
  refine lv_iconst (v := 2) hx hb dL_law_1115 (by decide) ?_
  refine lv_iadd hx hb dL_law_1116 ?_
  refine lsld hx hb hX hbl hH.S hL 2 (by decide) (by omega) dL_law_1117 ?_
  refine lv_aload_n hx hb dL_law_1118 rfl (lv_at hl 0 rfl) ?_
  refine lv_iload_n hx hb dL_law_1119 rfl (lv_at hl 3 rfl) ?_
  refine lv_iconst (v := 3) hx hb dL_law_1120 (by decide) ?_
  refine lv_iadd hx hb dL_law_1121 ?_
  refine lsld hx hb hX hbl hH.S hL 3 (by decide) (by omega) dL_law_1122 ?_
  refine lv_aload_n hx hb dL_law_1123 rfl (lv_at hl 0 rfl) ?_
  refine lv_iload_n hx hb dL_law_1124 rfl (lv_at hl 3 rfl) ?_
  refine lv_iconst (v := 4) hx hb dL_law_1125 (by decide) ?_
  refine lv_iadd hx hb dL_law_1126 ?_
  refine lsld hx hb hX hbl hH.S hL 4 (by decide) (by omega) dL_law_1127 ?_
  refine lcM C hH [.int (xs (i + 1)), .int (xs (i + 2)), .int (xs (i + 3)), .int (xs (i + 4))] (c_M_judged l D Z bb σ (xs (i + 1)) (xs (i + 2)) (xs (i + 3)) (xs (i + 4)) _ hst) (cwTV 4 hts wd_1546 wd_1547 wd_1548 wd_14 wd_1549 rfl rfl (by decide +kernel) ⟨Nat.le_of_ble_eq_true rfl, Nat.le_of_ble_eq_true rfl⟩) rfl hl.1 rfl (Nat.le_of_ble_eq_true rfl) dL_law_1128 ⟨(show cells + 0 ≤ 600000 by omega), (show slots + 0 ≤ 7302250 by omega)⟩ (fun r2 σ1 H locs hst hH => ?_)
  refine lv_icmp_eq (tgt := 1258) hx hb dL_law_1131 (by decide) (fun _ => ?_) (fun q => absurd hst.1 q)
  exact W.widen (k := cells + 1170) (n := slots + 14200) (by omega) (by omega) (hcont t1 σ1 ad1 H locs had hst.2 hH)
set_option maxHeartbeats 4000000 in
set_option maxRecDepth 100000 in
theorem law_case_26 {p : Program} {l : Launch} {e : Env} {s : State} {m : MethodId} {below : List Frame} {meth : Method} {c : Code} {D : va_G} {Z : Nat → ClassId} {E : Nat → Nat} {ad : Nat → Nat → Nat} {bb : Nat → Nat} {b L : Nat} {xs : Nat → Int32} {t : CS} {σ : MS} {H : Heap} {locs : List Loc} {cells slots : Nat} {ls : Array Slot} {i : Nat} {Q : State → Prop} {Inv : CS → MS → Prop} (C : CC p s m #[Value.ref b] c code 4 RL D Z E (lA s)) (hX : va_X b L xs s s.heap) (hbl : b < s.heap.size) (hL : L ≤ 3072) (hi : i + 6 ≤ L) (hst : wp_C_rates t (xs (i + 1)) (xs (i + 2)) (xs (i + 3)) (fun v t1 => wp_M_rates σ (xs (i + 1)) (xs (i + 2)) (xs (i + 3)) (fun w σ1 => v = w ∧ Inv t1 σ1))) (hH : LH D Z E ad bb s t σ H locs) (hl : lv_has ls 4 [(0, .ref b), (1, .ref (ad 5 0)), (2, .ref (bb 69)), (3, .int (nI i))]) (hc : cells + 1170 ≤ 600000 ∧ slots + 14200 ≤ 7302250) (hcont : ∀ (t1 : CS) (σ1 : MS) (ad1 : Nat → Nat → Nat) (H1 : Heap) (locs1 : List Loc), ad1 5 0 = ad 5 0 → Inv t1 σ1 → LH D Z E ad1 bb s t1 σ1 H1 locs1 → W p l e room_1 s m #[Value.ref b] below meth c H1 locs1 (cells + 1170) (slots + 14200) Q (F0 m 1258 ls [])) : W p l e room_1 s m #[Value.ref b] below meth c H locs cells slots Q (F0 m 1136 ls []) := by
  obtain ⟨⟨hx, hb, hml, hown, hts⟩, hK⟩ := id C
  refine lv_aload_n hx hb dL_law_1136 rfl (lv_at hl 1 rfl) ?_
  refine lv_aload_n hx hb dL_law_1137 rfl (lv_at hl 0 rfl) ?_
  refine lv_iload_n hx hb dL_law_1138 rfl (lv_at hl 3 rfl) ?_
  refine lv_iconst (v := 1) hx hb dL_law_1139 (by decide) ?_
  refine lv_iadd hx hb dL_law_1140 ?_
  refine lsld hx hb hX hbl hH.S hL 1 (by decide) (by omega) dL_law_1141 ?_
  refine lv_aload_n hx hb dL_law_1142 rfl (lv_at hl 0 rfl) ?_
  refine lv_iload_n hx hb dL_law_1143 rfl (lv_at hl 3 rfl) ?_
  refine lv_iconst (v := 2) hx hb dL_law_1144 (by decide) ?_
  refine lv_iadd hx hb dL_law_1145 ?_
  refine lsld hx hb hX hbl hH.S hL 2 (by decide) (by omega) dL_law_1146 ?_
  refine lv_aload_n hx hb dL_law_1147 rfl (lv_at hl 0 rfl) ?_
  refine lv_iload_n hx hb dL_law_1148 rfl (lv_at hl 3 rfl) ?_
  refine lv_iconst (v := 3) hx hb dL_law_1149 (by decide) ?_
  refine lv_iadd hx hb dL_law_1150 ?_
  refine lsld hx hb hX hbl hH.S hL 3 (by decide) (by omega) dL_law_1151 ?_
  refine lcC C hH (B := fun A' => cPost D Z E ad A') toN [.int (xs (i + 1)), .int (xs (i + 2)), .int (xs (i + 3))] (c_C_rates l D Z E ad t (xs (i + 1)) (xs (i + 2)) (xs (i + 3)) _ hst) (cwTV 3 hts wd_988 wd_989 wd_990 wd_1 wd_991 rfl rfl (by decide +kernel) ⟨Nat.le_of_ble_eq_true rfl, Nat.le_of_ble_eq_true rfl⟩) rfl hl.1 rfl (Nat.le_of_ble_eq_true rfl) dL_law_1152 ⟨(show cells + 0 ≤ 600000 by omega), (show slots + 0 ≤ 7302250 by omega)⟩ (fun r t1 ad1 H locs hst had hH => ?_)
  refine lv_aload_n hx hb dL_law_1155 rfl (lv_at hl 2 rfl) ?_
  refine lv_aload_n hx hb dL_law_1156 rfl (lv_at hl 0 rfl) ?_
  refine lv_iload_n hx hb dL_law_1157 rfl (lv_at hl 3 rfl) ?_
  refine lv_iconst (v := 1) hx hb dL_law_1158 (by decide) ?_
  refine lv_iadd hx hb dL_law_1159 ?_
  refine lsld hx hb hX hbl hH.S hL 1 (by decide) (by omega) dL_law_1160 ?_
  refine lv_aload_n hx hb dL_law_1161 rfl (lv_at hl 0 rfl) ?_
  refine lv_iload_n hx hb dL_law_1162 rfl (lv_at hl 3 rfl) ?_
  refine lv_iconst (v := 2) hx hb dL_law_1163 (by decide) ?_
  refine lv_iadd hx hb dL_law_1164 ?_
  refine lsld hx hb hX hbl hH.S hL 2 (by decide) (by omega) dL_law_1165 ?_
  refine lv_aload_n hx hb dL_law_1166 rfl (lv_at hl 0 rfl) ?_
  refine lv_iload_n hx hb dL_law_1167 rfl (lv_at hl 3 rfl) ?_
  refine lv_iconst (v := 3) hx hb dL_law_1168 (by decide) ?_
  refine lv_iadd hx hb dL_law_1169 ?_
  refine lsld hx hb hX hbl hH.S hL 3 (by decide) (by omega) dL_law_1170 ?_
  refine lcM C hH [.int (xs (i + 1)), .int (xs (i + 2)), .int (xs (i + 3))] (c_M_rates l D Z bb σ (xs (i + 1)) (xs (i + 2)) (xs (i + 3)) _ hst) (cwTV 3 hts wd_1554 wd_1555 wd_1556 wd_14 wd_1557 rfl rfl (by decide +kernel) ⟨Nat.le_of_ble_eq_true rfl, Nat.le_of_ble_eq_true rfl⟩) rfl hl.1 rfl (Nat.le_of_ble_eq_true rfl) dL_law_1171 ⟨(show cells + 0 ≤ 600000 by omega), (show slots + 0 ≤ 7302250 by omega)⟩ (fun r2 σ1 H locs hst hH => ?_)
  refine lv_icmp_eq (tgt := 1258) hx hb dL_law_1174 (by decide) (fun _ => ?_) (fun q => absurd hst.1 q)
  exact W.widen (k := cells + 1170) (n := slots + 14200) (by omega) (by omega) (hcont t1 σ1 ad1 H locs had hst.2 hH)
set_option maxHeartbeats 4000000 in
set_option maxRecDepth 100000 in
theorem law_case_27 {p : Program} {l : Launch} {e : Env} {s : State} {m : MethodId} {below : List Frame} {meth : Method} {c : Code} {D : va_G} {Z : Nat → ClassId} {E : Nat → Nat} {ad : Nat → Nat → Nat} {bb : Nat → Nat} {b L : Nat} {xs : Nat → Int32} {t : CS} {σ : MS} {H : Heap} {locs : List Loc} {cells slots : Nat} {ls : Array Slot} {i : Nat} {Q : State → Prop} {Inv : CS → MS → Prop} (C : CC p s m #[Value.ref b] c code 4 RL D Z E (lA s)) (hX : va_X b L xs s s.heap) (hbl : b < s.heap.size) (hL : L ≤ 3072) (hi : i + 6 ≤ L) (hst : wp_C_foretold 1170 14200 t (xs (i + 1)) (fun v t1 => wp_M_foretold σ (xs (i + 1)) (fun w σ1 => v = w ∧ Inv t1 σ1))) (hH : LH D Z E ad bb s t σ H locs) (hl : lv_has ls 4 [(0, .ref b), (1, .ref (ad 5 0)), (2, .ref (bb 69)), (3, .int (nI i))]) (hc : cells + 1170 ≤ 600000 ∧ slots + 14200 ≤ 7302250) (hcont : ∀ (t1 : CS) (σ1 : MS) (ad1 : Nat → Nat → Nat) (H1 : Heap) (locs1 : List Loc), ad1 5 0 = ad 5 0 → Inv t1 σ1 → LH D Z E ad1 bb s t1 σ1 H1 locs1 → W p l e room_1 s m #[Value.ref b] below meth c H1 locs1 (cells + 1170) (slots + 14200) Q (F0 m 1258 ls [])) : W p l e room_1 s m #[Value.ref b] below meth c H locs cells slots Q (F0 m 1179 ls []) := by
  obtain ⟨⟨hx, hb, hml, hown, hts⟩, hK⟩ := id C
  refine lv_aload_n hx hb dL_law_1179 rfl (lv_at hl 1 rfl) ?_
  refine lv_aload_n hx hb dL_law_1180 rfl (lv_at hl 0 rfl) ?_
  refine lv_iload_n hx hb dL_law_1181 rfl (lv_at hl 3 rfl) ?_
  refine lv_iconst (v := 1) hx hb dL_law_1182 (by decide) ?_
  refine lv_iadd hx hb dL_law_1183 ?_
  refine lsld hx hb hX hbl hH.S hL 1 (by decide) (by omega) dL_law_1184 ?_
  refine lcC C hH (B := fun A' => cPost D Z E ad A') toN [.int (xs (i + 1))] (c_C_foretold l D Z E ad 1170 14200 t (xs (i + 1)) _ hst) (cwTV 1 hts wd_992 wd_993 wd_994 wd_1 wd_995 rfl rfl (by decide +kernel) ⟨Nat.le_of_ble_eq_true rfl, Nat.le_of_ble_eq_true rfl⟩) rfl hl.1 rfl (Nat.le_of_ble_eq_true rfl) dL_law_1185 hc (fun r t1 ad1 H locs hst had hH => ?_)
  refine lv_aload_n hx hb dL_law_1188 rfl (lv_at hl 2 rfl) ?_
  refine lv_aload_n hx hb dL_law_1189 rfl (lv_at hl 0 rfl) ?_
  refine lv_iload_n hx hb dL_law_1190 rfl (lv_at hl 3 rfl) ?_
  refine lv_iconst (v := 1) hx hb dL_law_1191 (by decide) ?_
  refine lv_iadd hx hb dL_law_1192 ?_
  refine lsld hx hb hX hbl hH.S hL 1 (by decide) (by omega) dL_law_1193 ?_
  refine lcM C hH [.int (xs (i + 1))] (c_M_foretold l D Z bb σ (xs (i + 1)) _ hst) (cwTV 1 hts wd_1558 wd_1559 wd_1560 wd_14 wd_1561 rfl rfl (by decide +kernel) ⟨Nat.le_of_ble_eq_true rfl, Nat.le_of_ble_eq_true rfl⟩) rfl hl.1 rfl (Nat.le_of_ble_eq_true rfl) dL_law_1194 hc (fun r2 σ1 H locs hst hH => ?_)
  refine lv_icmp_eq (tgt := 1258) hx hb dL_law_1197 (by decide) (fun _ => ?_) (fun q => absurd hst.1 q)
  exact W.widen (k := cells + 1170) (n := slots + 14200) (by omega) (by omega) (hcont t1 σ1 ad1 H locs had hst.2 hH)
set_option maxHeartbeats 4000000 in
set_option maxRecDepth 100000 in
theorem law_case_28 {p : Program} {l : Launch} {e : Env} {s : State} {m : MethodId} {below : List Frame} {meth : Method} {c : Code} {D : va_G} {Z : Nat → ClassId} {E : Nat → Nat} {ad : Nat → Nat → Nat} {bb : Nat → Nat} {b L : Nat} {xs : Nat → Int32} {t : CS} {σ : MS} {H : Heap} {locs : List Loc} {cells slots : Nat} {ls : Array Slot} {i : Nat} {Q : State → Prop} {Inv : CS → MS → Prop} (C : CC p s m #[Value.ref b] c code 4 RL D Z E (lA s)) (hX : va_X b L xs s s.heap) (hbl : b < s.heap.size) (hL : L ≤ 3072) (hi : i + 6 ≤ L) (hst : wp_C_fund t (xs (i + 1)) (xs (i + 2)) (fun v t1 => wp_M_fund σ (xs (i + 1)) (xs (i + 2)) (fun w σ1 => v = w ∧ Inv t1 σ1))) (hH : LH D Z E ad bb s t σ H locs) (hl : lv_has ls 4 [(0, .ref b), (1, .ref (ad 5 0)), (2, .ref (bb 69)), (3, .int (nI i))]) (hc : cells + 1170 ≤ 600000 ∧ slots + 14200 ≤ 7302250) (hcont : ∀ (t1 : CS) (σ1 : MS) (ad1 : Nat → Nat → Nat) (H1 : Heap) (locs1 : List Loc), ad1 5 0 = ad 5 0 → Inv t1 σ1 → LH D Z E ad1 bb s t1 σ1 H1 locs1 → W p l e room_1 s m #[Value.ref b] below meth c H1 locs1 (cells + 1170) (slots + 14200) Q (F0 m 1258 ls [])) : W p l e room_1 s m #[Value.ref b] below meth c H locs cells slots Q (F0 m 1202 ls []) := by
  obtain ⟨⟨hx, hb, hml, hown, hts⟩, hK⟩ := id C
  refine lv_aload_n hx hb dL_law_1202 rfl (lv_at hl 1 rfl) ?_
  refine lv_aload_n hx hb dL_law_1203 rfl (lv_at hl 0 rfl) ?_
  refine lv_iload_n hx hb dL_law_1204 rfl (lv_at hl 3 rfl) ?_
  refine lv_iconst (v := 1) hx hb dL_law_1205 (by decide) ?_
  refine lv_iadd hx hb dL_law_1206 ?_
  refine lsld hx hb hX hbl hH.S hL 1 (by decide) (by omega) dL_law_1207 ?_
  refine lv_aload_n hx hb dL_law_1208 rfl (lv_at hl 0 rfl) ?_
  refine lv_iload_n hx hb dL_law_1209 rfl (lv_at hl 3 rfl) ?_
  refine lv_iconst (v := 2) hx hb dL_law_1210 (by decide) ?_
  refine lv_iadd hx hb dL_law_1211 ?_
  refine lsld hx hb hX hbl hH.S hL 2 (by decide) (by omega) dL_law_1212 ?_
  refine lcC C hH (B := fun A' => cPost D Z E ad A') toN [.int (xs (i + 1)), .int (xs (i + 2))] (c_C_fund l D Z E ad t (xs (i + 1)) (xs (i + 2)) _ hst) (cwTV 2 hts wd_1004 wd_1005 wd_1006 wd_1 wd_1007 rfl rfl (by decide +kernel) ⟨Nat.le_of_ble_eq_true rfl, Nat.le_of_ble_eq_true rfl⟩) rfl hl.1 rfl (Nat.le_of_ble_eq_true rfl) dL_law_1213 ⟨(show cells + 0 ≤ 600000 by omega), (show slots + 0 ≤ 7302250 by omega)⟩ (fun r t1 ad1 H locs hst had hH => ?_)
  refine lv_aload_n hx hb dL_law_1216 rfl (lv_at hl 2 rfl) ?_
  refine lv_aload_n hx hb dL_law_1217 rfl (lv_at hl 0 rfl) ?_
  refine lv_iload_n hx hb dL_law_1218 rfl (lv_at hl 3 rfl) ?_
  refine lv_iconst (v := 1) hx hb dL_law_1219 (by decide) ?_
  refine lv_iadd hx hb dL_law_1220 ?_
  refine lsld hx hb hX hbl hH.S hL 1 (by decide) (by omega) dL_law_1221 ?_
  refine lv_aload_n hx hb dL_law_1222 rfl (lv_at hl 0 rfl) ?_
  refine lv_iload_n hx hb dL_law_1223 rfl (lv_at hl 3 rfl) ?_
  refine lv_iconst (v := 2) hx hb dL_law_1224 (by decide) ?_
  refine lv_iadd hx hb dL_law_1225 ?_
  refine lsld hx hb hX hbl hH.S hL 2 (by decide) (by omega) dL_law_1226 ?_
  refine lcM C hH [.int (xs (i + 1)), .int (xs (i + 2))] (c_M_fund l D Z bb σ (xs (i + 1)) (xs (i + 2)) _ hst) (cwTV 2 hts wd_1562 wd_1563 wd_1564 wd_14 wd_1565 rfl rfl (by decide +kernel) ⟨Nat.le_of_ble_eq_true rfl, Nat.le_of_ble_eq_true rfl⟩) rfl hl.1 rfl (Nat.le_of_ble_eq_true rfl) dL_law_1227 ⟨(show cells + 0 ≤ 600000 by omega), (show slots + 0 ≤ 7302250 by omega)⟩ (fun r2 σ1 H locs hst hH => ?_)
  refine lv_icmp_eq (tgt := 1258) hx hb dL_law_1230 (by decide) (fun _ => ?_) (fun q => absurd hst.1 q)
  exact W.widen (k := cells + 1170) (n := slots + 14200) (by omega) (by omega) (hcont t1 σ1 ad1 H locs had hst.2 hH)
set_option maxHeartbeats 4000000 in
set_option maxRecDepth 100000 in
theorem law_case_29 {p : Program} {l : Launch} {e : Env} {s : State} {m : MethodId} {below : List Frame} {meth : Method} {c : Code} {D : va_G} {Z : Nat → ClassId} {E : Nat → Nat} {ad : Nat → Nat → Nat} {bb : Nat → Nat} {b L : Nat} {xs : Nat → Int32} {t : CS} {σ : MS} {H : Heap} {locs : List Loc} {cells slots : Nat} {ls : Array Slot} {i : Nat} {Q : State → Prop} {Inv : CS → MS → Prop} (C : CC p s m #[Value.ref b] c code 4 RL D Z E (lA s)) (hX : va_X b L xs s s.heap) (hbl : b < s.heap.size) (hL : L ≤ 3072) (hi : i + 6 ≤ L) (hst : wp_C_count t (xs (i + 1)) (fun v t1 => wp_M_count σ (xs (i + 1)) (fun w σ1 => v = w ∧ Inv t1 σ1))) (hH : LH D Z E ad bb s t σ H locs) (hl : lv_has ls 4 [(0, .ref b), (1, .ref (ad 5 0)), (2, .ref (bb 69)), (3, .int (nI i))]) (hc : cells + 1170 ≤ 600000 ∧ slots + 14200 ≤ 7302250) (hcont : ∀ (t1 : CS) (σ1 : MS) (ad1 : Nat → Nat → Nat) (H1 : Heap) (locs1 : List Loc), ad1 5 0 = ad 5 0 → Inv t1 σ1 → LH D Z E ad1 bb s t1 σ1 H1 locs1 → W p l e room_1 s m #[Value.ref b] below meth c H1 locs1 (cells + 1170) (slots + 14200) Q (F0 m 1258 ls [])) : W p l e room_1 s m #[Value.ref b] below meth c H locs cells slots Q (F0 m 1235 ls []) := by
  obtain ⟨⟨hx, hb, hml, hown, hts⟩, hK⟩ := id C
  refine lv_aload_n hx hb dL_law_1235 rfl (lv_at hl 1 rfl) ?_
  refine lv_aload_n hx hb dL_law_1236 rfl (lv_at hl 0 rfl) ?_
  refine lv_iload_n hx hb dL_law_1237 rfl (lv_at hl 3 rfl) ?_
  refine lv_iconst (v := 1) hx hb dL_law_1238 (by decide) ?_
  refine lv_iadd hx hb dL_law_1239 ?_
  refine lsld hx hb hX hbl hH.S hL 1 (by decide) (by omega) dL_law_1240 ?_
  refine lcC C hH (B := fun A' => cPost D Z E ad A') toN [.int (xs (i + 1))] (c_C_count l D Z E ad t (xs (i + 1)) _ hst) (cwTV 1 hts wd_1008 wd_1009 wd_1010 wd_1 wd_1011 rfl rfl (by decide +kernel) ⟨Nat.le_of_ble_eq_true rfl, Nat.le_of_ble_eq_true rfl⟩) rfl hl.1 rfl (Nat.le_of_ble_eq_true rfl) dL_law_1241 ⟨(show cells + 0 ≤ 600000 by omega), (show slots + 0 ≤ 7302250 by omega)⟩ (fun r t1 ad1 H locs hst had hH => ?_)
  refine lv_aload_n hx hb dL_law_1244 rfl (lv_at hl 2 rfl) ?_
  refine lv_aload_n hx hb dL_law_1245 rfl (lv_at hl 0 rfl) ?_
  refine lv_iload_n hx hb dL_law_1246 rfl (lv_at hl 3 rfl) ?_
  refine lv_iconst (v := 1) hx hb dL_law_1247 (by decide) ?_
  refine lv_iadd hx hb dL_law_1248 ?_
  refine lsld hx hb hX hbl hH.S hL 1 (by decide) (by omega) dL_law_1249 ?_
  refine lcM C hH [.int (xs (i + 1))] (c_M_count l D Z bb σ (xs (i + 1)) _ hst) (cwTV 1 hts wd_1566 wd_1567 wd_1568 wd_14 wd_1569 rfl rfl (by decide +kernel) ⟨Nat.le_of_ble_eq_true rfl, Nat.le_of_ble_eq_true rfl⟩) rfl hl.1 rfl (Nat.le_of_ble_eq_true rfl) dL_law_1250 ⟨(show cells + 0 ≤ 600000 by omega), (show slots + 0 ≤ 7302250 by omega)⟩ (fun r2 σ1 H locs hst hH => ?_)
  refine lv_icmp_eq (tgt := 1258) hx hb dL_law_1253 (by decide) (fun _ => ?_) (fun q => absurd hst.1 q)
  exact W.widen (k := cells + 1170) (n := slots + 14200) (by omega) (by omega) (hcont t1 σ1 ad1 H locs had hst.2 hH)
/-- what is owed of the two: from agreeing states, every call answers alike and leaves agreeing states -/
def StepOk (Inv : CS → MS → Prop) : Prop := (∀ t σ, Inv t σ → ∀ a1 a2 : Int32, wp_C_place 1170 14200 t a1 a2 (fun v t1 => wp_M_place σ a1 a2 (fun w σ1 => v = w ∧ Inv t1 σ1))) ∧ (∀ t σ, Inv t σ → ∀ a1 a2 a3 : Int32, wp_C_tide t a1 a2 a3 (fun v t1 => wp_M_tide σ a1 a2 a3 (fun w σ1 => v = w ∧ Inv t1 σ1))) ∧ (∀ t σ, Inv t σ → ∀ a1 a2 : Int32, wp_C_rain t a1 a2 (fun v t1 => wp_M_rain σ a1 a2 (fun w σ1 => v = w ∧ Inv t1 σ1))) ∧ (∀ t σ, Inv t σ → ∀ a1 a2 a3 : Int32, wp_C_way t a1 a2 a3 (fun v t1 => wp_M_way σ a1 a2 a3 (fun w σ1 => v = w ∧ Inv t1 σ1))) ∧ (∀ t σ, Inv t σ → ∀ a1 a2 a3 a4 : Int32, wp_C_man 1170 14200 t a1 a2 a3 a4 (fun v t1 => wp_M_man σ a1 a2 a3 a4 (fun w σ1 => v = w ∧ Inv t1 σ1))) ∧ (∀ t σ, Inv t σ → ∀ a1 : Int32, wp_C_join 1170 14200 t a1 (fun v t1 => wp_M_join σ a1 (fun w σ1 => v = w ∧ Inv t1 σ1))) ∧ (∀ t σ, Inv t σ → ∀ a1 : Int32, wp_C_leave t a1 (fun v t1 => wp_M_leave σ a1 (fun w σ1 => v = w ∧ Inv t1 σ1))) ∧ (∀ t σ, Inv t σ → ∀ a1 : Int32, wp_C_gone t a1 (fun v t1 => wp_M_gone σ a1 (fun w σ1 => v = w ∧ Inv t1 σ1))) ∧ (∀ t σ, Inv t σ → ∀ a1 a2 : Int32, wp_C_about t a1 a2 (fun v t1 => wp_M_about σ a1 a2 (fun w σ1 => v = w ∧ Inv t1 σ1))) ∧ (∀ t σ, Inv t σ → ∀ a1 a2 : Int32, wp_C_turn t a1 a2 (fun v t1 => wp_M_turn σ a1 a2 (fun w σ1 => v = w ∧ Inv t1 σ1))) ∧ (∀ t σ, Inv t σ → ∀ a1 a2 a3 : Int32, wp_C_dice t a1 a2 a3 (fun v t1 => wp_M_dice σ a1 a2 a3 (fun w σ1 => v = w ∧ Inv t1 σ1))) ∧ (∀ t σ, Inv t σ → ∀ a1 a2 a3 a4 a5 : Int32, wp_C_feed t a1 a2 a3 a4 a5 (fun v t1 => wp_M_feed σ a1 a2 a3 a4 a5 (fun w σ1 => v = w ∧ Inv t1 σ1))) ∧ (∀ t σ, Inv t σ → ∀ a1 : Int32, wp_C_end t a1 (fun v t1 => wp_M_end σ a1 (fun w σ1 => v = w ∧ Inv t1 σ1))) ∧ (∀ t σ, Inv t σ → ∀ a1 a2 a3 : Int32, wp_C_law 1170 14200 t a1 a2 a3 (fun v t1 => wp_M_law σ a1 a2 a3 (fun w σ1 => v = w ∧ Inv t1 σ1))) ∧ (∀ t σ, Inv t σ → ∀ a1 a2 a3 a4 : Int32, wp_C_inForce t a1 a2 a3 a4 (fun v t1 => wp_M_inForce σ a1 a2 a3 a4 (fun w σ1 => v = w ∧ Inv t1 σ1))) ∧ (∀ t σ, Inv t σ → ∀ a1 a2 a3 a4 : Int32, wp_C_says t a1 a2 a3 a4 (fun v t1 => wp_M_says σ a1 a2 a3 a4 (fun w σ1 => v = w ∧ Inv t1 σ1))) ∧ (∀ t σ, Inv t σ → ∀ a1 a2 a3 a4 : Int32, wp_C_load 1170 14200 t a1 a2 a3 a4 (fun v t1 => wp_M_load σ a1 a2 a3 a4 (fun w σ1 => v = w ∧ Inv t1 σ1))) ∧ (∀ t σ, Inv t σ → ∀ a1 : Int32, wp_C_whose t a1 (fun v t1 => wp_M_whose σ a1 (fun w σ1 => v = w ∧ Inv t1 σ1))) ∧ (∀ t σ, Inv t σ → ∀ a1 a2 : Int32, wp_C_why 1170 14200 t a1 a2 (fun v t1 => wp_M_why σ a1 a2 (fun w σ1 => v = w ∧ Inv t1 σ1))) ∧ (∀ t σ, Inv t σ → ∀ a1 a2 : Int32, wp_C_send 1170 14200 t a1 a2 (fun v t1 => wp_M_send σ a1 a2 (fun w σ1 => v = w ∧ Inv t1 σ1))) ∧ (∀ t σ, Inv t σ → ∀ a1 : Int32, wp_C_off t a1 (fun v t1 => wp_M_off σ a1 (fun w σ1 => v = w ∧ Inv t1 σ1))) ∧ (∀ t σ, Inv t σ → ∀ a1 a2 a3 : Int32, wp_C_fall t a1 a2 a3 (fun v t1 => wp_M_fall σ a1 a2 a3 (fun w σ1 => v = w ∧ Inv t1 σ1))) ∧ (∀ t σ, Inv t σ → ∀ a1 a2 : Int32, wp_C_told t a1 a2 (fun v t1 => wp_M_told σ a1 a2 (fun w σ1 => v = w ∧ Inv t1 σ1))) ∧ (∀ t σ, Inv t σ → ∀ a1 a2 : Int32, wp_C_gang t a1 a2 (fun v t1 => wp_M_gang σ a1 a2 (fun w σ1 => v = w ∧ Inv t1 σ1))) ∧ (∀ t σ, Inv t σ → ∀ a1 : Int32, wp_C_minutes 1170 14200 t a1 (fun v t1 => wp_M_minutes σ a1 (fun w σ1 => v = w ∧ Inv t1 σ1))) ∧ (∀ t σ, Inv t σ → ∀ a1 a2 a3 a4 : Int32, wp_C_judged t a1 a2 a3 a4 (fun v t1 => wp_M_judged σ a1 a2 a3 a4 (fun w σ1 => v = w ∧ Inv t1 σ1))) ∧ (∀ t σ, Inv t σ → ∀ a1 a2 a3 : Int32, wp_C_rates t a1 a2 a3 (fun v t1 => wp_M_rates σ a1 a2 a3 (fun w σ1 => v = w ∧ Inv t1 σ1))) ∧ (∀ t σ, Inv t σ → ∀ a1 : Int32, wp_C_foretold 1170 14200 t a1 (fun v t1 => wp_M_foretold σ a1 (fun w σ1 => v = w ∧ Inv t1 σ1))) ∧ (∀ t σ, Inv t σ → ∀ a1 a2 : Int32, wp_C_fund t a1 a2 (fun v t1 => wp_M_fund σ a1 a2 (fun w σ1 => v = w ∧ Inv t1 σ1))) ∧ (∀ t σ, Inv t σ → ∀ a1 : Int32, wp_C_count t a1 (fun v t1 => wp_M_count σ a1 (fun w σ1 => v = w ∧ Inv t1 σ1)))
