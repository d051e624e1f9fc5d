/-- what stands fast through the law's walk -/
def lwCtx (p : Program) (s : State) (m : MethodId) (meth : Method) (c : Code) (D : va_G) (cI cJ : ClassId) (b L : Nat) (xs : Nat → Int32) (adX adM : Nat → Nat) : Prop :=
  (∀ (mm : Nat) (y : zMeth), zMs[mm]? = some y → zmok zMs y) ∧ p.tables.exec = Jvm.exec ∧ c.code = code ∧ c.maxLocals = 4 ∧ s.vm.findClass R_law = some m.cls ∧ (∀ w ∈ zTb, w.before #[Value.ref b] s = true) ∧ va_K D vwCl [(cI, .int), (cJ, .long)] s ∧ zNk s ∧ va_X b L xs s s.heap ∧ b < s.heap.size ∧ L ≤ 3584 ∧ (∀ i, i < skX.length → ∀ j, j < skM.length → adX i ≠ adM j) ∧ meth.sig.returnType = ret ∧ meth.locks = false
def lwAt (p : Program) (l : Launch) (e : Env) (s : State) (m : MethodId) (below : List Frame) (meth : Method) (c : Code) (D : va_G) (cI cJ : ClassId) (b : Nat) (adX adM : Nat → Nat) (pc j : Nat) (σ τ : zS) : Prop :=
  ∀ (H : Heap) (locs : List Loc) (ls : Array Slot), va_P D vwCl (zW cI cJ adX skX σ) H → va_P D vwCl (zW cI cJ adM skM τ) H → va_D (fun q => s.heap.size ≤ q) (zW cI cJ adX skX σ) → va_D (fun q => s.heap.size ≤ q) (zW cI cJ adM skM τ) → va_S (fun q => s.heap.size ≤ q) s.heap H locs → lv_has ls 4 [(0, .ref b), (1, .ref (adX 0)), (2, .ref (adM 0)), (3, .int (nI j))] → W p l e room_1 s m #[Value.ref b] below meth c H locs 600000 7302250 (lw_Z below #[Value.ref b] s) (F0 m pc ls [])
theorem lw_cmp0 (x : Int64) : lg_cmp x x = 0 := by simp [lg_cmp]
set_option maxRecDepth 100000 in
set_option maxHeartbeats 4000000 in
theorem lc_0 {p : Program} {l : Launch} {e : Env} {s : State} {m : MethodId} {below : List Frame} {meth : Method} {c : Code} {D : va_G} {cI cJ : ClassId} {b L : Nat} {xs : Nat → Int32} {adX adM : Nat → Nat} {Rel : zS → zS → Prop} {j : Nat} {σ τ : zS} (hC : lwCtx p s m meth c D cI cJ b L xs adX adM) (hs : ∀ (a1 : Int32) (a2 : Int32) (a3 : Int32), zSim Rel 82 133 [.inl a1, .inl a2, .inl a3]) (hj : j + 7 ≤ L) (hR : Rel σ τ) (next : ∀ σ' τ', Rel σ' τ' → lwAt p l e s m below meth c D cI cJ b adX adM 1536 j σ' τ') : lwAt p l e s m below meth c D cI cJ b adX adM 188 j σ τ := by
  obtain ⟨hMs, hx, hb, hml, hown, hts, hK, hN, hX, hbl, hL, hap, -, -⟩ := hC
  have hA : ∀ q : Nat, s.heap.size ≤ q → (fun q => s.heap.size ≤ q) q := fun _ h => h
  have hbA : ¬ (fun q => s.heap.size ≤ q) b := Nat.not_le.mpr hbl
  intro H locs ls hPX hPM hDX hDM hS hl
  obtain ⟨r, σ', τ', hz1, hz2, hR'⟩ := hs (xs (j + 1)) (xs (j + 2)) (xs (j + 3)) σ τ hR
  refine lv_aload_n hx hb dL_law_188 rfl (lv_at hl 1 rfl) ?_
  refine lw_arg (lv := []) (j := j + 1) (jc := nI 1) (pc4 := 192) hx hb hX hbl hbA hS (lv_at hl 0 rfl) (lv_at hl 3 rfl) (nI_add j 1) (by omega) (by omega) dL_law_189 dL_law_190 (fun k => lv_iconst hx hb dL_law_191 (by decide) k) dL_law_192 dL_law_193 ?_
  refine lw_arg (lv := []) (j := j + 2) (jc := nI 2) (pc4 := 197) hx hb hX hbl hbA hS (lv_at hl 0 rfl) (lv_at hl 3 rfl) (nI_add j 2) (by omega) (by omega) dL_law_194 dL_law_195 (fun k => lv_iconst hx hb dL_law_196 (by decide) k) dL_law_197 dL_law_198 ?_
  refine lw_arg (lv := []) (j := j + 3) (jc := nI 3) (pc4 := 202) hx hb hX hbl hbA hS (lv_at hl 0 rfl) (lv_at hl 3 rfl) (nI_add j 3) (by omega) (by omega) dL_law_199 dL_law_200 (fun k => lv_iconst hx hb dL_law_201 (by decide) k) dL_law_202 dL_law_203 ?_
  refine lw_call (np := 0) (ad1 := adX) (ad2 := adM) (sk1 := skX) (sk2 := skM) (y := zI_X_row) (ci := 6) (a1 := 2) (a2 := 50) (as := [.inl (xs (j + 1)), .inl (xs (j + 2)), .inl (xs (j + 3))]) (rest := []) hMs hx hb hml hown hts hK hN hA hz1 rfl rfl rfl rfl rfl (by decide +kernel) dL_law_204 rfl (by decide) hl.1 (Nat.le_refl _) (Nat.le_refl _) hPX hPM hDX hap hS (fun H1 locs1 hPX hPM hS1 => ?_)
  refine lv_aload_n hx hb dL_law_207 rfl (lv_at hl 2 rfl) ?_
  refine lw_arg (lv := []) (j := j + 1) (jc := nI 1) (pc4 := 211) hx hb hX hbl hbA hS1 (lv_at hl 0 rfl) (lv_at hl 3 rfl) (nI_add j 1) (by omega) (by omega) dL_law_208 dL_law_209 (fun k => lv_iconst hx hb dL_law_210 (by decide) k) dL_law_211 dL_law_212 ?_
  refine lw_arg (lv := []) (j := j + 2) (jc := nI 2) (pc4 := 216) hx hb hX hbl hbA hS1 (lv_at hl 0 rfl) (lv_at hl 3 rfl) (nI_add j 2) (by omega) (by omega) dL_law_213 dL_law_214 (fun k => lv_iconst hx hb dL_law_215 (by decide) k) dL_law_216 dL_law_217 ?_
  refine lw_arg (lv := []) (j := j + 3) (jc := nI 3) (pc4 := 221) hx hb hX hbl hbA hS1 (lv_at hl 0 rfl) (lv_at hl 3 rfl) (nI_add j 3) (by omega) (by omega) dL_law_218 dL_law_219 (fun k => lv_iconst hx hb dL_law_220 (by decide) k) dL_law_221 dL_law_222 ?_
  refine lw_call (np := 0) (ad1 := adM) (ad2 := adX) (sk1 := skM) (sk2 := skX) (y := zI_M_row) (ci := 7) (a1 := 5) (a2 := 24) (as := [.inl (xs (j + 1)), .inl (xs (j + 2)), .inl (xs (j + 3))]) (rest := [.int r]) hMs hx hb hml hown hts hK hN hA hz2 rfl rfl rfl rfl rfl (by decide +kernel) dL_law_223 rfl (by simp [Value.category]) hl.1 (Nat.le_refl _) (Nat.le_refl _) hPM hPX hDM (fun i hi j hj h => hap j hj i hi h.symm) hS1 (fun H2 locs2 hPM hPX hS2 => ?_)
  exact lv_icmp_eq (tgt := 1536) hx hb dL_law_226 (by decide) (fun _ => next σ' τ' hR' H2 locs2 ls hPX hPM (zD_any hDX) (zD_any hDM) hS2 hl) (fun hne => absurd rfl hne)
set_option maxRecDepth 100000 in
set_option maxHeartbeats 4000000 in
theorem lc_1 {p : Program} {l : Launch} {e : Env} {s : State} {m : MethodId} {below : List Frame} {meth : Method} {c : Code} {D : va_G} {cI cJ : ClassId} {b L : Nat} {xs : Nat → Int32} {adX adM : Nat → Nat} {Rel : zS → zS → Prop} {j : Nat} {σ τ : zS} (hC : lwCtx p s m meth c D cI cJ b L xs adX adM) (hs : ∀ (a1 : Int32) (a2 : Int32) (a3 : Int64), zSim Rel 83 135 [.inl a1, .inl a2, .inr (.inl a3)]) (hj : j + 7 ≤ L) (hR : Rel σ τ) (next : ∀ σ' τ', Rel σ' τ' → lwAt p l e s m below meth c D cI cJ b adX adM 1536 j σ' τ') : lwAt p l e s m below meth c D cI cJ b adX adM 231 j σ τ := by
  obtain ⟨hMs, hx, hb, hml, hown, hts, hK, hN, hX, hbl, hL, hap, -, -⟩ := hC
  have hA : ∀ q : Nat, s.heap.size ≤ q → (fun q => s.heap.size ≤ q) q := fun _ h => h
  have hbA : ¬ (fun q => s.heap.size ≤ q) b := Nat.not_le.mpr hbl
  intro H locs ls hPX hPM hDX hDM hS hl
  obtain ⟨r, σ', τ', hz1, hz2, hR'⟩ := hs (xs (j + 1)) (xs (j + 2)) (((Int32.toInt64 (xs (j + 3))) <<< (Int32.toInt64 (32 : Int32) &&& 63)) ||| ((Int32.toInt64 (xs (j + 4))) &&& (4294967295 : Int64))) σ τ hR
  refine lv_aload_n hx hb dL_law_231 rfl (lv_at hl 1 rfl) ?_
  refine lw_arg (lv := []) (j := j + 1) (jc := nI 1) (pc4 := 235) hx hb hX hbl hbA hS (lv_at hl 0 rfl) (lv_at hl 3 rfl) (nI_add j 1) (by omega) (by omega) dL_law_232 dL_law_233 (fun k => lv_iconst hx hb dL_law_234 (by decide) k) dL_law_235 dL_law_236 ?_
  refine lw_arg (lv := []) (j := j + 2) (jc := nI 2) (pc4 := 240) hx hb hX hbl hbA hS (lv_at hl 0 rfl) (lv_at hl 3 rfl) (nI_add j 2) (by omega) (by omega) dL_law_237 dL_law_238 (fun k => lv_iconst hx hb dL_law_239 (by decide) k) dL_law_240 dL_law_241 ?_
  refine lw_arg (lv := []) (j := j + 3) (jc := nI 3) (pc4 := 245) hx hb hX hbl hbA hS (lv_at hl 0 rfl) (lv_at hl 3 rfl) (nI_add j 3) (by omega) (by omega) dL_law_242 dL_law_243 (fun k => lv_iconst hx hb dL_law_244 (by decide) k) dL_law_245 dL_law_246 ?_
  refine lv_i2l hx hb dL_law_247 rfl ?_
  refine lv_bipush (v := 32) hx hb dL_law_248 (by decide) ?_
  refine lv_lshl (v := ((Int32.toInt64 (xs (j + 3))) <<< (Int32.toInt64 (32 : Int32) &&& 63))) hx hb dL_law_250 rfl ?_
  refine lw_arg (lv := []) (j := j + 4) (jc := nI 4) (pc4 := 254) hx hb hX hbl hbA hS (lv_at hl 0 rfl) (lv_at hl 3 rfl) (nI_add j 4) (by omega) (by omega) dL_law_251 dL_law_252 (fun k => lv_iconst hx hb dL_law_253 (by decide) k) dL_law_254 dL_law_255 ?_
  refine lv_i2l hx hb dL_law_256 rfl ?_
  refine lv_ldc2 (v := 4294967295) hx hb hown (hts _ (zwd_ok (a := 6) (b := 141) (by decide +kernel))) dL_law_257 ?_
  refine lv_land hx hb dL_law_260 ?_
  refine lv_lor hx hb dL_law_261 ?_
  refine lw_call (np := 0) (ad1 := adX) (ad2 := adM) (sk1 := skX) (sk2 := skM) (y := zI_X_set) (ci := 6) (a1 := 2) (a2 := 72) (as := [.inl (xs (j + 1)), .inl (xs (j + 2)), .inr (.inl (((Int32.toInt64 (xs (j + 3))) <<< (Int32.toInt64 (32 : Int32) &&& 63)) ||| ((Int32.toInt64 (xs (j + 4))) &&& (4294967295 : Int64))))]) (rest := []) hMs hx hb hml hown hts hK hN hA hz1 rfl rfl rfl rfl rfl (by decide +kernel) dL_law_262 rfl (by decide) hl.1 (Nat.le_refl _) (Nat.le_refl _) hPX hPM hDX hap hS (fun H1 locs1 hPX hPM hS1 => ?_)
  refine lv_aload_n hx hb dL_law_265 rfl (lv_at hl 2 rfl) ?_
  refine lw_arg (lv := []) (j := j + 1) (jc := nI 1) (pc4 := 269) hx hb hX hbl hbA hS1 (lv_at hl 0 rfl) (lv_at hl 3 rfl) (nI_add j 1) (by omega) (by omega) dL_law_266 dL_law_267 (fun k => lv_iconst hx hb dL_law_268 (by decide) k) dL_law_269 dL_law_270 ?_
  refine lw_arg (lv := []) (j := j + 2) (jc := nI 2) (pc4 := 274) hx hb hX hbl hbA hS1 (lv_at hl 0 rfl) (lv_at hl 3 rfl) (nI_add j 2) (by omega) (by omega) dL_law_271 dL_law_272 (fun k => lv_iconst hx hb dL_law_273 (by decide) k) dL_law_274 dL_law_275 ?_
  refine lw_arg (lv := []) (j := j + 3) (jc := nI 3) (pc4 := 279) hx hb hX hbl hbA hS1 (lv_at hl 0 rfl) (lv_at hl 3 rfl) (nI_add j 3) (by omega) (by omega) dL_law_276 dL_law_277 (fun k => lv_iconst hx hb dL_law_278 (by decide) k) dL_law_279 dL_law_280 ?_
  refine lv_i2l hx hb dL_law_281 rfl ?_
  refine lv_bipush (v := 32) hx hb dL_law_282 (by decide) ?_
  refine lv_lshl (v := ((Int32.toInt64 (xs (j + 3))) <<< (Int32.toInt64 (32 : Int32) &&& 63))) hx hb dL_law_284 rfl ?_
  refine lw_arg (lv := []) (j := j + 4) (jc := nI 4) (pc4 := 288) hx hb hX hbl hbA hS1 (lv_at hl 0 rfl) (lv_at hl 3 rfl) (nI_add j 4) (by omega) (by omega) dL_law_285 dL_law_286 (fun k => lv_iconst hx hb dL_law_287 (by decide) k) dL_law_288 dL_law_289 ?_
  refine lv_i2l hx hb dL_law_290 rfl ?_
  refine lv_ldc2 (v := 4294967295) hx hb hown (hts _ (zwd_ok (a := 6) (b := 141) (by decide +kernel))) dL_law_291 ?_
  refine lv_land hx hb dL_law_294 ?_
  refine lv_lor hx hb dL_law_295 ?_
  refine lw_call (np := 0) (ad1 := adM) (ad2 := adX) (sk1 := skM) (sk2 := skX) (y := zI_M_set) (ci := 7) (a1 := 5) (a2 := 35) (as := [.inl (xs (j + 1)), .inl (xs (j + 2)), .inr (.inl (((Int32.toInt64 (xs (j + 3))) <<< (Int32.toInt64 (32 : Int32) &&& 63)) ||| ((Int32.toInt64 (xs (j + 4))) &&& (4294967295 : Int64))))]) (rest := [.int r]) hMs hx hb hml hown hts hK hN hA hz2 rfl rfl rfl rfl rfl (by decide +kernel) dL_law_296 rfl (by simp [Value.category]) hl.1 (Nat.le_refl _) (Nat.le_refl _) hPM hPX hDM (fun i hi j hj h => hap j hj i hi h.symm) hS1 (fun H2 locs2 hPM hPX hS2 => ?_)
  exact lv_icmp_eq (tgt := 1536) hx hb dL_law_299 (by decide) (fun _ => next σ' τ' hR' H2 locs2 ls hPX hPM (zD_any hDX) (zD_any hDM) hS2 hl) (fun hne => absurd rfl hne)
set_option maxRecDepth 100000 in
set_option maxHeartbeats 4000000 in
theorem lc_2 {p : Program} {l : Launch} {e : Env} {s : State} {m : MethodId} {below : List Frame} {meth : Method} {c : Code} {D : va_G} {cI cJ : ClassId} {b L : Nat} {xs : Nat → Int32} {adX adM : Nat → Nat} {Rel : zS → zS → Prop} {j : Nat} {σ τ : zS} (hC : lwCtx p s m meth c D cI cJ b L xs adX adM) (hs : ∀ (a1 : Int32) (a2 : Int32) (a3 : Int32) (a4 : Int32) (a5 : Int32), zSim Rel 84 136 [.inl a1, .inl a2, .inl a3, .inl a4, .inl a5]) (hj : j + 7 ≤ L) (hR : Rel σ τ) (next : ∀ σ' τ', Rel σ' τ' → lwAt p l e s m below meth c D cI cJ b adX adM 1536 j σ' τ') : lwAt p l e s m below meth c D cI cJ b adX adM 304 j σ τ := by
  obtain ⟨hMs, hx, hb, hml, hown, hts, hK, hN, hX, hbl, hL, hap, -, -⟩ := hC
  have hA : ∀ q : Nat, s.heap.size ≤ q → (fun q => s.heap.size ≤ q) q := fun _ h => h
  have hbA : ¬ (fun q => s.heap.size ≤ q) b := Nat.not_le.mpr hbl
  intro H locs ls hPX hPM hDX hDM hS hl
  obtain ⟨r, σ', τ', hz1, hz2, hR'⟩ := hs (xs (j + 1)) (xs (j + 2)) (xs (j + 3)) (xs (j + 4)) (xs (j + 5)) σ τ hR
  refine lv_aload_n hx hb dL_law_304 rfl (lv_at hl 1 rfl) ?_
  refine lw_arg (lv := []) (j := j + 1) (jc := nI 1) (pc4 := 308) hx hb hX hbl hbA hS (lv_at hl 0 rfl) (lv_at hl 3 rfl) (nI_add j 1) (by omega) (by omega) dL_law_305 dL_law_306 (fun k => lv_iconst hx hb dL_law_307 (by decide) k) dL_law_308 dL_law_309 ?_
  refine lw_arg (lv := []) (j := j + 2) (jc := nI 2) (pc4 := 313) hx hb hX hbl hbA hS (lv_at hl 0 rfl) (lv_at hl 3 rfl) (nI_add j 2) (by omega) (by omega) dL_law_310 dL_law_311 (fun k => lv_iconst hx hb dL_law_312 (by decide) k) dL_law_313 dL_law_314 ?_
  refine lw_arg (lv := []) (j := j + 3) (jc := nI 3) (pc4 := 318) hx hb hX hbl hbA hS (lv_at hl 0 rfl) (lv_at hl 3 rfl) (nI_add j 3) (by omega) (by omega) dL_law_315 dL_law_316 (fun k => lv_iconst hx hb dL_law_317 (by decide) k) dL_law_318 dL_law_319 ?_
  refine lw_arg (lv := []) (j := j + 4) (jc := nI 4) (pc4 := 323) hx hb hX hbl hbA hS (lv_at hl 0 rfl) (lv_at hl 3 rfl) (nI_add j 4) (by omega) (by omega) dL_law_320 dL_law_321 (fun k => lv_iconst hx hb dL_law_322 (by decide) k) dL_law_323 dL_law_324 ?_
  refine lw_arg (lv := []) (j := j + 5) (jc := nI 5) (pc4 := 328) hx hb hX hbl hbA hS (lv_at hl 0 rfl) (lv_at hl 3 rfl) (nI_add j 5) (by omega) (by omega) dL_law_325 dL_law_326 (fun k => lv_iconst hx hb dL_law_327 (by decide) k) dL_law_328 dL_law_329 ?_
  refine lw_call (np := 0) (ad1 := adX) (ad2 := adM) (sk1 := skX) (sk2 := skM) (y := zI_X_copy) (ci := 6) (a1 := 2) (a2 := 97) (as := [.inl (xs (j + 1)), .inl (xs (j + 2)), .inl (xs (j + 3)), .inl (xs (j + 4)), .inl (xs (j + 5))]) (rest := []) hMs hx hb hml hown hts hK hN hA hz1 rfl rfl rfl rfl rfl (by decide +kernel) dL_law_330 rfl (by decide) hl.1 (Nat.le_refl _) (Nat.le_refl _) hPX hPM hDX hap hS (fun H1 locs1 hPX hPM hS1 => ?_)
  refine lv_aload_n hx hb dL_law_333 rfl (lv_at hl 2 rfl) ?_
  refine lw_arg (lv := []) (j := j + 1) (jc := nI 1) (pc4 := 337) hx hb hX hbl hbA hS1 (lv_at hl 0 rfl) (lv_at hl 3 rfl) (nI_add j 1) (by omega) (by omega) dL_law_334 dL_law_335 (fun k => lv_iconst hx hb dL_law_336 (by decide) k) dL_law_337 dL_law_338 ?_
  refine lw_arg (lv := []) (j := j + 2) (jc := nI 2) (pc4 := 342) hx hb hX hbl hbA hS1 (lv_at hl 0 rfl) (lv_at hl 3 rfl) (nI_add j 2) (by omega) (by omega) dL_law_339 dL_law_340 (fun k => lv_iconst hx hb dL_law_341 (by decide) k) dL_law_342 dL_law_343 ?_
  refine lw_arg (lv := []) (j := j + 3) (jc := nI 3) (pc4 := 347) hx hb hX hbl hbA hS1 (lv_at hl 0 rfl) (lv_at hl 3 rfl) (nI_add j 3) (by omega) (by omega) dL_law_344 dL_law_345 (fun k => lv_iconst hx hb dL_law_346 (by decide) k) dL_law_347 dL_law_348 ?_
  refine lw_arg (lv := []) (j := j + 4) (jc := nI 4) (pc4 := 352) hx hb hX hbl hbA hS1 (lv_at hl 0 rfl) (lv_at hl 3 rfl) (nI_add j 4) (by omega) (by omega) dL_law_349 dL_law_350 (fun k => lv_iconst hx hb dL_law_351 (by decide) k) dL_law_352 dL_law_353 ?_
  refine lw_arg (lv := []) (j := j + 5) (jc := nI 5) (pc4 := 357) hx hb hX hbl hbA hS1 (lv_at hl 0 rfl) (lv_at hl 3 rfl) (nI_add j 5) (by omega) (by omega) dL_law_354 dL_law_355 (fun k => lv_iconst hx hb dL_law_356 (by decide) k) dL_law_357 dL_law_358 ?_
  refine lw_call (np := 0) (ad1 := adM) (ad2 := adX) (sk1 := skM) (sk2 := skX) (y := zI_M_copy) (ci := 7) (a1 := 5) (a2 := 47) (as := [.inl (xs (j + 1)), .inl (xs (j + 2)), .inl (xs (j + 3)), .inl (xs (j + 4)), .inl (xs (j + 5))]) (rest := [.int r]) hMs hx hb hml hown hts hK hN hA hz2 rfl rfl rfl rfl rfl (by decide +kernel) dL_law_359 rfl (by simp [Value.category]) hl.1 (Nat.le_refl _) (Nat.le_refl _) hPM hPX hDM (fun i hi j hj h => hap j hj i hi h.symm) hS1 (fun H2 locs2 hPM hPX hS2 => ?_)
  exact lv_icmp_eq (tgt := 1536) hx hb dL_law_362 (by decide) (fun _ => next σ' τ' hR' H2 locs2 ls hPX hPM (zD_any hDX) (zD_any hDM) hS2 hl) (fun hne => absurd rfl hne)
set_option maxRecDepth 100000 in
set_option maxHeartbeats 4000000 in
theorem lc_3 {p : Program} {l : Launch} {e : Env} {s : State} {m : MethodId} {below : List Frame} {meth : Method} {c : Code} {D : va_G} {cI cJ : ClassId} {b L : Nat} {xs : Nat → Int32} {adX adM : Nat → Nat} {Rel : zS → zS → Prop} {j : Nat} {σ τ : zS} (hC : lwCtx p s m meth c D cI cJ b L xs adX adM) (hs : ∀ (a1 : Int32) (a2 : Int32), zSimJ Rel 85 137 [.inl a1, .inl a2]) (hj : j + 7 ≤ L) (hR : Rel σ τ) (next : ∀ σ' τ', Rel σ' τ' → lwAt p l e s m below meth c D cI cJ b adX adM 1536 j σ' τ') : lwAt p l e s m below meth c D cI cJ b adX adM 367 j σ τ := by
  obtain ⟨hMs, hx, hb, hml, hown, hts, hK, hN, hX, hbl, hL, hap, -, -⟩ := hC
  have hA : ∀ q : Nat, s.heap.size ≤ q → (fun q => s.heap.size ≤ q) q := fun _ h => h
  have hbA : ¬ (fun q => s.heap.size ≤ q) b := Nat.not_le.mpr hbl
  intro H locs ls hPX hPM hDX hDM hS hl
  obtain ⟨r, σ', τ', hz1, hz2, hR'⟩ := hs (xs (j + 1)) (xs (j + 2)) σ τ hR
  refine lv_aload_n hx hb dL_law_367 rfl (lv_at hl 1 rfl) ?_
  refine lw_arg (lv := []) (j := j + 1) (jc := nI 1) (pc4 := 371) hx hb hX hbl hbA hS (lv_at hl 0 rfl) (lv_at hl 3 rfl) (nI_add j 1) (by omega) (by omega) dL_law_368 dL_law_369 (fun k => lv_iconst hx hb dL_law_370 (by decide) k) dL_law_371 dL_law_372 ?_
  refine lw_arg (lv := []) (j := j + 2) (jc := nI 2) (pc4 := 376) hx hb hX hbl hbA hS (lv_at hl 0 rfl) (lv_at hl 3 rfl) (nI_add j 2) (by omega) (by omega) dL_law_373 dL_law_374 (fun k => lv_iconst hx hb dL_law_375 (by decide) k) dL_law_376 dL_law_377 ?_
  refine lw_call (np := 0) (ad1 := adX) (ad2 := adM) (sk1 := skX) (sk2 := skM) (y := zI_X_element) (ci := 6) (a1 := 2) (a2 := 118) (as := [.inl (xs (j + 1)), .inl (xs (j + 2))]) (rest := []) hMs hx hb hml hown hts hK hN hA hz1 rfl rfl rfl rfl rfl (by decide +kernel) dL_law_378 rfl (by decide) hl.1 (Nat.le_refl _) (Nat.le_refl _) hPX hPM hDX hap hS (fun H1 locs1 hPX hPM hS1 => ?_)
  refine lv_aload_n hx hb dL_law_381 rfl (lv_at hl 2 rfl) ?_
  refine lw_arg (lv := []) (j := j + 1) (jc := nI 1) (pc4 := 385) hx hb hX hbl hbA hS1 (lv_at hl 0 rfl) (lv_at hl 3 rfl) (nI_add j 1) (by omega) (by omega) dL_law_382 dL_law_383 (fun k => lv_iconst hx hb dL_law_384 (by decide) k) dL_law_385 dL_law_386 ?_
  refine lw_arg (lv := []) (j := j + 2) (jc := nI 2) (pc4 := 390) hx hb hX hbl hbA hS1 (lv_at hl 0 rfl) (lv_at hl 3 rfl) (nI_add j 2) (by omega) (by omega) dL_law_387 dL_law_388 (fun k => lv_iconst hx hb dL_law_389 (by decide) k) dL_law_390 dL_law_391 ?_
  refine lw_call (np := 0) (ad1 := adM) (ad2 := adX) (sk1 := skM) (sk2 := skX) (y := zI_M_element) (ci := 7) (a1 := 5) (a2 := 51) (as := [.inl (xs (j + 1)), .inl (xs (j + 2))]) (rest := [.long r]) hMs hx hb hml hown hts hK hN hA hz2 rfl rfl rfl rfl rfl (by decide +kernel) dL_law_392 rfl (by simp [Value.category]) hl.1 (Nat.le_refl _) (Nat.le_refl _) hPM hPX hDM (fun i hi j hj h => hap j hj i hi h.symm) hS1 (fun H2 locs2 hPM hPX hS2 => ?_)
  refine W.lcmp hx hb dL_law_395 ?_
  exact lv_if_eq (tgt := 1536) hx hb dL_law_396 (by decide) (fun _ => next σ' τ' hR' H2 locs2 ls hPX hPM (zD_any hDX) (zD_any hDM) hS2 hl) (fun hne => absurd (lw_cmp0 r) hne)
set_option maxRecDepth 100000 in
set_option maxHeartbeats 4000000 in
theorem lc_4 {p : Program} {l : Launch} {e : Env} {s : State} {m : MethodId} {below : List Frame} {meth : Method} {c : Code} {D : va_G} {cI cJ : ClassId} {b L : Nat} {xs : Nat → Int32} {adX adM : Nat → Nat} {Rel : zS → zS → Prop} {j : Nat} {σ τ : zS} (hC : lwCtx p s m meth c D cI cJ b L xs adX adM) (hs : ∀ (a1 : Int32) (a2 : Int32), zSim Rel 86 138 [.inl a1, .inl a2]) (hj : j + 7 ≤ L) (hR : Rel σ τ) (next : ∀ σ' τ', Rel σ' τ' → lwAt p l e s m below meth c D cI cJ b adX adM 1536 j σ' τ') : lwAt p l e s m below meth c D cI cJ b adX adM 401 j σ τ := by
  obtain ⟨hMs, hx, hb, hml, hown, hts, hK, hN, hX, hbl, hL, hap, -, -⟩ := hC
  have hA : ∀ q : Nat, s.heap.size ≤ q → (fun q => s.heap.size ≤ q) q := fun _ h => h
  have hbA : ¬ (fun q => s.heap.size ≤ q) b := Nat.not_le.mpr hbl
  intro H locs ls hPX hPM hDX hDM hS hl
  obtain ⟨r, σ', τ', hz1, hz2, hR'⟩ := hs (xs (j + 1)) (xs (j + 2)) σ τ hR
  refine lv_aload_n hx hb dL_law_401 rfl (lv_at hl 1 rfl) ?_
  refine lw_arg (lv := []) (j := j + 1) (jc := nI 1) (pc4 := 405) hx hb hX hbl hbA hS (lv_at hl 0 rfl) (lv_at hl 3 rfl) (nI_add j 1) (by omega) (by omega) dL_law_402 dL_law_403 (fun k => lv_iconst hx hb dL_law_404 (by decide) k) dL_law_405 dL_law_406 ?_
  refine lw_arg (lv := []) (j := j + 2) (jc := nI 2) (pc4 := 410) hx hb hX hbl hbA hS (lv_at hl 0 rfl) (lv_at hl 3 rfl) (nI_add j 2) (by omega) (by omega) dL_law_407 dL_law_408 (fun k => lv_iconst hx hb dL_law_409 (by decide) k) dL_law_410 dL_law_411 ?_
  refine lw_call (np := 0) (ad1 := adX) (ad2 := adM) (sk1 := skX) (sk2 := skM) (y := zI_X_show) (ci := 6) (a1 := 2) (a2 := 126) (as := [.inl (xs (j + 1)), .inl (xs (j + 2))]) (rest := []) hMs hx hb hml hown hts hK hN hA hz1 rfl rfl rfl rfl rfl (by decide +kernel) dL_law_412 rfl (by decide) hl.1 (Nat.le_refl _) (Nat.le_refl _) hPX hPM hDX hap hS (fun H1 locs1 hPX hPM hS1 => ?_)
  refine lv_aload_n hx hb dL_law_415 rfl (lv_at hl 2 rfl) ?_
  refine lw_arg (lv := []) (j := j + 1) (jc := nI 1) (pc4 := 419) hx hb hX hbl hbA hS1 (lv_at hl 0 rfl) (lv_at hl 3 rfl) (nI_add j 1) (by omega) (by omega) dL_law_416 dL_law_417 (fun k => lv_iconst hx hb dL_law_418 (by decide) k) dL_law_419 dL_law_420 ?_
  refine lw_arg (lv := []) (j := j + 2) (jc := nI 2) (pc4 := 424) hx hb hX hbl hbA hS1 (lv_at hl 0 rfl) (lv_at hl 3 rfl) (nI_add j 2) (by omega) (by omega) dL_law_421 dL_law_422 (fun k => lv_iconst hx hb dL_law_423 (by decide) k) dL_law_424 dL_law_425 ?_
  refine lw_call (np := 0) (ad1 := adM) (ad2 := adX) (sk1 := skM) (sk2 := skX) (y := zI_M_show) (ci := 7) (a1 := 5) (a2 := 55) (as := [.inl (xs (j + 1)), .inl (xs (j + 2))]) (rest := [.int r]) hMs hx hb hml hown hts hK hN hA hz2 rfl rfl rfl rfl rfl (by decide +kernel) dL_law_426 rfl (by simp [Value.category]) hl.1 (Nat.le_refl _) (Nat.le_refl _) hPM hPX hDM (fun i hi j hj h => hap j hj i hi h.symm) hS1 (fun H2 locs2 hPM hPX hS2 => ?_)
  exact lv_icmp_eq (tgt := 1536) hx hb dL_law_429 (by decide) (fun _ => next σ' τ' hR' H2 locs2 ls hPX hPM (zD_any hDX) (zD_any hDM) hS2 hl) (fun hne => absurd rfl hne)
set_option maxRecDepth 100000 in
set_option maxHeartbeats 4000000 in
theorem lc_5 {p : Program} {l : Launch} {e : Env} {s : State} {m : MethodId} {below : List Frame} {meth : Method} {c : Code} {D : va_G} {cI cJ : ClassId} {b L : Nat} {xs : Nat → Int32} {adX adM : Nat → Nat} {Rel : zS → zS → Prop} {j : Nat} {σ τ : zS} (hC : lwCtx p s m meth c D cI cJ b L xs adX adM) (hs : ∀ (a1 : Int32), zSim Rel 87 139 [.inl a1]) (hj : j + 7 ≤ L) (hR : Rel σ τ) (next : ∀ σ' τ', Rel σ' τ' → lwAt p l e s m below meth c D cI cJ b adX adM 1536 j σ' τ') : lwAt p l e s m below meth c D cI cJ b adX adM 434 j σ τ := by
  obtain ⟨hMs, hx, hb, hml, hown, hts, hK, hN, hX, hbl, hL, hap, -, -⟩ := hC
  have hA : ∀ q : Nat, s.heap.size ≤ q → (fun q => s.heap.size ≤ q) q := fun _ h => h
  have hbA : ¬ (fun q => s.heap.size ≤ q) b := Nat.not_le.mpr hbl
  intro H locs ls hPX hPM hDX hDM hS hl
  obtain ⟨r, σ', τ', hz1, hz2, hR'⟩ := hs (xs (j + 1)) σ τ hR
  refine lv_aload_n hx hb dL_law_434 rfl (lv_at hl 1 rfl) ?_
  refine lw_arg (lv := []) (j := j + 1) (jc := nI 1) (pc4 := 438) hx hb hX hbl hbA hS (lv_at hl 0 rfl) (lv_at hl 3 rfl) (nI_add j 1) (by omega) (by omega) dL_law_435 dL_law_436 (fun k => lv_iconst hx hb dL_law_437 (by decide) k) dL_law_438 dL_law_439 ?_
  refine lw_call (np := 0) (ad1 := adX) (ad2 := adM) (sk1 := skX) (sk2 := skM) (y := zI_X_holds) (ci := 6) (a1 := 2) (a2 := 134) (as := [.inl (xs (j + 1))]) (rest := []) hMs hx hb hml hown hts hK hN hA hz1 rfl rfl rfl rfl rfl (by decide +kernel) dL_law_440 rfl (by decide) hl.1 (Nat.le_refl _) (Nat.le_refl _) hPX hPM hDX hap hS (fun H1 locs1 hPX hPM hS1 => ?_)
  refine lv_aload_n hx hb dL_law_443 rfl (lv_at hl 2 rfl) ?_
  refine lw_arg (lv := []) (j := j + 1) (jc := nI 1) (pc4 := 447) hx hb hX hbl hbA hS1 (lv_at hl 0 rfl) (lv_at hl 3 rfl) (nI_add j 1) (by omega) (by omega) dL_law_444 dL_law_445 (fun k => lv_iconst hx hb dL_law_446 (by decide) k) dL_law_447 dL_law_448 ?_
  refine lw_call (np := 0) (ad1 := adM) (ad2 := adX) (sk1 := skM) (sk2 := skX) (y := zI_M_holds) (ci := 7) (a1 := 5) (a2 := 63) (as := [.inl (xs (j + 1))]) (rest := [.int r]) hMs hx hb hml hown hts hK hN hA hz2 rfl rfl rfl rfl rfl (by decide +kernel) dL_law_449 rfl (by simp [Value.category]) hl.1 (Nat.le_refl _) (Nat.le_refl _) hPM hPX hDM (fun i hi j hj h => hap j hj i hi h.symm) hS1 (fun H2 locs2 hPM hPX hS2 => ?_)
  exact lv_icmp_eq (tgt := 1536) hx hb dL_law_452 (by decide) (fun _ => next σ' τ' hR' H2 locs2 ls hPX hPM (zD_any hDX) (zD_any hDM) hS2 hl) (fun hne => absurd rfl hne)
set_option maxRecDepth 100000 in
set_option maxHeartbeats 4000000 in
theorem lc_6 {p : Program} {l : Launch} {e : Env} {s : State} {m : MethodId} {below : List Frame} {meth : Method} {c : Code} {D : va_G} {cI cJ : ClassId} {b L : Nat} {xs : Nat → Int32} {adX adM : Nat → Nat} {Rel : zS → zS → Prop} {j : Nat} {σ τ : zS} (hC : lwCtx p s m meth c D cI cJ b L xs adX adM) (hs : ∀ (a1 : Int32) (a2 : Int32), zSim Rel 88 140 [.inl a1, .inl a2]) (hj : j + 7 ≤ L) (hR : Rel σ τ) (next : ∀ σ' τ', Rel σ' τ' → lwAt p l e s m below meth c D cI cJ b adX adM 1536 j σ' τ') : lwAt p l e s m below meth c D cI cJ b adX adM 457 j σ τ := by
  obtain ⟨hMs, hx, hb, hml, hown, hts, hK, hN, hX, hbl, hL, hap, -, -⟩ := hC
  have hA : ∀ q : Nat, s.heap.size ≤ q → (fun q => s.heap.size ≤ q) q := fun _ h => h
  have hbA : ¬ (fun q => s.heap.size ≤ q) b := Nat.not_le.mpr hbl
  intro H locs ls hPX hPM hDX hDM hS hl
  obtain ⟨r, σ', τ', hz1, hz2, hR'⟩ := hs (xs (j + 1)) (xs (j + 2)) σ τ hR
  refine lv_aload_n hx hb dL_law_457 rfl (lv_at hl 1 rfl) ?_
  refine lw_arg (lv := []) (j := j + 1) (jc := nI 1) (pc4 := 461) hx hb hX hbl hbA hS (lv_at hl 0 rfl) (lv_at hl 3 rfl) (nI_add j 1) (by omega) (by omega) dL_law_458 dL_law_459 (fun k => lv_iconst hx hb dL_law_460 (by decide) k) dL_law_461 dL_law_462 ?_
  refine lw_arg (lv := []) (j := j + 2) (jc := nI 2) (pc4 := 466) hx hb hX hbl hbA hS (lv_at hl 0 rfl) (lv_at hl 3 rfl) (nI_add j 2) (by omega) (by omega) dL_law_463 dL_law_464 (fun k => lv_iconst hx hb dL_law_465 (by decide) k) dL_law_466 dL_law_467 ?_
  refine lw_call (np := 0) (ad1 := adX) (ad2 := adM) (sk1 := skX) (sk2 := skM) (y := zI_X_says) (ci := 6) (a1 := 2) (a2 := 138) (as := [.inl (xs (j + 1)), .inl (xs (j + 2))]) (rest := []) hMs hx hb hml hown hts hK hN hA hz1 rfl rfl rfl rfl rfl (by decide +kernel) dL_law_468 rfl (by decide) hl.1 (Nat.le_refl _) (Nat.le_refl _) hPX hPM hDX hap hS (fun H1 locs1 hPX hPM hS1 => ?_)
  refine lv_aload_n hx hb dL_law_471 rfl (lv_at hl 2 rfl) ?_
  refine lw_arg (lv := []) (j := j + 1) (jc := nI 1) (pc4 := 475) hx hb hX hbl hbA hS1 (lv_at hl 0 rfl) (lv_at hl 3 rfl) (nI_add j 1) (by omega) (by omega) dL_law_472 dL_law_473 (fun k => lv_iconst hx hb dL_law_474 (by decide) k) dL_law_475 dL_law_476 ?_
  refine lw_arg (lv := []) (j := j + 2) (jc := nI 2) (pc4 := 480) hx hb hX hbl hbA hS1 (lv_at hl 0 rfl) (lv_at hl 3 rfl) (nI_add j 2) (by omega) (by omega) dL_law_477 dL_law_478 (fun k => lv_iconst hx hb dL_law_479 (by decide) k) dL_law_480 dL_law_481 ?_
  refine lw_call (np := 0) (ad1 := adM) (ad2 := adX) (sk1 := skM) (sk2 := skX) (y := zI_M_says) (ci := 7) (a1 := 5) (a2 := 67) (as := [.inl (xs (j + 1)), .inl (xs (j + 2))]) (rest := [.int r]) hMs hx hb hml hown hts hK hN hA hz2 rfl rfl rfl rfl rfl (by decide +kernel) dL_law_482 rfl (by simp [Value.category]) hl.1 (Nat.le_refl _) (Nat.le_refl _) hPM hPX hDM (fun i hi j hj h => hap j hj i hi h.symm) hS1 (fun H2 locs2 hPM hPX hS2 => ?_)
  exact lv_icmp_eq (tgt := 1536) hx hb dL_law_485 (by decide) (fun _ => next σ' τ' hR' H2 locs2 ls hPX hPM (zD_any hDX) (zD_any hDM) hS2 hl) (fun hne => absurd rfl hne)
set_option maxRecDepth 100000 in
set_option maxHeartbeats 4000000 in
theorem lc_7 {p : Program} {l : Launch} {e : Env} {s : State} {m : MethodId} {below : List Frame} {meth : Method} {c : Code} {D : va_G} {cI cJ : ClassId} {b L : Nat} {xs : Nat → Int32} {adX adM : Nat → Nat} {Rel : zS → zS → Prop} {j : Nat} {σ τ : zS} (hC : lwCtx p s m meth c D cI cJ b L xs adX adM) (hs : ∀ (a1 : Int32), zSim Rel 89 160 [.inl a1]) (hj : j + 7 ≤ L) (hR : Rel σ τ) (next : ∀ σ' τ', Rel σ' τ' → lwAt p l e s m below meth c D cI cJ b adX adM 1536 j σ' τ') : lwAt p l e s m below meth c D cI cJ b adX adM 490 j σ τ := by
  obtain ⟨hMs, hx, hb, hml, hown, hts, hK, hN, hX, hbl, hL, hap, -, -⟩ := hC
  have hA : ∀ q : Nat, s.heap.size ≤ q → (fun q => s.heap.size ≤ q) q := fun _ h => h
  have hbA : ¬ (fun q => s.heap.size ≤ q) b := Nat.not_le.mpr hbl
  intro H locs ls hPX hPM hDX hDM hS hl
  obtain ⟨r, σ', τ', hz1, hz2, hR'⟩ := hs (xs (j + 1)) σ τ hR
  refine lv_aload_n hx hb dL_law_490 rfl (lv_at hl 1 rfl) ?_
  refine lw_arg (lv := []) (j := j + 1) (jc := nI 1) (pc4 := 494) hx hb hX hbl hbA hS (lv_at hl 0 rfl) (lv_at hl 3 rfl) (nI_add j 1) (by omega) (by omega) dL_law_491 dL_law_492 (fun k => lv_iconst hx hb dL_law_493 (by decide) k) dL_law_494 dL_law_495 ?_
  refine lw_call (np := 0) (ad1 := adX) (ad2 := adM) (sk1 := skX) (sk2 := skM) (y := zI_X_read) (ci := 6) (a1 := 2) (a2 := 163) (as := [.inl (xs (j + 1))]) (rest := []) hMs hx hb hml hown hts hK hN hA hz1 rfl rfl rfl rfl rfl (by decide +kernel) dL_law_496 rfl (by decide) hl.1 (Nat.le_refl _) (Nat.le_refl _) hPX hPM hDX hap hS (fun H1 locs1 hPX hPM hS1 => ?_)
  refine lv_aload_n hx hb dL_law_499 rfl (lv_at hl 2 rfl) ?_
  refine lw_arg (lv := []) (j := j + 1) (jc := nI 1) (pc4 := 503) hx hb hX hbl hbA hS1 (lv_at hl 0 rfl) (lv_at hl 3 rfl) (nI_add j 1) (by omega) (by omega) dL_law_500 dL_law_501 (fun k => lv_iconst hx hb dL_law_502 (by decide) k) dL_law_503 dL_law_504 ?_
  refine lw_call (np := 0) (ad1 := adM) (ad2 := adX) (sk1 := skM) (sk2 := skX) (y := zI_M_read) (ci := 7) (a1 := 5) (a2 := 116) (as := [.inl (xs (j + 1))]) (rest := [.int r]) hMs hx hb hml hown hts hK hN hA hz2 rfl rfl rfl rfl rfl (by decide +kernel) dL_law_505 rfl (by simp [Value.category]) hl.1 (Nat.le_refl _) (Nat.le_refl _) hPM hPX hDM (fun i hi j hj h => hap j hj i hi h.symm) hS1 (fun H2 locs2 hPM hPX hS2 => ?_)
  exact lv_icmp_eq (tgt := 1536) hx hb dL_law_508 (by decide) (fun _ => next σ' τ' hR' H2 locs2 ls hPX hPM (zD_any hDX) (zD_any hDM) hS2 hl) (fun hne => absurd rfl hne)
set_option maxRecDepth 100000 in
set_option maxHeartbeats 4000000 in
theorem lc_8 {p : Program} {l : Launch} {e : Env} {s : State} {m : MethodId} {below : List Frame} {meth : Method} {c : Code} {D : va_G} {cI cJ : ClassId} {b L : Nat} {xs : Nat → Int32} {adX adM : Nat → Nat} {Rel : zS → zS → Prop} {j : Nat} {σ τ : zS} (hC : lwCtx p s m meth c D cI cJ b L xs adX adM) (hs : zSim Rel 90 161 []) (hj : j + 7 ≤ L) (hR : Rel σ τ) (next : ∀ σ' τ', Rel σ' τ' → lwAt p l e s m below meth c D cI cJ b adX adM 1536 j σ' τ') : lwAt p l e s m below meth c D cI cJ b adX adM 513 j σ τ := by
  obtain ⟨hMs, hx, hb, hml, hown, hts, hK, hN, hX, hbl, hL, hap, -, -⟩ := hC
  have hA : ∀ q : Nat, s.heap.size ≤ q → (fun q => s.heap.size ≤ q) q := fun _ h => h
  have hbA : ¬ (fun q => s.heap.size ≤ q) b := Nat.not_le.mpr hbl
  intro H locs ls hPX hPM hDX hDM hS hl
  obtain ⟨r, σ', τ', hz1, hz2, hR'⟩ := hs  σ τ hR
  refine lv_aload_n hx hb dL_law_513 rfl (lv_at hl 1 rfl) ?_
  refine lw_call (np := 0) (ad1 := adX) (ad2 := adM) (sk1 := skX) (sk2 := skM) (y := zI_X_fault) (ci := 6) (a1 := 3) (a2 := 40) (as := []) (rest := []) hMs hx hb hml hown hts hK hN hA hz1 rfl rfl rfl rfl rfl (by decide +kernel) dL_law_514 rfl (by decide) hl.1 (Nat.le_refl _) (Nat.le_refl _) hPX hPM hDX hap hS (fun H1 locs1 hPX hPM hS1 => ?_)
  refine lv_aload_n hx hb dL_law_517 rfl (lv_at hl 2 rfl) ?_
  refine lw_call (np := 0) (ad1 := adM) (ad2 := adX) (sk1 := skM) (sk2 := skX) (y := zI_M_fault) (ci := 7) (a1 := 5) (a2 := 160) (as := []) (rest := [.int r]) hMs hx hb hml hown hts hK hN hA hz2 rfl rfl rfl rfl rfl (by decide +kernel) dL_law_518 rfl (by simp [Value.category]) hl.1 (Nat.le_refl _) (Nat.le_refl _) hPM hPX hDM (fun i hi j hj h => hap j hj i hi h.symm) hS1 (fun H2 locs2 hPM hPX hS2 => ?_)
  exact lv_icmp_eq (tgt := 1536) hx hb dL_law_521 (by decide) (fun _ => next σ' τ' hR' H2 locs2 ls hPX hPM (zD_any hDX) (zD_any hDM) hS2 hl) (fun hne => absurd rfl hne)
set_option maxRecDepth 100000 in
set_option maxHeartbeats 4000000 in
theorem lc_9 {p : Program} {l : Launch} {e : Env} {s : State} {m : MethodId} {below : List Frame} {meth : Method} {c : Code} {D : va_G} {cI cJ : ClassId} {b L : Nat} {xs : Nat → Int32} {adX adM : Nat → Nat} {Rel : zS → zS → Prop} {j : Nat} {σ τ : zS} (hC : lwCtx p s m meth c D cI cJ b L xs adX adM) (hs : ∀ (a1 : Int32) (a2 : Int32) (a3 : Int32) (a4 : Int32) (a5 : Int32), zSim Rel 91 149 [.inl a1, .inl a2, .inl a3, .inl a4, .inl a5]) (hj : j + 7 ≤ L) (hR : Rel σ τ) (next : ∀ σ' τ', Rel σ' τ' → lwAt p l e s m below meth c D cI cJ b adX adM 1536 j σ' τ') : lwAt p l e s m below meth c D cI cJ b adX adM 526 j σ τ := by
  obtain ⟨hMs, hx, hb, hml, hown, hts, hK, hN, hX, hbl, hL, hap, -, -⟩ := hC
  have hA : ∀ q : Nat, s.heap.size ≤ q → (fun q => s.heap.size ≤ q) q := fun _ h => h
  have hbA : ¬ (fun q => s.heap.size ≤ q) b := Nat.not_le.mpr hbl
  intro H locs ls hPX hPM hDX hDM hS hl
  obtain ⟨r, σ', τ', hz1, hz2, hR'⟩ := hs (xs (j + 1)) (xs (j + 2)) (xs (j + 3)) (xs (j + 4)) (xs (j + 5)) σ τ hR
  refine lv_aload_n hx hb dL_law_526 rfl (lv_at hl 1 rfl) ?_
  refine lw_arg (lv := []) (j := j + 1) (jc := nI 1) (pc4 := 530) hx hb hX hbl hbA hS (lv_at hl 0 rfl) (lv_at hl 3 rfl) (nI_add j 1) (by omega) (by omega) dL_law_527 dL_law_528 (fun k => lv_iconst hx hb dL_law_529 (by decide) k) dL_law_530 dL_law_531 ?_
  refine lw_arg (lv := []) (j := j + 2) (jc := nI 2) (pc4 := 535) hx hb hX hbl hbA hS (lv_at hl 0 rfl) (lv_at hl 3 rfl) (nI_add j 2) (by omega) (by omega) dL_law_532 dL_law_533 (fun k => lv_iconst hx hb dL_law_534 (by decide) k) dL_law_535 dL_law_536 ?_
  refine lw_arg (lv := []) (j := j + 3) (jc := nI 3) (pc4 := 540) hx hb hX hbl hbA hS (lv_at hl 0 rfl) (lv_at hl 3 rfl) (nI_add j 3) (by omega) (by omega) dL_law_537 dL_law_538 (fun k => lv_iconst hx hb dL_law_539 (by decide) k) dL_law_540 dL_law_541 ?_
  refine lw_arg (lv := []) (j := j + 4) (jc := nI 4) (pc4 := 545) hx hb hX hbl hbA hS (lv_at hl 0 rfl) (lv_at hl 3 rfl) (nI_add j 4) (by omega) (by omega) dL_law_542 dL_law_543 (fun k => lv_iconst hx hb dL_law_544 (by decide) k) dL_law_545 dL_law_546 ?_
  refine lw_arg (lv := []) (j := j + 5) (jc := nI 5) (pc4 := 550) hx hb hX hbl hbA hS (lv_at hl 0 rfl) (lv_at hl 3 rfl) (nI_add j 5) (by omega) (by omega) dL_law_547 dL_law_548 (fun k => lv_iconst hx hb dL_law_549 (by decide) k) dL_law_550 dL_law_551 ?_
  refine lw_call (np := 0) (ad1 := adX) (ad2 := adM) (sk1 := skX) (sk2 := skM) (y := zI_X_make) (ci := 6) (a1 := 3) (a2 := 44) (as := [.inl (xs (j + 1)), .inl (xs (j + 2)), .inl (xs (j + 3)), .inl (xs (j + 4)), .inl (xs (j + 5))]) (rest := []) hMs hx hb hml hown hts hK hN hA hz1 rfl rfl rfl rfl rfl (by decide +kernel) dL_law_552 rfl (by decide) hl.1 (Nat.le_refl _) (Nat.le_refl _) hPX hPM hDX hap hS (fun H1 locs1 hPX hPM hS1 => ?_)
  refine lv_aload_n hx hb dL_law_555 rfl (lv_at hl 2 rfl) ?_
  refine lw_arg (lv := []) (j := j + 1) (jc := nI 1) (pc4 := 559) hx hb hX hbl hbA hS1 (lv_at hl 0 rfl) (lv_at hl 3 rfl) (nI_add j 1) (by omega) (by omega) dL_law_556 dL_law_557 (fun k => lv_iconst hx hb dL_law_558 (by decide) k) dL_law_559 dL_law_560 ?_
  refine lw_arg (lv := []) (j := j + 2) (jc := nI 2) (pc4 := 564) hx hb hX hbl hbA hS1 (lv_at hl 0 rfl) (lv_at hl 3 rfl) (nI_add j 2) (by omega) (by omega) dL_law_561 dL_law_562 (fun k => lv_iconst hx hb dL_law_563 (by decide) k) dL_law_564 dL_law_565 ?_
  refine lw_arg (lv := []) (j := j + 3) (jc := nI 3) (pc4 := 569) hx hb hX hbl hbA hS1 (lv_at hl 0 rfl) (lv_at hl 3 rfl) (nI_add j 3) (by omega) (by omega) dL_law_566 dL_law_567 (fun k => lv_iconst hx hb dL_law_568 (by decide) k) dL_law_569 dL_law_570 ?_
  refine lw_arg (lv := []) (j := j + 4) (jc := nI 4) (pc4 := 574) hx hb hX hbl hbA hS1 (lv_at hl 0 rfl) (lv_at hl 3 rfl) (nI_add j 4) (by omega) (by omega) dL_law_571 dL_law_572 (fun k => lv_iconst hx hb dL_law_573 (by decide) k) dL_law_574 dL_law_575 ?_
  refine lw_arg (lv := []) (j := j + 5) (jc := nI 5) (pc4 := 579) hx hb hX hbl hbA hS1 (lv_at hl 0 rfl) (lv_at hl 3 rfl) (nI_add j 5) (by omega) (by omega) dL_law_576 dL_law_577 (fun k => lv_iconst hx hb dL_law_578 (by decide) k) dL_law_579 dL_law_580 ?_
  refine lw_call (np := 0) (ad1 := adM) (ad2 := adX) (sk1 := skM) (sk2 := skX) (y := zI_M_make) (ci := 7) (a1 := 5) (a2 := 72) (as := [.inl (xs (j + 1)), .inl (xs (j + 2)), .inl (xs (j + 3)), .inl (xs (j + 4)), .inl (xs (j + 5))]) (rest := [.int r]) hMs hx hb hml hown hts hK hN hA hz2 rfl rfl rfl rfl rfl (by decide +kernel) dL_law_581 rfl (by simp [Value.category]) hl.1 (Nat.le_refl _) (Nat.le_refl _) hPM hPX hDM (fun i hi j hj h => hap j hj i hi h.symm) hS1 (fun H2 locs2 hPM hPX hS2 => ?_)
  exact lv_icmp_eq (tgt := 1536) hx hb dL_law_584 (by decide) (fun _ => next σ' τ' hR' H2 locs2 ls hPX hPM (zD_any hDX) (zD_any hDM) hS2 hl) (fun hne => absurd rfl hne)
set_option maxRecDepth 100000 in
set_option maxHeartbeats 4000000 in
theorem lc_10 {p : Program} {l : Launch} {e : Env} {s : State} {m : MethodId} {below : List Frame} {meth : Method} {c : Code} {D : va_G} {cI cJ : ClassId} {b L : Nat} {xs : Nat → Int32} {adX adM : Nat → Nat} {Rel : zS → zS → Prop} {j : Nat} {σ τ : zS} (hC : lwCtx p s m meth c D cI cJ b L xs adX adM) (hs : ∀ (a1 : Int32) (a2 : Int32) (a3 : Int32) (a4 : Int32) (a5 : Int32), zSim Rel 92 150 [.inl a1, .inl a2, .inl a3, .inl a4, .inl a5]) (hj : j + 7 ≤ L) (hR : Rel σ τ) (next : ∀ σ' τ', Rel σ' τ' → lwAt p l e s m below meth c D cI cJ b adX adM 1536 j σ' τ') : lwAt p l e s m below meth c D cI cJ b adX adM 589 j σ τ := by
  obtain ⟨hMs, hx, hb, hml, hown, hts, hK, hN, hX, hbl, hL, hap, -, -⟩ := hC
  have hA : ∀ q : Nat, s.heap.size ≤ q → (fun q => s.heap.size ≤ q) q := fun _ h => h
  have hbA : ¬ (fun q => s.heap.size ≤ q) b := Nat.not_le.mpr hbl
  intro H locs ls hPX hPM hDX hDM hS hl
  obtain ⟨r, σ', τ', hz1, hz2, hR'⟩ := hs (xs (j + 1)) (xs (j + 2)) (xs (j + 3)) (xs (j + 4)) (xs (j + 5)) σ τ hR
  refine lv_aload_n hx hb dL_law_589 rfl (lv_at hl 1 rfl) ?_
  refine lw_arg (lv := []) (j := j + 1) (jc := nI 1) (pc4 := 593) hx hb hX hbl hbA hS (lv_at hl 0 rfl) (lv_at hl 3 rfl) (nI_add j 1) (by omega) (by omega) dL_law_590 dL_law_591 (fun k => lv_iconst hx hb dL_law_592 (by decide) k) dL_law_593 dL_law_594 ?_
  refine lw_arg (lv := []) (j := j + 2) (jc := nI 2) (pc4 := 598) hx hb hX hbl hbA hS (lv_at hl 0 rfl) (lv_at hl 3 rfl) (nI_add j 2) (by omega) (by omega) dL_law_595 dL_law_596 (fun k => lv_iconst hx hb dL_law_597 (by decide) k) dL_law_598 dL_law_599 ?_
  refine lw_arg (lv := []) (j := j + 3) (jc := nI 3) (pc4 := 603) hx hb hX hbl hbA hS (lv_at hl 0 rfl) (lv_at hl 3 rfl) (nI_add j 3) (by omega) (by omega) dL_law_600 dL_law_601 (fun k => lv_iconst hx hb dL_law_602 (by decide) k) dL_law_603 dL_law_604 ?_
  refine lw_arg (lv := []) (j := j + 4) (jc := nI 4) (pc4 := 608) hx hb hX hbl hbA hS (lv_at hl 0 rfl) (lv_at hl 3 rfl) (nI_add j 4) (by omega) (by omega) dL_law_605 dL_law_606 (fun k => lv_iconst hx hb dL_law_607 (by decide) k) dL_law_608 dL_law_609 ?_
  refine lw_arg (lv := []) (j := j + 5) (jc := nI 5) (pc4 := 613) hx hb hX hbl hbA hS (lv_at hl 0 rfl) (lv_at hl 3 rfl) (nI_add j 5) (by omega) (by omega) dL_law_610 dL_law_611 (fun k => lv_iconst hx hb dL_law_612 (by decide) k) dL_law_613 dL_law_614 ?_
  refine lw_call (np := 0) (ad1 := adX) (ad2 := adM) (sk1 := skX) (sk2 := skM) (y := zI_X_wouldBe) (ci := 6) (a1 := 3) (a2 := 63) (as := [.inl (xs (j + 1)), .inl (xs (j + 2)), .inl (xs (j + 3)), .inl (xs (j + 4)), .inl (xs (j + 5))]) (rest := []) hMs hx hb hml hown hts hK hN hA hz1 rfl rfl rfl rfl rfl (by decide +kernel) dL_law_615 rfl (by decide) hl.1 (Nat.le_refl _) (Nat.le_refl _) hPX hPM hDX hap hS (fun H1 locs1 hPX hPM hS1 => ?_)
  refine lv_aload_n hx hb dL_law_618 rfl (lv_at hl 2 rfl) ?_
  refine lw_arg (lv := []) (j := j + 1) (jc := nI 1) (pc4 := 622) hx hb hX hbl hbA hS1 (lv_at hl 0 rfl) (lv_at hl 3 rfl) (nI_add j 1) (by omega) (by omega) dL_law_619 dL_law_620 (fun k => lv_iconst hx hb dL_law_621 (by decide) k) dL_law_622 dL_law_623 ?_
  refine lw_arg (lv := []) (j := j + 2) (jc := nI 2) (pc4 := 627) hx hb hX hbl hbA hS1 (lv_at hl 0 rfl) (lv_at hl 3 rfl) (nI_add j 2) (by omega) (by omega) dL_law_624 dL_law_625 (fun k => lv_iconst hx hb dL_law_626 (by decide) k) dL_law_627 dL_law_628 ?_
  refine lw_arg (lv := []) (j := j + 3) (jc := nI 3) (pc4 := 632) hx hb hX hbl hbA hS1 (lv_at hl 0 rfl) (lv_at hl 3 rfl) (nI_add j 3) (by omega) (by omega) dL_law_629 dL_law_630 (fun k => lv_iconst hx hb dL_law_631 (by decide) k) dL_law_632 dL_law_633 ?_
  refine lw_arg (lv := []) (j := j + 4) (jc := nI 4) (pc4 := 637) hx hb hX hbl hbA hS1 (lv_at hl 0 rfl) (lv_at hl 3 rfl) (nI_add j 4) (by omega) (by omega) dL_law_634 dL_law_635 (fun k => lv_iconst hx hb dL_law_636 (by decide) k) dL_law_637 dL_law_638 ?_
  refine lw_arg (lv := []) (j := j + 5) (jc := nI 5) (pc4 := 642) hx hb hX hbl hbA hS1 (lv_at hl 0 rfl) (lv_at hl 3 rfl) (nI_add j 5) (by omega) (by omega) dL_law_639 dL_law_640 (fun k => lv_iconst hx hb dL_law_641 (by decide) k) dL_law_642 dL_law_643 ?_
  refine lw_call (np := 0) (ad1 := adM) (ad2 := adX) (sk1 := skM) (sk2 := skX) (y := zI_M_wouldBe) (ci := 7) (a1 := 5) (a2 := 108) (as := [.inl (xs (j + 1)), .inl (xs (j + 2)), .inl (xs (j + 3)), .inl (xs (j + 4)), .inl (xs (j + 5))]) (rest := [.int r]) hMs hx hb hml hown hts hK hN hA hz2 rfl rfl rfl rfl rfl (by decide +kernel) dL_law_644 rfl (by simp [Value.category]) hl.1 (Nat.le_refl _) (Nat.le_refl _) hPM hPX hDM (fun i hi j hj h => hap j hj i hi h.symm) hS1 (fun H2 locs2 hPM hPX hS2 => ?_)
  exact lv_icmp_eq (tgt := 1536) hx hb dL_law_647 (by decide) (fun _ => next σ' τ' hR' H2 locs2 ls hPX hPM (zD_any hDX) (zD_any hDM) hS2 hl) (fun hne => absurd rfl hne)
set_option maxRecDepth 100000 in
set_option maxHeartbeats 4000000 in
theorem lc_11 {p : Program} {l : Launch} {e : Env} {s : State} {m : MethodId} {below : List Frame} {meth : Method} {c : Code} {D : va_G} {cI cJ : ClassId} {b L : Nat} {xs : Nat → Int32} {adX adM : Nat → Nat} {Rel : zS → zS → Prop} {j : Nat} {σ τ : zS} (hC : lwCtx p s m meth c D cI cJ b L xs adX adM) (hs : ∀ (a1 : Int32) (a2 : Int32) (a3 : Int32), zSim Rel 93 163 [.inl a1, .inl a2, .inl a3]) (hj : j + 7 ≤ L) (hR : Rel σ τ) (next : ∀ σ' τ', Rel σ' τ' → lwAt p l e s m below meth c D cI cJ b adX adM 1536 j σ' τ') : lwAt p l e s m below meth c D cI cJ b adX adM 652 j σ τ := by
  obtain ⟨hMs, hx, hb, hml, hown, hts, hK, hN, hX, hbl, hL, hap, -, -⟩ := hC
  have hA : ∀ q : Nat, s.heap.size ≤ q → (fun q => s.heap.size ≤ q) q := fun _ h => h
  have hbA : ¬ (fun q => s.heap.size ≤ q) b := Nat.not_le.mpr hbl
  intro H locs ls hPX hPM hDX hDM hS hl
  obtain ⟨r, σ', τ', hz1, hz2, hR'⟩ := hs (xs (j + 1)) (xs (j + 2)) (xs (j + 3)) σ τ hR
  refine lv_aload_n hx hb dL_law_652 rfl (lv_at hl 1 rfl) ?_
  refine lw_arg (lv := []) (j := j + 1) (jc := nI 1) (pc4 := 656) hx hb hX hbl hbA hS (lv_at hl 0 rfl) (lv_at hl 3 rfl) (nI_add j 1) (by omega) (by omega) dL_law_653 dL_law_654 (fun k => lv_iconst hx hb dL_law_655 (by decide) k) dL_law_656 dL_law_657 ?_
  refine lw_arg (lv := []) (j := j + 2) (jc := nI 2) (pc4 := 661) hx hb hX hbl hbA hS (lv_at hl 0 rfl) (lv_at hl 3 rfl) (nI_add j 2) (by omega) (by omega) dL_law_658 dL_law_659 (fun k => lv_iconst hx hb dL_law_660 (by decide) k) dL_law_661 dL_law_662 ?_
  refine lw_arg (lv := []) (j := j + 3) (jc := nI 3) (pc4 := 666) hx hb hX hbl hbA hS (lv_at hl 0 rfl) (lv_at hl 3 rfl) (nI_add j 3) (by omega) (by omega) dL_law_663 dL_law_664 (fun k => lv_iconst hx hb dL_law_665 (by decide) k) dL_law_666 dL_law_667 ?_
  refine lw_call (np := 0) (ad1 := adX) (ad2 := adM) (sk1 := skX) (sk2 := skM) (y := zI_X_value) (ci := 6) (a1 := 3) (a2 := 71) (as := [.inl (xs (j + 1)), .inl (xs (j + 2)), .inl (xs (j + 3))]) (rest := []) hMs hx hb hml hown hts hK hN hA hz1 rfl rfl rfl rfl rfl (by decide +kernel) dL_law_668 rfl (by decide) hl.1 (Nat.le_refl _) (Nat.le_refl _) hPX hPM hDX hap hS (fun H1 locs1 hPX hPM hS1 => ?_)
  refine lv_aload_n hx hb dL_law_671 rfl (lv_at hl 2 rfl) ?_
  refine lw_arg (lv := []) (j := j + 1) (jc := nI 1) (pc4 := 675) hx hb hX hbl hbA hS1 (lv_at hl 0 rfl) (lv_at hl 3 rfl) (nI_add j 1) (by omega) (by omega) dL_law_672 dL_law_673 (fun k => lv_iconst hx hb dL_law_674 (by decide) k) dL_law_675 dL_law_676 ?_
  refine lw_arg (lv := []) (j := j + 2) (jc := nI 2) (pc4 := 680) hx hb hX hbl hbA hS1 (lv_at hl 0 rfl) (lv_at hl 3 rfl) (nI_add j 2) (by omega) (by omega) dL_law_677 dL_law_678 (fun k => lv_iconst hx hb dL_law_679 (by decide) k) dL_law_680 dL_law_681 ?_
  refine lw_arg (lv := []) (j := j + 3) (jc := nI 3) (pc4 := 685) hx hb hX hbl hbA hS1 (lv_at hl 0 rfl) (lv_at hl 3 rfl) (nI_add j 3) (by omega) (by omega) dL_law_682 dL_law_683 (fun k => lv_iconst hx hb dL_law_684 (by decide) k) dL_law_685 dL_law_686 ?_
  refine lw_call (np := 0) (ad1 := adM) (ad2 := adX) (sk1 := skM) (sk2 := skX) (y := zI_M_value) (ci := 7) (a1 := 5) (a2 := 164) (as := [.inl (xs (j + 1)), .inl (xs (j + 2)), .inl (xs (j + 3))]) (rest := [.int r]) hMs hx hb hml hown hts hK hN hA hz2 rfl rfl rfl rfl rfl (by decide +kernel) dL_law_687 rfl (by simp [Value.category]) hl.1 (Nat.le_refl _) (Nat.le_refl _) hPM hPX hDM (fun i hi j hj h => hap j hj i hi h.symm) hS1 (fun H2 locs2 hPM hPX hS2 => ?_)
  exact lv_icmp_eq (tgt := 1536) hx hb dL_law_690 (by decide) (fun _ => next σ' τ' hR' H2 locs2 ls hPX hPM (zD_any hDX) (zD_any hDM) hS2 hl) (fun hne => absurd rfl hne)
set_option maxRecDepth 100000 in
set_option maxHeartbeats 4000000 in
theorem lc_12 {p : Program} {l : Launch} {e : Env} {s : State} {m : MethodId} {below : List Frame} {meth : Method} {c : Code} {D : va_G} {cI cJ : ClassId} {b L : Nat} {xs : Nat → Int32} {adX adM : Nat → Nat} {Rel : zS → zS → Prop} {j : Nat} {σ τ : zS} (hC : lwCtx p s m meth c D cI cJ b L xs adX adM) (hs : ∀ (a1 : Int32) (a2 : Int32) (a3 : Int32) (a4 : Int32), zSim Rel 94 164 [.inl a1, .inl a2, .inl a3, .inl a4]) (hj : j + 7 ≤ L) (hR : Rel σ τ) (next : ∀ σ' τ', Rel σ' τ' → lwAt p l e s m below meth c D cI cJ b adX adM 1536 j σ' τ') : lwAt p l e s m below meth c D cI cJ b adX adM 695 j σ τ := by
  obtain ⟨hMs, hx, hb, hml, hown, hts, hK, hN, hX, hbl, hL, hap, -, -⟩ := hC
  have hA : ∀ q : Nat, s.heap.size ≤ q → (fun q => s.heap.size ≤ q) q := fun _ h => h
  have hbA : ¬ (fun q => s.heap.size ≤ q) b := Nat.not_le.mpr hbl
  intro H locs ls hPX hPM hDX hDM hS hl
  obtain ⟨r, σ', τ', hz1, hz2, hR'⟩ := hs (xs (j + 1)) (xs (j + 2)) (xs (j + 3)) (xs (j + 4)) σ τ hR
  refine lv_aload_n hx hb dL_law_695 rfl (lv_at hl 1 rfl) ?_
  refine lw_arg (lv := []) (j := j + 1) (jc := nI 1) (pc4 := 699) hx hb hX hbl hbA hS (lv_at hl 0 rfl) (lv_at hl 3 rfl) (nI_add j 1) (by omega) (by omega) dL_law_696 dL_law_697 (fun k => lv_iconst hx hb dL_law_698 (by decide) k) dL_law_699 dL_law_700 ?_
  refine lw_arg (lv := []) (j := j + 2) (jc := nI 2) (pc4 := 704) hx hb hX hbl hbA hS (lv_at hl 0 rfl) (lv_at hl 3 rfl) (nI_add j 2) (by omega) (by omega) dL_law_701 dL_law_702 (fun k => lv_iconst hx hb dL_law_703 (by decide) k) dL_law_704 dL_law_705 ?_
  refine lw_arg (lv := []) (j := j + 3) (jc := nI 3) (pc4 := 709) hx hb hX hbl hbA hS (lv_at hl 0 rfl) (lv_at hl 3 rfl) (nI_add j 3) (by omega) (by omega) dL_law_706 dL_law_707 (fun k => lv_iconst hx hb dL_law_708 (by decide) k) dL_law_709 dL_law_710 ?_
  refine lw_arg (lv := []) (j := j + 4) (jc := nI 4) (pc4 := 714) hx hb hX hbl hbA hS (lv_at hl 0 rfl) (lv_at hl 3 rfl) (nI_add j 4) (by omega) (by omega) dL_law_711 dL_law_712 (fun k => lv_iconst hx hb dL_law_713 (by decide) k) dL_law_714 dL_law_715 ?_
  refine lw_call (np := 0) (ad1 := adX) (ad2 := adM) (sk1 := skX) (sk2 := skM) (y := zI_X_method) (ci := 6) (a1 := 3) (a2 := 80) (as := [.inl (xs (j + 1)), .inl (xs (j + 2)), .inl (xs (j + 3)), .inl (xs (j + 4))]) (rest := []) hMs hx hb hml hown hts hK hN hA hz1 rfl rfl rfl rfl rfl (by decide +kernel) dL_law_716 rfl (by decide) hl.1 (Nat.le_refl _) (Nat.le_refl _) hPX hPM hDX hap hS (fun H1 locs1 hPX hPM hS1 => ?_)
  refine lv_aload_n hx hb dL_law_719 rfl (lv_at hl 2 rfl) ?_
  refine lw_arg (lv := []) (j := j + 1) (jc := nI 1) (pc4 := 723) hx hb hX hbl hbA hS1 (lv_at hl 0 rfl) (lv_at hl 3 rfl) (nI_add j 1) (by omega) (by omega) dL_law_720 dL_law_721 (fun k => lv_iconst hx hb dL_law_722 (by decide) k) dL_law_723 dL_law_724 ?_
  refine lw_arg (lv := []) (j := j + 2) (jc := nI 2) (pc4 := 728) hx hb hX hbl hbA hS1 (lv_at hl 0 rfl) (lv_at hl 3 rfl) (nI_add j 2) (by omega) (by omega) dL_law_725 dL_law_726 (fun k => lv_iconst hx hb dL_law_727 (by decide) k) dL_law_728 dL_law_729 ?_
  refine lw_arg (lv := []) (j := j + 3) (jc := nI 3) (pc4 := 733) hx hb hX hbl hbA hS1 (lv_at hl 0 rfl) (lv_at hl 3 rfl) (nI_add j 3) (by omega) (by omega) dL_law_730 dL_law_731 (fun k => lv_iconst hx hb dL_law_732 (by decide) k) dL_law_733 dL_law_734 ?_
  refine lw_arg (lv := []) (j := j + 4) (jc := nI 4) (pc4 := 738) hx hb hX hbl hbA hS1 (lv_at hl 0 rfl) (lv_at hl 3 rfl) (nI_add j 4) (by omega) (by omega) dL_law_735 dL_law_736 (fun k => lv_iconst hx hb dL_law_737 (by decide) k) dL_law_738 dL_law_739 ?_
  refine lw_call (np := 0) (ad1 := adM) (ad2 := adX) (sk1 := skM) (sk2 := skX) (y := zI_M_method) (ci := 7) (a1 := 5) (a2 := 171) (as := [.inl (xs (j + 1)), .inl (xs (j + 2)), .inl (xs (j + 3)), .inl (xs (j + 4))]) (rest := [.int r]) hMs hx hb hml hown hts hK hN hA hz2 rfl rfl rfl rfl rfl (by decide +kernel) dL_law_740 rfl (by simp [Value.category]) hl.1 (Nat.le_refl _) (Nat.le_refl _) hPM hPX hDM (fun i hi j hj h => hap j hj i hi h.symm) hS1 (fun H2 locs2 hPM hPX hS2 => ?_)
  exact lv_icmp_eq (tgt := 1536) hx hb dL_law_743 (by decide) (fun _ => next σ' τ' hR' H2 locs2 ls hPX hPM (zD_any hDX) (zD_any hDM) hS2 hl) (fun hne => absurd rfl hne)
set_option maxRecDepth 100000 in
set_option maxHeartbeats 4000000 in
theorem lc_13 {p : Program} {l : Launch} {e : Env} {s : State} {m : MethodId} {below : List Frame} {meth : Method} {c : Code} {D : va_G} {cI cJ : ClassId} {b L : Nat} {xs : Nat → Int32} {adX adM : Nat → Nat} {Rel : zS → zS → Prop} {j : Nat} {σ τ : zS} (hC : lwCtx p s m meth c D cI cJ b L xs adX adM) (hs : ∀ (a1 : Int32) (a2 : Int32), zSim Rel 95 166 [.inl a1, .inl a2]) (hj : j + 7 ≤ L) (hR : Rel σ τ) (next : ∀ σ' τ', Rel σ' τ' → lwAt p l e s m below meth c D cI cJ b adX adM 1536 j σ' τ') : lwAt p l e s m below meth c D cI cJ b adX adM 748 j σ τ := by
  obtain ⟨hMs, hx, hb, hml, hown, hts, hK, hN, hX, hbl, hL, hap, -, -⟩ := hC
  have hA : ∀ q : Nat, s.heap.size ≤ q → (fun q => s.heap.size ≤ q) q := fun _ h => h
  have hbA : ¬ (fun q => s.heap.size ≤ q) b := Nat.not_le.mpr hbl
  intro H locs ls hPX hPM hDX hDM hS hl
  obtain ⟨r, σ', τ', hz1, hz2, hR'⟩ := hs (xs (j + 1)) (xs (j + 2)) σ τ hR
  refine lv_aload_n hx hb dL_law_748 rfl (lv_at hl 1 rfl) ?_
  refine lw_arg (lv := []) (j := j + 1) (jc := nI 1) (pc4 := 752) hx hb hX hbl hbA hS (lv_at hl 0 rfl) (lv_at hl 3 rfl) (nI_add j 1) (by omega) (by omega) dL_law_749 dL_law_750 (fun k => lv_iconst hx hb dL_law_751 (by decide) k) dL_law_752 dL_law_753 ?_
  refine lw_arg (lv := []) (j := j + 2) (jc := nI 2) (pc4 := 757) hx hb hX hbl hbA hS (lv_at hl 0 rfl) (lv_at hl 3 rfl) (nI_add j 2) (by omega) (by omega) dL_law_754 dL_law_755 (fun k => lv_iconst hx hb dL_law_756 (by decide) k) dL_law_757 dL_law_758 ?_
  refine lw_call (np := 0) (ad1 := adX) (ad2 := adM) (sk1 := skX) (sk2 := skM) (y := zI_X_remove) (ci := 6) (a1 := 3) (a2 := 88) (as := [.inl (xs (j + 1)), .inl (xs (j + 2))]) (rest := []) hMs hx hb hml hown hts hK hN hA hz1 rfl rfl rfl rfl rfl (by decide +kernel) dL_law_759 rfl (by decide) hl.1 (Nat.le_refl _) (Nat.le_refl _) hPX hPM hDX hap hS (fun H1 locs1 hPX hPM hS1 => ?_)
  refine lv_aload_n hx hb dL_law_762 rfl (lv_at hl 2 rfl) ?_
  refine lw_arg (lv := []) (j := j + 1) (jc := nI 1) (pc4 := 766) hx hb hX hbl hbA hS1 (lv_at hl 0 rfl) (lv_at hl 3 rfl) (nI_add j 1) (by omega) (by omega) dL_law_763 dL_law_764 (fun k => lv_iconst hx hb dL_law_765 (by decide) k) dL_law_766 dL_law_767 ?_
  refine lw_arg (lv := []) (j := j + 2) (jc := nI 2) (pc4 := 771) hx hb hX hbl hbA hS1 (lv_at hl 0 rfl) (lv_at hl 3 rfl) (nI_add j 2) (by omega) (by omega) dL_law_768 dL_law_769 (fun k => lv_iconst hx hb dL_law_770 (by decide) k) dL_law_771 dL_law_772 ?_
  refine lw_call (np := 0) (ad1 := adM) (ad2 := adX) (sk1 := skM) (sk2 := skX) (y := zI_M_remove) (ci := 7) (a1 := 5) (a2 := 175) (as := [.inl (xs (j + 1)), .inl (xs (j + 2))]) (rest := [.int r]) hMs hx hb hml hown hts hK hN hA hz2 rfl rfl rfl rfl rfl (by decide +kernel) dL_law_773 rfl (by simp [Value.category]) hl.1 (Nat.le_refl _) (Nat.le_refl _) hPM hPX hDM (fun i hi j hj h => hap j hj i hi h.symm) hS1 (fun H2 locs2 hPM hPX hS2 => ?_)
  exact lv_icmp_eq (tgt := 1536) hx hb dL_law_776 (by decide) (fun _ => next σ' τ' hR' H2 locs2 ls hPX hPM (zD_any hDX) (zD_any hDM) hS2 hl) (fun hne => absurd rfl hne)
set_option maxRecDepth 100000 in
set_option maxHeartbeats 4000000 in
theorem lc_14 {p : Program} {l : Launch} {e : Env} {s : State} {m : MethodId} {below : List Frame} {meth : Method} {c : Code} {D : va_G} {cI cJ : ClassId} {b L : Nat} {xs : Nat → Int32} {adX adM : Nat → Nat} {Rel : zS → zS → Prop} {j : Nat} {σ τ : zS} (hC : lwCtx p s m meth c D cI cJ b L xs adX adM) (hs : ∀ (a1 : Int32) (a2 : Int32), zSim Rel 96 171 [.inl a1, .inl a2]) (hj : j + 7 ≤ L) (hR : Rel σ τ) (next : ∀ σ' τ', Rel σ' τ' → lwAt p l e s m below meth c D cI cJ b adX adM 1536 j σ' τ') : lwAt p l e s m below meth c D cI cJ b adX adM 781 j σ τ := by
  obtain ⟨hMs, hx, hb, hml, hown, hts, hK, hN, hX, hbl, hL, hap, -, -⟩ := hC
  have hA : ∀ q : Nat, s.heap.size ≤ q → (fun q => s.heap.size ≤ q) q := fun _ h => h
  have hbA : ¬ (fun q => s.heap.size ≤ q) b := Nat.not_le.mpr hbl
  intro H locs ls hPX hPM hDX hDM hS hl
  obtain ⟨r, σ', τ', hz1, hz2, hR'⟩ := hs (xs (j + 1)) (xs (j + 2)) σ τ hR
  refine lv_aload_n hx hb dL_law_781 rfl (lv_at hl 1 rfl) ?_
  refine lw_arg (lv := []) (j := j + 1) (jc := nI 1) (pc4 := 785) hx hb hX hbl hbA hS (lv_at hl 0 rfl) (lv_at hl 3 rfl) (nI_add j 1) (by omega) (by omega) dL_law_782 dL_law_783 (fun k => lv_iconst hx hb dL_law_784 (by decide) k) dL_law_785 dL_law_786 ?_
  refine lw_arg (lv := []) (j := j + 2) (jc := nI 2) (pc4 := 790) hx hb hX hbl hbA hS (lv_at hl 0 rfl) (lv_at hl 3 rfl) (nI_add j 2) (by omega) (by omega) dL_law_787 dL_law_788 (fun k => lv_iconst hx hb dL_law_789 (by decide) k) dL_law_790 dL_law_791 ?_
  refine lw_call (np := 0) (ad1 := adX) (ad2 := adM) (sk1 := skX) (sk2 := skM) (y := zI_X_objectOf) (ci := 6) (a1 := 3) (a2 := 93) (as := [.inl (xs (j + 1)), .inl (xs (j + 2))]) (rest := []) hMs hx hb hml hown hts hK hN hA hz1 rfl rfl rfl rfl rfl (by decide +kernel) dL_law_792 rfl (by decide) hl.1 (Nat.le_refl _) (Nat.le_refl _) hPX hPM hDX hap hS (fun H1 locs1 hPX hPM hS1 => ?_)
  refine lv_aload_n hx hb dL_law_795 rfl (lv_at hl 2 rfl) ?_
  refine lw_arg (lv := []) (j := j + 1) (jc := nI 1) (pc4 := 799) hx hb hX hbl hbA hS1 (lv_at hl 0 rfl) (lv_at hl 3 rfl) (nI_add j 1) (by omega) (by omega) dL_law_796 dL_law_797 (fun k => lv_iconst hx hb dL_law_798 (by decide) k) dL_law_799 dL_law_800 ?_
  refine lw_arg (lv := []) (j := j + 2) (jc := nI 2) (pc4 := 804) hx hb hX hbl hbA hS1 (lv_at hl 0 rfl) (lv_at hl 3 rfl) (nI_add j 2) (by omega) (by omega) dL_law_801 dL_law_802 (fun k => lv_iconst hx hb dL_law_803 (by decide) k) dL_law_804 dL_law_805 ?_
  refine lw_call (np := 0) (ad1 := adM) (ad2 := adX) (sk1 := skM) (sk2 := skX) (y := zI_M_objectOf) (ci := 7) (a1 := 5) (a2 := 186) (as := [.inl (xs (j + 1)), .inl (xs (j + 2))]) (rest := [.int r]) hMs hx hb hml hown hts hK hN hA hz2 rfl rfl rfl rfl rfl (by decide +kernel) dL_law_806 rfl (by simp [Value.category]) hl.1 (Nat.le_refl _) (Nat.le_refl _) hPM hPX hDM (fun i hi j hj h => hap j hj i hi h.symm) hS1 (fun H2 locs2 hPM hPX hS2 => ?_)
  exact lv_icmp_eq (tgt := 1536) hx hb dL_law_809 (by decide) (fun _ => next σ' τ' hR' H2 locs2 ls hPX hPM (zD_any hDX) (zD_any hDM) hS2 hl) (fun hne => absurd rfl hne)
set_option maxRecDepth 100000 in
set_option maxHeartbeats 4000000 in
theorem lc_15 {p : Program} {l : Launch} {e : Env} {s : State} {m : MethodId} {below : List Frame} {meth : Method} {c : Code} {D : va_G} {cI cJ : ClassId} {b L : Nat} {xs : Nat → Int32} {adX adM : Nat → Nat} {Rel : zS → zS → Prop} {j : Nat} {σ τ : zS} (hC : lwCtx p s m meth c D cI cJ b L xs adX adM) (hs : ∀ (a1 : Int32) (a2 : Int32), zSim Rel 97 172 [.inl a1, .inl a2]) (hj : j + 7 ≤ L) (hR : Rel σ τ) (next : ∀ σ' τ', Rel σ' τ' → lwAt p l e s m below meth c D cI cJ b adX adM 1536 j σ' τ') : lwAt p l e s m below meth c D cI cJ b adX adM 814 j σ τ := by
  obtain ⟨hMs, hx, hb, hml, hown, hts, hK, hN, hX, hbl, hL, hap, -, -⟩ := hC
  have hA : ∀ q : Nat, s.heap.size ≤ q → (fun q => s.heap.size ≤ q) q := fun _ h => h
  have hbA : ¬ (fun q => s.heap.size ≤ q) b := Nat.not_le.mpr hbl
  intro H locs ls hPX hPM hDX hDM hS hl
  obtain ⟨r, σ', τ', hz1, hz2, hR'⟩ := hs (xs (j + 1)) (xs (j + 2)) σ τ hR
  refine lv_aload_n hx hb dL_law_814 rfl (lv_at hl 1 rfl) ?_
  refine lw_arg (lv := []) (j := j + 1) (jc := nI 1) (pc4 := 818) hx hb hX hbl hbA hS (lv_at hl 0 rfl) (lv_at hl 3 rfl) (nI_add j 1) (by omega) (by omega) dL_law_815 dL_law_816 (fun k => lv_iconst hx hb dL_law_817 (by decide) k) dL_law_818 dL_law_819 ?_
  refine lw_arg (lv := []) (j := j + 2) (jc := nI 2) (pc4 := 823) hx hb hX hbl hbA hS (lv_at hl 0 rfl) (lv_at hl 3 rfl) (nI_add j 2) (by omega) (by omega) dL_law_820 dL_law_821 (fun k => lv_iconst hx hb dL_law_822 (by decide) k) dL_law_823 dL_law_824 ?_
  refine lw_call (np := 0) (ad1 := adX) (ad2 := adM) (sk1 := skX) (sk2 := skM) (y := zI_X_order) (ci := 6) (a1 := 3) (a2 := 118) (as := [.inl (xs (j + 1)), .inl (xs (j + 2))]) (rest := []) hMs hx hb hml hown hts hK hN hA hz1 rfl rfl rfl rfl rfl (by decide +kernel) dL_law_825 rfl (by decide) hl.1 (Nat.le_refl _) (Nat.le_refl _) hPX hPM hDX hap hS (fun H1 locs1 hPX hPM hS1 => ?_)
  refine lv_aload_n hx hb dL_law_828 rfl (lv_at hl 2 rfl) ?_
  refine lw_arg (lv := []) (j := j + 1) (jc := nI 1) (pc4 := 832) hx hb hX hbl hbA hS1 (lv_at hl 0 rfl) (lv_at hl 3 rfl) (nI_add j 1) (by omega) (by omega) dL_law_829 dL_law_830 (fun k => lv_iconst hx hb dL_law_831 (by decide) k) dL_law_832 dL_law_833 ?_
  refine lw_arg (lv := []) (j := j + 2) (jc := nI 2) (pc4 := 837) hx hb hX hbl hbA hS1 (lv_at hl 0 rfl) (lv_at hl 3 rfl) (nI_add j 2) (by omega) (by omega) dL_law_834 dL_law_835 (fun k => lv_iconst hx hb dL_law_836 (by decide) k) dL_law_837 dL_law_838 ?_
  refine lw_call (np := 0) (ad1 := adM) (ad2 := adX) (sk1 := skM) (sk2 := skX) (y := zI_M_order) (ci := 7) (a1 := 5) (a2 := 202) (as := [.inl (xs (j + 1)), .inl (xs (j + 2))]) (rest := [.int r]) hMs hx hb hml hown hts hK hN hA hz2 rfl rfl rfl rfl rfl (by decide +kernel) dL_law_839 rfl (by simp [Value.category]) hl.1 (Nat.le_refl _) (Nat.le_refl _) hPM hPX hDM (fun i hi j hj h => hap j hj i hi h.symm) hS1 (fun H2 locs2 hPM hPX hS2 => ?_)
  exact lv_icmp_eq (tgt := 1536) hx hb dL_law_842 (by decide) (fun _ => next σ' τ' hR' H2 locs2 ls hPX hPM (zD_any hDX) (zD_any hDM) hS2 hl) (fun hne => absurd rfl hne)
set_option maxRecDepth 100000 in
set_option maxHeartbeats 4000000 in
theorem lc_16 {p : Program} {l : Launch} {e : Env} {s : State} {m : MethodId} {below : List Frame} {meth : Method} {c : Code} {D : va_G} {cI cJ : ClassId} {b L : Nat} {xs : Nat → Int32} {adX adM : Nat → Nat} {Rel : zS → zS → Prop} {j : Nat} {σ τ : zS} (hC : lwCtx p s m meth c D cI cJ b L xs adX adM) (hs : ∀ (a1 : Int32) (a2 : Int32), zSim Rel 98 173 [.inl a1, .inl a2]) (hj : j + 7 ≤ L) (hR : Rel σ τ) (next : ∀ σ' τ', Rel σ' τ' → lwAt p l e s m below meth c D cI cJ b adX adM 1536 j σ' τ') : lwAt p l e s m below meth c D cI cJ b adX adM 847 j σ τ := by
  obtain ⟨hMs, hx, hb, hml, hown, hts, hK, hN, hX, hbl, hL, hap, -, -⟩ := hC
  have hA : ∀ q : Nat, s.heap.size ≤ q → (fun q => s.heap.size ≤ q) q := fun _ h => h
  have hbA : ¬ (fun q => s.heap.size ≤ q) b := Nat.not_le.mpr hbl
  intro H locs ls hPX hPM hDX hDM hS hl
  obtain ⟨r, σ', τ', hz1, hz2, hR'⟩ := hs (xs (j + 1)) (xs (j + 2)) σ τ hR
  refine lv_aload_n hx hb dL_law_847 rfl (lv_at hl 1 rfl) ?_
  refine lw_arg (lv := []) (j := j + 1) (jc := nI 1) (pc4 := 851) hx hb hX hbl hbA hS (lv_at hl 0 rfl) (lv_at hl 3 rfl) (nI_add j 1) (by omega) (by omega) dL_law_848 dL_law_849 (fun k => lv_iconst hx hb dL_law_850 (by decide) k) dL_law_851 dL_law_852 ?_
  refine lw_arg (lv := []) (j := j + 2) (jc := nI 2) (pc4 := 856) hx hb hX hbl hbA hS (lv_at hl 0 rfl) (lv_at hl 3 rfl) (nI_add j 2) (by omega) (by omega) dL_law_853 dL_law_854 (fun k => lv_iconst hx hb dL_law_855 (by decide) k) dL_law_856 dL_law_857 ?_
  refine lw_call (np := 0) (ad1 := adX) (ad2 := adM) (sk1 := skX) (sk2 := skM) (y := zI_X_distance) (ci := 6) (a1 := 3) (a2 := 123) (as := [.inl (xs (j + 1)), .inl (xs (j + 2))]) (rest := []) hMs hx hb hml hown hts hK hN hA hz1 rfl rfl rfl rfl rfl (by decide +kernel) dL_law_858 rfl (by decide) hl.1 (Nat.le_refl _) (Nat.le_refl _) hPX hPM hDX hap hS (fun H1 locs1 hPX hPM hS1 => ?_)
  refine lv_aload_n hx hb dL_law_861 rfl (lv_at hl 2 rfl) ?_
  refine lw_arg (lv := []) (j := j + 1) (jc := nI 1) (pc4 := 865) hx hb hX hbl hbA hS1 (lv_at hl 0 rfl) (lv_at hl 3 rfl) (nI_add j 1) (by omega) (by omega) dL_law_862 dL_law_863 (fun k => lv_iconst hx hb dL_law_864 (by decide) k) dL_law_865 dL_law_866 ?_
  refine lw_arg (lv := []) (j := j + 2) (jc := nI 2) (pc4 := 870) hx hb hX hbl hbA hS1 (lv_at hl 0 rfl) (lv_at hl 3 rfl) (nI_add j 2) (by omega) (by omega) dL_law_867 dL_law_868 (fun k => lv_iconst hx hb dL_law_869 (by decide) k) dL_law_870 dL_law_871 ?_
  refine lw_call (np := 0) (ad1 := adM) (ad2 := adX) (sk1 := skM) (sk2 := skX) (y := zI_M_distance) (ci := 7) (a1 := 5) (a2 := 206) (as := [.inl (xs (j + 1)), .inl (xs (j + 2))]) (rest := [.int r]) hMs hx hb hml hown hts hK hN hA hz2 rfl rfl rfl rfl rfl (by decide +kernel) dL_law_872 rfl (by simp [Value.category]) hl.1 (Nat.le_refl _) (Nat.le_refl _) hPM hPX hDM (fun i hi j hj h => hap j hj i hi h.symm) hS1 (fun H2 locs2 hPM hPX hS2 => ?_)
  exact lv_icmp_eq (tgt := 1536) hx hb dL_law_875 (by decide) (fun _ => next σ' τ' hR' H2 locs2 ls hPX hPM (zD_any hDX) (zD_any hDM) hS2 hl) (fun hne => absurd rfl hne)
set_option maxRecDepth 100000 in
set_option maxHeartbeats 4000000 in
theorem lc_17 {p : Program} {l : Launch} {e : Env} {s : State} {m : MethodId} {below : List Frame} {meth : Method} {c : Code} {D : va_G} {cI cJ : ClassId} {b L : Nat} {xs : Nat → Int32} {adX adM : Nat → Nat} {Rel : zS → zS → Prop} {j : Nat} {σ τ : zS} (hC : lwCtx p s m meth c D cI cJ b L xs adX adM) (hs : ∀ (a1 : Int32) (a2 : Int32), zSim Rel 99 174 [.inl a1, .inl a2]) (hj : j + 7 ≤ L) (hR : Rel σ τ) (next : ∀ σ' τ', Rel σ' τ' → lwAt p l e s m below meth c D cI cJ b adX adM 1536 j σ' τ') : lwAt p l e s m below meth c D cI cJ b adX adM 880 j σ τ := by
  obtain ⟨hMs, hx, hb, hml, hown, hts, hK, hN, hX, hbl, hL, hap, -, -⟩ := hC
  have hA : ∀ q : Nat, s.heap.size ≤ q → (fun q => s.heap.size ≤ q) q := fun _ h => h
  have hbA : ¬ (fun q => s.heap.size ≤ q) b := Nat.not_le.mpr hbl
  intro H locs ls hPX hPM hDX hDM hS hl
  obtain ⟨r, σ', τ', hz1, hz2, hR'⟩ := hs (xs (j + 1)) (xs (j + 2)) σ τ hR
  refine lv_aload_n hx hb dL_law_880 rfl (lv_at hl 1 rfl) ?_
  refine lw_arg (lv := []) (j := j + 1) (jc := nI 1) (pc4 := 884) hx hb hX hbl hbA hS (lv_at hl 0 rfl) (lv_at hl 3 rfl) (nI_add j 1) (by omega) (by omega) dL_law_881 dL_law_882 (fun k => lv_iconst hx hb dL_law_883 (by decide) k) dL_law_884 dL_law_885 ?_
  refine lw_arg (lv := []) (j := j + 2) (jc := nI 2) (pc4 := 889) hx hb hX hbl hbA hS (lv_at hl 0 rfl) (lv_at hl 3 rfl) (nI_add j 2) (by omega) (by omega) dL_law_886 dL_law_887 (fun k => lv_iconst hx hb dL_law_888 (by decide) k) dL_law_889 dL_law_890 ?_
  refine lw_call (np := 0) (ad1 := adX) (ad2 := adM) (sk1 := skX) (sk2 := skM) (y := zI_X_where) (ci := 6) (a1 := 3) (a2 := 128) (as := [.inl (xs (j + 1)), .inl (xs (j + 2))]) (rest := []) hMs hx hb hml hown hts hK hN hA hz1 rfl rfl rfl rfl rfl (by decide +kernel) dL_law_891 rfl (by decide) hl.1 (Nat.le_refl _) (Nat.le_refl _) hPX hPM hDX hap hS (fun H1 locs1 hPX hPM hS1 => ?_)
  refine lv_aload_n hx hb dL_law_894 rfl (lv_at hl 2 rfl) ?_
  refine lw_arg (lv := []) (j := j + 1) (jc := nI 1) (pc4 := 898) hx hb hX hbl hbA hS1 (lv_at hl 0 rfl) (lv_at hl 3 rfl) (nI_add j 1) (by omega) (by omega) dL_law_895 dL_law_896 (fun k => lv_iconst hx hb dL_law_897 (by decide) k) dL_law_898 dL_law_899 ?_
  refine lw_arg (lv := []) (j := j + 2) (jc := nI 2) (pc4 := 903) hx hb hX hbl hbA hS1 (lv_at hl 0 rfl) (lv_at hl 3 rfl) (nI_add j 2) (by omega) (by omega) dL_law_900 dL_law_901 (fun k => lv_iconst hx hb dL_law_902 (by decide) k) dL_law_903 dL_law_904 ?_
  refine lw_call (np := 0) (ad1 := adM) (ad2 := adX) (sk1 := skM) (sk2 := skX) (y := zI_M_where) (ci := 7) (a1 := 5) (a2 := 210) (as := [.inl (xs (j + 1)), .inl (xs (j + 2))]) (rest := [.int r]) hMs hx hb hml hown hts hK hN hA hz2 rfl rfl rfl rfl rfl (by decide +kernel) dL_law_905 rfl (by simp [Value.category]) hl.1 (Nat.le_refl _) (Nat.le_refl _) hPM hPX hDM (fun i hi j hj h => hap j hj i hi h.symm) hS1 (fun H2 locs2 hPM hPX hS2 => ?_)
  exact lv_icmp_eq (tgt := 1536) hx hb dL_law_908 (by decide) (fun _ => next σ' τ' hR' H2 locs2 ls hPX hPM (zD_any hDX) (zD_any hDM) hS2 hl) (fun hne => absurd rfl hne)
set_option maxRecDepth 100000 in
set_option maxHeartbeats 4000000 in
theorem lc_18 {p : Program} {l : Launch} {e : Env} {s : State} {m : MethodId} {below : List Frame} {meth : Method} {c : Code} {D : va_G} {cI cJ : ClassId} {b L : Nat} {xs : Nat → Int32} {adX adM : Nat → Nat} {Rel : zS → zS → Prop} {j : Nat} {σ τ : zS} (hC : lwCtx p s m meth c D cI cJ b L xs adX adM) (hs : ∀ (a1 : Int32) (a2 : Int32), zSim Rel 100 175 [.inl a1, .inl a2]) (hj : j + 7 ≤ L) (hR : Rel σ τ) (next : ∀ σ' τ', Rel σ' τ' → lwAt p l e s m below meth c D cI cJ b adX adM 1536 j σ' τ') : lwAt p l e s m below meth c D cI cJ b adX adM 913 j σ τ := by
  obtain ⟨hMs, hx, hb, hml, hown, hts, hK, hN, hX, hbl, hL, hap, -, -⟩ := hC
  have hA : ∀ q : Nat, s.heap.size ≤ q → (fun q => s.heap.size ≤ q) q := fun _ h => h
  have hbA : ¬ (fun q => s.heap.size ≤ q) b := Nat.not_le.mpr hbl
  intro H locs ls hPX hPM hDX hDM hS hl
  obtain ⟨r, σ', τ', hz1, hz2, hR'⟩ := hs (xs (j + 1)) (xs (j + 2)) σ τ hR
  refine lv_aload_n hx hb dL_law_913 rfl (lv_at hl 1 rfl) ?_
  refine lw_arg (lv := []) (j := j + 1) (jc := nI 1) (pc4 := 917) hx hb hX hbl hbA hS (lv_at hl 0 rfl) (lv_at hl 3 rfl) (nI_add j 1) (by omega) (by omega) dL_law_914 dL_law_915 (fun k => lv_iconst hx hb dL_law_916 (by decide) k) dL_law_917 dL_law_918 ?_
  refine lw_arg (lv := []) (j := j + 2) (jc := nI 2) (pc4 := 922) hx hb hX hbl hbA hS (lv_at hl 0 rfl) (lv_at hl 3 rfl) (nI_add j 2) (by omega) (by omega) dL_law_919 dL_law_920 (fun k => lv_iconst hx hb dL_law_921 (by decide) k) dL_law_922 dL_law_923 ?_
  refine lw_call (np := 0) (ad1 := adX) (ad2 := adM) (sk1 := skX) (sk2 := skM) (y := zI_X_hidden) (ci := 6) (a1 := 3) (a2 := 140) (as := [.inl (xs (j + 1)), .inl (xs (j + 2))]) (rest := []) hMs hx hb hml hown hts hK hN hA hz1 rfl rfl rfl rfl rfl (by decide +kernel) dL_law_924 rfl (by decide) hl.1 (Nat.le_refl _) (Nat.le_refl _) hPX hPM hDX hap hS (fun H1 locs1 hPX hPM hS1 => ?_)
  refine lv_aload_n hx hb dL_law_927 rfl (lv_at hl 2 rfl) ?_
  refine lw_arg (lv := []) (j := j + 1) (jc := nI 1) (pc4 := 931) hx hb hX hbl hbA hS1 (lv_at hl 0 rfl) (lv_at hl 3 rfl) (nI_add j 1) (by omega) (by omega) dL_law_928 dL_law_929 (fun k => lv_iconst hx hb dL_law_930 (by decide) k) dL_law_931 dL_law_932 ?_
  refine lw_arg (lv := []) (j := j + 2) (jc := nI 2) (pc4 := 936) hx hb hX hbl hbA hS1 (lv_at hl 0 rfl) (lv_at hl 3 rfl) (nI_add j 2) (by omega) (by omega) dL_law_933 dL_law_934 (fun k => lv_iconst hx hb dL_law_935 (by decide) k) dL_law_936 dL_law_937 ?_
  refine lw_call (np := 0) (ad1 := adM) (ad2 := adX) (sk1 := skM) (sk2 := skX) (y := zI_M_hidden) (ci := 7) (a1 := 5) (a2 := 218) (as := [.inl (xs (j + 1)), .inl (xs (j + 2))]) (rest := [.int r]) hMs hx hb hml hown hts hK hN hA hz2 rfl rfl rfl rfl rfl (by decide +kernel) dL_law_938 rfl (by simp [Value.category]) hl.1 (Nat.le_refl _) (Nat.le_refl _) hPM hPX hDM (fun i hi j hj h => hap j hj i hi h.symm) hS1 (fun H2 locs2 hPM hPX hS2 => ?_)
  exact lv_icmp_eq (tgt := 1536) hx hb dL_law_941 (by decide) (fun _ => next σ' τ' hR' H2 locs2 ls hPX hPM (zD_any hDX) (zD_any hDM) hS2 hl) (fun hne => absurd rfl hne)
set_option maxRecDepth 100000 in
set_option maxHeartbeats 4000000 in
theorem lc_19 {p : Program} {l : Launch} {e : Env} {s : State} {m : MethodId} {below : List Frame} {meth : Method} {c : Code} {D : va_G} {cI cJ : ClassId} {b L : Nat} {xs : Nat → Int32} {adX adM : Nat → Nat} {Rel : zS → zS → Prop} {j : Nat} {σ τ : zS} (hC : lwCtx p s m meth c D cI cJ b L xs adX adM) (hs : ∀ (a1 : Int32) (a2 : Int32) (a3 : Int32), zSim Rel 101 176 [.inl a1, .inl a2, .inl a3]) (hj : j + 7 ≤ L) (hR : Rel σ τ) (next : ∀ σ' τ', Rel σ' τ' → lwAt p l e s m below meth c D cI cJ b adX adM 1536 j σ' τ') : lwAt p l e s m below meth c D cI cJ b adX adM 946 j σ τ := by
  obtain ⟨hMs, hx, hb, hml, hown, hts, hK, hN, hX, hbl, hL, hap, -, -⟩ := hC
  have hA : ∀ q : Nat, s.heap.size ≤ q → (fun q => s.heap.size ≤ q) q := fun _ h => h
  have hbA : ¬ (fun q => s.heap.size ≤ q) b := Nat.not_le.mpr hbl
  intro H locs ls hPX hPM hDX hDM hS hl
  obtain ⟨r, σ', τ', hz1, hz2, hR'⟩ := hs (xs (j + 1)) (xs (j + 2)) (xs (j + 3)) σ τ hR
  refine lv_aload_n hx hb dL_law_946 rfl (lv_at hl 1 rfl) ?_
  refine lw_arg (lv := []) (j := j + 1) (jc := nI 1) (pc4 := 950) hx hb hX hbl hbA hS (lv_at hl 0 rfl) (lv_at hl 3 rfl) (nI_add j 1) (by omega) (by omega) dL_law_947 dL_law_948 (fun k => lv_iconst hx hb dL_law_949 (by decide) k) dL_law_950 dL_law_951 ?_
  refine lw_arg (lv := []) (j := j + 2) (jc := nI 2) (pc4 := 955) hx hb hX hbl hbA hS (lv_at hl 0 rfl) (lv_at hl 3 rfl) (nI_add j 2) (by omega) (by omega) dL_law_952 dL_law_953 (fun k => lv_iconst hx hb dL_law_954 (by decide) k) dL_law_955 dL_law_956 ?_
  refine lw_arg (lv := []) (j := j + 3) (jc := nI 3) (pc4 := 960) hx hb hX hbl hbA hS (lv_at hl 0 rfl) (lv_at hl 3 rfl) (nI_add j 3) (by omega) (by omega) dL_law_957 dL_law_958 (fun k => lv_iconst hx hb dL_law_959 (by decide) k) dL_law_960 dL_law_961 ?_
  refine lw_call (np := 0) (ad1 := adX) (ad2 := adM) (sk1 := skX) (sk2 := skM) (y := zI_X_slotOf) (ci := 6) (a1 := 3) (a2 := 149) (as := [.inl (xs (j + 1)), .inl (xs (j + 2)), .inl (xs (j + 3))]) (rest := []) hMs hx hb hml hown hts hK hN hA hz1 rfl rfl rfl rfl rfl (by decide +kernel) dL_law_962 rfl (by decide) hl.1 (Nat.le_refl _) (Nat.le_refl _) hPX hPM hDX hap hS (fun H1 locs1 hPX hPM hS1 => ?_)
  refine lv_aload_n hx hb dL_law_965 rfl (lv_at hl 2 rfl) ?_
  refine lw_arg (lv := []) (j := j + 1) (jc := nI 1) (pc4 := 969) hx hb hX hbl hbA hS1 (lv_at hl 0 rfl) (lv_at hl 3 rfl) (nI_add j 1) (by omega) (by omega) dL_law_966 dL_law_967 (fun k => lv_iconst hx hb dL_law_968 (by decide) k) dL_law_969 dL_law_970 ?_
  refine lw_arg (lv := []) (j := j + 2) (jc := nI 2) (pc4 := 974) hx hb hX hbl hbA hS1 (lv_at hl 0 rfl) (lv_at hl 3 rfl) (nI_add j 2) (by omega) (by omega) dL_law_971 dL_law_972 (fun k => lv_iconst hx hb dL_law_973 (by decide) k) dL_law_974 dL_law_975 ?_
  refine lw_arg (lv := []) (j := j + 3) (jc := nI 3) (pc4 := 979) hx hb hX hbl hbA hS1 (lv_at hl 0 rfl) (lv_at hl 3 rfl) (nI_add j 3) (by omega) (by omega) dL_law_976 dL_law_977 (fun k => lv_iconst hx hb dL_law_978 (by decide) k) dL_law_979 dL_law_980 ?_
  refine lw_call (np := 0) (ad1 := adM) (ad2 := adX) (sk1 := skM) (sk2 := skX) (y := zI_M_slotOf) (ci := 7) (a1 := 5) (a2 := 222) (as := [.inl (xs (j + 1)), .inl (xs (j + 2)), .inl (xs (j + 3))]) (rest := [.int r]) hMs hx hb hml hown hts hK hN hA hz2 rfl rfl rfl rfl rfl (by decide +kernel) dL_law_981 rfl (by simp [Value.category]) hl.1 (Nat.le_refl _) (Nat.le_refl _) hPM hPX hDM (fun i hi j hj h => hap j hj i hi h.symm) hS1 (fun H2 locs2 hPM hPX hS2 => ?_)
  exact lv_icmp_eq (tgt := 1536) hx hb dL_law_984 (by decide) (fun _ => next σ' τ' hR' H2 locs2 ls hPX hPM (zD_any hDX) (zD_any hDM) hS2 hl) (fun hne => absurd rfl hne)
set_option maxRecDepth 100000 in
set_option maxHeartbeats 4000000 in
theorem lc_20 {p : Program} {l : Launch} {e : Env} {s : State} {m : MethodId} {below : List Frame} {meth : Method} {c : Code} {D : va_G} {cI cJ : ClassId} {b L : Nat} {xs : Nat → Int32} {adX adM : Nat → Nat} {Rel : zS → zS → Prop} {j : Nat} {σ τ : zS} (hC : lwCtx p s m meth c D cI cJ b L xs adX adM) (hs : ∀ (a1 : Int32) (a2 : Int32) (a3 : Int32), zSim Rel 102 189 [.inl a1, .inl a2, .inl a3]) (hj : j + 7 ≤ L) (hR : Rel σ τ) (next : ∀ σ' τ', Rel σ' τ' → lwAt p l e s m below meth c D cI cJ b adX adM 1536 j σ' τ') : lwAt p l e s m below meth c D cI cJ b adX adM 989 j σ τ := by
  obtain ⟨hMs, hx, hb, hml, hown, hts, hK, hN, hX, hbl, hL, hap, -, -⟩ := hC
  have hA : ∀ q : Nat, s.heap.size ≤ q → (fun q => s.heap.size ≤ q) q := fun _ h => h
  have hbA : ¬ (fun q => s.heap.size ≤ q) b := Nat.not_le.mpr hbl
  intro H locs ls hPX hPM hDX hDM hS hl
  obtain ⟨r, σ', τ', hz1, hz2, hR'⟩ := hs (xs (j + 1)) (xs (j + 2)) (xs (j + 3)) σ τ hR
  refine lv_aload_n hx hb dL_law_989 rfl (lv_at hl 1 rfl) ?_
  refine lw_arg (lv := []) (j := j + 1) (jc := nI 1) (pc4 := 993) hx hb hX hbl hbA hS (lv_at hl 0 rfl) (lv_at hl 3 rfl) (nI_add j 1) (by omega) (by omega) dL_law_990 dL_law_991 (fun k => lv_iconst hx hb dL_law_992 (by decide) k) dL_law_993 dL_law_994 ?_
  refine lw_arg (lv := []) (j := j + 2) (jc := nI 2) (pc4 := 998) hx hb hX hbl hbA hS (lv_at hl 0 rfl) (lv_at hl 3 rfl) (nI_add j 2) (by omega) (by omega) dL_law_995 dL_law_996 (fun k => lv_iconst hx hb dL_law_997 (by decide) k) dL_law_998 dL_law_999 ?_
  refine lw_arg (lv := []) (j := j + 3) (jc := nI 3) (pc4 := 1003) hx hb hX hbl hbA hS (lv_at hl 0 rfl) (lv_at hl 3 rfl) (nI_add j 3) (by omega) (by omega) dL_law_1000 dL_law_1001 (fun k => lv_iconst hx hb dL_law_1002 (by decide) k) dL_law_1003 dL_law_1004 ?_
  refine lw_call (np := 0) (ad1 := adX) (ad2 := adM) (sk1 := skX) (sk2 := skM) (y := zI_X_send) (ci := 6) (a1 := 3) (a2 := 153) (as := [.inl (xs (j + 1)), .inl (xs (j + 2)), .inl (xs (j + 3))]) (rest := []) hMs hx hb hml hown hts hK hN hA hz1 rfl rfl rfl rfl rfl (by decide +kernel) dL_law_1005 rfl (by decide) hl.1 (Nat.le_refl _) (Nat.le_refl _) hPX hPM hDX hap hS (fun H1 locs1 hPX hPM hS1 => ?_)
  refine lv_aload_n hx hb dL_law_1008 rfl (lv_at hl 2 rfl) ?_
  refine lw_arg (lv := []) (j := j + 1) (jc := nI 1) (pc4 := 1012) hx hb hX hbl hbA hS1 (lv_at hl 0 rfl) (lv_at hl 3 rfl) (nI_add j 1) (by omega) (by omega) dL_law_1009 dL_law_1010 (fun k => lv_iconst hx hb dL_law_1011 (by decide) k) dL_law_1012 dL_law_1013 ?_
  refine lw_arg (lv := []) (j := j + 2) (jc := nI 2) (pc4 := 1017) hx hb hX hbl hbA hS1 (lv_at hl 0 rfl) (lv_at hl 3 rfl) (nI_add j 2) (by omega) (by omega) dL_law_1014 dL_law_1015 (fun k => lv_iconst hx hb dL_law_1016 (by decide) k) dL_law_1017 dL_law_1018 ?_
  refine lw_arg (lv := []) (j := j + 3) (jc := nI 3) (pc4 := 1022) hx hb hX hbl hbA hS1 (lv_at hl 0 rfl) (lv_at hl 3 rfl) (nI_add j 3) (by omega) (by omega) dL_law_1019 dL_law_1020 (fun k => lv_iconst hx hb dL_law_1021 (by decide) k) dL_law_1022 dL_law_1023 ?_
  refine lw_call (np := 0) (ad1 := adM) (ad2 := adX) (sk1 := skM) (sk2 := skX) (y := zI_M_send) (ci := 7) (a1 := 5) (a2 := 226) (as := [.inl (xs (j + 1)), .inl (xs (j + 2)), .inl (xs (j + 3))]) (rest := [.int r]) hMs hx hb hml hown hts hK hN hA hz2 rfl rfl rfl rfl rfl (by decide +kernel) dL_law_1024 rfl (by simp [Value.category]) hl.1 (Nat.le_refl _) (Nat.le_refl _) hPM hPX hDM (fun i hi j hj h => hap j hj i hi h.symm) hS1 (fun H2 locs2 hPM hPX hS2 => ?_)
  exact lv_icmp_eq (tgt := 1536) hx hb dL_law_1027 (by decide) (fun _ => next σ' τ' hR' H2 locs2 ls hPX hPM (zD_any hDX) (zD_any hDM) hS2 hl) (fun hne => absurd rfl hne)
set_option maxRecDepth 100000 in
set_option maxHeartbeats 4000000 in
theorem lc_21 {p : Program} {l : Launch} {e : Env} {s : State} {m : MethodId} {below : List Frame} {meth : Method} {c : Code} {D : va_G} {cI cJ : ClassId} {b L : Nat} {xs : Nat → Int32} {adX adM : Nat → Nat} {Rel : zS → zS → Prop} {j : Nat} {σ τ : zS} (hC : lwCtx p s m meth c D cI cJ b L xs adX adM) (hs : zSim Rel 103 190 []) (hj : j + 7 ≤ L) (hR : Rel σ τ) (next : ∀ σ' τ', Rel σ' τ' → lwAt p l e s m below meth c D cI cJ b adX adM 1536 j σ' τ') : lwAt p l e s m below meth c D cI cJ b adX adM 1032 j σ τ := by
  obtain ⟨hMs, hx, hb, hml, hown, hts, hK, hN, hX, hbl, hL, hap, -, -⟩ := hC
  have hA : ∀ q : Nat, s.heap.size ≤ q → (fun q => s.heap.size ≤ q) q := fun _ h => h
  have hbA : ¬ (fun q => s.heap.size ≤ q) b := Nat.not_le.mpr hbl
  intro H locs ls hPX hPM hDX hDM hS hl
  obtain ⟨r, σ', τ', hz1, hz2, hR'⟩ := hs  σ τ hR
  refine lv_aload_n hx hb dL_law_1032 rfl (lv_at hl 1 rfl) ?_
  refine lw_call (np := 0) (ad1 := adX) (ad2 := adM) (sk1 := skX) (sk2 := skM) (y := zI_X_given) (ci := 6) (a1 := 4) (a2 := 5) (as := []) (rest := []) hMs hx hb hml hown hts hK hN hA hz1 rfl rfl rfl rfl rfl (by decide +kernel) dL_law_1033 rfl (by decide) hl.1 (Nat.le_refl _) (Nat.le_refl _) hPX hPM hDX hap hS (fun H1 locs1 hPX hPM hS1 => ?_)
  refine lv_aload_n hx hb dL_law_1036 rfl (lv_at hl 2 rfl) ?_
  refine lw_call (np := 0) (ad1 := adM) (ad2 := adX) (sk1 := skM) (sk2 := skX) (y := zI_M_given) (ci := 7) (a1 := 6) (a2 := 45) (as := []) (rest := [.int r]) hMs hx hb hml hown hts hK hN hA hz2 rfl rfl rfl rfl rfl (by decide +kernel) dL_law_1037 rfl (by simp [Value.category]) hl.1 (Nat.le_refl _) (Nat.le_refl _) hPM hPX hDM (fun i hi j hj h => hap j hj i hi h.symm) hS1 (fun H2 locs2 hPM hPX hS2 => ?_)
  exact lv_icmp_eq (tgt := 1536) hx hb dL_law_1040 (by decide) (fun _ => next σ' τ' hR' H2 locs2 ls hPX hPM (zD_any hDX) (zD_any hDM) hS2 hl) (fun hne => absurd rfl hne)
set_option maxRecDepth 100000 in
set_option maxHeartbeats 4000000 in
theorem lc_22 {p : Program} {l : Launch} {e : Env} {s : State} {m : MethodId} {below : List Frame} {meth : Method} {c : Code} {D : va_G} {cI cJ : ClassId} {b L : Nat} {xs : Nat → Int32} {adX adM : Nat → Nat} {Rel : zS → zS → Prop} {j : Nat} {σ τ : zS} (hC : lwCtx p s m meth c D cI cJ b L xs adX adM) (hs : ∀ (a1 : Int32) (a2 : Int32) (a3 : Int32) (a4 : Int32), zSim Rel 104 192 [.inl a1, .inl a2, .inl a3, .inl a4]) (hj : j + 7 ≤ L) (hR : Rel σ τ) (next : ∀ σ' τ', Rel σ' τ' → lwAt p l e s m below meth c D cI cJ b adX adM 1536 j σ' τ') : lwAt p l e s m below meth c D cI cJ b adX adM 1045 j σ τ := by
  obtain ⟨hMs, hx, hb, hml, hown, hts, hK, hN, hX, hbl, hL, hap, -, -⟩ := hC
  have hA : ∀ q : Nat, s.heap.size ≤ q → (fun q => s.heap.size ≤ q) q := fun _ h => h
  have hbA : ¬ (fun q => s.heap.size ≤ q) b := Nat.not_le.mpr hbl
  intro H locs ls hPX hPM hDX hDM hS hl
  obtain ⟨r, σ', τ', hz1, hz2, hR'⟩ := hs (xs (j + 1)) (xs (j + 2)) (xs (j + 3)) (xs (j + 4)) σ τ hR
  refine lv_aload_n hx hb dL_law_1045 rfl (lv_at hl 1 rfl) ?_
  refine lw_arg (lv := []) (j := j + 1) (jc := nI 1) (pc4 := 1049) hx hb hX hbl hbA hS (lv_at hl 0 rfl) (lv_at hl 3 rfl) (nI_add j 1) (by omega) (by omega) dL_law_1046 dL_law_1047 (fun k => lv_iconst hx hb dL_law_1048 (by decide) k) dL_law_1049 dL_law_1050 ?_
  refine lw_arg (lv := []) (j := j + 2) (jc := nI 2) (pc4 := 1054) hx hb hX hbl hbA hS (lv_at hl 0 rfl) (lv_at hl 3 rfl) (nI_add j 2) (by omega) (by omega) dL_law_1051 dL_law_1052 (fun k => lv_iconst hx hb dL_law_1053 (by decide) k) dL_law_1054 dL_law_1055 ?_
  refine lw_arg (lv := []) (j := j + 3) (jc := nI 3) (pc4 := 1059) hx hb hX hbl hbA hS (lv_at hl 0 rfl) (lv_at hl 3 rfl) (nI_add j 3) (by omega) (by omega) dL_law_1056 dL_law_1057 (fun k => lv_iconst hx hb dL_law_1058 (by decide) k) dL_law_1059 dL_law_1060 ?_
  refine lw_arg (lv := []) (j := j + 4) (jc := nI 4) (pc4 := 1064) hx hb hX hbl hbA hS (lv_at hl 0 rfl) (lv_at hl 3 rfl) (nI_add j 4) (by omega) (by omega) dL_law_1061 dL_law_1062 (fun k => lv_iconst hx hb dL_law_1063 (by decide) k) dL_law_1064 dL_law_1065 ?_
  refine lw_call (np := 0) (ad1 := adX) (ad2 := adM) (sk1 := skX) (sk2 := skM) (y := zI_X_trial) (ci := 6) (a1 := 4) (a2 := 9) (as := [.inl (xs (j + 1)), .inl (xs (j + 2)), .inl (xs (j + 3)), .inl (xs (j + 4))]) (rest := []) hMs hx hb hml hown hts hK hN hA hz1 rfl rfl rfl rfl rfl (by decide +kernel) dL_law_1066 rfl (by decide) hl.1 (Nat.le_refl _) (Nat.le_refl _) hPX hPM hDX hap hS (fun H1 locs1 hPX hPM hS1 => ?_)
  refine lv_aload_n hx hb dL_law_1069 rfl (lv_at hl 2 rfl) ?_
  refine lw_arg (lv := []) (j := j + 1) (jc := nI 1) (pc4 := 1073) hx hb hX hbl hbA hS1 (lv_at hl 0 rfl) (lv_at hl 3 rfl) (nI_add j 1) (by omega) (by omega) dL_law_1070 dL_law_1071 (fun k => lv_iconst hx hb dL_law_1072 (by decide) k) dL_law_1073 dL_law_1074 ?_
  refine lw_arg (lv := []) (j := j + 2) (jc := nI 2) (pc4 := 1078) hx hb hX hbl hbA hS1 (lv_at hl 0 rfl) (lv_at hl 3 rfl) (nI_add j 2) (by omega) (by omega) dL_law_1075 dL_law_1076 (fun k => lv_iconst hx hb dL_law_1077 (by decide) k) dL_law_1078 dL_law_1079 ?_
  refine lw_arg (lv := []) (j := j + 3) (jc := nI 3) (pc4 := 1083) hx hb hX hbl hbA hS1 (lv_at hl 0 rfl) (lv_at hl 3 rfl) (nI_add j 3) (by omega) (by omega) dL_law_1080 dL_law_1081 (fun k => lv_iconst hx hb dL_law_1082 (by decide) k) dL_law_1083 dL_law_1084 ?_
  refine lw_arg (lv := []) (j := j + 4) (jc := nI 4) (pc4 := 1088) hx hb hX hbl hbA hS1 (lv_at hl 0 rfl) (lv_at hl 3 rfl) (nI_add j 4) (by omega) (by omega) dL_law_1085 dL_law_1086 (fun k => lv_iconst hx hb dL_law_1087 (by decide) k) dL_law_1088 dL_law_1089 ?_
  refine lw_call (np := 0) (ad1 := adM) (ad2 := adX) (sk1 := skM) (sk2 := skX) (y := zI_M_trial) (ci := 7) (a1 := 6) (a2 := 49) (as := [.inl (xs (j + 1)), .inl (xs (j + 2)), .inl (xs (j + 3)), .inl (xs (j + 4))]) (rest := [.int r]) hMs hx hb hml hown hts hK hN hA hz2 rfl rfl rfl rfl rfl (by decide +kernel) dL_law_1090 rfl (by simp [Value.category]) hl.1 (Nat.le_refl _) (Nat.le_refl _) hPM hPX hDM (fun i hi j hj h => hap j hj i hi h.symm) hS1 (fun H2 locs2 hPM hPX hS2 => ?_)
  exact lv_icmp_eq (tgt := 1536) hx hb dL_law_1093 (by decide) (fun _ => next σ' τ' hR' H2 locs2 ls hPX hPM (zD_any hDX) (zD_any hDM) hS2 hl) (fun hne => absurd rfl hne)
set_option maxRecDepth 100000 in
set_option maxHeartbeats 4000000 in
theorem lc_23 {p : Program} {l : Launch} {e : Env} {s : State} {m : MethodId} {below : List Frame} {meth : Method} {c : Code} {D : va_G} {cI cJ : ClassId} {b L : Nat} {xs : Nat → Int32} {adX adM : Nat → Nat} {Rel : zS → zS → Prop} {j : Nat} {σ τ : zS} (hC : lwCtx p s m meth c D cI cJ b L xs adX adM) (hs : ∀ (a1 : Int32) (a2 : Int32) (a3 : Int32) (a4 : Int32) (a5 : Int32) (a6 : Int32), zSim Rel 105 194 [.inl a1, .inl a2, .inl a3, .inl a4, .inl a5, .inl a6]) (hj : j + 7 ≤ L) (hR : Rel σ τ) (next : ∀ σ' τ', Rel σ' τ' → lwAt p l e s m below meth c D cI cJ b adX adM 1536 j σ' τ') : lwAt p l e s m below meth c D cI cJ b adX adM 1098 j σ τ := by
  obtain ⟨hMs, hx, hb, hml, hown, hts, hK, hN, hX, hbl, hL, hap, -, -⟩ := hC
  have hA : ∀ q : Nat, s.heap.size ≤ q → (fun q => s.heap.size ≤ q) q := fun _ h => h
  have hbA : ¬ (fun q => s.heap.size ≤ q) b := Nat.not_le.mpr hbl
  intro H locs ls hPX hPM hDX hDM hS hl
  obtain ⟨r, σ', τ', hz1, hz2, hR'⟩ := hs (xs (j + 1)) (xs (j + 2)) (xs (j + 3)) (xs (j + 4)) (xs (j + 5)) (xs (j + 6)) σ τ hR
  refine lv_aload_n hx hb dL_law_1098 rfl (lv_at hl 1 rfl) ?_
  refine lw_arg (lv := []) (j := j + 1) (jc := nI 1) (pc4 := 1102) hx hb hX hbl hbA hS (lv_at hl 0 rfl) (lv_at hl 3 rfl) (nI_add j 1) (by omega) (by omega) dL_law_1099 dL_law_1100 (fun k => lv_iconst hx hb dL_law_1101 (by decide) k) dL_law_1102 dL_law_1103 ?_
  refine lw_arg (lv := []) (j := j + 2) (jc := nI 2) (pc4 := 1107) hx hb hX hbl hbA hS (lv_at hl 0 rfl) (lv_at hl 3 rfl) (nI_add j 2) (by omega) (by omega) dL_law_1104 dL_law_1105 (fun k => lv_iconst hx hb dL_law_1106 (by decide) k) dL_law_1107 dL_law_1108 ?_
  refine lw_arg (lv := []) (j := j + 3) (jc := nI 3) (pc4 := 1112) hx hb hX hbl hbA hS (lv_at hl 0 rfl) (lv_at hl 3 rfl) (nI_add j 3) (by omega) (by omega) dL_law_1109 dL_law_1110 (fun k => lv_iconst hx hb dL_law_1111 (by decide) k) dL_law_1112 dL_law_1113 ?_
  refine lw_arg (lv := []) (j := j + 4) (jc := nI 4) (pc4 := 1117) hx hb hX hbl hbA hS (lv_at hl 0 rfl) (lv_at hl 3 rfl) (nI_add j 4) (by omega) (by omega) dL_law_1114 dL_law_1115 (fun k => lv_iconst hx hb dL_law_1116 (by decide) k) dL_law_1117 dL_law_1118 ?_
  refine lw_arg (lv := []) (j := j + 5) (jc := nI 5) (pc4 := 1122) hx hb hX hbl hbA hS (lv_at hl 0 rfl) (lv_at hl 3 rfl) (nI_add j 5) (by omega) (by omega) dL_law_1119 dL_law_1120 (fun k => lv_iconst hx hb dL_law_1121 (by decide) k) dL_law_1122 dL_law_1123 ?_
  refine lw_arg (lv := []) (j := j + 6) (jc := nI 6) (pc4 := 1128) hx hb hX hbl hbA hS (lv_at hl 0 rfl) (lv_at hl 3 rfl) (nI_add j 6) (by omega) (by omega) dL_law_1124 dL_law_1125 (fun k => lv_bipush hx hb dL_law_1126 (by decide) k) dL_law_1128 dL_law_1129 ?_
  refine lw_call (np := 0) (ad1 := adX) (ad2 := adM) (sk1 := skX) (sk2 := skM) (y := zI_X_way) (ci := 6) (a1 := 4) (a2 := 14) (as := [.inl (xs (j + 1)), .inl (xs (j + 2)), .inl (xs (j + 3)), .inl (xs (j + 4)), .inl (xs (j + 5)), .inl (xs (j + 6))]) (rest := []) hMs hx hb hml hown hts hK hN hA hz1 rfl rfl rfl rfl rfl (by decide +kernel) dL_law_1130 rfl (by decide) hl.1 (Nat.le_refl _) (Nat.le_refl _) hPX hPM hDX hap hS (fun H1 locs1 hPX hPM hS1 => ?_)
  refine lv_aload_n hx hb dL_law_1133 rfl (lv_at hl 2 rfl) ?_
  refine lw_arg (lv := []) (j := j + 1) (jc := nI 1) (pc4 := 1137) hx hb hX hbl hbA hS1 (lv_at hl 0 rfl) (lv_at hl 3 rfl) (nI_add j 1) (by omega) (by omega) dL_law_1134 dL_law_1135 (fun k => lv_iconst hx hb dL_law_1136 (by decide) k) dL_law_1137 dL_law_1138 ?_
  refine lw_arg (lv := []) (j := j + 2) (jc := nI 2) (pc4 := 1142) hx hb hX hbl hbA hS1 (lv_at hl 0 rfl) (lv_at hl 3 rfl) (nI_add j 2) (by omega) (by omega) dL_law_1139 dL_law_1140 (fun k => lv_iconst hx hb dL_law_1141 (by decide) k) dL_law_1142 dL_law_1143 ?_
  refine lw_arg (lv := []) (j := j + 3) (jc := nI 3) (pc4 := 1147) hx hb hX hbl hbA hS1 (lv_at hl 0 rfl) (lv_at hl 3 rfl) (nI_add j 3) (by omega) (by omega) dL_law_1144 dL_law_1145 (fun k => lv_iconst hx hb dL_law_1146 (by decide) k) dL_law_1147 dL_law_1148 ?_
  refine lw_arg (lv := []) (j := j + 4) (jc := nI 4) (pc4 := 1152) hx hb hX hbl hbA hS1 (lv_at hl 0 rfl) (lv_at hl 3 rfl) (nI_add j 4) (by omega) (by omega) dL_law_1149 dL_law_1150 (fun k => lv_iconst hx hb dL_law_1151 (by decide) k) dL_law_1152 dL_law_1153 ?_
  refine lw_arg (lv := []) (j := j + 5) (jc := nI 5) (pc4 := 1157) hx hb hX hbl hbA hS1 (lv_at hl 0 rfl) (lv_at hl 3 rfl) (nI_add j 5) (by omega) (by omega) dL_law_1154 dL_law_1155 (fun k => lv_iconst hx hb dL_law_1156 (by decide) k) dL_law_1157 dL_law_1158 ?_
  refine lw_arg (lv := []) (j := j + 6) (jc := nI 6) (pc4 := 1163) hx hb hX hbl hbA hS1 (lv_at hl 0 rfl) (lv_at hl 3 rfl) (nI_add j 6) (by omega) (by omega) dL_law_1159 dL_law_1160 (fun k => lv_bipush hx hb dL_law_1161 (by decide) k) dL_law_1163 dL_law_1164 ?_
  refine lw_call (np := 0) (ad1 := adM) (ad2 := adX) (sk1 := skM) (sk2 := skX) (y := zI_M_way2) (ci := 7) (a1 := 6) (a2 := 57) (as := [.inl (xs (j + 1)), .inl (xs (j + 2)), .inl (xs (j + 3)), .inl (xs (j + 4)), .inl (xs (j + 5)), .inl (xs (j + 6))]) (rest := [.int r]) hMs hx hb hml hown hts hK hN hA hz2 rfl rfl rfl rfl rfl (by decide +kernel) dL_law_1165 rfl (by simp [Value.category]) hl.1 (Nat.le_refl _) (Nat.le_refl _) hPM hPX hDM (fun i hi j hj h => hap j hj i hi h.symm) hS1 (fun H2 locs2 hPM hPX hS2 => ?_)
  exact lv_icmp_eq (tgt := 1536) hx hb dL_law_1168 (by decide) (fun _ => next σ' τ' hR' H2 locs2 ls hPX hPM (zD_any hDX) (zD_any hDM) hS2 hl) (fun hne => absurd rfl hne)
set_option maxRecDepth 100000 in
set_option maxHeartbeats 4000000 in
theorem lc_24 {p : Program} {l : Launch} {e : Env} {s : State} {m : MethodId} {below : List Frame} {meth : Method} {c : Code} {D : va_G} {cI cJ : ClassId} {b L : Nat} {xs : Nat → Int32} {adX adM : Nat → Nat} {Rel : zS → zS → Prop} {j : Nat} {σ τ : zS} (hC : lwCtx p s m meth c D cI cJ b L xs adX adM) (hs : ∀ (a1 : Int32) (a2 : Int32), zSim Rel 106 195 [.inl a1, .inl a2]) (hj : j + 7 ≤ L) (hR : Rel σ τ) (next : ∀ σ' τ', Rel σ' τ' → lwAt p l e s m below meth c D cI cJ b adX adM 1536 j σ' τ') : lwAt p l e s m below meth c D cI cJ b adX adM 1173 j σ τ := by
  obtain ⟨hMs, hx, hb, hml, hown, hts, hK, hN, hX, hbl, hL, hap, -, -⟩ := hC
  have hA : ∀ q : Nat, s.heap.size ≤ q → (fun q => s.heap.size ≤ q) q := fun _ h => h
  have hbA : ¬ (fun q => s.heap.size ≤ q) b := Nat.not_le.mpr hbl
  intro H locs ls hPX hPM hDX hDM hS hl
  obtain ⟨r, σ', τ', hz1, hz2, hR'⟩ := hs (xs (j + 1)) (xs (j + 2)) σ τ hR
  refine lv_aload_n hx hb dL_law_1173 rfl (lv_at hl 1 rfl) ?_
  refine lw_arg (lv := []) (j := j + 1) (jc := nI 1) (pc4 := 1177) hx hb hX hbl hbA hS (lv_at hl 0 rfl) (lv_at hl 3 rfl) (nI_add j 1) (by omega) (by omega) dL_law_1174 dL_law_1175 (fun k => lv_iconst hx hb dL_law_1176 (by decide) k) dL_law_1177 dL_law_1178 ?_
  refine lw_arg (lv := []) (j := j + 2) (jc := nI 2) (pc4 := 1182) hx hb hX hbl hbA hS (lv_at hl 0 rfl) (lv_at hl 3 rfl) (nI_add j 2) (by omega) (by omega) dL_law_1179 dL_law_1180 (fun k => lv_iconst hx hb dL_law_1181 (by decide) k) dL_law_1182 dL_law_1183 ?_
  refine lw_call (np := 0) (ad1 := adX) (ad2 := adM) (sk1 := skX) (sk2 := skM) (y := zI_X_wayOf) (ci := 6) (a1 := 4) (a2 := 32) (as := [.inl (xs (j + 1)), .inl (xs (j + 2))]) (rest := []) hMs hx hb hml hown hts hK hN hA hz1 rfl rfl rfl rfl rfl (by decide +kernel) dL_law_1184 rfl (by decide) hl.1 (Nat.le_refl _) (Nat.le_refl _) hPX hPM hDX hap hS (fun H1 locs1 hPX hPM hS1 => ?_)
  refine lv_aload_n hx hb dL_law_1187 rfl (lv_at hl 2 rfl) ?_
  refine lw_arg (lv := []) (j := j + 1) (jc := nI 1) (pc4 := 1191) hx hb hX hbl hbA hS1 (lv_at hl 0 rfl) (lv_at hl 3 rfl) (nI_add j 1) (by omega) (by omega) dL_law_1188 dL_law_1189 (fun k => lv_iconst hx hb dL_law_1190 (by decide) k) dL_law_1191 dL_law_1192 ?_
  refine lw_arg (lv := []) (j := j + 2) (jc := nI 2) (pc4 := 1196) hx hb hX hbl hbA hS1 (lv_at hl 0 rfl) (lv_at hl 3 rfl) (nI_add j 2) (by omega) (by omega) dL_law_1193 dL_law_1194 (fun k => lv_iconst hx hb dL_law_1195 (by decide) k) dL_law_1196 dL_law_1197 ?_
  refine lw_call (np := 0) (ad1 := adM) (ad2 := adX) (sk1 := skM) (sk2 := skX) (y := zI_M_wayOf) (ci := 7) (a1 := 6) (a2 := 64) (as := [.inl (xs (j + 1)), .inl (xs (j + 2))]) (rest := [.int r]) hMs hx hb hml hown hts hK hN hA hz2 rfl rfl rfl rfl rfl (by decide +kernel) dL_law_1198 rfl (by simp [Value.category]) hl.1 (Nat.le_refl _) (Nat.le_refl _) hPM hPX hDM (fun i hi j hj h => hap j hj i hi h.symm) hS1 (fun H2 locs2 hPM hPX hS2 => ?_)
  exact lv_icmp_eq (tgt := 1536) hx hb dL_law_1201 (by decide) (fun _ => next σ' τ' hR' H2 locs2 ls hPX hPM (zD_any hDX) (zD_any hDM) hS2 hl) (fun hne => absurd rfl hne)
set_option maxRecDepth 100000 in
set_option maxHeartbeats 4000000 in
theorem lc_25 {p : Program} {l : Launch} {e : Env} {s : State} {m : MethodId} {below : List Frame} {meth : Method} {c : Code} {D : va_G} {cI cJ : ClassId} {b L : Nat} {xs : Nat → Int32} {adX adM : Nat → Nat} {Rel : zS → zS → Prop} {j : Nat} {σ τ : zS} (hC : lwCtx p s m meth c D cI cJ b L xs adX adM) (hs : ∀ (a1 : Int32) (a2 : Int32) (a3 : Int32) (a4 : Int32) (a5 : Int32), zSim Rel 107 199 [.inl a1, .inl a2, .inl a3, .inl a4, .inl a5]) (hj : j + 7 ≤ L) (hR : Rel σ τ) (next : ∀ σ' τ', Rel σ' τ' → lwAt p l e s m below meth c D cI cJ b adX adM 1536 j σ' τ') : lwAt p l e s m below meth c D cI cJ b adX adM 1206 j σ τ := by
  obtain ⟨hMs, hx, hb, hml, hown, hts, hK, hN, hX, hbl, hL, hap, -, -⟩ := hC
  have hA : ∀ q : Nat, s.heap.size ≤ q → (fun q => s.heap.size ≤ q) q := fun _ h => h
  have hbA : ¬ (fun q => s.heap.size ≤ q) b := Nat.not_le.mpr hbl
  intro H locs ls hPX hPM hDX hDM hS hl
  obtain ⟨r, σ', τ', hz1, hz2, hR'⟩ := hs (xs (j + 1)) (xs (j + 2)) (xs (j + 3)) (xs (j + 4)) (xs (j + 5)) σ τ hR
  refine lv_aload_n hx hb dL_law_1206 rfl (lv_at hl 1 rfl) ?_
  refine lw_arg (lv := []) (j := j + 1) (jc := nI 1) (pc4 := 1210) hx hb hX hbl hbA hS (lv_at hl 0 rfl) (lv_at hl 3 rfl) (nI_add j 1) (by omega) (by omega) dL_law_1207 dL_law_1208 (fun k => lv_iconst hx hb dL_law_1209 (by decide) k) dL_law_1210 dL_law_1211 ?_
  refine lw_arg (lv := []) (j := j + 2) (jc := nI 2) (pc4 := 1215) hx hb hX hbl hbA hS (lv_at hl 0 rfl) (lv_at hl 3 rfl) (nI_add j 2) (by omega) (by omega) dL_law_1212 dL_law_1213 (fun k => lv_iconst hx hb dL_law_1214 (by decide) k) dL_law_1215 dL_law_1216 ?_
  refine lw_arg (lv := []) (j := j + 3) (jc := nI 3) (pc4 := 1220) hx hb hX hbl hbA hS (lv_at hl 0 rfl) (lv_at hl 3 rfl) (nI_add j 3) (by omega) (by omega) dL_law_1217 dL_law_1218 (fun k => lv_iconst hx hb dL_law_1219 (by decide) k) dL_law_1220 dL_law_1221 ?_
  refine lw_arg (lv := []) (j := j + 4) (jc := nI 4) (pc4 := 1225) hx hb hX hbl hbA hS (lv_at hl 0 rfl) (lv_at hl 3 rfl) (nI_add j 4) (by omega) (by omega) dL_law_1222 dL_law_1223 (fun k => lv_iconst hx hb dL_law_1224 (by decide) k) dL_law_1225 dL_law_1226 ?_
  refine lw_arg (lv := []) (j := j + 5) (jc := nI 5) (pc4 := 1230) hx hb hX hbl hbA hS (lv_at hl 0 rfl) (lv_at hl 3 rfl) (nI_add j 5) (by omega) (by omega) dL_law_1227 dL_law_1228 (fun k => lv_iconst hx hb dL_law_1229 (by decide) k) dL_law_1230 dL_law_1231 ?_
  refine lw_call (np := 0) (ad1 := adX) (ad2 := adM) (sk1 := skX) (sk2 := skM) (y := zI_X_applies) (ci := 6) (a1 := 4) (a2 := 37) (as := [.inl (xs (j + 1)), .inl (xs (j + 2)), .inl (xs (j + 3)), .inl (xs (j + 4)), .inl (xs (j + 5))]) (rest := []) hMs hx hb hml hown hts hK hN hA hz1 rfl rfl rfl rfl rfl (by decide +kernel) dL_law_1232 rfl (by decide) hl.1 (Nat.le_refl _) (Nat.le_refl _) hPX hPM hDX hap hS (fun H1 locs1 hPX hPM hS1 => ?_)
  refine lv_aload_n hx hb dL_law_1235 rfl (lv_at hl 2 rfl) ?_
  refine lw_arg (lv := []) (j := j + 1) (jc := nI 1) (pc4 := 1239) hx hb hX hbl hbA hS1 (lv_at hl 0 rfl) (lv_at hl 3 rfl) (nI_add j 1) (by omega) (by omega) dL_law_1236 dL_law_1237 (fun k => lv_iconst hx hb dL_law_1238 (by decide) k) dL_law_1239 dL_law_1240 ?_
  refine lw_arg (lv := []) (j := j + 2) (jc := nI 2) (pc4 := 1244) hx hb hX hbl hbA hS1 (lv_at hl 0 rfl) (lv_at hl 3 rfl) (nI_add j 2) (by omega) (by omega) dL_law_1241 dL_law_1242 (fun k => lv_iconst hx hb dL_law_1243 (by decide) k) dL_law_1244 dL_law_1245 ?_
  refine lw_arg (lv := []) (j := j + 3) (jc := nI 3) (pc4 := 1249) hx hb hX hbl hbA hS1 (lv_at hl 0 rfl) (lv_at hl 3 rfl) (nI_add j 3) (by omega) (by omega) dL_law_1246 dL_law_1247 (fun k => lv_iconst hx hb dL_law_1248 (by decide) k) dL_law_1249 dL_law_1250 ?_
  refine lw_arg (lv := []) (j := j + 4) (jc := nI 4) (pc4 := 1254) hx hb hX hbl hbA hS1 (lv_at hl 0 rfl) (lv_at hl 3 rfl) (nI_add j 4) (by omega) (by omega) dL_law_1251 dL_law_1252 (fun k => lv_iconst hx hb dL_law_1253 (by decide) k) dL_law_1254 dL_law_1255 ?_
  refine lw_arg (lv := []) (j := j + 5) (jc := nI 5) (pc4 := 1259) hx hb hX hbl hbA hS1 (lv_at hl 0 rfl) (lv_at hl 3 rfl) (nI_add j 5) (by omega) (by omega) dL_law_1256 dL_law_1257 (fun k => lv_iconst hx hb dL_law_1258 (by decide) k) dL_law_1259 dL_law_1260 ?_
  refine lw_call (np := 0) (ad1 := adM) (ad2 := adX) (sk1 := skM) (sk2 := skX) (y := zI_M_applies) (ci := 7) (a1 := 6) (a2 := 68) (as := [.inl (xs (j + 1)), .inl (xs (j + 2)), .inl (xs (j + 3)), .inl (xs (j + 4)), .inl (xs (j + 5))]) (rest := [.int r]) hMs hx hb hml hown hts hK hN hA hz2 rfl rfl rfl rfl rfl (by decide +kernel) dL_law_1261 rfl (by simp [Value.category]) hl.1 (Nat.le_refl _) (Nat.le_refl _) hPM hPX hDM (fun i hi j hj h => hap j hj i hi h.symm) hS1 (fun H2 locs2 hPM hPX hS2 => ?_)
  exact lv_icmp_eq (tgt := 1536) hx hb dL_law_1264 (by decide) (fun _ => next σ' τ' hR' H2 locs2 ls hPX hPM (zD_any hDX) (zD_any hDM) hS2 hl) (fun hne => absurd rfl hne)
set_option maxRecDepth 100000 in
set_option maxHeartbeats 4000000 in
theorem lc_26 {p : Program} {l : Launch} {e : Env} {s : State} {m : MethodId} {below : List Frame} {meth : Method} {c : Code} {D : va_G} {cI cJ : ClassId} {b L : Nat} {xs : Nat → Int32} {adX adM : Nat → Nat} {Rel : zS → zS → Prop} {j : Nat} {σ τ : zS} (hC : lwCtx p s m meth c D cI cJ b L xs adX adM) (hs : ∀ (a1 : Int32) (a2 : Int32) (a3 : Int32), zSim Rel 108 200 [.inl a1, .inl a2, .inl a3]) (hj : j + 7 ≤ L) (hR : Rel σ τ) (next : ∀ σ' τ', Rel σ' τ' → lwAt p l e s m below meth c D cI cJ b adX adM 1536 j σ' τ') : lwAt p l e s m below meth c D cI cJ b adX adM 1269 j σ τ := by
  obtain ⟨hMs, hx, hb, hml, hown, hts, hK, hN, hX, hbl, hL, hap, -, -⟩ := hC
  have hA : ∀ q : Nat, s.heap.size ≤ q → (fun q => s.heap.size ≤ q) q := fun _ h => h
  have hbA : ¬ (fun q => s.heap.size ≤ q) b := Nat.not_le.mpr hbl
  intro H locs ls hPX hPM hDX hDM hS hl
  obtain ⟨r, σ', τ', hz1, hz2, hR'⟩ := hs (xs (j + 1)) (xs (j + 2)) (xs (j + 3)) σ τ hR
  refine lv_aload_n hx hb dL_law_1269 rfl (lv_at hl 1 rfl) ?_
  refine lw_arg (lv := []) (j := j + 1) (jc := nI 1) (pc4 := 1273) hx hb hX hbl hbA hS (lv_at hl 0 rfl) (lv_at hl 3 rfl) (nI_add j 1) (by omega) (by omega) dL_law_1270 dL_law_1271 (fun k => lv_iconst hx hb dL_law_1272 (by decide) k) dL_law_1273 dL_law_1274 ?_
  refine lw_arg (lv := []) (j := j + 2) (jc := nI 2) (pc4 := 1278) hx hb hX hbl hbA hS (lv_at hl 0 rfl) (lv_at hl 3 rfl) (nI_add j 2) (by omega) (by omega) dL_law_1275 dL_law_1276 (fun k => lv_iconst hx hb dL_law_1277 (by decide) k) dL_law_1278 dL_law_1279 ?_
  refine lw_arg (lv := []) (j := j + 3) (jc := nI 3) (pc4 := 1283) hx hb hX hbl hbA hS (lv_at hl 0 rfl) (lv_at hl 3 rfl) (nI_add j 3) (by omega) (by omega) dL_law_1280 dL_law_1281 (fun k => lv_iconst hx hb dL_law_1282 (by decide) k) dL_law_1283 dL_law_1284 ?_
  refine lw_call (np := 0) (ad1 := adX) (ad2 := adM) (sk1 := skX) (sk2 := skM) (y := zI_X_tie) (ci := 6) (a1 := 4) (a2 := 57) (as := [.inl (xs (j + 1)), .inl (xs (j + 2)), .inl (xs (j + 3))]) (rest := []) hMs hx hb hml hown hts hK hN hA hz1 rfl rfl rfl rfl rfl (by decide +kernel) dL_law_1285 rfl (by decide) hl.1 (Nat.le_refl _) (Nat.le_refl _) hPX hPM hDX hap hS (fun H1 locs1 hPX hPM hS1 => ?_)
  refine lv_aload_n hx hb dL_law_1288 rfl (lv_at hl 2 rfl) ?_
  refine lw_arg (lv := []) (j := j + 1) (jc := nI 1) (pc4 := 1292) hx hb hX hbl hbA hS1 (lv_at hl 0 rfl) (lv_at hl 3 rfl) (nI_add j 1) (by omega) (by omega) dL_law_1289 dL_law_1290 (fun k => lv_iconst hx hb dL_law_1291 (by decide) k) dL_law_1292 dL_law_1293 ?_
  refine lw_arg (lv := []) (j := j + 2) (jc := nI 2) (pc4 := 1297) hx hb hX hbl hbA hS1 (lv_at hl 0 rfl) (lv_at hl 3 rfl) (nI_add j 2) (by omega) (by omega) dL_law_1294 dL_law_1295 (fun k => lv_iconst hx hb dL_law_1296 (by decide) k) dL_law_1297 dL_law_1298 ?_
  refine lw_arg (lv := []) (j := j + 3) (jc := nI 3) (pc4 := 1302) hx hb hX hbl hbA hS1 (lv_at hl 0 rfl) (lv_at hl 3 rfl) (nI_add j 3) (by omega) (by omega) dL_law_1299 dL_law_1300 (fun k => lv_iconst hx hb dL_law_1301 (by decide) k) dL_law_1302 dL_law_1303 ?_
  refine lw_call (np := 0) (ad1 := adM) (ad2 := adX) (sk1 := skM) (sk2 := skX) (y := zI_M_tie) (ci := 7) (a1 := 6) (a2 := 84) (as := [.inl (xs (j + 1)), .inl (xs (j + 2)), .inl (xs (j + 3))]) (rest := [.int r]) hMs hx hb hml hown hts hK hN hA hz2 rfl rfl rfl rfl rfl (by decide +kernel) dL_law_1304 rfl (by simp [Value.category]) hl.1 (Nat.le_refl _) (Nat.le_refl _) hPM hPX hDM (fun i hi j hj h => hap j hj i hi h.symm) hS1 (fun H2 locs2 hPM hPX hS2 => ?_)
  exact lv_icmp_eq (tgt := 1536) hx hb dL_law_1307 (by decide) (fun _ => next σ' τ' hR' H2 locs2 ls hPX hPM (zD_any hDX) (zD_any hDM) hS2 hl) (fun hne => absurd rfl hne)
set_option maxRecDepth 100000 in
set_option maxHeartbeats 4000000 in
theorem lc_27 {p : Program} {l : Launch} {e : Env} {s : State} {m : MethodId} {below : List Frame} {meth : Method} {c : Code} {D : va_G} {cI cJ : ClassId} {b L : Nat} {xs : Nat → Int32} {adX adM : Nat → Nat} {Rel : zS → zS → Prop} {j : Nat} {σ τ : zS} (hC : lwCtx p s m meth c D cI cJ b L xs adX adM) (hs : ∀ (a1 : Int32) (a2 : Int32) (a3 : Int32) (a4 : Int32), zSim Rel 109 201 [.inl a1, .inl a2, .inl a3, .inl a4]) (hj : j + 7 ≤ L) (hR : Rel σ τ) (next : ∀ σ' τ', Rel σ' τ' → lwAt p l e s m below meth c D cI cJ b adX adM 1536 j σ' τ') : lwAt p l e s m below meth c D cI cJ b adX adM 1312 j σ τ := by
  obtain ⟨hMs, hx, hb, hml, hown, hts, hK, hN, hX, hbl, hL, hap, -, -⟩ := hC
  have hA : ∀ q : Nat, s.heap.size ≤ q → (fun q => s.heap.size ≤ q) q := fun _ h => h
  have hbA : ¬ (fun q => s.heap.size ≤ q) b := Nat.not_le.mpr hbl
  intro H locs ls hPX hPM hDX hDM hS hl
  obtain ⟨r, σ', τ', hz1, hz2, hR'⟩ := hs (xs (j + 1)) (xs (j + 2)) (xs (j + 3)) (xs (j + 4)) σ τ hR
  refine lv_aload_n hx hb dL_law_1312 rfl (lv_at hl 1 rfl) ?_
  refine lw_arg (lv := []) (j := j + 1) (jc := nI 1) (pc4 := 1316) hx hb hX hbl hbA hS (lv_at hl 0 rfl) (lv_at hl 3 rfl) (nI_add j 1) (by omega) (by omega) dL_law_1313 dL_law_1314 (fun k => lv_iconst hx hb dL_law_1315 (by decide) k) dL_law_1316 dL_law_1317 ?_
  refine lw_arg (lv := []) (j := j + 2) (jc := nI 2) (pc4 := 1321) hx hb hX hbl hbA hS (lv_at hl 0 rfl) (lv_at hl 3 rfl) (nI_add j 2) (by omega) (by omega) dL_law_1318 dL_law_1319 (fun k => lv_iconst hx hb dL_law_1320 (by decide) k) dL_law_1321 dL_law_1322 ?_
  refine lw_arg (lv := []) (j := j + 3) (jc := nI 3) (pc4 := 1326) hx hb hX hbl hbA hS (lv_at hl 0 rfl) (lv_at hl 3 rfl) (nI_add j 3) (by omega) (by omega) dL_law_1323 dL_law_1324 (fun k => lv_iconst hx hb dL_law_1325 (by decide) k) dL_law_1326 dL_law_1327 ?_
  refine lw_arg (lv := []) (j := j + 4) (jc := nI 4) (pc4 := 1331) hx hb hX hbl hbA hS (lv_at hl 0 rfl) (lv_at hl 3 rfl) (nI_add j 4) (by omega) (by omega) dL_law_1328 dL_law_1329 (fun k => lv_iconst hx hb dL_law_1330 (by decide) k) dL_law_1331 dL_law_1332 ?_
  refine lw_call (np := 0) (ad1 := adX) (ad2 := adM) (sk1 := skX) (sk2 := skM) (y := zI_X_call) (ci := 6) (a1 := 4) (a2 := 66) (as := [.inl (xs (j + 1)), .inl (xs (j + 2)), .inl (xs (j + 3)), .inl (xs (j + 4))]) (rest := []) hMs hx hb hml hown hts hK hN hA hz1 rfl rfl rfl rfl rfl (by decide +kernel) dL_law_1333 rfl (by decide) hl.1 (Nat.le_refl _) (Nat.le_refl _) hPX hPM hDX hap hS (fun H1 locs1 hPX hPM hS1 => ?_)
  refine lv_aload_n hx hb dL_law_1336 rfl (lv_at hl 2 rfl) ?_
  refine lw_arg (lv := []) (j := j + 1) (jc := nI 1) (pc4 := 1340) hx hb hX hbl hbA hS1 (lv_at hl 0 rfl) (lv_at hl 3 rfl) (nI_add j 1) (by omega) (by omega) dL_law_1337 dL_law_1338 (fun k => lv_iconst hx hb dL_law_1339 (by decide) k) dL_law_1340 dL_law_1341 ?_
  refine lw_arg (lv := []) (j := j + 2) (jc := nI 2) (pc4 := 1345) hx hb hX hbl hbA hS1 (lv_at hl 0 rfl) (lv_at hl 3 rfl) (nI_add j 2) (by omega) (by omega) dL_law_1342 dL_law_1343 (fun k => lv_iconst hx hb dL_law_1344 (by decide) k) dL_law_1345 dL_law_1346 ?_
  refine lw_arg (lv := []) (j := j + 3) (jc := nI 3) (pc4 := 1350) hx hb hX hbl hbA hS1 (lv_at hl 0 rfl) (lv_at hl 3 rfl) (nI_add j 3) (by omega) (by omega) dL_law_1347 dL_law_1348 (fun k => lv_iconst hx hb dL_law_1349 (by decide) k) dL_law_1350 dL_law_1351 ?_
  refine lw_arg (lv := []) (j := j + 4) (jc := nI 4) (pc4 := 1355) hx hb hX hbl hbA hS1 (lv_at hl 0 rfl) (lv_at hl 3 rfl) (nI_add j 4) (by omega) (by omega) dL_law_1352 dL_law_1353 (fun k => lv_iconst hx hb dL_law_1354 (by decide) k) dL_law_1355 dL_law_1356 ?_
  refine lw_call (np := 0) (ad1 := adM) (ad2 := adX) (sk1 := skM) (sk2 := skX) (y := zI_M_call) (ci := 7) (a1 := 6) (a2 := 88) (as := [.inl (xs (j + 1)), .inl (xs (j + 2)), .inl (xs (j + 3)), .inl (xs (j + 4))]) (rest := [.int r]) hMs hx hb hml hown hts hK hN hA hz2 rfl rfl rfl rfl rfl (by decide +kernel) dL_law_1357 rfl (by simp [Value.category]) hl.1 (Nat.le_refl _) (Nat.le_refl _) hPM hPX hDM (fun i hi j hj h => hap j hj i hi h.symm) hS1 (fun H2 locs2 hPM hPX hS2 => ?_)
  exact lv_icmp_eq (tgt := 1536) hx hb dL_law_1360 (by decide) (fun _ => next σ' τ' hR' H2 locs2 ls hPX hPM (zD_any hDX) (zD_any hDM) hS2 hl) (fun hne => absurd rfl hne)
set_option maxRecDepth 100000 in
set_option maxHeartbeats 4000000 in
theorem lc_28 {p : Program} {l : Launch} {e : Env} {s : State} {m : MethodId} {below : List Frame} {meth : Method} {c : Code} {D : va_G} {cI cJ : ClassId} {b L : Nat} {xs : Nat → Int32} {adX adM : Nat → Nat} {Rel : zS → zS → Prop} {j : Nat} {σ τ : zS} (hC : lwCtx p s m meth c D cI cJ b L xs adX adM) (hs : ∀ (a1 : Int32), zSim Rel 110 202 [.inl a1]) (hj : j + 7 ≤ L) (hR : Rel σ τ) (next : ∀ σ' τ', Rel σ' τ' → lwAt p l e s m below meth c D cI cJ b adX adM 1536 j σ' τ') : lwAt p l e s m below meth c D cI cJ b adX adM 1365 j σ τ := by
  obtain ⟨hMs, hx, hb, hml, hown, hts, hK, hN, hX, hbl, hL, hap, -, -⟩ := hC
  have hA : ∀ q : Nat, s.heap.size ≤ q → (fun q => s.heap.size ≤ q) q := fun _ h => h
  have hbA : ¬ (fun q => s.heap.size ≤ q) b := Nat.not_le.mpr hbl
  intro H locs ls hPX hPM hDX hDM hS hl
  obtain ⟨r, σ', τ', hz1, hz2, hR'⟩ := hs (xs (j + 1)) σ τ hR
  refine lv_aload_n hx hb dL_law_1365 rfl (lv_at hl 1 rfl) ?_
  refine lw_arg (lv := []) (j := j + 1) (jc := nI 1) (pc4 := 1369) hx hb hX hbl hbA hS (lv_at hl 0 rfl) (lv_at hl 3 rfl) (nI_add j 1) (by omega) (by omega) dL_law_1366 dL_law_1367 (fun k => lv_iconst hx hb dL_law_1368 (by decide) k) dL_law_1369 dL_law_1370 ?_
  refine lw_call (np := 0) (ad1 := adX) (ad2 := adM) (sk1 := skX) (sk2 := skM) (y := zI_X_trace) (ci := 6) (a1 := 4) (a2 := 75) (as := [.inl (xs (j + 1))]) (rest := []) hMs hx hb hml hown hts hK hN hA hz1 rfl rfl rfl rfl rfl (by decide +kernel) dL_law_1371 rfl (by decide) hl.1 (Nat.le_refl _) (Nat.le_refl _) hPX hPM hDX hap hS (fun H1 locs1 hPX hPM hS1 => ?_)
  refine lv_aload_n hx hb dL_law_1374 rfl (lv_at hl 2 rfl) ?_
  refine lw_arg (lv := []) (j := j + 1) (jc := nI 1) (pc4 := 1378) hx hb hX hbl hbA hS1 (lv_at hl 0 rfl) (lv_at hl 3 rfl) (nI_add j 1) (by omega) (by omega) dL_law_1375 dL_law_1376 (fun k => lv_iconst hx hb dL_law_1377 (by decide) k) dL_law_1378 dL_law_1379 ?_
  refine lw_call (np := 0) (ad1 := adM) (ad2 := adX) (sk1 := skM) (sk2 := skX) (y := zI_M_trace) (ci := 7) (a1 := 6) (a2 := 92) (as := [.inl (xs (j + 1))]) (rest := [.int r]) hMs hx hb hml hown hts hK hN hA hz2 rfl rfl rfl rfl rfl (by decide +kernel) dL_law_1380 rfl (by simp [Value.category]) hl.1 (Nat.le_refl _) (Nat.le_refl _) hPM hPX hDM (fun i hi j hj h => hap j hj i hi h.symm) hS1 (fun H2 locs2 hPM hPX hS2 => ?_)
  exact lv_icmp_eq (tgt := 1536) hx hb dL_law_1383 (by decide) (fun _ => next σ' τ' hR' H2 locs2 ls hPX hPM (zD_any hDX) (zD_any hDM) hS2 hl) (fun hne => absurd rfl hne)
set_option maxRecDepth 100000 in
set_option maxHeartbeats 4000000 in
theorem lc_29 {p : Program} {l : Launch} {e : Env} {s : State} {m : MethodId} {below : List Frame} {meth : Method} {c : Code} {D : va_G} {cI cJ : ClassId} {b L : Nat} {xs : Nat → Int32} {adX adM : Nat → Nat} {Rel : zS → zS → Prop} {j : Nat} {σ τ : zS} (hC : lwCtx p s m meth c D cI cJ b L xs adX adM) (hs : ∀ (a1 : Int32) (a2 : Int32) (a3 : Int32) (a4 : Int32), zSim Rel 111 204 [.inl a1, .inl a2, .inl a3, .inl a4]) (hj : j + 7 ≤ L) (hR : Rel σ τ) (next : ∀ σ' τ', Rel σ' τ' → lwAt p l e s m below meth c D cI cJ b adX adM 1536 j σ' τ') : lwAt p l e s m below meth c D cI cJ b adX adM 1388 j σ τ := by
  obtain ⟨hMs, hx, hb, hml, hown, hts, hK, hN, hX, hbl, hL, hap, -, -⟩ := hC
  have hA : ∀ q : Nat, s.heap.size ≤ q → (fun q => s.heap.size ≤ q) q := fun _ h => h
  have hbA : ¬ (fun q => s.heap.size ≤ q) b := Nat.not_le.mpr hbl
  intro H locs ls hPX hPM hDX hDM hS hl
  obtain ⟨r, σ', τ', hz1, hz2, hR'⟩ := hs (xs (j + 1)) (xs (j + 2)) (xs (j + 3)) (xs (j + 4)) σ τ hR
  refine lv_aload_n hx hb dL_law_1388 rfl (lv_at hl 1 rfl) ?_
  refine lw_arg (lv := []) (j := j + 1) (jc := nI 1) (pc4 := 1392) hx hb hX hbl hbA hS (lv_at hl 0 rfl) (lv_at hl 3 rfl) (nI_add j 1) (by omega) (by omega) dL_law_1389 dL_law_1390 (fun k => lv_iconst hx hb dL_law_1391 (by decide) k) dL_law_1392 dL_law_1393 ?_
  refine lw_arg (lv := []) (j := j + 2) (jc := nI 2) (pc4 := 1397) hx hb hX hbl hbA hS (lv_at hl 0 rfl) (lv_at hl 3 rfl) (nI_add j 2) (by omega) (by omega) dL_law_1394 dL_law_1395 (fun k => lv_iconst hx hb dL_law_1396 (by decide) k) dL_law_1397 dL_law_1398 ?_
  refine lw_arg (lv := []) (j := j + 3) (jc := nI 3) (pc4 := 1402) hx hb hX hbl hbA hS (lv_at hl 0 rfl) (lv_at hl 3 rfl) (nI_add j 3) (by omega) (by omega) dL_law_1399 dL_law_1400 (fun k => lv_iconst hx hb dL_law_1401 (by decide) k) dL_law_1402 dL_law_1403 ?_
  refine lw_arg (lv := []) (j := j + 4) (jc := nI 4) (pc4 := 1407) hx hb hX hbl hbA hS (lv_at hl 0 rfl) (lv_at hl 3 rfl) (nI_add j 4) (by omega) (by omega) dL_law_1404 dL_law_1405 (fun k => lv_iconst hx hb dL_law_1406 (by decide) k) dL_law_1407 dL_law_1408 ?_
  refine lw_call (np := 0) (ad1 := adX) (ad2 := adM) (sk1 := skX) (sk2 := skM) (y := zI_X_judge) (ci := 6) (a1 := 4) (a2 := 79) (as := [.inl (xs (j + 1)), .inl (xs (j + 2)), .inl (xs (j + 3)), .inl (xs (j + 4))]) (rest := []) hMs hx hb hml hown hts hK hN hA hz1 rfl rfl rfl rfl rfl (by decide +kernel) dL_law_1409 rfl (by decide) hl.1 (Nat.le_refl _) (Nat.le_refl _) hPX hPM hDX hap hS (fun H1 locs1 hPX hPM hS1 => ?_)
  refine lv_aload_n hx hb dL_law_1412 rfl (lv_at hl 2 rfl) ?_
  refine lw_arg (lv := []) (j := j + 1) (jc := nI 1) (pc4 := 1416) hx hb hX hbl hbA hS1 (lv_at hl 0 rfl) (lv_at hl 3 rfl) (nI_add j 1) (by omega) (by omega) dL_law_1413 dL_law_1414 (fun k => lv_iconst hx hb dL_law_1415 (by decide) k) dL_law_1416 dL_law_1417 ?_
  refine lw_arg (lv := []) (j := j + 2) (jc := nI 2) (pc4 := 1421) hx hb hX hbl hbA hS1 (lv_at hl 0 rfl) (lv_at hl 3 rfl) (nI_add j 2) (by omega) (by omega) dL_law_1418 dL_law_1419 (fun k => lv_iconst hx hb dL_law_1420 (by decide) k) dL_law_1421 dL_law_1422 ?_
  refine lw_arg (lv := []) (j := j + 3) (jc := nI 3) (pc4 := 1426) hx hb hX hbl hbA hS1 (lv_at hl 0 rfl) (lv_at hl 3 rfl) (nI_add j 3) (by omega) (by omega) dL_law_1423 dL_law_1424 (fun k => lv_iconst hx hb dL_law_1425 (by decide) k) dL_law_1426 dL_law_1427 ?_
  refine lw_arg (lv := []) (j := j + 4) (jc := nI 4) (pc4 := 1431) hx hb hX hbl hbA hS1 (lv_at hl 0 rfl) (lv_at hl 3 rfl) (nI_add j 4) (by omega) (by omega) dL_law_1428 dL_law_1429 (fun k => lv_iconst hx hb dL_law_1430 (by decide) k) dL_law_1431 dL_law_1432 ?_
  refine lw_call (np := 0) (ad1 := adM) (ad2 := adX) (sk1 := skM) (sk2 := skX) (y := zI_M_judge) (ci := 7) (a1 := 6) (a2 := 99) (as := [.inl (xs (j + 1)), .inl (xs (j + 2)), .inl (xs (j + 3)), .inl (xs (j + 4))]) (rest := [.int r]) hMs hx hb hml hown hts hK hN hA hz2 rfl rfl rfl rfl rfl (by decide +kernel) dL_law_1433 rfl (by simp [Value.category]) hl.1 (Nat.le_refl _) (Nat.le_refl _) hPM hPX hDM (fun i hi j hj h => hap j hj i hi h.symm) hS1 (fun H2 locs2 hPM hPX hS2 => ?_)
  exact lv_icmp_eq (tgt := 1536) hx hb dL_law_1436 (by decide) (fun _ => next σ' τ' hR' H2 locs2 ls hPX hPM (zD_any hDX) (zD_any hDM) hS2 hl) (fun hne => absurd rfl hne)
set_option maxRecDepth 100000 in
set_option maxHeartbeats 4000000 in
theorem lc_30 {p : Program} {l : Launch} {e : Env} {s : State} {m : MethodId} {below : List Frame} {meth : Method} {c : Code} {D : va_G} {cI cJ : ClassId} {b L : Nat} {xs : Nat → Int32} {adX adM : Nat → Nat} {Rel : zS → zS → Prop} {j : Nat} {σ τ : zS} (hC : lwCtx p s m meth c D cI cJ b L xs adX adM) (hs : ∀ (a1 : Int32), zSim Rel 112 207 [.inl a1]) (hj : j + 7 ≤ L) (hR : Rel σ τ) (next : ∀ σ' τ', Rel σ' τ' → lwAt p l e s m below meth c D cI cJ b adX adM 1536 j σ' τ') : lwAt p l e s m below meth c D cI cJ b adX adM 1441 j σ τ := by
  obtain ⟨hMs, hx, hb, hml, hown, hts, hK, hN, hX, hbl, hL, hap, -, -⟩ := hC
  have hA : ∀ q : Nat, s.heap.size ≤ q → (fun q => s.heap.size ≤ q) q := fun _ h => h
  have hbA : ¬ (fun q => s.heap.size ≤ q) b := Nat.not_le.mpr hbl
  intro H locs ls hPX hPM hDX hDM hS hl
  obtain ⟨r, σ', τ', hz1, hz2, hR'⟩ := hs (xs (j + 1)) σ τ hR
  refine lv_aload_n hx hb dL_law_1441 rfl (lv_at hl 1 rfl) ?_
  refine lw_arg (lv := []) (j := j + 1) (jc := nI 1) (pc4 := 1445) hx hb hX hbl hbA hS (lv_at hl 0 rfl) (lv_at hl 3 rfl) (nI_add j 1) (by omega) (by omega) dL_law_1442 dL_law_1443 (fun k => lv_iconst hx hb dL_law_1444 (by decide) k) dL_law_1445 dL_law_1446 ?_
  refine lw_call (np := 0) (ad1 := adX) (ad2 := adM) (sk1 := skX) (sk2 := skM) (y := zI_X_days) (ci := 6) (a1 := 4) (a2 := 85) (as := [.inl (xs (j + 1))]) (rest := []) hMs hx hb hml hown hts hK hN hA hz1 rfl rfl rfl rfl rfl (by decide +kernel) dL_law_1447 rfl (by decide) hl.1 (Nat.le_refl _) (Nat.le_refl _) hPX hPM hDX hap hS (fun H1 locs1 hPX hPM hS1 => ?_)
  refine lv_aload_n hx hb dL_law_1450 rfl (lv_at hl 2 rfl) ?_
  refine lw_arg (lv := []) (j := j + 1) (jc := nI 1) (pc4 := 1454) hx hb hX hbl hbA hS1 (lv_at hl 0 rfl) (lv_at hl 3 rfl) (nI_add j 1) (by omega) (by omega) dL_law_1451 dL_law_1452 (fun k => lv_iconst hx hb dL_law_1453 (by decide) k) dL_law_1454 dL_law_1455 ?_
  refine lw_call (np := 0) (ad1 := adM) (ad2 := adX) (sk1 := skM) (sk2 := skX) (y := zI_M_days) (ci := 7) (a1 := 6) (a2 := 108) (as := [.inl (xs (j + 1))]) (rest := [.int r]) hMs hx hb hml hown hts hK hN hA hz2 rfl rfl rfl rfl rfl (by decide +kernel) dL_law_1456 rfl (by simp [Value.category]) hl.1 (Nat.le_refl _) (Nat.le_refl _) hPM hPX hDM (fun i hi j hj h => hap j hj i hi h.symm) hS1 (fun H2 locs2 hPM hPX hS2 => ?_)
  exact lv_icmp_eq (tgt := 1536) hx hb dL_law_1459 (by decide) (fun _ => next σ' τ' hR' H2 locs2 ls hPX hPM (zD_any hDX) (zD_any hDM) hS2 hl) (fun hne => absurd rfl hne)
set_option maxRecDepth 100000 in
set_option maxHeartbeats 4000000 in
theorem lc_31 {p : Program} {l : Launch} {e : Env} {s : State} {m : MethodId} {below : List Frame} {meth : Method} {c : Code} {D : va_G} {cI cJ : ClassId} {b L : Nat} {xs : Nat → Int32} {adX adM : Nat → Nat} {Rel : zS → zS → Prop} {j : Nat} {σ τ : zS} (hC : lwCtx p s m meth c D cI cJ b L xs adX adM) (hs : ∀ (a1 : Int32), zSim Rel 113 208 [.inl a1]) (hj : j + 7 ≤ L) (hR : Rel σ τ) (next : ∀ σ' τ', Rel σ' τ' → lwAt p l e s m below meth c D cI cJ b adX adM 1536 j σ' τ') : lwAt p l e s m below meth c D cI cJ b adX adM 1464 j σ τ := by
  obtain ⟨hMs, hx, hb, hml, hown, hts, hK, hN, hX, hbl, hL, hap, -, -⟩ := hC
  have hA : ∀ q : Nat, s.heap.size ≤ q → (fun q => s.heap.size ≤ q) q := fun _ h => h
  have hbA : ¬ (fun q => s.heap.size ≤ q) b := Nat.not_le.mpr hbl
  intro H locs ls hPX hPM hDX hDM hS hl
  obtain ⟨r, σ', τ', hz1, hz2, hR'⟩ := hs (xs (j + 1)) σ τ hR
  refine lv_aload_n hx hb dL_law_1464 rfl (lv_at hl 1 rfl) ?_
  refine lw_arg (lv := []) (j := j + 1) (jc := nI 1) (pc4 := 1468) hx hb hX hbl hbA hS (lv_at hl 0 rfl) (lv_at hl 3 rfl) (nI_add j 1) (by omega) (by omega) dL_law_1465 dL_law_1466 (fun k => lv_iconst hx hb dL_law_1467 (by decide) k) dL_law_1468 dL_law_1469 ?_
  refine lw_call (np := 0) (ad1 := adX) (ad2 := adM) (sk1 := skX) (sk2 := skM) (y := zI_X_seed) (ci := 6) (a1 := 4) (a2 := 103) (as := [.inl (xs (j + 1))]) (rest := []) hMs hx hb hml hown hts hK hN hA hz1 rfl rfl rfl rfl rfl (by decide +kernel) dL_law_1470 rfl (by decide) hl.1 (Nat.le_refl _) (Nat.le_refl _) hPX hPM hDX hap hS (fun H1 locs1 hPX hPM hS1 => ?_)
  refine lv_aload_n hx hb dL_law_1473 rfl (lv_at hl 2 rfl) ?_
  refine lw_arg (lv := []) (j := j + 1) (jc := nI 1) (pc4 := 1477) hx hb hX hbl hbA hS1 (lv_at hl 0 rfl) (lv_at hl 3 rfl) (nI_add j 1) (by omega) (by omega) dL_law_1474 dL_law_1475 (fun k => lv_iconst hx hb dL_law_1476 (by decide) k) dL_law_1477 dL_law_1478 ?_
  refine lw_call (np := 0) (ad1 := adM) (ad2 := adX) (sk1 := skM) (sk2 := skX) (y := zI_M_seed) (ci := 7) (a1 := 6) (a2 := 121) (as := [.inl (xs (j + 1))]) (rest := [.int r]) hMs hx hb hml hown hts hK hN hA hz2 rfl rfl rfl rfl rfl (by decide +kernel) dL_law_1479 rfl (by simp [Value.category]) hl.1 (Nat.le_refl _) (Nat.le_refl _) hPM hPX hDM (fun i hi j hj h => hap j hj i hi h.symm) hS1 (fun H2 locs2 hPM hPX hS2 => ?_)
  exact lv_icmp_eq (tgt := 1536) hx hb dL_law_1482 (by decide) (fun _ => next σ' τ' hR' H2 locs2 ls hPX hPM (zD_any hDX) (zD_any hDM) hS2 hl) (fun hne => absurd rfl hne)
set_option maxRecDepth 100000 in
set_option maxHeartbeats 4000000 in
theorem lc_32 {p : Program} {l : Launch} {e : Env} {s : State} {m : MethodId} {below : List Frame} {meth : Method} {c : Code} {D : va_G} {cI cJ : ClassId} {b L : Nat} {xs : Nat → Int32} {adX adM : Nat → Nat} {Rel : zS → zS → Prop} {j : Nat} {σ τ : zS} (hC : lwCtx p s m meth c D cI cJ b L xs adX adM) (hs : zSim Rel 114 211 []) (hj : j + 7 ≤ L) (hR : Rel σ τ) (next : ∀ σ' τ', Rel σ' τ' → lwAt p l e s m below meth c D cI cJ b adX adM 1536 j σ' τ') : lwAt p l e s m below meth c D cI cJ b adX adM 1487 j σ τ := by
  obtain ⟨hMs, hx, hb, hml, hown, hts, hK, hN, hX, hbl, hL, hap, -, -⟩ := hC
  have hA : ∀ q : Nat, s.heap.size ≤ q → (fun q => s.heap.size ≤ q) q := fun _ h => h
  have hbA : ¬ (fun q => s.heap.size ≤ q) b := Nat.not_le.mpr hbl
  intro H locs ls hPX hPM hDX hDM hS hl
  obtain ⟨r, σ', τ', hz1, hz2, hR'⟩ := hs  σ τ hR
  refine lv_aload_n hx hb dL_law_1487 rfl (lv_at hl 1 rfl) ?_
  refine lw_call (np := 0) (ad1 := adX) (ad2 := adM) (sk1 := skX) (sk2 := skM) (y := zI_X_image) (ci := 6) (a1 := 4) (a2 := 107) (as := []) (rest := []) hMs hx hb hml hown hts hK hN hA hz1 rfl rfl rfl rfl rfl (by decide +kernel) dL_law_1488 rfl (by decide) hl.1 (Nat.le_refl _) (Nat.le_refl _) hPX hPM hDX hap hS (fun H1 locs1 hPX hPM hS1 => ?_)
  refine lv_aload_n hx hb dL_law_1491 rfl (lv_at hl 2 rfl) ?_
  refine lw_call (np := 0) (ad1 := adM) (ad2 := adX) (sk1 := skM) (sk2 := skX) (y := zI_M_image) (ci := 7) (a1 := 6) (a2 := 125) (as := []) (rest := [.int r]) hMs hx hb hml hown hts hK hN hA hz2 rfl rfl rfl rfl rfl (by decide +kernel) dL_law_1492 rfl (by simp [Value.category]) hl.1 (Nat.le_refl _) (Nat.le_refl _) hPM hPX hDM (fun i hi j hj h => hap j hj i hi h.symm) hS1 (fun H2 locs2 hPM hPX hS2 => ?_)
  exact lv_icmp_eq (tgt := 1536) hx hb dL_law_1495 (by decide) (fun _ => next σ' τ' hR' H2 locs2 ls hPX hPM (zD_any hDX) (zD_any hDM) hS2 hl) (fun hne => absurd rfl hne)
set_option maxRecDepth 100000 in
set_option maxHeartbeats 4000000 in
theorem lc_33 {p : Program} {l : Launch} {e : Env} {s : State} {m : MethodId} {below : List Frame} {meth : Method} {c : Code} {D : va_G} {cI cJ : ClassId} {b L : Nat} {xs : Nat → Int32} {adX adM : Nat → Nat} {Rel : zS → zS → Prop} {j : Nat} {σ τ : zS} (hC : lwCtx p s m meth c D cI cJ b L xs adX adM) (hs : zSim Rel 115 212 []) (hj : j + 7 ≤ L) (hR : Rel σ τ) (next : ∀ σ' τ', Rel σ' τ' → lwAt p l e s m below meth c D cI cJ b adX adM 1536 j σ' τ') : lwAt p l e s m below meth c D cI cJ b adX adM 1500 j σ τ := by
  obtain ⟨hMs, hx, hb, hml, hown, hts, hK, hN, hX, hbl, hL, hap, -, -⟩ := hC
  have hA : ∀ q : Nat, s.heap.size ≤ q → (fun q => s.heap.size ≤ q) q := fun _ h => h
  have hbA : ¬ (fun q => s.heap.size ≤ q) b := Nat.not_le.mpr hbl
  intro H locs ls hPX hPM hDX hDM hS hl
  obtain ⟨r, σ', τ', hz1, hz2, hR'⟩ := hs  σ τ hR
  refine lv_aload_n hx hb dL_law_1500 rfl (lv_at hl 1 rfl) ?_
  refine lw_call (np := 0) (ad1 := adX) (ad2 := adM) (sk1 := skX) (sk2 := skM) (y := zI_X_restore) (ci := 6) (a1 := 4) (a2 := 115) (as := []) (rest := []) hMs hx hb hml hown hts hK hN hA hz1 rfl rfl rfl rfl rfl (by decide +kernel) dL_law_1501 rfl (by decide) hl.1 (Nat.le_refl _) (Nat.le_refl _) hPX hPM hDX hap hS (fun H1 locs1 hPX hPM hS1 => ?_)
  refine lv_aload_n hx hb dL_law_1504 rfl (lv_at hl 2 rfl) ?_
  refine lw_call (np := 0) (ad1 := adM) (ad2 := adX) (sk1 := skM) (sk2 := skX) (y := zI_M_restore) (ci := 7) (a1 := 6) (a2 := 129) (as := []) (rest := [.int r]) hMs hx hb hml hown hts hK hN hA hz2 rfl rfl rfl rfl rfl (by decide +kernel) dL_law_1505 rfl (by simp [Value.category]) hl.1 (Nat.le_refl _) (Nat.le_refl _) hPM hPX hDM (fun i hi j hj h => hap j hj i hi h.symm) hS1 (fun H2 locs2 hPM hPX hS2 => ?_)
  exact lv_icmp_eq (tgt := 1536) hx hb dL_law_1508 (by decide) (fun _ => next σ' τ' hR' H2 locs2 ls hPX hPM (zD_any hDX) (zD_any hDM) hS2 hl) (fun hne => absurd rfl hne)
set_option maxRecDepth 100000 in
set_option maxHeartbeats 4000000 in
theorem lc_34 {p : Program} {l : Launch} {e : Env} {s : State} {m : MethodId} {below : List Frame} {meth : Method} {c : Code} {D : va_G} {cI cJ : ClassId} {b L : Nat} {xs : Nat → Int32} {adX adM : Nat → Nat} {Rel : zS → zS → Prop} {j : Nat} {σ τ : zS} (hC : lwCtx p s m meth c D cI cJ b L xs adX adM) (hs : ∀ (a1 : Int32), zSim Rel 116 214 [.inl a1]) (hj : j + 7 ≤ L) (hR : Rel σ τ) (next : ∀ σ' τ', Rel σ' τ' → lwAt p l e s m below meth c D cI cJ b adX adM 1536 j σ' τ') : lwAt p l e s m below meth c D cI cJ b adX adM 1513 j σ τ := by
  obtain ⟨hMs, hx, hb, hml, hown, hts, hK, hN, hX, hbl, hL, hap, -, -⟩ := hC
  have hA : ∀ q : Nat, s.heap.size ≤ q → (fun q => s.heap.size ≤ q) q := fun _ h => h
  have hbA : ¬ (fun q => s.heap.size ≤ q) b := Nat.not_le.mpr hbl
  intro H locs ls hPX hPM hDX hDM hS hl
  obtain ⟨r, σ', τ', hz1, hz2, hR'⟩ := hs (xs (j + 1)) σ τ hR
  refine lv_aload_n hx hb dL_law_1513 rfl (lv_at hl 1 rfl) ?_
  refine lw_arg (lv := []) (j := j + 1) (jc := nI 1) (pc4 := 1517) hx hb hX hbl hbA hS (lv_at hl 0 rfl) (lv_at hl 3 rfl) (nI_add j 1) (by omega) (by omega) dL_law_1514 dL_law_1515 (fun k => lv_iconst hx hb dL_law_1516 (by decide) k) dL_law_1517 dL_law_1518 ?_
  refine lw_call (np := 0) (ad1 := adX) (ad2 := adM) (sk1 := skX) (sk2 := skM) (y := zI_X_status) (ci := 6) (a1 := 4) (a2 := 123) (as := [.inl (xs (j + 1))]) (rest := []) hMs hx hb hml hown hts hK hN hA hz1 rfl rfl rfl rfl rfl (by decide +kernel) dL_law_1519 rfl (by decide) hl.1 (Nat.le_refl _) (Nat.le_refl _) hPX hPM hDX hap hS (fun H1 locs1 hPX hPM hS1 => ?_)
  refine lv_aload_n hx hb dL_law_1522 rfl (lv_at hl 2 rfl) ?_
  refine lw_arg (lv := []) (j := j + 1) (jc := nI 1) (pc4 := 1526) hx hb hX hbl hbA hS1 (lv_at hl 0 rfl) (lv_at hl 3 rfl) (nI_add j 1) (by omega) (by omega) dL_law_1523 dL_law_1524 (fun k => lv_iconst hx hb dL_law_1525 (by decide) k) dL_law_1526 dL_law_1527 ?_
  refine lw_call (np := 0) (ad1 := adM) (ad2 := adX) (sk1 := skM) (sk2 := skX) (y := zI_M_status) (ci := 7) (a1 := 6) (a2 := 133) (as := [.inl (xs (j + 1))]) (rest := [.int r]) hMs hx hb hml hown hts hK hN hA hz2 rfl rfl rfl rfl rfl (by decide +kernel) dL_law_1528 rfl (by simp [Value.category]) hl.1 (Nat.le_refl _) (Nat.le_refl _) hPM hPX hDM (fun i hi j hj h => hap j hj i hi h.symm) hS1 (fun H2 locs2 hPM hPX hS2 => ?_)
  exact lv_icmp_eq (tgt := 1536) hx hb dL_law_1531 (by decide) (fun _ => next σ' τ' hR' H2 locs2 ls hPX hPM (zD_any hDX) (zD_any hDM) hS2 hl) (fun hne => absurd rfl hne)
