/-! the law's cases: a call of each, with one argument list, answers the same -/
theorem l_in {i k Ln : Nat} (hk : k < 6) (hi : i + 6 ≤ Ln) (hL : Ln ≤ 3072) : vp_in (nI i + nI k) Ln := by
  rw [nI_add]
  exact vp_in_nI (by omega) (by omega)
theorem l_in0 {i Ln : Nat} (hi : i + 6 ≤ Ln) (hL : Ln ≤ 3072) : vp_in (nI i) Ln := vp_in_nI (by omega) (by omega)
abbrev lLS (Y : lY) (i : Nat) : List (Nat × Value) := [(3, .int (nI i)), (2, .ref (lh Y + 291)), (1, .ref (lh Y + 0)), (0, .ref Y.2.2.2.1)]
def Op_range (Rel : cS → mS → Prop) : Prop := ∀ (s : cS) (t : mS), Rel s t → ∀ (p1 : Int32), ∃ (N1 N2 : Nat) (r : Int32) (s1 : cS) (t1 : mS), f8_range N1 p1 s = some (r, s1) ∧ f9_range N2 p1 t = some (r, t1) ∧ Rel s1 t1
set_option maxRecDepth 100000 in
theorem law_0 {Y : lY} {Rel : cS → mS → Prop} (C : lC Y) (ho : Op_range Rel) {sc : cS} {sm : mS} {i : Nat} (hi : i + 6 ≤ Y.2.2.2.2.1) (hL : Y.2.2.2.2.1 ≤ 3072) (hr : Rel sc sm) (kk : ∀ (sc1 : cS) (sm1 : mS), Rel sc1 sm1 → XL Y sc1 sm1 1256 (lLS Y i) []) : XL Y sc sm 192 (lLS Y i) [] := by
  obtain ⟨N1, N2, r, sc1, sm1, e1, e2, hr1⟩ := ho sc sm hr (Y.2.2.2.2.2 (nI i + 1).toNatClampNeg)
  refine l_aload_n (j := 2) C dL_law_192 rfl rfl ?_
  refine l_aload_n (j := 3) C dL_law_193 rfl rfl ?_
  refine l_iload_n (j := 0) C dL_law_194 rfl rfl ?_
  refine l_iconst (v := 1) C dL_law_195 (by decide) ?_
  refine l_iadd C dL_law_196 ?_
  refine l_sld C (l_in (k := 1) (by omega) hi hL) dL_law_197 ?_
  refine l_callC (As := [.int (Y.2.2.2.2.2 (nI i + 1).toNatClampNeg)]) (n := 1) C dL_law_198 (fun l G => c8_range l G e1) lk315 lk316 lk317 lk78 lk318 ⟨rfl, rfl⟩ ⟨by decide +kernel, by decide +kernel, by decide +kernel⟩ rfl ⟨Nat.le_of_ble_eq_true rfl, Nat.le_of_ble_eq_true rfl⟩ rfl rfl (Nat.le_of_ble_eq_true rfl) ?_
  refine l_aload_n (j := 1) C dL_law_201 rfl rfl ?_
  refine l_aload_n (j := 3) C dL_law_202 rfl rfl ?_
  refine l_iload_n (j := 0) C dL_law_203 rfl rfl ?_
  refine l_iconst (v := 1) C dL_law_204 (by decide) ?_
  refine l_iadd C dL_law_205 ?_
  refine l_sld C (l_in (k := 1) (by omega) hi hL) dL_law_206 ?_
  refine l_callM (As := [.int (Y.2.2.2.2.2 (nI i + 1).toNatClampNeg)]) (n := 1) C dL_law_207 (fun l G => c9_range l G e2) lk815 lk816 lk817 lk87 lk818 ⟨rfl, rfl⟩ ⟨by decide +kernel, by decide +kernel, by decide +kernel⟩ rfl ⟨Nat.le_of_ble_eq_true rfl, Nat.le_of_ble_eq_true rfl⟩ rfl rfl (Nat.le_of_ble_eq_true rfl) ?_
  refine l_icmp_eq (tgt := 1256) C dL_law_210 (by decide) ?_
  exact kk _ _ hr1
def Op_meter (Rel : cS → mS → Prop) : Prop := ∀ (s : cS) (t : mS), Rel s t → ∀ (p1 : Int32), ∃ (N1 N2 : Nat) (r : Int32) (s1 : cS) (t1 : mS), f8_meter N1 p1 s = some (r, s1) ∧ f9_meter N2 p1 t = some (r, t1) ∧ Rel s1 t1
set_option maxRecDepth 100000 in
theorem law_1 {Y : lY} {Rel : cS → mS → Prop} (C : lC Y) (ho : Op_meter Rel) {sc : cS} {sm : mS} {i : Nat} (hi : i + 6 ≤ Y.2.2.2.2.1) (hL : Y.2.2.2.2.1 ≤ 3072) (hr : Rel sc sm) (kk : ∀ (sc1 : cS) (sm1 : mS), Rel sc1 sm1 → XL Y sc1 sm1 1256 (lLS Y i) []) : XL Y sc sm 215 (lLS Y i) [] := by
  obtain ⟨N1, N2, r, sc1, sm1, e1, e2, hr1⟩ := ho sc sm hr (Y.2.2.2.2.2 (nI i + 1).toNatClampNeg)
  refine l_aload_n (j := 2) C dL_law_215 rfl rfl ?_
  refine l_aload_n (j := 3) C dL_law_216 rfl rfl ?_
  refine l_iload_n (j := 0) C dL_law_217 rfl rfl ?_
  refine l_iconst (v := 1) C dL_law_218 (by decide) ?_
  refine l_iadd C dL_law_219 ?_
  refine l_sld C (l_in (k := 1) (by omega) hi hL) dL_law_220 ?_
  refine l_callC (As := [.int (Y.2.2.2.2.2 (nI i + 1).toNatClampNeg)]) (n := 1) C dL_law_221 (fun l G => c8_meter l G e1) lk334 lk335 lk336 lk78 lk337 ⟨rfl, rfl⟩ ⟨by decide +kernel, by decide +kernel, by decide +kernel⟩ rfl ⟨Nat.le_of_ble_eq_true rfl, Nat.le_of_ble_eq_true rfl⟩ rfl rfl (Nat.le_of_ble_eq_true rfl) ?_
  refine l_aload_n (j := 1) C dL_law_224 rfl rfl ?_
  refine l_aload_n (j := 3) C dL_law_225 rfl rfl ?_
  refine l_iload_n (j := 0) C dL_law_226 rfl rfl ?_
  refine l_iconst (v := 1) C dL_law_227 (by decide) ?_
  refine l_iadd C dL_law_228 ?_
  refine l_sld C (l_in (k := 1) (by omega) hi hL) dL_law_229 ?_
  refine l_callM (As := [.int (Y.2.2.2.2.2 (nI i + 1).toNatClampNeg)]) (n := 1) C dL_law_230 (fun l G => c9_meter l G e2) lk827 lk828 lk829 lk87 lk830 ⟨rfl, rfl⟩ ⟨by decide +kernel, by decide +kernel, by decide +kernel⟩ rfl ⟨Nat.le_of_ble_eq_true rfl, Nat.le_of_ble_eq_true rfl⟩ rfl rfl (Nat.le_of_ble_eq_true rfl) ?_
  refine l_icmp_eq (tgt := 1256) C dL_law_233 (by decide) ?_
  exact kk _ _ hr1
def Op_part (Rel : cS → mS → Prop) : Prop := ∀ (s : cS) (t : mS), Rel s t → ∀ (p1 p2 p3 : Int32), ∃ (N1 N2 : Nat) (r : Int32) (s1 : cS) (t1 : mS), f8_part N1 p1 p2 p3 s = some (r, s1) ∧ f9_part N2 p1 p2 p3 t = some (r, t1) ∧ Rel s1 t1
set_option maxRecDepth 100000 in
theorem law_2 {Y : lY} {Rel : cS → mS → Prop} (C : lC Y) (ho : Op_part Rel) {sc : cS} {sm : mS} {i : Nat} (hi : i + 6 ≤ Y.2.2.2.2.1) (hL : Y.2.2.2.2.1 ≤ 3072) (hr : Rel sc sm) (kk : ∀ (sc1 : cS) (sm1 : mS), Rel sc1 sm1 → XL Y sc1 sm1 1256 (lLS Y i) []) : XL Y sc sm 238 (lLS Y i) [] := by
  obtain ⟨N1, N2, r, sc1, sm1, e1, e2, hr1⟩ := ho sc sm hr (Y.2.2.2.2.2 (nI i + 1).toNatClampNeg) (Y.2.2.2.2.2 (nI i + 2).toNatClampNeg) (Y.2.2.2.2.2 (nI i + 3).toNatClampNeg)
  refine l_aload_n (j := 2) C dL_law_238 rfl rfl ?_
  refine l_aload_n (j := 3) C dL_law_239 rfl rfl ?_
  refine l_iload_n (j := 0) C dL_law_240 rfl rfl ?_
  refine l_iconst (v := 1) C dL_law_241 (by decide) ?_
  refine l_iadd C dL_law_242 ?_
  refine l_sld C (l_in (k := 1) (by omega) hi hL) dL_law_243 ?_
  refine l_aload_n (j := 3) C dL_law_244 rfl rfl ?_
  refine l_iload_n (j := 0) C dL_law_245 rfl rfl ?_
  refine l_iconst (v := 2) C dL_law_246 (by decide) ?_
  refine l_iadd C dL_law_247 ?_
  refine l_sld C (l_in (k := 2) (by omega) hi hL) dL_law_248 ?_
  refine l_aload_n (j := 3) C dL_law_249 rfl rfl ?_
  refine l_iload_n (j := 0) C dL_law_250 rfl rfl ?_
  refine l_iconst (v := 3) C dL_law_251 (by decide) ?_
  refine l_iadd C dL_law_252 ?_
  refine l_sld C (l_in (k := 3) (by omega) hi hL) dL_law_253 ?_
  refine l_callC (As := [.int (Y.2.2.2.2.2 (nI i + 1).toNatClampNeg), .int (Y.2.2.2.2.2 (nI i + 2).toNatClampNeg), .int (Y.2.2.2.2.2 (nI i + 3).toNatClampNeg)]) (n := 3) C dL_law_254 (fun l G => c8_part l G e1) lk346 lk347 lk348 lk78 lk349 ⟨rfl, rfl⟩ ⟨by decide +kernel, by decide +kernel, by decide +kernel⟩ rfl ⟨Nat.le_of_ble_eq_true rfl, Nat.le_of_ble_eq_true rfl⟩ rfl rfl (Nat.le_of_ble_eq_true rfl) ?_
  refine l_aload_n (j := 1) C dL_law_257 rfl rfl ?_
  refine l_aload_n (j := 3) C dL_law_258 rfl rfl ?_
  refine l_iload_n (j := 0) C dL_law_259 rfl rfl ?_
  refine l_iconst (v := 1) C dL_law_260 (by decide) ?_
  refine l_iadd C dL_law_261 ?_
  refine l_sld C (l_in (k := 1) (by omega) hi hL) dL_law_262 ?_
  refine l_aload_n (j := 3) C dL_law_263 rfl rfl ?_
  refine l_iload_n (j := 0) C dL_law_264 rfl rfl ?_
  refine l_iconst (v := 2) C dL_law_265 (by decide) ?_
  refine l_iadd C dL_law_266 ?_
  refine l_sld C (l_in (k := 2) (by omega) hi hL) dL_law_267 ?_
  refine l_aload_n (j := 3) C dL_law_268 rfl rfl ?_
  refine l_iload_n (j := 0) C dL_law_269 rfl rfl ?_
  refine l_iconst (v := 3) C dL_law_270 (by decide) ?_
  refine l_iadd C dL_law_271 ?_
  refine l_sld C (l_in (k := 3) (by omega) hi hL) dL_law_272 ?_
  refine l_callM (As := [.int (Y.2.2.2.2.2 (nI i + 1).toNatClampNeg), .int (Y.2.2.2.2.2 (nI i + 2).toNatClampNeg), .int (Y.2.2.2.2.2 (nI i + 3).toNatClampNeg)]) (n := 3) C dL_law_273 (fun l G => c9_part l G e2) lk835 lk836 lk837 lk87 lk838 ⟨rfl, rfl⟩ ⟨by decide +kernel, by decide +kernel, by decide +kernel⟩ rfl ⟨Nat.le_of_ble_eq_true rfl, Nat.le_of_ble_eq_true rfl⟩ rfl rfl (Nat.le_of_ble_eq_true rfl) ?_
  refine l_icmp_eq (tgt := 1256) C dL_law_276 (by decide) ?_
  exact kk _ _ hr1
def Op_miss (Rel : cS → mS → Prop) : Prop := ∀ (s : cS) (t : mS), Rel s t → ∀ (p1 p2 p3 : Int32), ∃ (N1 N2 : Nat) (r : Int32) (s1 : cS) (t1 : mS), f8_miss N1 p1 p2 p3 s = some (r, s1) ∧ f9_miss N2 p1 p2 p3 t = some (r, t1) ∧ Rel s1 t1
set_option maxRecDepth 100000 in
theorem law_3 {Y : lY} {Rel : cS → mS → Prop} (C : lC Y) (ho : Op_miss Rel) {sc : cS} {sm : mS} {i : Nat} (hi : i + 6 ≤ Y.2.2.2.2.1) (hL : Y.2.2.2.2.1 ≤ 3072) (hr : Rel sc sm) (kk : ∀ (sc1 : cS) (sm1 : mS), Rel sc1 sm1 → XL Y sc1 sm1 1256 (lLS Y i) []) : XL Y sc sm 281 (lLS Y i) [] := by
  obtain ⟨N1, N2, r, sc1, sm1, e1, e2, hr1⟩ := ho sc sm hr (Y.2.2.2.2.2 (nI i + 1).toNatClampNeg) (Y.2.2.2.2.2 (nI i + 2).toNatClampNeg) (Y.2.2.2.2.2 (nI i + 3).toNatClampNeg)
  refine l_aload_n (j := 2) C dL_law_281 rfl rfl ?_
  refine l_aload_n (j := 3) C dL_law_282 rfl rfl ?_
  refine l_iload_n (j := 0) C dL_law_283 rfl rfl ?_
  refine l_iconst (v := 1) C dL_law_284 (by decide) ?_
  refine l_iadd C dL_law_285 ?_
  refine l_sld C (l_in (k := 1) (by omega) hi hL) dL_law_286 ?_
  refine l_aload_n (j := 3) C dL_law_287 rfl rfl ?_
  refine l_iload_n (j := 0) C dL_law_288 rfl rfl ?_
  refine l_iconst (v := 2) C dL_law_289 (by decide) ?_
  refine l_iadd C dL_law_290 ?_
  refine l_sld C (l_in (k := 2) (by omega) hi hL) dL_law_291 ?_
  refine l_aload_n (j := 3) C dL_law_292 rfl rfl ?_
  refine l_iload_n (j := 0) C dL_law_293 rfl rfl ?_
  refine l_iconst (v := 3) C dL_law_294 (by decide) ?_
  refine l_iadd C dL_law_295 ?_
  refine l_sld C (l_in (k := 3) (by omega) hi hL) dL_law_296 ?_
  refine l_callC (As := [.int (Y.2.2.2.2.2 (nI i + 1).toNatClampNeg), .int (Y.2.2.2.2.2 (nI i + 2).toNatClampNeg), .int (Y.2.2.2.2.2 (nI i + 3).toNatClampNeg)]) (n := 3) C dL_law_297 (fun l G => c8_miss l G e1) lk378 lk379 lk380 lk78 lk381 ⟨rfl, rfl⟩ ⟨by decide +kernel, by decide +kernel, by decide +kernel⟩ rfl ⟨Nat.le_of_ble_eq_true rfl, Nat.le_of_ble_eq_true rfl⟩ rfl rfl (Nat.le_of_ble_eq_true rfl) ?_
  refine l_aload_n (j := 1) C dL_law_300 rfl rfl ?_
  refine l_aload_n (j := 3) C dL_law_301 rfl rfl ?_
  refine l_iload_n (j := 0) C dL_law_302 rfl rfl ?_
  refine l_iconst (v := 1) C dL_law_303 (by decide) ?_
  refine l_iadd C dL_law_304 ?_
  refine l_sld C (l_in (k := 1) (by omega) hi hL) dL_law_305 ?_
  refine l_aload_n (j := 3) C dL_law_306 rfl rfl ?_
  refine l_iload_n (j := 0) C dL_law_307 rfl rfl ?_
  refine l_iconst (v := 2) C dL_law_308 (by decide) ?_
  refine l_iadd C dL_law_309 ?_
  refine l_sld C (l_in (k := 2) (by omega) hi hL) dL_law_310 ?_
  refine l_aload_n (j := 3) C dL_law_311 rfl rfl ?_
  refine l_iload_n (j := 0) C dL_law_312 rfl rfl ?_
  refine l_iconst (v := 3) C dL_law_313 (by decide) ?_
  refine l_iadd C dL_law_314 ?_
  refine l_sld C (l_in (k := 3) (by omega) hi hL) dL_law_315 ?_
  refine l_callM (As := [.int (Y.2.2.2.2.2 (nI i + 1).toNatClampNeg), .int (Y.2.2.2.2.2 (nI i + 2).toNatClampNeg), .int (Y.2.2.2.2.2 (nI i + 3).toNatClampNeg)]) (n := 3) C dL_law_316 (fun l G => c9_miss l G e2) lk847 lk848 lk849 lk87 lk850 ⟨rfl, rfl⟩ ⟨by decide +kernel, by decide +kernel, by decide +kernel⟩ rfl ⟨Nat.le_of_ble_eq_true rfl, Nat.le_of_ble_eq_true rfl⟩ rfl rfl (Nat.le_of_ble_eq_true rfl) ?_
  refine l_icmp_eq (tgt := 1256) C dL_law_319 (by decide) ?_
  exact kk _ _ hr1
def Op_worth (Rel : cS → mS → Prop) : Prop := ∀ (s : cS) (t : mS), Rel s t → ∀ (p1 p2 p3 : Int32), ∃ (N1 N2 : Nat) (r : Int32) (s1 : cS) (t1 : mS), f8_worth N1 p1 p2 p3 s = some (r, s1) ∧ f9_worth N2 p1 p2 p3 t = some (r, t1) ∧ Rel s1 t1
set_option maxRecDepth 100000 in
theorem law_4 {Y : lY} {Rel : cS → mS → Prop} (C : lC Y) (ho : Op_worth Rel) {sc : cS} {sm : mS} {i : Nat} (hi : i + 6 ≤ Y.2.2.2.2.1) (hL : Y.2.2.2.2.1 ≤ 3072) (hr : Rel sc sm) (kk : ∀ (sc1 : cS) (sm1 : mS), Rel sc1 sm1 → XL Y sc1 sm1 1256 (lLS Y i) []) : XL Y sc sm 324 (lLS Y i) [] := by
  obtain ⟨N1, N2, r, sc1, sm1, e1, e2, hr1⟩ := ho sc sm hr (Y.2.2.2.2.2 (nI i + 1).toNatClampNeg) (Y.2.2.2.2.2 (nI i + 2).toNatClampNeg) (Y.2.2.2.2.2 (nI i + 3).toNatClampNeg)
  refine l_aload_n (j := 2) C dL_law_324 rfl rfl ?_
  refine l_aload_n (j := 3) C dL_law_325 rfl rfl ?_
  refine l_iload_n (j := 0) C dL_law_326 rfl rfl ?_
  refine l_iconst (v := 1) C dL_law_327 (by decide) ?_
  refine l_iadd C dL_law_328 ?_
  refine l_sld C (l_in (k := 1) (by omega) hi hL) dL_law_329 ?_
  refine l_aload_n (j := 3) C dL_law_330 rfl rfl ?_
  refine l_iload_n (j := 0) C dL_law_331 rfl rfl ?_
  refine l_iconst (v := 2) C dL_law_332 (by decide) ?_
  refine l_iadd C dL_law_333 ?_
  refine l_sld C (l_in (k := 2) (by omega) hi hL) dL_law_334 ?_
  refine l_aload_n (j := 3) C dL_law_335 rfl rfl ?_
  refine l_iload_n (j := 0) C dL_law_336 rfl rfl ?_
  refine l_iconst (v := 3) C dL_law_337 (by decide) ?_
  refine l_iadd C dL_law_338 ?_
  refine l_sld C (l_in (k := 3) (by omega) hi hL) dL_law_339 ?_
  refine l_callC (As := [.int (Y.2.2.2.2.2 (nI i + 1).toNatClampNeg), .int (Y.2.2.2.2.2 (nI i + 2).toNatClampNeg), .int (Y.2.2.2.2.2 (nI i + 3).toNatClampNeg)]) (n := 3) C dL_law_340 (fun l G => c8_worth l G e1) lk387 lk388 lk389 lk78 lk390 ⟨rfl, rfl⟩ ⟨by decide +kernel, by decide +kernel, by decide +kernel⟩ rfl ⟨Nat.le_of_ble_eq_true rfl, Nat.le_of_ble_eq_true rfl⟩ rfl rfl (Nat.le_of_ble_eq_true rfl) ?_
  refine l_aload_n (j := 1) C dL_law_343 rfl rfl ?_
  refine l_aload_n (j := 3) C dL_law_344 rfl rfl ?_
  refine l_iload_n (j := 0) C dL_law_345 rfl rfl ?_
  refine l_iconst (v := 1) C dL_law_346 (by decide) ?_
  refine l_iadd C dL_law_347 ?_
  refine l_sld C (l_in (k := 1) (by omega) hi hL) dL_law_348 ?_
  refine l_aload_n (j := 3) C dL_law_349 rfl rfl ?_
  refine l_iload_n (j := 0) C dL_law_350 rfl rfl ?_
  refine l_iconst (v := 2) C dL_law_351 (by decide) ?_
  refine l_iadd C dL_law_352 ?_
  refine l_sld C (l_in (k := 2) (by omega) hi hL) dL_law_353 ?_
  refine l_aload_n (j := 3) C dL_law_354 rfl rfl ?_
  refine l_iload_n (j := 0) C dL_law_355 rfl rfl ?_
  refine l_iconst (v := 3) C dL_law_356 (by decide) ?_
  refine l_iadd C dL_law_357 ?_
  refine l_sld C (l_in (k := 3) (by omega) hi hL) dL_law_358 ?_
  refine l_callM (As := [.int (Y.2.2.2.2.2 (nI i + 1).toNatClampNeg), .int (Y.2.2.2.2.2 (nI i + 2).toNatClampNeg), .int (Y.2.2.2.2.2 (nI i + 3).toNatClampNeg)]) (n := 3) C dL_law_359 (fun l G => c9_worth l G e2) lk851 lk852 lk853 lk87 lk854 ⟨rfl, rfl⟩ ⟨by decide +kernel, by decide +kernel, by decide +kernel⟩ rfl ⟨Nat.le_of_ble_eq_true rfl, Nat.le_of_ble_eq_true rfl⟩ rfl rfl (Nat.le_of_ble_eq_true rfl) ?_
  refine l_icmp_eq (tgt := 1256) C dL_law_362 (by decide) ?_
  exact kk _ _ hr1
def Op_partOf (Rel : cS → mS → Prop) : Prop := ∀ (s : cS) (t : mS), Rel s t → ∀ (p1 p2 p3 : Int32), ∃ (N1 N2 : Nat) (r : Int32) (s1 : cS) (t1 : mS), f8_partOf N1 p1 p2 p3 s = some (r, s1) ∧ f9_partOf N2 p1 p2 p3 t = some (r, t1) ∧ Rel s1 t1
set_option maxRecDepth 100000 in
theorem law_5 {Y : lY} {Rel : cS → mS → Prop} (C : lC Y) (ho : Op_partOf Rel) {sc : cS} {sm : mS} {i : Nat} (hi : i + 6 ≤ Y.2.2.2.2.1) (hL : Y.2.2.2.2.1 ≤ 3072) (hr : Rel sc sm) (kk : ∀ (sc1 : cS) (sm1 : mS), Rel sc1 sm1 → XL Y sc1 sm1 1256 (lLS Y i) []) : XL Y sc sm 367 (lLS Y i) [] := by
  obtain ⟨N1, N2, r, sc1, sm1, e1, e2, hr1⟩ := ho sc sm hr (Y.2.2.2.2.2 (nI i + 1).toNatClampNeg) (Y.2.2.2.2.2 (nI i + 2).toNatClampNeg) (Y.2.2.2.2.2 (nI i + 3).toNatClampNeg)
  refine l_aload_n (j := 2) C dL_law_367 rfl rfl ?_
  refine l_aload_n (j := 3) C dL_law_368 rfl rfl ?_
  refine l_iload_n (j := 0) C dL_law_369 rfl rfl ?_
  refine l_iconst (v := 1) C dL_law_370 (by decide) ?_
  refine l_iadd C dL_law_371 ?_
  refine l_sld C (l_in (k := 1) (by omega) hi hL) dL_law_372 ?_
  refine l_aload_n (j := 3) C dL_law_373 rfl rfl ?_
  refine l_iload_n (j := 0) C dL_law_374 rfl rfl ?_
  refine l_iconst (v := 2) C dL_law_375 (by decide) ?_
  refine l_iadd C dL_law_376 ?_
  refine l_sld C (l_in (k := 2) (by omega) hi hL) dL_law_377 ?_
  refine l_aload_n (j := 3) C dL_law_378 rfl rfl ?_
  refine l_iload_n (j := 0) C dL_law_379 rfl rfl ?_
  refine l_iconst (v := 3) C dL_law_380 (by decide) ?_
  refine l_iadd C dL_law_381 ?_
  refine l_sld C (l_in (k := 3) (by omega) hi hL) dL_law_382 ?_
  refine l_callC (As := [.int (Y.2.2.2.2.2 (nI i + 1).toNatClampNeg), .int (Y.2.2.2.2.2 (nI i + 2).toNatClampNeg), .int (Y.2.2.2.2.2 (nI i + 3).toNatClampNeg)]) (n := 3) C dL_law_383 (fun l G => c8_partOf l G e1) lk391 lk392 lk393 lk78 lk394 ⟨rfl, rfl⟩ ⟨by decide +kernel, by decide +kernel, by decide +kernel⟩ rfl ⟨Nat.le_of_ble_eq_true rfl, Nat.le_of_ble_eq_true rfl⟩ rfl rfl (Nat.le_of_ble_eq_true rfl) ?_
  refine l_aload_n (j := 1) C dL_law_386 rfl rfl ?_
  refine l_aload_n (j := 3) C dL_law_387 rfl rfl ?_
  refine l_iload_n (j := 0) C dL_law_388 rfl rfl ?_
  refine l_iconst (v := 1) C dL_law_389 (by decide) ?_
  refine l_iadd C dL_law_390 ?_
  refine l_sld C (l_in (k := 1) (by omega) hi hL) dL_law_391 ?_
  refine l_aload_n (j := 3) C dL_law_392 rfl rfl ?_
  refine l_iload_n (j := 0) C dL_law_393 rfl rfl ?_
  refine l_iconst (v := 2) C dL_law_394 (by decide) ?_
  refine l_iadd C dL_law_395 ?_
  refine l_sld C (l_in (k := 2) (by omega) hi hL) dL_law_396 ?_
  refine l_aload_n (j := 3) C dL_law_397 rfl rfl ?_
  refine l_iload_n (j := 0) C dL_law_398 rfl rfl ?_
  refine l_iconst (v := 3) C dL_law_399 (by decide) ?_
  refine l_iadd C dL_law_400 ?_
  refine l_sld C (l_in (k := 3) (by omega) hi hL) dL_law_401 ?_
  refine l_callM (As := [.int (Y.2.2.2.2.2 (nI i + 1).toNatClampNeg), .int (Y.2.2.2.2.2 (nI i + 2).toNatClampNeg), .int (Y.2.2.2.2.2 (nI i + 3).toNatClampNeg)]) (n := 3) C dL_law_402 (fun l G => c9_partOf l G e2) lk855 lk856 lk857 lk87 lk858 ⟨rfl, rfl⟩ ⟨by decide +kernel, by decide +kernel, by decide +kernel⟩ rfl ⟨Nat.le_of_ble_eq_true rfl, Nat.le_of_ble_eq_true rfl⟩ rfl rfl (Nat.le_of_ble_eq_true rfl) ?_
  refine l_icmp_eq (tgt := 1256) C dL_law_405 (by decide) ?_
  exact kk _ _ hr1
def Op_kind (Rel : cS → mS → Prop) : Prop := ∀ (s : cS) (t : mS), Rel s t → ∀ (p1 p2 : Int32), ∃ (N1 N2 : Nat) (r : Int32) (s1 : cS) (t1 : mS), f8_kind N1 p1 p2 s = some (r, s1) ∧ f9_kind N2 p1 p2 t = some (r, t1) ∧ Rel s1 t1
set_option maxRecDepth 100000 in
theorem law_6 {Y : lY} {Rel : cS → mS → Prop} (C : lC Y) (ho : Op_kind Rel) {sc : cS} {sm : mS} {i : Nat} (hi : i + 6 ≤ Y.2.2.2.2.1) (hL : Y.2.2.2.2.1 ≤ 3072) (hr : Rel sc sm) (kk : ∀ (sc1 : cS) (sm1 : mS), Rel sc1 sm1 → XL Y sc1 sm1 1256 (lLS Y i) []) : XL Y sc sm 410 (lLS Y i) [] := by
  obtain ⟨N1, N2, r, sc1, sm1, e1, e2, hr1⟩ := ho sc sm hr (Y.2.2.2.2.2 (nI i + 1).toNatClampNeg) (Y.2.2.2.2.2 (nI i + 2).toNatClampNeg)
  refine l_aload_n (j := 2) C dL_law_410 rfl rfl ?_
  refine l_aload_n (j := 3) C dL_law_411 rfl rfl ?_
  refine l_iload_n (j := 0) C dL_law_412 rfl rfl ?_
  refine l_iconst (v := 1) C dL_law_413 (by decide) ?_
  refine l_iadd C dL_law_414 ?_
  refine l_sld C (l_in (k := 1) (by omega) hi hL) dL_law_415 ?_
  refine l_aload_n (j := 3) C dL_law_416 rfl rfl ?_
  refine l_iload_n (j := 0) C dL_law_417 rfl rfl ?_
  refine l_iconst (v := 2) C dL_law_418 (by decide) ?_
  refine l_iadd C dL_law_419 ?_
  refine l_sld C (l_in (k := 2) (by omega) hi hL) dL_law_420 ?_
  refine l_callC (As := [.int (Y.2.2.2.2.2 (nI i + 1).toNatClampNeg), .int (Y.2.2.2.2.2 (nI i + 2).toNatClampNeg)]) (n := 2) C dL_law_421 (fun l G => c8_kind l G e1) lk395 lk396 lk397 lk78 lk398 ⟨rfl, rfl⟩ ⟨by decide +kernel, by decide +kernel, by decide +kernel⟩ rfl ⟨Nat.le_of_ble_eq_true rfl, Nat.le_of_ble_eq_true rfl⟩ rfl rfl (Nat.le_of_ble_eq_true rfl) ?_
  refine l_aload_n (j := 1) C dL_law_424 rfl rfl ?_
  refine l_aload_n (j := 3) C dL_law_425 rfl rfl ?_
  refine l_iload_n (j := 0) C dL_law_426 rfl rfl ?_
  refine l_iconst (v := 1) C dL_law_427 (by decide) ?_
  refine l_iadd C dL_law_428 ?_
  refine l_sld C (l_in (k := 1) (by omega) hi hL) dL_law_429 ?_
  refine l_aload_n (j := 3) C dL_law_430 rfl rfl ?_
  refine l_iload_n (j := 0) C dL_law_431 rfl rfl ?_
  refine l_iconst (v := 2) C dL_law_432 (by decide) ?_
  refine l_iadd C dL_law_433 ?_
  refine l_sld C (l_in (k := 2) (by omega) hi hL) dL_law_434 ?_
  refine l_callM (As := [.int (Y.2.2.2.2.2 (nI i + 1).toNatClampNeg), .int (Y.2.2.2.2.2 (nI i + 2).toNatClampNeg)]) (n := 2) C dL_law_435 (fun l G => c9_kind l G e2) lk859 lk860 lk861 lk87 lk862 ⟨rfl, rfl⟩ ⟨by decide +kernel, by decide +kernel, by decide +kernel⟩ rfl ⟨Nat.le_of_ble_eq_true rfl, Nat.le_of_ble_eq_true rfl⟩ rfl rfl (Nat.le_of_ble_eq_true rfl) ?_
  refine l_icmp_eq (tgt := 1256) C dL_law_438 (by decide) ?_
  exact kk _ _ hr1
def Op_read (Rel : cS → mS → Prop) : Prop := ∀ (s : cS) (t : mS), Rel s t → ∀ (p1 p2 : Int32), ∃ (N1 N2 : Nat) (r : Int32) (s1 : cS) (t1 : mS), f8_read N1 p1 p2 s = some (r, s1) ∧ f9_read N2 p1 p2 t = some (r, t1) ∧ Rel s1 t1
set_option maxRecDepth 100000 in
theorem law_7 {Y : lY} {Rel : cS → mS → Prop} (C : lC Y) (ho : Op_read Rel) {sc : cS} {sm : mS} {i : Nat} (hi : i + 6 ≤ Y.2.2.2.2.1) (hL : Y.2.2.2.2.1 ≤ 3072) (hr : Rel sc sm) (kk : ∀ (sc1 : cS) (sm1 : mS), Rel sc1 sm1 → XL Y sc1 sm1 1256 (lLS Y i) []) : XL Y sc sm 443 (lLS Y i) [] := by
  obtain ⟨N1, N2, r, sc1, sm1, e1, e2, hr1⟩ := ho sc sm hr (Y.2.2.2.2.2 (nI i + 1).toNatClampNeg) (Y.2.2.2.2.2 (nI i + 2).toNatClampNeg)
  refine l_aload_n (j := 2) C dL_law_443 rfl rfl ?_
  refine l_aload_n (j := 3) C dL_law_444 rfl rfl ?_
  refine l_iload_n (j := 0) C dL_law_445 rfl rfl ?_
  refine l_iconst (v := 1) C dL_law_446 (by decide) ?_
  refine l_iadd C dL_law_447 ?_
  refine l_sld C (l_in (k := 1) (by omega) hi hL) dL_law_448 ?_
  refine l_aload_n (j := 3) C dL_law_449 rfl rfl ?_
  refine l_iload_n (j := 0) C dL_law_450 rfl rfl ?_
  refine l_iconst (v := 2) C dL_law_451 (by decide) ?_
  refine l_iadd C dL_law_452 ?_
  refine l_sld C (l_in (k := 2) (by omega) hi hL) dL_law_453 ?_
  refine l_callC (As := [.int (Y.2.2.2.2.2 (nI i + 1).toNatClampNeg), .int (Y.2.2.2.2.2 (nI i + 2).toNatClampNeg)]) (n := 2) C dL_law_454 (fun l G => c8_read l G e1) lk399 lk400 lk401 lk78 lk402 ⟨rfl, rfl⟩ ⟨by decide +kernel, by decide +kernel, by decide +kernel⟩ rfl ⟨Nat.le_of_ble_eq_true rfl, Nat.le_of_ble_eq_true rfl⟩ rfl rfl (Nat.le_of_ble_eq_true rfl) ?_
  refine l_aload_n (j := 1) C dL_law_457 rfl rfl ?_
  refine l_aload_n (j := 3) C dL_law_458 rfl rfl ?_
  refine l_iload_n (j := 0) C dL_law_459 rfl rfl ?_
  refine l_iconst (v := 1) C dL_law_460 (by decide) ?_
  refine l_iadd C dL_law_461 ?_
  refine l_sld C (l_in (k := 1) (by omega) hi hL) dL_law_462 ?_
  refine l_aload_n (j := 3) C dL_law_463 rfl rfl ?_
  refine l_iload_n (j := 0) C dL_law_464 rfl rfl ?_
  refine l_iconst (v := 2) C dL_law_465 (by decide) ?_
  refine l_iadd C dL_law_466 ?_
  refine l_sld C (l_in (k := 2) (by omega) hi hL) dL_law_467 ?_
  refine l_callM (As := [.int (Y.2.2.2.2.2 (nI i + 1).toNatClampNeg), .int (Y.2.2.2.2.2 (nI i + 2).toNatClampNeg)]) (n := 2) C dL_law_468 (fun l G => c9_read l G e2) lk863 lk864 lk865 lk87 lk866 ⟨rfl, rfl⟩ ⟨by decide +kernel, by decide +kernel, by decide +kernel⟩ rfl ⟨Nat.le_of_ble_eq_true rfl, Nat.le_of_ble_eq_true rfl⟩ rfl rfl (Nat.le_of_ble_eq_true rfl) ?_
  refine l_icmp_eq (tgt := 1256) C dL_law_471 (by decide) ?_
  exact kk _ _ hr1
def Op_trail (Rel : cS → mS → Prop) : Prop := ∀ (s : cS) (t : mS), Rel s t → ∀ (p1 p2 : Int32), ∃ (N1 N2 : Nat) (r : Int32) (s1 : cS) (t1 : mS), f8_trail N1 p1 p2 s = some (r, s1) ∧ f9_trail N2 p1 p2 t = some (r, t1) ∧ Rel s1 t1
set_option maxRecDepth 100000 in
theorem law_8 {Y : lY} {Rel : cS → mS → Prop} (C : lC Y) (ho : Op_trail Rel) {sc : cS} {sm : mS} {i : Nat} (hi : i + 6 ≤ Y.2.2.2.2.1) (hL : Y.2.2.2.2.1 ≤ 3072) (hr : Rel sc sm) (kk : ∀ (sc1 : cS) (sm1 : mS), Rel sc1 sm1 → XL Y sc1 sm1 1256 (lLS Y i) []) : XL Y sc sm 476 (lLS Y i) [] := by
  obtain ⟨N1, N2, r, sc1, sm1, e1, e2, hr1⟩ := ho sc sm hr (Y.2.2.2.2.2 (nI i + 1).toNatClampNeg) (Y.2.2.2.2.2 (nI i + 2).toNatClampNeg)
  refine l_aload_n (j := 2) C dL_law_476 rfl rfl ?_
  refine l_aload_n (j := 3) C dL_law_477 rfl rfl ?_
  refine l_iload_n (j := 0) C dL_law_478 rfl rfl ?_
  refine l_iconst (v := 1) C dL_law_479 (by decide) ?_
  refine l_iadd C dL_law_480 ?_
  refine l_sld C (l_in (k := 1) (by omega) hi hL) dL_law_481 ?_
  refine l_aload_n (j := 3) C dL_law_482 rfl rfl ?_
  refine l_iload_n (j := 0) C dL_law_483 rfl rfl ?_
  refine l_iconst (v := 2) C dL_law_484 (by decide) ?_
  refine l_iadd C dL_law_485 ?_
  refine l_sld C (l_in (k := 2) (by omega) hi hL) dL_law_486 ?_
  refine l_callC (As := [.int (Y.2.2.2.2.2 (nI i + 1).toNatClampNeg), .int (Y.2.2.2.2.2 (nI i + 2).toNatClampNeg)]) (n := 2) C dL_law_487 (fun l G => c8_trail l G e1) lk433 lk434 lk435 lk78 lk436 ⟨rfl, rfl⟩ ⟨by decide +kernel, by decide +kernel, by decide +kernel⟩ rfl ⟨Nat.le_of_ble_eq_true rfl, Nat.le_of_ble_eq_true rfl⟩ rfl rfl (Nat.le_of_ble_eq_true rfl) ?_
  refine l_aload_n (j := 1) C dL_law_490 rfl rfl ?_
  refine l_aload_n (j := 3) C dL_law_491 rfl rfl ?_
  refine l_iload_n (j := 0) C dL_law_492 rfl rfl ?_
  refine l_iconst (v := 1) C dL_law_493 (by decide) ?_
  refine l_iadd C dL_law_494 ?_
  refine l_sld C (l_in (k := 1) (by omega) hi hL) dL_law_495 ?_
  refine l_aload_n (j := 3) C dL_law_496 rfl rfl ?_
  refine l_iload_n (j := 0) C dL_law_497 rfl rfl ?_
  refine l_iconst (v := 2) C dL_law_498 (by decide) ?_
  refine l_iadd C dL_law_499 ?_
  refine l_sld C (l_in (k := 2) (by omega) hi hL) dL_law_500 ?_
  refine l_callM (As := [.int (Y.2.2.2.2.2 (nI i + 1).toNatClampNeg), .int (Y.2.2.2.2.2 (nI i + 2).toNatClampNeg)]) (n := 2) C dL_law_501 (fun l G => c9_trail l G e2) lk886 lk887 lk888 lk87 lk889 ⟨rfl, rfl⟩ ⟨by decide +kernel, by decide +kernel, by decide +kernel⟩ rfl ⟨Nat.le_of_ble_eq_true rfl, Nat.le_of_ble_eq_true rfl⟩ rfl rfl (Nat.le_of_ble_eq_true rfl) ?_
  refine l_icmp_eq (tgt := 1256) C dL_law_504 (by decide) ?_
  exact kk _ _ hr1
def Op_rest (Rel : cS → mS → Prop) : Prop := ∀ (s : cS) (t : mS), Rel s t → ∀ (p1 p2 : Int32), ∃ (N1 N2 : Nat) (r : Int32) (s1 : cS) (t1 : mS), f8_rest N1 p1 p2 s = some (r, s1) ∧ f9_rest N2 p1 p2 t = some (r, t1) ∧ Rel s1 t1
set_option maxRecDepth 100000 in
theorem law_9 {Y : lY} {Rel : cS → mS → Prop} (C : lC Y) (ho : Op_rest Rel) {sc : cS} {sm : mS} {i : Nat} (hi : i + 6 ≤ Y.2.2.2.2.1) (hL : Y.2.2.2.2.1 ≤ 3072) (hr : Rel sc sm) (kk : ∀ (sc1 : cS) (sm1 : mS), Rel sc1 sm1 → XL Y sc1 sm1 1256 (lLS Y i) []) : XL Y sc sm 509 (lLS Y i) [] := by
  obtain ⟨N1, N2, r, sc1, sm1, e1, e2, hr1⟩ := ho sc sm hr (Y.2.2.2.2.2 (nI i + 1).toNatClampNeg) (Y.2.2.2.2.2 (nI i + 2).toNatClampNeg)
  refine l_aload_n (j := 2) C dL_law_509 rfl rfl ?_
  refine l_aload_n (j := 3) C dL_law_510 rfl rfl ?_
  refine l_iload_n (j := 0) C dL_law_511 rfl rfl ?_
  refine l_iconst (v := 1) C dL_law_512 (by decide) ?_
  refine l_iadd C dL_law_513 ?_
  refine l_sld C (l_in (k := 1) (by omega) hi hL) dL_law_514 ?_
  refine l_aload_n (j := 3) C dL_law_515 rfl rfl ?_
  refine l_iload_n (j := 0) C dL_law_516 rfl rfl ?_
  refine l_iconst (v := 2) C dL_law_517 (by decide) ?_
  refine l_iadd C dL_law_518 ?_
  refine l_sld C (l_in (k := 2) (by omega) hi hL) dL_law_519 ?_
  refine l_callC (As := [.int (Y.2.2.2.2.2 (nI i + 1).toNatClampNeg), .int (Y.2.2.2.2.2 (nI i + 2).toNatClampNeg)]) (n := 2) C dL_law_520 (fun l G => c8_rest l G e1) lk437 lk438 lk439 lk78 lk440 ⟨rfl, rfl⟩ ⟨by decide +kernel, by decide +kernel, by decide +kernel⟩ rfl ⟨Nat.le_of_ble_eq_true rfl, Nat.le_of_ble_eq_true rfl⟩ rfl rfl (Nat.le_of_ble_eq_true rfl) ?_
  refine l_aload_n (j := 1) C dL_law_523 rfl rfl ?_
  refine l_aload_n (j := 3) C dL_law_524 rfl rfl ?_
  refine l_iload_n (j := 0) C dL_law_525 rfl rfl ?_
  refine l_iconst (v := 1) C dL_law_526 (by decide) ?_
  refine l_iadd C dL_law_527 ?_
  refine l_sld C (l_in (k := 1) (by omega) hi hL) dL_law_528 ?_
  refine l_aload_n (j := 3) C dL_law_529 rfl rfl ?_
  refine l_iload_n (j := 0) C dL_law_530 rfl rfl ?_
  refine l_iconst (v := 2) C dL_law_531 (by decide) ?_
  refine l_iadd C dL_law_532 ?_
  refine l_sld C (l_in (k := 2) (by omega) hi hL) dL_law_533 ?_
  refine l_callM (As := [.int (Y.2.2.2.2.2 (nI i + 1).toNatClampNeg), .int (Y.2.2.2.2.2 (nI i + 2).toNatClampNeg)]) (n := 2) C dL_law_534 (fun l G => c9_rest l G e2) lk890 lk891 lk892 lk87 lk893 ⟨rfl, rfl⟩ ⟨by decide +kernel, by decide +kernel, by decide +kernel⟩ rfl ⟨Nat.le_of_ble_eq_true rfl, Nat.le_of_ble_eq_true rfl⟩ rfl rfl (Nat.le_of_ble_eq_true rfl) ?_
  refine l_icmp_eq (tgt := 1256) C dL_law_537 (by decide) ?_
  exact kk _ _ hr1
def Op_spans (Rel : cS → mS → Prop) : Prop := ∀ (s : cS) (t : mS), Rel s t → ∀ (p1 : Int32), ∃ (N1 N2 : Nat) (r : Int32) (s1 : cS) (t1 : mS), f8_spans N1 p1 s = some (r, s1) ∧ f9_spans N2 p1 t = some (r, t1) ∧ Rel s1 t1
set_option maxRecDepth 100000 in
theorem law_10 {Y : lY} {Rel : cS → mS → Prop} (C : lC Y) (ho : Op_spans Rel) {sc : cS} {sm : mS} {i : Nat} (hi : i + 6 ≤ Y.2.2.2.2.1) (hL : Y.2.2.2.2.1 ≤ 3072) (hr : Rel sc sm) (kk : ∀ (sc1 : cS) (sm1 : mS), Rel sc1 sm1 → XL Y sc1 sm1 1256 (lLS Y i) []) : XL Y sc sm 542 (lLS Y i) [] := by
  obtain ⟨N1, N2, r, sc1, sm1, e1, e2, hr1⟩ := ho sc sm hr (Y.2.2.2.2.2 (nI i + 1).toNatClampNeg)
  refine l_aload_n (j := 2) C dL_law_542 rfl rfl ?_
  refine l_aload_n (j := 3) C dL_law_543 rfl rfl ?_
  refine l_iload_n (j := 0) C dL_law_544 rfl rfl ?_
  refine l_iconst (v := 1) C dL_law_545 (by decide) ?_
  refine l_iadd C dL_law_546 ?_
  refine l_sld C (l_in (k := 1) (by omega) hi hL) dL_law_547 ?_
  refine l_callC (As := [.int (Y.2.2.2.2.2 (nI i + 1).toNatClampNeg)]) (n := 1) C dL_law_548 (fun l G => c8_spans l G e1) lk441 lk442 lk443 lk78 lk444 ⟨rfl, rfl⟩ ⟨by decide +kernel, by decide +kernel, by decide +kernel⟩ rfl ⟨Nat.le_of_ble_eq_true rfl, Nat.le_of_ble_eq_true rfl⟩ rfl rfl (Nat.le_of_ble_eq_true rfl) ?_
  refine l_aload_n (j := 1) C dL_law_551 rfl rfl ?_
  refine l_aload_n (j := 3) C dL_law_552 rfl rfl ?_
  refine l_iload_n (j := 0) C dL_law_553 rfl rfl ?_
  refine l_iconst (v := 1) C dL_law_554 (by decide) ?_
  refine l_iadd C dL_law_555 ?_
  refine l_sld C (l_in (k := 1) (by omega) hi hL) dL_law_556 ?_
  refine l_callM (As := [.int (Y.2.2.2.2.2 (nI i + 1).toNatClampNeg)]) (n := 1) C dL_law_557 (fun l G => c9_spans l G e2) lk894 lk895 lk896 lk87 lk897 ⟨rfl, rfl⟩ ⟨by decide +kernel, by decide +kernel, by decide +kernel⟩ rfl ⟨Nat.le_of_ble_eq_true rfl, Nat.le_of_ble_eq_true rfl⟩ rfl rfl (Nat.le_of_ble_eq_true rfl) ?_
  refine l_icmp_eq (tgt := 1256) C dL_law_560 (by decide) ?_
  exact kk _ _ hr1
def Op_span (Rel : cS → mS → Prop) : Prop := ∀ (s : cS) (t : mS), Rel s t → ∀ (p1 p2 p3 : Int32), ∃ (N1 N2 : Nat) (r : Int32) (s1 : cS) (t1 : mS), f8_span N1 p1 p2 p3 s = some (r, s1) ∧ f9_span N2 p1 p2 p3 t = some (r, t1) ∧ Rel s1 t1
set_option maxRecDepth 100000 in
theorem law_11 {Y : lY} {Rel : cS → mS → Prop} (C : lC Y) (ho : Op_span Rel) {sc : cS} {sm : mS} {i : Nat} (hi : i + 6 ≤ Y.2.2.2.2.1) (hL : Y.2.2.2.2.1 ≤ 3072) (hr : Rel sc sm) (kk : ∀ (sc1 : cS) (sm1 : mS), Rel sc1 sm1 → XL Y sc1 sm1 1256 (lLS Y i) []) : XL Y sc sm 565 (lLS Y i) [] := by
  obtain ⟨N1, N2, r, sc1, sm1, e1, e2, hr1⟩ := ho sc sm hr (Y.2.2.2.2.2 (nI i + 1).toNatClampNeg) (Y.2.2.2.2.2 (nI i + 2).toNatClampNeg) (Y.2.2.2.2.2 (nI i + 3).toNatClampNeg)
  refine l_aload_n (j := 2) C dL_law_565 rfl rfl ?_
  refine l_aload_n (j := 3) C dL_law_566 rfl rfl ?_
  refine l_iload_n (j := 0) C dL_law_567 rfl rfl ?_
  refine l_iconst (v := 1) C dL_law_568 (by decide) ?_
  refine l_iadd C dL_law_569 ?_
  refine l_sld C (l_in (k := 1) (by omega) hi hL) dL_law_570 ?_
  refine l_aload_n (j := 3) C dL_law_571 rfl rfl ?_
  refine l_iload_n (j := 0) C dL_law_572 rfl rfl ?_
  refine l_iconst (v := 2) C dL_law_573 (by decide) ?_
  refine l_iadd C dL_law_574 ?_
  refine l_sld C (l_in (k := 2) (by omega) hi hL) dL_law_575 ?_
  refine l_aload_n (j := 3) C dL_law_576 rfl rfl ?_
  refine l_iload_n (j := 0) C dL_law_577 rfl rfl ?_
  refine l_iconst (v := 3) C dL_law_578 (by decide) ?_
  refine l_iadd C dL_law_579 ?_
  refine l_sld C (l_in (k := 3) (by omega) hi hL) dL_law_580 ?_
  refine l_callC (As := [.int (Y.2.2.2.2.2 (nI i + 1).toNatClampNeg), .int (Y.2.2.2.2.2 (nI i + 2).toNatClampNeg), .int (Y.2.2.2.2.2 (nI i + 3).toNatClampNeg)]) (n := 3) C dL_law_581 (fun l G => c8_span l G e1) lk471 lk472 lk473 lk78 lk474 ⟨rfl, rfl⟩ ⟨by decide +kernel, by decide +kernel, by decide +kernel⟩ rfl ⟨Nat.le_of_ble_eq_true rfl, Nat.le_of_ble_eq_true rfl⟩ rfl rfl (Nat.le_of_ble_eq_true rfl) ?_
  refine l_aload_n (j := 1) C dL_law_584 rfl rfl ?_
  refine l_aload_n (j := 3) C dL_law_585 rfl rfl ?_
  refine l_iload_n (j := 0) C dL_law_586 rfl rfl ?_
  refine l_iconst (v := 1) C dL_law_587 (by decide) ?_
  refine l_iadd C dL_law_588 ?_
  refine l_sld C (l_in (k := 1) (by omega) hi hL) dL_law_589 ?_
  refine l_aload_n (j := 3) C dL_law_590 rfl rfl ?_
  refine l_iload_n (j := 0) C dL_law_591 rfl rfl ?_
  refine l_iconst (v := 2) C dL_law_592 (by decide) ?_
  refine l_iadd C dL_law_593 ?_
  refine l_sld C (l_in (k := 2) (by omega) hi hL) dL_law_594 ?_
  refine l_aload_n (j := 3) C dL_law_595 rfl rfl ?_
  refine l_iload_n (j := 0) C dL_law_596 rfl rfl ?_
  refine l_iconst (v := 3) C dL_law_597 (by decide) ?_
  refine l_iadd C dL_law_598 ?_
  refine l_sld C (l_in (k := 3) (by omega) hi hL) dL_law_599 ?_
  refine l_callM (As := [.int (Y.2.2.2.2.2 (nI i + 1).toNatClampNeg), .int (Y.2.2.2.2.2 (nI i + 2).toNatClampNeg), .int (Y.2.2.2.2.2 (nI i + 3).toNatClampNeg)]) (n := 3) C dL_law_600 (fun l G => c9_span l G e2) lk902 lk903 lk904 lk87 lk905 ⟨rfl, rfl⟩ ⟨by decide +kernel, by decide +kernel, by decide +kernel⟩ rfl ⟨Nat.le_of_ble_eq_true rfl, Nat.le_of_ble_eq_true rfl⟩ rfl rfl (Nat.le_of_ble_eq_true rfl) ?_
  refine l_icmp_eq (tgt := 1256) C dL_law_603 (by decide) ?_
  exact kk _ _ hr1
def Op_codes (Rel : cS → mS → Prop) : Prop := ∀ (s : cS) (t : mS), Rel s t → ∀ (p1 : Int32), ∃ (N1 N2 : Nat) (r : Int32) (s1 : cS) (t1 : mS), f8_codes N1 p1 s = some (r, s1) ∧ f9_codes N2 p1 t = some (r, t1) ∧ Rel s1 t1
set_option maxRecDepth 100000 in
theorem law_12 {Y : lY} {Rel : cS → mS → Prop} (C : lC Y) (ho : Op_codes Rel) {sc : cS} {sm : mS} {i : Nat} (hi : i + 6 ≤ Y.2.2.2.2.1) (hL : Y.2.2.2.2.1 ≤ 3072) (hr : Rel sc sm) (kk : ∀ (sc1 : cS) (sm1 : mS), Rel sc1 sm1 → XL Y sc1 sm1 1256 (lLS Y i) []) : XL Y sc sm 608 (lLS Y i) [] := by
  obtain ⟨N1, N2, r, sc1, sm1, e1, e2, hr1⟩ := ho sc sm hr (Y.2.2.2.2.2 (nI i + 1).toNatClampNeg)
  refine l_aload_n (j := 2) C dL_law_608 rfl rfl ?_
  refine l_aload_n (j := 3) C dL_law_609 rfl rfl ?_
  refine l_iload_n (j := 0) C dL_law_610 rfl rfl ?_
  refine l_iconst (v := 1) C dL_law_611 (by decide) ?_
  refine l_iadd C dL_law_612 ?_
  refine l_sld C (l_in (k := 1) (by omega) hi hL) dL_law_613 ?_
  refine l_callC (As := [.int (Y.2.2.2.2.2 (nI i + 1).toNatClampNeg)]) (n := 1) C dL_law_614 (fun l G => c8_codes l G e1) lk484 lk485 lk486 lk78 lk487 ⟨rfl, rfl⟩ ⟨by decide +kernel, by decide +kernel, by decide +kernel⟩ rfl ⟨Nat.le_of_ble_eq_true rfl, Nat.le_of_ble_eq_true rfl⟩ rfl rfl (Nat.le_of_ble_eq_true rfl) ?_
  refine l_aload_n (j := 1) C dL_law_617 rfl rfl ?_
  refine l_aload_n (j := 3) C dL_law_618 rfl rfl ?_
  refine l_iload_n (j := 0) C dL_law_619 rfl rfl ?_
  refine l_iconst (v := 1) C dL_law_620 (by decide) ?_
  refine l_iadd C dL_law_621 ?_
  refine l_sld C (l_in (k := 1) (by omega) hi hL) dL_law_622 ?_
  refine l_callM (As := [.int (Y.2.2.2.2.2 (nI i + 1).toNatClampNeg)]) (n := 1) C dL_law_623 (fun l G => c9_codes l G e2) lk906 lk907 lk908 lk87 lk909 ⟨rfl, rfl⟩ ⟨by decide +kernel, by decide +kernel, by decide +kernel⟩ rfl ⟨Nat.le_of_ble_eq_true rfl, Nat.le_of_ble_eq_true rfl⟩ rfl rfl (Nat.le_of_ble_eq_true rfl) ?_
  refine l_icmp_eq (tgt := 1256) C dL_law_626 (by decide) ?_
  exact kk _ _ hr1
def Op_lacks (Rel : cS → mS → Prop) : Prop := ∀ (s : cS) (t : mS), Rel s t → ∀ (p1 : Int32), ∃ (N1 N2 : Nat) (r : Int32) (s1 : cS) (t1 : mS), f8_lacks N1 p1 s = some (r, s1) ∧ f9_lacks N2 p1 t = some (r, t1) ∧ Rel s1 t1
set_option maxRecDepth 100000 in
theorem law_13 {Y : lY} {Rel : cS → mS → Prop} (C : lC Y) (ho : Op_lacks Rel) {sc : cS} {sm : mS} {i : Nat} (hi : i + 6 ≤ Y.2.2.2.2.1) (hL : Y.2.2.2.2.1 ≤ 3072) (hr : Rel sc sm) (kk : ∀ (sc1 : cS) (sm1 : mS), Rel sc1 sm1 → XL Y sc1 sm1 1256 (lLS Y i) []) : XL Y sc sm 631 (lLS Y i) [] := by
  obtain ⟨N1, N2, r, sc1, sm1, e1, e2, hr1⟩ := ho sc sm hr (Y.2.2.2.2.2 (nI i + 1).toNatClampNeg)
  refine l_aload_n (j := 2) C dL_law_631 rfl rfl ?_
  refine l_aload_n (j := 3) C dL_law_632 rfl rfl ?_
  refine l_iload_n (j := 0) C dL_law_633 rfl rfl ?_
  refine l_iconst (v := 1) C dL_law_634 (by decide) ?_
  refine l_iadd C dL_law_635 ?_
  refine l_sld C (l_in (k := 1) (by omega) hi hL) dL_law_636 ?_
  refine l_callC (As := [.int (Y.2.2.2.2.2 (nI i + 1).toNatClampNeg)]) (n := 1) C dL_law_637 (fun l G => c8_lacks l G e1) lk501 lk502 lk503 lk78 lk504 ⟨rfl, rfl⟩ ⟨by decide +kernel, by decide +kernel, by decide +kernel⟩ rfl ⟨Nat.le_of_ble_eq_true rfl, Nat.le_of_ble_eq_true rfl⟩ rfl rfl (Nat.le_of_ble_eq_true rfl) ?_
  refine l_aload_n (j := 1) C dL_law_640 rfl rfl ?_
  refine l_aload_n (j := 3) C dL_law_641 rfl rfl ?_
  refine l_iload_n (j := 0) C dL_law_642 rfl rfl ?_
  refine l_iconst (v := 1) C dL_law_643 (by decide) ?_
  refine l_iadd C dL_law_644 ?_
  refine l_sld C (l_in (k := 1) (by omega) hi hL) dL_law_645 ?_
  refine l_callM (As := [.int (Y.2.2.2.2.2 (nI i + 1).toNatClampNeg)]) (n := 1) C dL_law_646 (fun l G => c9_lacks l G e2) lk914 lk915 lk916 lk87 lk917 ⟨rfl, rfl⟩ ⟨by decide +kernel, by decide +kernel, by decide +kernel⟩ rfl ⟨Nat.le_of_ble_eq_true rfl, Nat.le_of_ble_eq_true rfl⟩ rfl rfl (Nat.le_of_ble_eq_true rfl) ?_
  refine l_icmp_eq (tgt := 1256) C dL_law_649 (by decide) ?_
  exact kk _ _ hr1
def Op_back (Rel : cS → mS → Prop) : Prop := ∀ (s : cS) (t : mS), Rel s t → ∀ (p1 : Int32), ∃ (N1 N2 : Nat) (r : Int32) (s1 : cS) (t1 : mS), f8_back N1 p1 s = some (r, s1) ∧ f9_back N2 p1 t = some (r, t1) ∧ Rel s1 t1
set_option maxRecDepth 100000 in
theorem law_14 {Y : lY} {Rel : cS → mS → Prop} (C : lC Y) (ho : Op_back Rel) {sc : cS} {sm : mS} {i : Nat} (hi : i + 6 ≤ Y.2.2.2.2.1) (hL : Y.2.2.2.2.1 ≤ 3072) (hr : Rel sc sm) (kk : ∀ (sc1 : cS) (sm1 : mS), Rel sc1 sm1 → XL Y sc1 sm1 1256 (lLS Y i) []) : XL Y sc sm 654 (lLS Y i) [] := by
  obtain ⟨N1, N2, r, sc1, sm1, e1, e2, hr1⟩ := ho sc sm hr (Y.2.2.2.2.2 (nI i + 1).toNatClampNeg)
  refine l_aload_n (j := 2) C dL_law_654 rfl rfl ?_
  refine l_aload_n (j := 3) C dL_law_655 rfl rfl ?_
  refine l_iload_n (j := 0) C dL_law_656 rfl rfl ?_
  refine l_iconst (v := 1) C dL_law_657 (by decide) ?_
  refine l_iadd C dL_law_658 ?_
  refine l_sld C (l_in (k := 1) (by omega) hi hL) dL_law_659 ?_
  refine l_callC (As := [.int (Y.2.2.2.2.2 (nI i + 1).toNatClampNeg)]) (n := 1) C dL_law_660 (fun l G => c8_back l G e1) lk511 lk512 lk513 lk78 lk514 ⟨rfl, rfl⟩ ⟨by decide +kernel, by decide +kernel, by decide +kernel⟩ rfl ⟨Nat.le_of_ble_eq_true rfl, Nat.le_of_ble_eq_true rfl⟩ rfl rfl (Nat.le_of_ble_eq_true rfl) ?_
  refine l_aload_n (j := 1) C dL_law_663 rfl rfl ?_
  refine l_aload_n (j := 3) C dL_law_664 rfl rfl ?_
  refine l_iload_n (j := 0) C dL_law_665 rfl rfl ?_
  refine l_iconst (v := 1) C dL_law_666 (by decide) ?_
  refine l_iadd C dL_law_667 ?_
  refine l_sld C (l_in (k := 1) (by omega) hi hL) dL_law_668 ?_
  refine l_callM (As := [.int (Y.2.2.2.2.2 (nI i + 1).toNatClampNeg)]) (n := 1) C dL_law_669 (fun l G => c9_back l G e2) lk918 lk919 lk920 lk87 lk921 ⟨rfl, rfl⟩ ⟨by decide +kernel, by decide +kernel, by decide +kernel⟩ rfl ⟨Nat.le_of_ble_eq_true rfl, Nat.le_of_ble_eq_true rfl⟩ rfl rfl (Nat.le_of_ble_eq_true rfl) ?_
  refine l_icmp_eq (tgt := 1256) C dL_law_672 (by decide) ?_
  exact kk _ _ hr1
def Op_widest (Rel : cS → mS → Prop) : Prop := ∀ (s : cS) (t : mS), Rel s t → ∀ (p1 : Int32), ∃ (N1 N2 : Nat) (r : Int32) (s1 : cS) (t1 : mS), f8_widest N1 p1 s = some (r, s1) ∧ f9_widest N2 p1 t = some (r, t1) ∧ Rel s1 t1
set_option maxRecDepth 100000 in
theorem law_15 {Y : lY} {Rel : cS → mS → Prop} (C : lC Y) (ho : Op_widest Rel) {sc : cS} {sm : mS} {i : Nat} (hi : i + 6 ≤ Y.2.2.2.2.1) (hL : Y.2.2.2.2.1 ≤ 3072) (hr : Rel sc sm) (kk : ∀ (sc1 : cS) (sm1 : mS), Rel sc1 sm1 → XL Y sc1 sm1 1256 (lLS Y i) []) : XL Y sc sm 677 (lLS Y i) [] := by
  obtain ⟨N1, N2, r, sc1, sm1, e1, e2, hr1⟩ := ho sc sm hr (Y.2.2.2.2.2 (nI i + 1).toNatClampNeg)
  refine l_aload_n (j := 2) C dL_law_677 rfl rfl ?_
  refine l_aload_n (j := 3) C dL_law_678 rfl rfl ?_
  refine l_iload_n (j := 0) C dL_law_679 rfl rfl ?_
  refine l_iconst (v := 1) C dL_law_680 (by decide) ?_
  refine l_iadd C dL_law_681 ?_
  refine l_sld C (l_in (k := 1) (by omega) hi hL) dL_law_682 ?_
  refine l_callC (As := [.int (Y.2.2.2.2.2 (nI i + 1).toNatClampNeg)]) (n := 1) C dL_law_683 (fun l G => c8_widest l G e1) lk519 lk520 lk521 lk78 lk522 ⟨rfl, rfl⟩ ⟨by decide +kernel, by decide +kernel, by decide +kernel⟩ rfl ⟨Nat.le_of_ble_eq_true rfl, Nat.le_of_ble_eq_true rfl⟩ rfl rfl (Nat.le_of_ble_eq_true rfl) ?_
  refine l_aload_n (j := 1) C dL_law_686 rfl rfl ?_
  refine l_aload_n (j := 3) C dL_law_687 rfl rfl ?_
  refine l_iload_n (j := 0) C dL_law_688 rfl rfl ?_
  refine l_iconst (v := 1) C dL_law_689 (by decide) ?_
  refine l_iadd C dL_law_690 ?_
  refine l_sld C (l_in (k := 1) (by omega) hi hL) dL_law_691 ?_
  refine l_callM (As := [.int (Y.2.2.2.2.2 (nI i + 1).toNatClampNeg)]) (n := 1) C dL_law_692 (fun l G => c9_widest l G e2) lk926 lk927 lk928 lk87 lk929 ⟨rfl, rfl⟩ ⟨by decide +kernel, by decide +kernel, by decide +kernel⟩ rfl ⟨Nat.le_of_ble_eq_true rfl, Nat.le_of_ble_eq_true rfl⟩ rfl rfl (Nat.le_of_ble_eq_true rfl) ?_
  refine l_icmp_eq (tgt := 1256) C dL_law_695 (by decide) ?_
  exact kk _ _ hr1
def Op_edge (Rel : cS → mS → Prop) : Prop := ∀ (s : cS) (t : mS), Rel s t → ∀ (p1 p2 : Int32), ∃ (N1 N2 : Nat) (r : Int32) (s1 : cS) (t1 : mS), f8_edge N1 p1 p2 s = some (r, s1) ∧ f9_edge N2 p1 p2 t = some (r, t1) ∧ Rel s1 t1
set_option maxRecDepth 100000 in
theorem law_16 {Y : lY} {Rel : cS → mS → Prop} (C : lC Y) (ho : Op_edge Rel) {sc : cS} {sm : mS} {i : Nat} (hi : i + 6 ≤ Y.2.2.2.2.1) (hL : Y.2.2.2.2.1 ≤ 3072) (hr : Rel sc sm) (kk : ∀ (sc1 : cS) (sm1 : mS), Rel sc1 sm1 → XL Y sc1 sm1 1256 (lLS Y i) []) : XL Y sc sm 700 (lLS Y i) [] := by
  obtain ⟨N1, N2, r, sc1, sm1, e1, e2, hr1⟩ := ho sc sm hr (Y.2.2.2.2.2 (nI i + 1).toNatClampNeg) (Y.2.2.2.2.2 (nI i + 2).toNatClampNeg)
  refine l_aload_n (j := 2) C dL_law_700 rfl rfl ?_
  refine l_aload_n (j := 3) C dL_law_701 rfl rfl ?_
  refine l_iload_n (j := 0) C dL_law_702 rfl rfl ?_
  refine l_iconst (v := 1) C dL_law_703 (by decide) ?_
  refine l_iadd C dL_law_704 ?_
  refine l_sld C (l_in (k := 1) (by omega) hi hL) dL_law_705 ?_
  refine l_aload_n (j := 3) C dL_law_706 rfl rfl ?_
  refine l_iload_n (j := 0) C dL_law_707 rfl rfl ?_
  refine l_iconst (v := 2) C dL_law_708 (by decide) ?_
  refine l_iadd C dL_law_709 ?_
  refine l_sld C (l_in (k := 2) (by omega) hi hL) dL_law_710 ?_
  refine l_callC (As := [.int (Y.2.2.2.2.2 (nI i + 1).toNatClampNeg), .int (Y.2.2.2.2.2 (nI i + 2).toNatClampNeg)]) (n := 2) C dL_law_711 (fun l G => c8_edge l G e1) lk527 lk528 lk529 lk78 lk530 ⟨rfl, rfl⟩ ⟨by decide +kernel, by decide +kernel, by decide +kernel⟩ rfl ⟨Nat.le_of_ble_eq_true rfl, Nat.le_of_ble_eq_true rfl⟩ rfl rfl (Nat.le_of_ble_eq_true rfl) ?_
  refine l_aload_n (j := 1) C dL_law_714 rfl rfl ?_
  refine l_aload_n (j := 3) C dL_law_715 rfl rfl ?_
  refine l_iload_n (j := 0) C dL_law_716 rfl rfl ?_
  refine l_iconst (v := 1) C dL_law_717 (by decide) ?_
  refine l_iadd C dL_law_718 ?_
  refine l_sld C (l_in (k := 1) (by omega) hi hL) dL_law_719 ?_
  refine l_aload_n (j := 3) C dL_law_720 rfl rfl ?_
  refine l_iload_n (j := 0) C dL_law_721 rfl rfl ?_
  refine l_iconst (v := 2) C dL_law_722 (by decide) ?_
  refine l_iadd C dL_law_723 ?_
  refine l_sld C (l_in (k := 2) (by omega) hi hL) dL_law_724 ?_
  refine l_callM (As := [.int (Y.2.2.2.2.2 (nI i + 1).toNatClampNeg), .int (Y.2.2.2.2.2 (nI i + 2).toNatClampNeg)]) (n := 2) C dL_law_725 (fun l G => c9_edge l G e2) lk930 lk931 lk932 lk87 lk933 ⟨rfl, rfl⟩ ⟨by decide +kernel, by decide +kernel, by decide +kernel⟩ rfl ⟨Nat.le_of_ble_eq_true rfl, Nat.le_of_ble_eq_true rfl⟩ rfl rfl (Nat.le_of_ble_eq_true rfl) ?_
  refine l_icmp_eq (tgt := 1256) C dL_law_728 (by decide) ?_
  exact kk _ _ hr1
def Op_line (Rel : cS → mS → Prop) : Prop := ∀ (s : cS) (t : mS), Rel s t → ∀ (p1 p2 : Int32), ∃ (N1 N2 : Nat) (r : Int32) (s1 : cS) (t1 : mS), f8_line N1 p1 p2 s = some (r, s1) ∧ f9_line N2 p1 p2 t = some (r, t1) ∧ Rel s1 t1
set_option maxRecDepth 100000 in
theorem law_17 {Y : lY} {Rel : cS → mS → Prop} (C : lC Y) (ho : Op_line Rel) {sc : cS} {sm : mS} {i : Nat} (hi : i + 6 ≤ Y.2.2.2.2.1) (hL : Y.2.2.2.2.1 ≤ 3072) (hr : Rel sc sm) (kk : ∀ (sc1 : cS) (sm1 : mS), Rel sc1 sm1 → XL Y sc1 sm1 1256 (lLS Y i) []) : XL Y sc sm 733 (lLS Y i) [] := by
  obtain ⟨N1, N2, r, sc1, sm1, e1, e2, hr1⟩ := ho sc sm hr (Y.2.2.2.2.2 (nI i + 1).toNatClampNeg) (Y.2.2.2.2.2 (nI i + 2).toNatClampNeg)
  refine l_aload_n (j := 2) C dL_law_733 rfl rfl ?_
  refine l_aload_n (j := 3) C dL_law_734 rfl rfl ?_
  refine l_iload_n (j := 0) C dL_law_735 rfl rfl ?_
  refine l_iconst (v := 1) C dL_law_736 (by decide) ?_
  refine l_iadd C dL_law_737 ?_
  refine l_sld C (l_in (k := 1) (by omega) hi hL) dL_law_738 ?_
  refine l_aload_n (j := 3) C dL_law_739 rfl rfl ?_
  refine l_iload_n (j := 0) C dL_law_740 rfl rfl ?_
  refine l_iconst (v := 2) C dL_law_741 (by decide) ?_
  refine l_iadd C dL_law_742 ?_
  refine l_sld C (l_in (k := 2) (by omega) hi hL) dL_law_743 ?_
  refine l_callC (As := [.int (Y.2.2.2.2.2 (nI i + 1).toNatClampNeg), .int (Y.2.2.2.2.2 (nI i + 2).toNatClampNeg)]) (n := 2) C dL_law_744 (fun l G => c8_line l G e1) lk535 lk536 lk537 lk78 lk538 ⟨rfl, rfl⟩ ⟨by decide +kernel, by decide +kernel, by decide +kernel⟩ rfl ⟨Nat.le_of_ble_eq_true rfl, Nat.le_of_ble_eq_true rfl⟩ rfl rfl (Nat.le_of_ble_eq_true rfl) ?_
  refine l_aload_n (j := 1) C dL_law_747 rfl rfl ?_
  refine l_aload_n (j := 3) C dL_law_748 rfl rfl ?_
  refine l_iload_n (j := 0) C dL_law_749 rfl rfl ?_
  refine l_iconst (v := 1) C dL_law_750 (by decide) ?_
  refine l_iadd C dL_law_751 ?_
  refine l_sld C (l_in (k := 1) (by omega) hi hL) dL_law_752 ?_
  refine l_aload_n (j := 3) C dL_law_753 rfl rfl ?_
  refine l_iload_n (j := 0) C dL_law_754 rfl rfl ?_
  refine l_iconst (v := 2) C dL_law_755 (by decide) ?_
  refine l_iadd C dL_law_756 ?_
  refine l_sld C (l_in (k := 2) (by omega) hi hL) dL_law_757 ?_
  refine l_callM (As := [.int (Y.2.2.2.2.2 (nI i + 1).toNatClampNeg), .int (Y.2.2.2.2.2 (nI i + 2).toNatClampNeg)]) (n := 2) C dL_law_758 (fun l G => c9_line l G e2) lk938 lk939 lk940 lk87 lk941 ⟨rfl, rfl⟩ ⟨by decide +kernel, by decide +kernel, by decide +kernel⟩ rfl ⟨Nat.le_of_ble_eq_true rfl, Nat.le_of_ble_eq_true rfl⟩ rfl rfl (Nat.le_of_ble_eq_true rfl) ?_
  refine l_icmp_eq (tgt := 1256) C dL_law_761 (by decide) ?_
  exact kk _ _ hr1
def Op_covered (Rel : cS → mS → Prop) : Prop := ∀ (s : cS) (t : mS), Rel s t → ∀ (p1 : Int32), ∃ (N1 N2 : Nat) (r : Int32) (s1 : cS) (t1 : mS), f8_covered N1 p1 s = some (r, s1) ∧ f9_covered N2 p1 t = some (r, t1) ∧ Rel s1 t1
set_option maxRecDepth 100000 in
theorem law_18 {Y : lY} {Rel : cS → mS → Prop} (C : lC Y) (ho : Op_covered Rel) {sc : cS} {sm : mS} {i : Nat} (hi : i + 6 ≤ Y.2.2.2.2.1) (hL : Y.2.2.2.2.1 ≤ 3072) (hr : Rel sc sm) (kk : ∀ (sc1 : cS) (sm1 : mS), Rel sc1 sm1 → XL Y sc1 sm1 1256 (lLS Y i) []) : XL Y sc sm 766 (lLS Y i) [] := by
  obtain ⟨N1, N2, r, sc1, sm1, e1, e2, hr1⟩ := ho sc sm hr (Y.2.2.2.2.2 (nI i + 1).toNatClampNeg)
  refine l_aload_n (j := 2) C dL_law_766 rfl rfl ?_
  refine l_aload_n (j := 3) C dL_law_767 rfl rfl ?_
  refine l_iload_n (j := 0) C dL_law_768 rfl rfl ?_
  refine l_iconst (v := 1) C dL_law_769 (by decide) ?_
  refine l_iadd C dL_law_770 ?_
  refine l_sld C (l_in (k := 1) (by omega) hi hL) dL_law_771 ?_
  refine l_callC (As := [.int (Y.2.2.2.2.2 (nI i + 1).toNatClampNeg)]) (n := 1) C dL_law_772 (fun l G => c8_covered l G e1) lk547 lk548 lk549 lk78 lk550 ⟨rfl, rfl⟩ ⟨by decide +kernel, by decide +kernel, by decide +kernel⟩ rfl ⟨Nat.le_of_ble_eq_true rfl, Nat.le_of_ble_eq_true rfl⟩ rfl rfl (Nat.le_of_ble_eq_true rfl) ?_
  refine l_aload_n (j := 1) C dL_law_775 rfl rfl ?_
  refine l_aload_n (j := 3) C dL_law_776 rfl rfl ?_
  refine l_iload_n (j := 0) C dL_law_777 rfl rfl ?_
  refine l_iconst (v := 1) C dL_law_778 (by decide) ?_
  refine l_iadd C dL_law_779 ?_
  refine l_sld C (l_in (k := 1) (by omega) hi hL) dL_law_780 ?_
  refine l_callM (As := [.int (Y.2.2.2.2.2 (nI i + 1).toNatClampNeg)]) (n := 1) C dL_law_781 (fun l G => c9_covered l G e2) lk942 lk943 lk944 lk87 lk945 ⟨rfl, rfl⟩ ⟨by decide +kernel, by decide +kernel, by decide +kernel⟩ rfl ⟨Nat.le_of_ble_eq_true rfl, Nat.le_of_ble_eq_true rfl⟩ rfl rfl (Nat.le_of_ble_eq_true rfl) ?_
  refine l_icmp_eq (tgt := 1256) C dL_law_784 (by decide) ?_
  exact kk _ _ hr1
def Op_tail (Rel : cS → mS → Prop) : Prop := ∀ (s : cS) (t : mS), Rel s t → ∀ (p1 : Int32), ∃ (N1 N2 : Nat) (r : Int32) (s1 : cS) (t1 : mS), f8_tail N1 p1 s = some (r, s1) ∧ f9_tail N2 p1 t = some (r, t1) ∧ Rel s1 t1
set_option maxRecDepth 100000 in
theorem law_19 {Y : lY} {Rel : cS → mS → Prop} (C : lC Y) (ho : Op_tail Rel) {sc : cS} {sm : mS} {i : Nat} (hi : i + 6 ≤ Y.2.2.2.2.1) (hL : Y.2.2.2.2.1 ≤ 3072) (hr : Rel sc sm) (kk : ∀ (sc1 : cS) (sm1 : mS), Rel sc1 sm1 → XL Y sc1 sm1 1256 (lLS Y i) []) : XL Y sc sm 789 (lLS Y i) [] := by
  obtain ⟨N1, N2, r, sc1, sm1, e1, e2, hr1⟩ := ho sc sm hr (Y.2.2.2.2.2 (nI i + 1).toNatClampNeg)
  refine l_aload_n (j := 2) C dL_law_789 rfl rfl ?_
  refine l_aload_n (j := 3) C dL_law_790 rfl rfl ?_
  refine l_iload_n (j := 0) C dL_law_791 rfl rfl ?_
  refine l_iconst (v := 1) C dL_law_792 (by decide) ?_
  refine l_iadd C dL_law_793 ?_
  refine l_sld C (l_in (k := 1) (by omega) hi hL) dL_law_794 ?_
  refine l_callC (As := [.int (Y.2.2.2.2.2 (nI i + 1).toNatClampNeg)]) (n := 1) C dL_law_795 (fun l G => c8_tail l G e1) lk562 lk563 lk564 lk78 lk565 ⟨rfl, rfl⟩ ⟨by decide +kernel, by decide +kernel, by decide +kernel⟩ rfl ⟨Nat.le_of_ble_eq_true rfl, Nat.le_of_ble_eq_true rfl⟩ rfl rfl (Nat.le_of_ble_eq_true rfl) ?_
  refine l_aload_n (j := 1) C dL_law_798 rfl rfl ?_
  refine l_aload_n (j := 3) C dL_law_799 rfl rfl ?_
  refine l_iload_n (j := 0) C dL_law_800 rfl rfl ?_
  refine l_iconst (v := 1) C dL_law_801 (by decide) ?_
  refine l_iadd C dL_law_802 ?_
  refine l_sld C (l_in (k := 1) (by omega) hi hL) dL_law_803 ?_
  refine l_callM (As := [.int (Y.2.2.2.2.2 (nI i + 1).toNatClampNeg)]) (n := 1) C dL_law_804 (fun l G => c9_tail l G e2) lk950 lk951 lk952 lk87 lk953 ⟨rfl, rfl⟩ ⟨by decide +kernel, by decide +kernel, by decide +kernel⟩ rfl ⟨Nat.le_of_ble_eq_true rfl, Nat.le_of_ble_eq_true rfl⟩ rfl rfl (Nat.le_of_ble_eq_true rfl) ?_
  refine l_icmp_eq (tgt := 1256) C dL_law_807 (by decide) ?_
  exact kk _ _ hr1
def Op_mend (Rel : cS → mS → Prop) : Prop := ∀ (s : cS) (t : mS), Rel s t → ∀ (p1 : Int32), ∃ (N1 N2 : Nat) (r : Int32) (s1 : cS) (t1 : mS), f8_mend N1 p1 s = some (r, s1) ∧ f9_mend N2 p1 t = some (r, t1) ∧ Rel s1 t1
set_option maxRecDepth 100000 in
theorem law_20 {Y : lY} {Rel : cS → mS → Prop} (C : lC Y) (ho : Op_mend Rel) {sc : cS} {sm : mS} {i : Nat} (hi : i + 6 ≤ Y.2.2.2.2.1) (hL : Y.2.2.2.2.1 ≤ 3072) (hr : Rel sc sm) (kk : ∀ (sc1 : cS) (sm1 : mS), Rel sc1 sm1 → XL Y sc1 sm1 1256 (lLS Y i) []) : XL Y sc sm 812 (lLS Y i) [] := by
  obtain ⟨N1, N2, r, sc1, sm1, e1, e2, hr1⟩ := ho sc sm hr (Y.2.2.2.2.2 (nI i + 1).toNatClampNeg)
  refine l_aload_n (j := 2) C dL_law_812 rfl rfl ?_
  refine l_aload_n (j := 3) C dL_law_813 rfl rfl ?_
  refine l_iload_n (j := 0) C dL_law_814 rfl rfl ?_
  refine l_iconst (v := 1) C dL_law_815 (by decide) ?_
  refine l_iadd C dL_law_816 ?_
  refine l_sld C (l_in (k := 1) (by omega) hi hL) dL_law_817 ?_
  refine l_callC (As := [.int (Y.2.2.2.2.2 (nI i + 1).toNatClampNeg)]) (n := 1) C dL_law_818 (fun l G => c8_mend l G e1) lk568 lk569 lk570 lk78 lk571 ⟨rfl, rfl⟩ ⟨by decide +kernel, by decide +kernel, by decide +kernel⟩ rfl ⟨Nat.le_of_ble_eq_true rfl, Nat.le_of_ble_eq_true rfl⟩ rfl rfl (Nat.le_of_ble_eq_true rfl) ?_
  refine l_aload_n (j := 1) C dL_law_821 rfl rfl ?_
  refine l_aload_n (j := 3) C dL_law_822 rfl rfl ?_
  refine l_iload_n (j := 0) C dL_law_823 rfl rfl ?_
  refine l_iconst (v := 1) C dL_law_824 (by decide) ?_
  refine l_iadd C dL_law_825 ?_
  refine l_sld C (l_in (k := 1) (by omega) hi hL) dL_law_826 ?_
  refine l_callM (As := [.int (Y.2.2.2.2.2 (nI i + 1).toNatClampNeg)]) (n := 1) C dL_law_827 (fun l G => c9_mend l G e2) lk954 lk955 lk956 lk87 lk957 ⟨rfl, rfl⟩ ⟨by decide +kernel, by decide +kernel, by decide +kernel⟩ rfl ⟨Nat.le_of_ble_eq_true rfl, Nat.le_of_ble_eq_true rfl⟩ rfl rfl (Nat.le_of_ble_eq_true rfl) ?_
  refine l_icmp_eq (tgt := 1256) C dL_law_830 (by decide) ?_
  exact kk _ _ hr1
def Op_count (Rel : cS → mS → Prop) : Prop := ∀ (s : cS) (t : mS), Rel s t → ∀ (p1 p2 p3 p4 p5 : Int32), ∃ (N1 N2 : Nat) (r : Int32) (s1 : cS) (t1 : mS), f8_count N1 p1 p2 p3 p4 p5 s = some (r, s1) ∧ f9_count N2 p1 p2 p3 p4 p5 t = some (r, t1) ∧ Rel s1 t1
set_option maxRecDepth 100000 in
theorem law_21 {Y : lY} {Rel : cS → mS → Prop} (C : lC Y) (ho : Op_count Rel) {sc : cS} {sm : mS} {i : Nat} (hi : i + 6 ≤ Y.2.2.2.2.1) (hL : Y.2.2.2.2.1 ≤ 3072) (hr : Rel sc sm) (kk : ∀ (sc1 : cS) (sm1 : mS), Rel sc1 sm1 → XL Y sc1 sm1 1256 (lLS Y i) []) : XL Y sc sm 835 (lLS Y i) [] := by
  obtain ⟨N1, N2, r, sc1, sm1, e1, e2, hr1⟩ := ho sc sm hr (Y.2.2.2.2.2 (nI i + 1).toNatClampNeg) (Y.2.2.2.2.2 (nI i + 2).toNatClampNeg) (Y.2.2.2.2.2 (nI i + 3).toNatClampNeg) (Y.2.2.2.2.2 (nI i + 4).toNatClampNeg) (Y.2.2.2.2.2 (nI i + 5).toNatClampNeg)
  refine l_aload_n (j := 2) C dL_law_835 rfl rfl ?_
  refine l_aload_n (j := 3) C dL_law_836 rfl rfl ?_
  refine l_iload_n (j := 0) C dL_law_837 rfl rfl ?_
  refine l_iconst (v := 1) C dL_law_838 (by decide) ?_
  refine l_iadd C dL_law_839 ?_
  refine l_sld C (l_in (k := 1) (by omega) hi hL) dL_law_840 ?_
  refine l_aload_n (j := 3) C dL_law_841 rfl rfl ?_
  refine l_iload_n (j := 0) C dL_law_842 rfl rfl ?_
  refine l_iconst (v := 2) C dL_law_843 (by decide) ?_
  refine l_iadd C dL_law_844 ?_
  refine l_sld C (l_in (k := 2) (by omega) hi hL) dL_law_845 ?_
  refine l_aload_n (j := 3) C dL_law_846 rfl rfl ?_
  refine l_iload_n (j := 0) C dL_law_847 rfl rfl ?_
  refine l_iconst (v := 3) C dL_law_848 (by decide) ?_
  refine l_iadd C dL_law_849 ?_
  refine l_sld C (l_in (k := 3) (by omega) hi hL) dL_law_850 ?_
  refine l_aload_n (j := 3) C dL_law_851 rfl rfl ?_
  refine l_iload_n (j := 0) C dL_law_852 rfl rfl ?_
  refine l_iconst (v := 4) C dL_law_853 (by decide) ?_
  refine l_iadd C dL_law_854 ?_
  refine l_sld C (l_in (k := 4) (by omega) hi hL) dL_law_855 ?_
  refine l_aload_n (j := 3) C dL_law_856 rfl rfl ?_
  refine l_iload_n (j := 0) C dL_law_857 rfl rfl ?_
  refine l_iconst (v := 5) C dL_law_858 (by decide) ?_
  refine l_iadd C dL_law_859 ?_
  refine l_sld C (l_in (k := 5) (by omega) hi hL) dL_law_860 ?_
  refine l_callC (As := [.int (Y.2.2.2.2.2 (nI i + 1).toNatClampNeg), .int (Y.2.2.2.2.2 (nI i + 2).toNatClampNeg), .int (Y.2.2.2.2.2 (nI i + 3).toNatClampNeg), .int (Y.2.2.2.2.2 (nI i + 4).toNatClampNeg), .int (Y.2.2.2.2.2 (nI i + 5).toNatClampNeg)]) (n := 5) C dL_law_861 (fun l G => c8_count l G e1) lk576 lk577 lk578 lk78 lk579 ⟨rfl, rfl⟩ ⟨by decide +kernel, by decide +kernel, by decide +kernel⟩ rfl ⟨Nat.le_of_ble_eq_true rfl, Nat.le_of_ble_eq_true rfl⟩ rfl rfl (Nat.le_of_ble_eq_true rfl) ?_
  refine l_aload_n (j := 1) C dL_law_864 rfl rfl ?_
  refine l_aload_n (j := 3) C dL_law_865 rfl rfl ?_
  refine l_iload_n (j := 0) C dL_law_866 rfl rfl ?_
  refine l_iconst (v := 1) C dL_law_867 (by decide) ?_
  refine l_iadd C dL_law_868 ?_
  refine l_sld C (l_in (k := 1) (by omega) hi hL) dL_law_869 ?_
  refine l_aload_n (j := 3) C dL_law_870 rfl rfl ?_
  refine l_iload_n (j := 0) C dL_law_871 rfl rfl ?_
  refine l_iconst (v := 2) C dL_law_872 (by decide) ?_
  refine l_iadd C dL_law_873 ?_
  refine l_sld C (l_in (k := 2) (by omega) hi hL) dL_law_874 ?_
  refine l_aload_n (j := 3) C dL_law_875 rfl rfl ?_
  refine l_iload_n (j := 0) C dL_law_876 rfl rfl ?_
  refine l_iconst (v := 3) C dL_law_877 (by decide) ?_
  refine l_iadd C dL_law_878 ?_
  refine l_sld C (l_in (k := 3) (by omega) hi hL) dL_law_879 ?_
  refine l_aload_n (j := 3) C dL_law_880 rfl rfl ?_
  refine l_iload_n (j := 0) C dL_law_881 rfl rfl ?_
  refine l_iconst (v := 4) C dL_law_882 (by decide) ?_
  refine l_iadd C dL_law_883 ?_
  refine l_sld C (l_in (k := 4) (by omega) hi hL) dL_law_884 ?_
  refine l_aload_n (j := 3) C dL_law_885 rfl rfl ?_
  refine l_iload_n (j := 0) C dL_law_886 rfl rfl ?_
  refine l_iconst (v := 5) C dL_law_887 (by decide) ?_
  refine l_iadd C dL_law_888 ?_
  refine l_sld C (l_in (k := 5) (by omega) hi hL) dL_law_889 ?_
  refine l_callM (As := [.int (Y.2.2.2.2.2 (nI i + 1).toNatClampNeg), .int (Y.2.2.2.2.2 (nI i + 2).toNatClampNeg), .int (Y.2.2.2.2.2 (nI i + 3).toNatClampNeg), .int (Y.2.2.2.2.2 (nI i + 4).toNatClampNeg), .int (Y.2.2.2.2.2 (nI i + 5).toNatClampNeg)]) (n := 5) C dL_law_890 (fun l G => c9_count l G e2) lk958 lk959 lk960 lk87 lk961 ⟨rfl, rfl⟩ ⟨by decide +kernel, by decide +kernel, by decide +kernel⟩ rfl ⟨Nat.le_of_ble_eq_true rfl, Nat.le_of_ble_eq_true rfl⟩ rfl rfl (Nat.le_of_ble_eq_true rfl) ?_
  refine l_icmp_eq (tgt := 1256) C dL_law_893 (by decide) ?_
  exact kk _ _ hr1
def Op_noise (Rel : cS → mS → Prop) : Prop := ∀ (s : cS) (t : mS), Rel s t → ∀ (p1 p2 : Int32), ∃ (N1 N2 : Nat) (r : Int32) (s1 : cS) (t1 : mS), f8_noise N1 p1 p2 s = some (r, s1) ∧ f9_noise N2 p1 p2 t = some (r, t1) ∧ Rel s1 t1
set_option maxRecDepth 100000 in
theorem law_22 {Y : lY} {Rel : cS → mS → Prop} (C : lC Y) (ho : Op_noise Rel) {sc : cS} {sm : mS} {i : Nat} (hi : i + 6 ≤ Y.2.2.2.2.1) (hL : Y.2.2.2.2.1 ≤ 3072) (hr : Rel sc sm) (kk : ∀ (sc1 : cS) (sm1 : mS), Rel sc1 sm1 → XL Y sc1 sm1 1256 (lLS Y i) []) : XL Y sc sm 898 (lLS Y i) [] := by
  obtain ⟨N1, N2, r, sc1, sm1, e1, e2, hr1⟩ := ho sc sm hr (Y.2.2.2.2.2 (nI i + 1).toNatClampNeg) (Y.2.2.2.2.2 (nI i + 2).toNatClampNeg)
  refine l_aload_n (j := 2) C dL_law_898 rfl rfl ?_
  refine l_aload_n (j := 3) C dL_law_899 rfl rfl ?_
  refine l_iload_n (j := 0) C dL_law_900 rfl rfl ?_
  refine l_iconst (v := 1) C dL_law_901 (by decide) ?_
  refine l_iadd C dL_law_902 ?_
  refine l_sld C (l_in (k := 1) (by omega) hi hL) dL_law_903 ?_
  refine l_aload_n (j := 3) C dL_law_904 rfl rfl ?_
  refine l_iload_n (j := 0) C dL_law_905 rfl rfl ?_
  refine l_iconst (v := 2) C dL_law_906 (by decide) ?_
  refine l_iadd C dL_law_907 ?_
  refine l_sld C (l_in (k := 2) (by omega) hi hL) dL_law_908 ?_
  refine l_callC (As := [.int (Y.2.2.2.2.2 (nI i + 1).toNatClampNeg), .int (Y.2.2.2.2.2 (nI i + 2).toNatClampNeg)]) (n := 2) C dL_law_909 (fun l G => c8_noise l G e1) lk580 lk581 lk582 lk78 lk583 ⟨rfl, rfl⟩ ⟨by decide +kernel, by decide +kernel, by decide +kernel⟩ rfl ⟨Nat.le_of_ble_eq_true rfl, Nat.le_of_ble_eq_true rfl⟩ rfl rfl (Nat.le_of_ble_eq_true rfl) ?_
  refine l_aload_n (j := 1) C dL_law_912 rfl rfl ?_
  refine l_aload_n (j := 3) C dL_law_913 rfl rfl ?_
  refine l_iload_n (j := 0) C dL_law_914 rfl rfl ?_
  refine l_iconst (v := 1) C dL_law_915 (by decide) ?_
  refine l_iadd C dL_law_916 ?_
  refine l_sld C (l_in (k := 1) (by omega) hi hL) dL_law_917 ?_
  refine l_aload_n (j := 3) C dL_law_918 rfl rfl ?_
  refine l_iload_n (j := 0) C dL_law_919 rfl rfl ?_
  refine l_iconst (v := 2) C dL_law_920 (by decide) ?_
  refine l_iadd C dL_law_921 ?_
  refine l_sld C (l_in (k := 2) (by omega) hi hL) dL_law_922 ?_
  refine l_callM (As := [.int (Y.2.2.2.2.2 (nI i + 1).toNatClampNeg), .int (Y.2.2.2.2.2 (nI i + 2).toNatClampNeg)]) (n := 2) C dL_law_923 (fun l G => c9_noise l G e2) lk962 lk963 lk964 lk87 lk965 ⟨rfl, rfl⟩ ⟨by decide +kernel, by decide +kernel, by decide +kernel⟩ rfl ⟨Nat.le_of_ble_eq_true rfl, Nat.le_of_ble_eq_true rfl⟩ rfl rfl (Nat.le_of_ble_eq_true rfl) ?_
  refine l_icmp_eq (tgt := 1256) C dL_law_926 (by decide) ?_
  exact kk _ _ hr1
def Op_still (Rel : cS → mS → Prop) : Prop := ∀ (s : cS) (t : mS), Rel s t → ∃ (N1 N2 : Nat) (r : Int32) (s1 : cS) (t1 : mS), f8_still N1 s = some (r, s1) ∧ f9_still N2 t = some (r, t1) ∧ Rel s1 t1
set_option maxRecDepth 100000 in
theorem law_23 {Y : lY} {Rel : cS → mS → Prop} (C : lC Y) (ho : Op_still Rel) {sc : cS} {sm : mS} {i : Nat} (hi : i + 6 ≤ Y.2.2.2.2.1) (hL : Y.2.2.2.2.1 ≤ 3072) (hr : Rel sc sm) (kk : ∀ (sc1 : cS) (sm1 : mS), Rel sc1 sm1 → XL Y sc1 sm1 1256 (lLS Y i) []) : XL Y sc sm 931 (lLS Y i) [] := by
  obtain ⟨N1, N2, r, sc1, sm1, e1, e2, hr1⟩ := ho sc sm hr 
  refine l_aload_n (j := 2) C dL_law_931 rfl rfl ?_
  refine l_callC (As := []) (n := 0) C dL_law_932 (fun l G => c8_still l G e1) lk588 lk589 lk590 lk78 lk591 ⟨rfl, rfl⟩ ⟨by decide +kernel, by decide +kernel, by decide +kernel⟩ rfl ⟨Nat.le_of_ble_eq_true rfl, Nat.le_of_ble_eq_true rfl⟩ rfl rfl (Nat.le_of_ble_eq_true rfl) ?_
  refine l_aload_n (j := 1) C dL_law_935 rfl rfl ?_
  refine l_callM (As := []) (n := 0) C dL_law_936 (fun l G => c9_still l G e2) lk966 lk967 lk968 lk87 lk969 ⟨rfl, rfl⟩ ⟨by decide +kernel, by decide +kernel, by decide +kernel⟩ rfl ⟨Nat.le_of_ble_eq_true rfl, Nat.le_of_ble_eq_true rfl⟩ rfl rfl (Nat.le_of_ble_eq_true rfl) ?_
  refine l_icmp_eq (tgt := 1256) C dL_law_939 (by decide) ?_
  exact kk _ _ hr1
def Op_mean (Rel : cS → mS → Prop) : Prop := ∀ (s : cS) (t : mS), Rel s t → ∀ (p1 p2 p3 : Int32), p3 = 0 ∨ p3 = 1 → ∃ (N1 N2 : Nat) (r : Int32) (s1 : cS) (t1 : mS), f8_mean N1 p1 p2 p3 s = some (r, s1) ∧ f9_mean N2 p1 p2 p3 t = some (r, t1) ∧ Rel s1 t1
set_option maxRecDepth 100000 in
theorem law_24 {Y : lY} {Rel : cS → mS → Prop} (C : lC Y) (ho : Op_mean Rel) {sc : cS} {sm : mS} {i : Nat} (hi : i + 6 ≤ Y.2.2.2.2.1) (hL : Y.2.2.2.2.1 ≤ 3072) (hr : Rel sc sm) (kk : ∀ (sc1 : cS) (sm1 : mS), Rel sc1 sm1 → XL Y sc1 sm1 1256 (lLS Y i) []) : XL Y sc sm 944 (lLS Y i) [] := by
  by_cases c0 : Y.2.2.2.2.2 (nI i + 3).toNatClampNeg = 0
  · obtain ⟨N1, N2, r, sc1, sm1, e1, e2, hr1⟩ := ho sc sm hr (Y.2.2.2.2.2 (nI i + 1).toNatClampNeg) (Y.2.2.2.2.2 (nI i + 2).toNatClampNeg) (0) (Or.inl rfl)
    refine l_aload_n (j := 2) C dL_law_944 rfl rfl ?_
    refine l_aload_n (j := 3) C dL_law_945 rfl rfl ?_
    refine l_iload_n (j := 0) C dL_law_946 rfl rfl ?_
    refine l_iconst (v := 1) C dL_law_947 (by decide) ?_
    refine l_iadd C dL_law_948 ?_
    refine l_sld C (l_in (k := 1) (by omega) hi hL) dL_law_949 ?_
    refine l_aload_n (j := 3) C dL_law_950 rfl rfl ?_
    refine l_iload_n (j := 0) C dL_law_951 rfl rfl ?_
    refine l_iconst (v := 2) C dL_law_952 (by decide) ?_
    refine l_iadd C dL_law_953 ?_
    refine l_sld C (l_in (k := 2) (by omega) hi hL) dL_law_954 ?_
    refine l_aload_n (j := 3) C dL_law_955 rfl rfl ?_
    refine l_iload_n (j := 0) C dL_law_956 rfl rfl ?_
    refine l_iconst (v := 3) C dL_law_957 (by decide) ?_
    refine l_iadd C dL_law_958 ?_
    refine l_sld C (l_in (k := 3) (by omega) hi hL) dL_law_959 ?_
    refine l_if_eq (tgt := 967) C dL_law_960 (by decide) (fun _ => ?_) (fun q => absurd c0 q)
    refine l_iconst (v := 0) C dL_law_967 (by decide) ?_
    refine l_callC (As := [.int (Y.2.2.2.2.2 (nI i + 1).toNatClampNeg), .int (Y.2.2.2.2.2 (nI i + 2).toNatClampNeg), .int (0)]) (n := 3) C dL_law_968 (fun l G => c8_mean l G e1) lk592 lk593 lk594 lk78 lk595 ⟨rfl, rfl⟩ ⟨by decide +kernel, by decide +kernel, by decide +kernel⟩ rfl ⟨Nat.le_of_ble_eq_true rfl, Nat.le_of_ble_eq_true rfl⟩ rfl rfl (Nat.le_of_ble_eq_true rfl) ?_
    refine l_aload_n (j := 1) C dL_law_971 rfl rfl ?_
    refine l_aload_n (j := 3) C dL_law_972 rfl rfl ?_
    refine l_iload_n (j := 0) C dL_law_973 rfl rfl ?_
    refine l_iconst (v := 1) C dL_law_974 (by decide) ?_
    refine l_iadd C dL_law_975 ?_
    refine l_sld C (l_in (k := 1) (by omega) hi hL) dL_law_976 ?_
    refine l_aload_n (j := 3) C dL_law_977 rfl rfl ?_
    refine l_iload_n (j := 0) C dL_law_978 rfl rfl ?_
    refine l_iconst (v := 2) C dL_law_979 (by decide) ?_
    refine l_iadd C dL_law_980 ?_
    refine l_sld C (l_in (k := 2) (by omega) hi hL) dL_law_981 ?_
    refine l_aload_n (j := 3) C dL_law_982 rfl rfl ?_
    refine l_iload_n (j := 0) C dL_law_983 rfl rfl ?_
    refine l_iconst (v := 3) C dL_law_984 (by decide) ?_
    refine l_iadd C dL_law_985 ?_
    refine l_sld C (l_in (k := 3) (by omega) hi hL) dL_law_986 ?_
    refine l_if_eq (tgt := 994) C dL_law_987 (by decide) (fun _ => ?_) (fun q => absurd c0 q)
    refine l_iconst (v := 0) C dL_law_994 (by decide) ?_
    refine l_callM (As := [.int (Y.2.2.2.2.2 (nI i + 1).toNatClampNeg), .int (Y.2.2.2.2.2 (nI i + 2).toNatClampNeg), .int (0)]) (n := 3) C dL_law_995 (fun l G => c9_mean l G e2) lk970 lk971 lk972 lk87 lk973 ⟨rfl, rfl⟩ ⟨by decide +kernel, by decide +kernel, by decide +kernel⟩ rfl ⟨Nat.le_of_ble_eq_true rfl, Nat.le_of_ble_eq_true rfl⟩ rfl rfl (Nat.le_of_ble_eq_true rfl) ?_
    refine l_icmp_eq (tgt := 1256) C dL_law_998 (by decide) ?_
    exact kk _ _ hr1
  · obtain ⟨N1, N2, r, sc1, sm1, e1, e2, hr1⟩ := ho sc sm hr (Y.2.2.2.2.2 (nI i + 1).toNatClampNeg) (Y.2.2.2.2.2 (nI i + 2).toNatClampNeg) (1) (Or.inr rfl)
    refine l_aload_n (j := 2) C dL_law_944 rfl rfl ?_
    refine l_aload_n (j := 3) C dL_law_945 rfl rfl ?_
    refine l_iload_n (j := 0) C dL_law_946 rfl rfl ?_
    refine l_iconst (v := 1) C dL_law_947 (by decide) ?_
    refine l_iadd C dL_law_948 ?_
    refine l_sld C (l_in (k := 1) (by omega) hi hL) dL_law_949 ?_
    refine l_aload_n (j := 3) C dL_law_950 rfl rfl ?_
    refine l_iload_n (j := 0) C dL_law_951 rfl rfl ?_
    refine l_iconst (v := 2) C dL_law_952 (by decide) ?_
    refine l_iadd C dL_law_953 ?_
    refine l_sld C (l_in (k := 2) (by omega) hi hL) dL_law_954 ?_
    refine l_aload_n (j := 3) C dL_law_955 rfl rfl ?_
    refine l_iload_n (j := 0) C dL_law_956 rfl rfl ?_
    refine l_iconst (v := 3) C dL_law_957 (by decide) ?_
    refine l_iadd C dL_law_958 ?_
    refine l_sld C (l_in (k := 3) (by omega) hi hL) dL_law_959 ?_
    refine l_if_eq (tgt := 967) C dL_law_960 (by decide) (fun q => absurd q c0) (fun _ => ?_)
    refine l_iconst (v := 1) C dL_law_963 (by decide) ?_
    refine l_goto (tgt := 968) C dL_law_964 (by decide) ?_
    refine l_callC (As := [.int (Y.2.2.2.2.2 (nI i + 1).toNatClampNeg), .int (Y.2.2.2.2.2 (nI i + 2).toNatClampNeg), .int (1)]) (n := 3) C dL_law_968 (fun l G => c8_mean l G e1) lk592 lk593 lk594 lk78 lk595 ⟨rfl, rfl⟩ ⟨by decide +kernel, by decide +kernel, by decide +kernel⟩ rfl ⟨Nat.le_of_ble_eq_true rfl, Nat.le_of_ble_eq_true rfl⟩ rfl rfl (Nat.le_of_ble_eq_true rfl) ?_
    refine l_aload_n (j := 1) C dL_law_971 rfl rfl ?_
    refine l_aload_n (j := 3) C dL_law_972 rfl rfl ?_
    refine l_iload_n (j := 0) C dL_law_973 rfl rfl ?_
    refine l_iconst (v := 1) C dL_law_974 (by decide) ?_
    refine l_iadd C dL_law_975 ?_
    refine l_sld C (l_in (k := 1) (by omega) hi hL) dL_law_976 ?_
    refine l_aload_n (j := 3) C dL_law_977 rfl rfl ?_
    refine l_iload_n (j := 0) C dL_law_978 rfl rfl ?_
    refine l_iconst (v := 2) C dL_law_979 (by decide) ?_
    refine l_iadd C dL_law_980 ?_
    refine l_sld C (l_in (k := 2) (by omega) hi hL) dL_law_981 ?_
    refine l_aload_n (j := 3) C dL_law_982 rfl rfl ?_
    refine l_iload_n (j := 0) C dL_law_983 rfl rfl ?_
    refine l_iconst (v := 3) C dL_law_984 (by decide) ?_
    refine l_iadd C dL_law_985 ?_
    refine l_sld C (l_in (k := 3) (by omega) hi hL) dL_law_986 ?_
    refine l_if_eq (tgt := 994) C dL_law_987 (by decide) (fun q => absurd q c0) (fun _ => ?_)
    refine l_iconst (v := 1) C dL_law_990 (by decide) ?_
    refine l_goto (tgt := 995) C dL_law_991 (by decide) ?_
    refine l_callM (As := [.int (Y.2.2.2.2.2 (nI i + 1).toNatClampNeg), .int (Y.2.2.2.2.2 (nI i + 2).toNatClampNeg), .int (1)]) (n := 3) C dL_law_995 (fun l G => c9_mean l G e2) lk970 lk971 lk972 lk87 lk973 ⟨rfl, rfl⟩ ⟨by decide +kernel, by decide +kernel, by decide +kernel⟩ rfl ⟨Nat.le_of_ble_eq_true rfl, Nat.le_of_ble_eq_true rfl⟩ rfl rfl (Nat.le_of_ble_eq_true rfl) ?_
    refine l_icmp_eq (tgt := 1256) C dL_law_998 (by decide) ?_
    exact kk _ _ hr1
def Op_fault (Rel : cS → mS → Prop) : Prop := ∀ (s : cS) (t : mS), Rel s t → ∀ (p1 p2 p3 : Int32), ∃ (N1 N2 : Nat) (r : Int32) (s1 : cS) (t1 : mS), f8_fault N1 p1 p2 p3 s = some (r, s1) ∧ f9_fault N2 p1 p2 p3 t = some (r, t1) ∧ Rel s1 t1
set_option maxRecDepth 100000 in
theorem law_25 {Y : lY} {Rel : cS → mS → Prop} (C : lC Y) (ho : Op_fault Rel) {sc : cS} {sm : mS} {i : Nat} (hi : i + 6 ≤ Y.2.2.2.2.1) (hL : Y.2.2.2.2.1 ≤ 3072) (hr : Rel sc sm) (kk : ∀ (sc1 : cS) (sm1 : mS), Rel sc1 sm1 → XL Y sc1 sm1 1256 (lLS Y i) []) : XL Y sc sm 1003 (lLS Y i) [] := by
  obtain ⟨N1, N2, r, sc1, sm1, e1, e2, hr1⟩ := ho sc sm hr (Y.2.2.2.2.2 (nI i + 1).toNatClampNeg) (Y.2.2.2.2.2 (nI i + 2).toNatClampNeg) (Y.2.2.2.2.2 (nI i + 3).toNatClampNeg)
  refine l_aload_n (j := 2) C dL_law_1003 rfl rfl ?_
  refine l_aload_n (j := 3) C dL_law_1004 rfl rfl ?_
  refine l_iload_n (j := 0) C dL_law_1005 rfl rfl ?_
  refine l_iconst (v := 1) C dL_law_1006 (by decide) ?_
  refine l_iadd C dL_law_1007 ?_
  refine l_sld C (l_in (k := 1) (by omega) hi hL) dL_law_1008 ?_
  refine l_aload_n (j := 3) C dL_law_1009 rfl rfl ?_
  refine l_iload_n (j := 0) C dL_law_1010 rfl rfl ?_
  refine l_iconst (v := 2) C dL_law_1011 (by decide) ?_
  refine l_iadd C dL_law_1012 ?_
  refine l_sld C (l_in (k := 2) (by omega) hi hL) dL_law_1013 ?_
  refine l_aload_n (j := 3) C dL_law_1014 rfl rfl ?_
  refine l_iload_n (j := 0) C dL_law_1015 rfl rfl ?_
  refine l_iconst (v := 3) C dL_law_1016 (by decide) ?_
  refine l_iadd C dL_law_1017 ?_
  refine l_sld C (l_in (k := 3) (by omega) hi hL) dL_law_1018 ?_
  refine l_callC (As := [.int (Y.2.2.2.2.2 (nI i + 1).toNatClampNeg), .int (Y.2.2.2.2.2 (nI i + 2).toNatClampNeg), .int (Y.2.2.2.2.2 (nI i + 3).toNatClampNeg)]) (n := 3) C dL_law_1019 (fun l G => c8_fault l G e1) lk611 lk612 lk613 lk78 lk614 ⟨rfl, rfl⟩ ⟨by decide +kernel, by decide +kernel, by decide +kernel⟩ rfl ⟨Nat.le_of_ble_eq_true rfl, Nat.le_of_ble_eq_true rfl⟩ rfl rfl (Nat.le_of_ble_eq_true rfl) ?_
  refine l_aload_n (j := 1) C dL_law_1022 rfl rfl ?_
  refine l_aload_n (j := 3) C dL_law_1023 rfl rfl ?_
  refine l_iload_n (j := 0) C dL_law_1024 rfl rfl ?_
  refine l_iconst (v := 1) C dL_law_1025 (by decide) ?_
  refine l_iadd C dL_law_1026 ?_
  refine l_sld C (l_in (k := 1) (by omega) hi hL) dL_law_1027 ?_
  refine l_aload_n (j := 3) C dL_law_1028 rfl rfl ?_
  refine l_iload_n (j := 0) C dL_law_1029 rfl rfl ?_
  refine l_iconst (v := 2) C dL_law_1030 (by decide) ?_
  refine l_iadd C dL_law_1031 ?_
  refine l_sld C (l_in (k := 2) (by omega) hi hL) dL_law_1032 ?_
  refine l_aload_n (j := 3) C dL_law_1033 rfl rfl ?_
  refine l_iload_n (j := 0) C dL_law_1034 rfl rfl ?_
  refine l_iconst (v := 3) C dL_law_1035 (by decide) ?_
  refine l_iadd C dL_law_1036 ?_
  refine l_sld C (l_in (k := 3) (by omega) hi hL) dL_law_1037 ?_
  refine l_callM (As := [.int (Y.2.2.2.2.2 (nI i + 1).toNatClampNeg), .int (Y.2.2.2.2.2 (nI i + 2).toNatClampNeg), .int (Y.2.2.2.2.2 (nI i + 3).toNatClampNeg)]) (n := 3) C dL_law_1038 (fun l G => c9_fault l G e2) lk978 lk979 lk980 lk87 lk981 ⟨rfl, rfl⟩ ⟨by decide +kernel, by decide +kernel, by decide +kernel⟩ rfl ⟨Nat.le_of_ble_eq_true rfl, Nat.le_of_ble_eq_true rfl⟩ rfl rfl (Nat.le_of_ble_eq_true rfl) ?_
  refine l_icmp_eq (tgt := 1256) C dL_law_1041 (by decide) ?_
  exact kk _ _ hr1
def Op_clear (Rel : cS → mS → Prop) : Prop := ∀ (s : cS) (t : mS), Rel s t → ∃ (N1 N2 : Nat) (r : Int32) (s1 : cS) (t1 : mS), f8_clear N1 s = some (r, s1) ∧ f9_clear N2 t = some (r, t1) ∧ Rel s1 t1
set_option maxRecDepth 100000 in
theorem law_26 {Y : lY} {Rel : cS → mS → Prop} (C : lC Y) (ho : Op_clear Rel) {sc : cS} {sm : mS} {i : Nat} (hi : i + 6 ≤ Y.2.2.2.2.1) (hL : Y.2.2.2.2.1 ≤ 3072) (hr : Rel sc sm) (kk : ∀ (sc1 : cS) (sm1 : mS), Rel sc1 sm1 → XL Y sc1 sm1 1256 (lLS Y i) []) : XL Y sc sm 1046 (lLS Y i) [] := by
  obtain ⟨N1, N2, r, sc1, sm1, e1, e2, hr1⟩ := ho sc sm hr 
  refine l_aload_n (j := 2) C dL_law_1046 rfl rfl ?_
  refine l_callC (As := []) (n := 0) C dL_law_1047 (fun l G => c8_clear l G e1) lk623 lk624 lk625 lk78 lk626 ⟨rfl, rfl⟩ ⟨by decide +kernel, by decide +kernel, by decide +kernel⟩ rfl ⟨Nat.le_of_ble_eq_true rfl, Nat.le_of_ble_eq_true rfl⟩ rfl rfl (Nat.le_of_ble_eq_true rfl) ?_
  refine l_aload_n (j := 1) C dL_law_1050 rfl rfl ?_
  refine l_callM (As := []) (n := 0) C dL_law_1051 (fun l G => c9_clear l G e2) lk982 lk983 lk984 lk87 lk985 ⟨rfl, rfl⟩ ⟨by decide +kernel, by decide +kernel, by decide +kernel⟩ rfl ⟨Nat.le_of_ble_eq_true rfl, Nat.le_of_ble_eq_true rfl⟩ rfl rfl (Nat.le_of_ble_eq_true rfl) ?_
  refine l_icmp_eq (tgt := 1256) C dL_law_1054 (by decide) ?_
  exact kk _ _ hr1
def Op_shown (Rel : cS → mS → Prop) : Prop := ∀ (s : cS) (t : mS), Rel s t → ∀ (p1 : Int32), ∃ (N1 N2 : Nat) (r : Int32) (s1 : cS) (t1 : mS), f8_shown N1 p1 s = some (r, s1) ∧ f9_shown N2 p1 t = some (r, t1) ∧ Rel s1 t1
set_option maxRecDepth 100000 in
theorem law_27 {Y : lY} {Rel : cS → mS → Prop} (C : lC Y) (ho : Op_shown Rel) {sc : cS} {sm : mS} {i : Nat} (hi : i + 6 ≤ Y.2.2.2.2.1) (hL : Y.2.2.2.2.1 ≤ 3072) (hr : Rel sc sm) (kk : ∀ (sc1 : cS) (sm1 : mS), Rel sc1 sm1 → XL Y sc1 sm1 1256 (lLS Y i) []) : XL Y sc sm 1059 (lLS Y i) [] := by
  obtain ⟨N1, N2, r, sc1, sm1, e1, e2, hr1⟩ := ho sc sm hr (Y.2.2.2.2.2 (nI i + 1).toNatClampNeg)
  refine l_aload_n (j := 2) C dL_law_1059 rfl rfl ?_
  refine l_aload_n (j := 3) C dL_law_1060 rfl rfl ?_
  refine l_iload_n (j := 0) C dL_law_1061 rfl rfl ?_
  refine l_iconst (v := 1) C dL_law_1062 (by decide) ?_
  refine l_iadd C dL_law_1063 ?_
  refine l_sld C (l_in (k := 1) (by omega) hi hL) dL_law_1064 ?_
  refine l_callC (As := [.int (Y.2.2.2.2.2 (nI i + 1).toNatClampNeg)]) (n := 1) C dL_law_1065 (fun l G => c8_shown l G e1) lk627 lk628 lk629 lk78 lk630 ⟨rfl, rfl⟩ ⟨by decide +kernel, by decide +kernel, by decide +kernel⟩ rfl ⟨Nat.le_of_ble_eq_true rfl, Nat.le_of_ble_eq_true rfl⟩ rfl rfl (Nat.le_of_ble_eq_true rfl) ?_
  refine l_aload_n (j := 1) C dL_law_1068 rfl rfl ?_
  refine l_aload_n (j := 3) C dL_law_1069 rfl rfl ?_
  refine l_iload_n (j := 0) C dL_law_1070 rfl rfl ?_
  refine l_iconst (v := 1) C dL_law_1071 (by decide) ?_
  refine l_iadd C dL_law_1072 ?_
  refine l_sld C (l_in (k := 1) (by omega) hi hL) dL_law_1073 ?_
  refine l_callM (As := [.int (Y.2.2.2.2.2 (nI i + 1).toNatClampNeg)]) (n := 1) C dL_law_1074 (fun l G => c9_shown l G e2) lk986 lk987 lk988 lk87 lk989 ⟨rfl, rfl⟩ ⟨by decide +kernel, by decide +kernel, by decide +kernel⟩ rfl ⟨Nat.le_of_ble_eq_true rfl, Nat.le_of_ble_eq_true rfl⟩ rfl rfl (Nat.le_of_ble_eq_true rfl) ?_
  refine l_icmp_eq (tgt := 1256) C dL_law_1077 (by decide) ?_
  exact kk _ _ hr1
def Op_shows (Rel : cS → mS → Prop) : Prop := ∀ (s : cS) (t : mS), Rel s t → ∃ (N1 N2 : Nat) (r : Int32) (s1 : cS) (t1 : mS), f8_shows N1 s = some (r, s1) ∧ f9_shows N2 t = some (r, t1) ∧ Rel s1 t1
set_option maxRecDepth 100000 in
theorem law_28 {Y : lY} {Rel : cS → mS → Prop} (C : lC Y) (ho : Op_shows Rel) {sc : cS} {sm : mS} {i : Nat} (hi : i + 6 ≤ Y.2.2.2.2.1) (hL : Y.2.2.2.2.1 ≤ 3072) (hr : Rel sc sm) (kk : ∀ (sc1 : cS) (sm1 : mS), Rel sc1 sm1 → XL Y sc1 sm1 1256 (lLS Y i) []) : XL Y sc sm 1082 (lLS Y i) [] := by
  obtain ⟨N1, N2, r, sc1, sm1, e1, e2, hr1⟩ := ho sc sm hr 
  refine l_aload_n (j := 2) C dL_law_1082 rfl rfl ?_
  refine l_callC (As := []) (n := 0) C dL_law_1083 (fun l G => c8_shows l G e1) lk639 lk640 lk641 lk78 lk642 ⟨rfl, rfl⟩ ⟨by decide +kernel, by decide +kernel, by decide +kernel⟩ rfl ⟨Nat.le_of_ble_eq_true rfl, Nat.le_of_ble_eq_true rfl⟩ rfl rfl (Nat.le_of_ble_eq_true rfl) ?_
  refine l_aload_n (j := 1) C dL_law_1086 rfl rfl ?_
  refine l_callM (As := []) (n := 0) C dL_law_1087 (fun l G => c9_shows l G e2) lk998 lk999 lk1000 lk87 lk1001 ⟨rfl, rfl⟩ ⟨by decide +kernel, by decide +kernel, by decide +kernel⟩ rfl ⟨Nat.le_of_ble_eq_true rfl, Nat.le_of_ble_eq_true rfl⟩ rfl rfl (Nat.le_of_ble_eq_true rfl) ?_
  refine l_icmp_eq (tgt := 1256) C dL_law_1090 (by decide) ?_
  exact kk _ _ hr1
def Op_showing (Rel : cS → mS → Prop) : Prop := ∀ (s : cS) (t : mS), Rel s t → ∀ (p1 : Int32), ∃ (N1 N2 : Nat) (r : Int32) (s1 : cS) (t1 : mS), f8_showing N1 p1 s = some (r, s1) ∧ f9_showing N2 p1 t = some (r, t1) ∧ Rel s1 t1
set_option maxRecDepth 100000 in
theorem law_29 {Y : lY} {Rel : cS → mS → Prop} (C : lC Y) (ho : Op_showing Rel) {sc : cS} {sm : mS} {i : Nat} (hi : i + 6 ≤ Y.2.2.2.2.1) (hL : Y.2.2.2.2.1 ≤ 3072) (hr : Rel sc sm) (kk : ∀ (sc1 : cS) (sm1 : mS), Rel sc1 sm1 → XL Y sc1 sm1 1256 (lLS Y i) []) : XL Y sc sm 1095 (lLS Y i) [] := by
  obtain ⟨N1, N2, r, sc1, sm1, e1, e2, hr1⟩ := ho sc sm hr (Y.2.2.2.2.2 (nI i + 1).toNatClampNeg)
  refine l_aload_n (j := 2) C dL_law_1095 rfl rfl ?_
  refine l_aload_n (j := 3) C dL_law_1096 rfl rfl ?_
  refine l_iload_n (j := 0) C dL_law_1097 rfl rfl ?_
  refine l_iconst (v := 1) C dL_law_1098 (by decide) ?_
  refine l_iadd C dL_law_1099 ?_
  refine l_sld C (l_in (k := 1) (by omega) hi hL) dL_law_1100 ?_
  refine l_callC (As := [.int (Y.2.2.2.2.2 (nI i + 1).toNatClampNeg)]) (n := 1) C dL_law_1101 (fun l G => c8_showing l G e1) lk666 lk667 lk668 lk78 lk669 ⟨rfl, rfl⟩ ⟨by decide +kernel, by decide +kernel, by decide +kernel⟩ rfl ⟨Nat.le_of_ble_eq_true rfl, Nat.le_of_ble_eq_true rfl⟩ rfl rfl (Nat.le_of_ble_eq_true rfl) ?_
  refine l_aload_n (j := 1) C dL_law_1104 rfl rfl ?_
  refine l_aload_n (j := 3) C dL_law_1105 rfl rfl ?_
  refine l_iload_n (j := 0) C dL_law_1106 rfl rfl ?_
  refine l_iconst (v := 1) C dL_law_1107 (by decide) ?_
  refine l_iadd C dL_law_1108 ?_
  refine l_sld C (l_in (k := 1) (by omega) hi hL) dL_law_1109 ?_
  refine l_callM (As := [.int (Y.2.2.2.2.2 (nI i + 1).toNatClampNeg)]) (n := 1) C dL_law_1110 (fun l G => c9_showing l G e2) lk1006 lk1007 lk1008 lk87 lk1009 ⟨rfl, rfl⟩ ⟨by decide +kernel, by decide +kernel, by decide +kernel⟩ rfl ⟨Nat.le_of_ble_eq_true rfl, Nat.le_of_ble_eq_true rfl⟩ rfl rfl (Nat.le_of_ble_eq_true rfl) ?_
  refine l_icmp_eq (tgt := 1256) C dL_law_1113 (by decide) ?_
  exact kk _ _ hr1
def Op_alike (Rel : cS → mS → Prop) : Prop := ∀ (s : cS) (t : mS), Rel s t → ∃ (N1 N2 : Nat) (r : Int32) (s1 : cS) (t1 : mS), f8_alike N1 s = some (r, s1) ∧ f9_alike N2 t = some (r, t1) ∧ Rel s1 t1
set_option maxRecDepth 100000 in
theorem law_30 {Y : lY} {Rel : cS → mS → Prop} (C : lC Y) (ho : Op_alike Rel) {sc : cS} {sm : mS} {i : Nat} (hi : i + 6 ≤ Y.2.2.2.2.1) (hL : Y.2.2.2.2.1 ≤ 3072) (hr : Rel sc sm) (kk : ∀ (sc1 : cS) (sm1 : mS), Rel sc1 sm1 → XL Y sc1 sm1 1256 (lLS Y i) []) : XL Y sc sm 1118 (lLS Y i) [] := by
  obtain ⟨N1, N2, r, sc1, sm1, e1, e2, hr1⟩ := ho sc sm hr 
  refine l_aload_n (j := 2) C dL_law_1118 rfl rfl ?_
  refine l_callC (As := []) (n := 0) C dL_law_1119 (fun l G => c8_alike l G e1) lk670 lk671 lk672 lk78 lk673 ⟨rfl, rfl⟩ ⟨by decide +kernel, by decide +kernel, by decide +kernel⟩ rfl ⟨Nat.le_of_ble_eq_true rfl, Nat.le_of_ble_eq_true rfl⟩ rfl rfl (Nat.le_of_ble_eq_true rfl) ?_
  refine l_aload_n (j := 1) C dL_law_1122 rfl rfl ?_
  refine l_callM (As := []) (n := 0) C dL_law_1123 (fun l G => c9_alike l G e2) lk1010 lk1011 lk1012 lk87 lk1013 ⟨rfl, rfl⟩ ⟨by decide +kernel, by decide +kernel, by decide +kernel⟩ rfl ⟨Nat.le_of_ble_eq_true rfl, Nat.le_of_ble_eq_true rfl⟩ rfl rfl (Nat.le_of_ble_eq_true rfl) ?_
  refine l_icmp_eq (tgt := 1256) C dL_law_1126 (by decide) ?_
  exact kk _ _ hr1
def Op_beyond (Rel : cS → mS → Prop) : Prop := ∀ (s : cS) (t : mS), Rel s t → ∀ (p1 : Int32), ∃ (N1 N2 : Nat) (r : Int32) (s1 : cS) (t1 : mS), f8_beyond N1 p1 s = some (r, s1) ∧ f9_beyond N2 p1 t = some (r, t1) ∧ Rel s1 t1
set_option maxRecDepth 100000 in
theorem law_31 {Y : lY} {Rel : cS → mS → Prop} (C : lC Y) (ho : Op_beyond Rel) {sc : cS} {sm : mS} {i : Nat} (hi : i + 6 ≤ Y.2.2.2.2.1) (hL : Y.2.2.2.2.1 ≤ 3072) (hr : Rel sc sm) (kk : ∀ (sc1 : cS) (sm1 : mS), Rel sc1 sm1 → XL Y sc1 sm1 1256 (lLS Y i) []) : XL Y sc sm 1131 (lLS Y i) [] := by
  obtain ⟨N1, N2, r, sc1, sm1, e1, e2, hr1⟩ := ho sc sm hr (Y.2.2.2.2.2 (nI i + 1).toNatClampNeg)
  refine l_aload_n (j := 2) C dL_law_1131 rfl rfl ?_
  refine l_aload_n (j := 3) C dL_law_1132 rfl rfl ?_
  refine l_iload_n (j := 0) C dL_law_1133 rfl rfl ?_
  refine l_iconst (v := 1) C dL_law_1134 (by decide) ?_
  refine l_iadd C dL_law_1135 ?_
  refine l_sld C (l_in (k := 1) (by omega) hi hL) dL_law_1136 ?_
  refine l_callC (As := [.int (Y.2.2.2.2.2 (nI i + 1).toNatClampNeg)]) (n := 1) C dL_law_1137 (fun l G => c8_beyond l G e1) lk683 lk684 lk685 lk78 lk686 ⟨rfl, rfl⟩ ⟨by decide +kernel, by decide +kernel, by decide +kernel⟩ rfl ⟨Nat.le_of_ble_eq_true rfl, Nat.le_of_ble_eq_true rfl⟩ rfl rfl (Nat.le_of_ble_eq_true rfl) ?_
  refine l_aload_n (j := 1) C dL_law_1140 rfl rfl ?_
  refine l_aload_n (j := 3) C dL_law_1141 rfl rfl ?_
  refine l_iload_n (j := 0) C dL_law_1142 rfl rfl ?_
  refine l_iconst (v := 1) C dL_law_1143 (by decide) ?_
  refine l_iadd C dL_law_1144 ?_
  refine l_sld C (l_in (k := 1) (by omega) hi hL) dL_law_1145 ?_
  refine l_callM (As := [.int (Y.2.2.2.2.2 (nI i + 1).toNatClampNeg)]) (n := 1) C dL_law_1146 (fun l G => c9_beyond l G e2) lk1014 lk1015 lk1016 lk87 lk1017 ⟨rfl, rfl⟩ ⟨by decide +kernel, by decide +kernel, by decide +kernel⟩ rfl ⟨Nat.le_of_ble_eq_true rfl, Nat.le_of_ble_eq_true rfl⟩ rfl rfl (Nat.le_of_ble_eq_true rfl) ?_
  refine l_icmp_eq (tgt := 1256) C dL_law_1149 (by decide) ?_
  exact kk _ _ hr1
def Op_joined (Rel : cS → mS → Prop) : Prop := ∀ (s : cS) (t : mS), Rel s t → ∀ (p1 p2 p3 p4 : Int32), ∃ (N1 N2 : Nat) (r : Int32) (s1 : cS) (t1 : mS), f8_joined N1 p1 p2 p3 p4 s = some (r, s1) ∧ f9_joined N2 p1 p2 p3 p4 t = some (r, t1) ∧ Rel s1 t1
set_option maxRecDepth 100000 in
theorem law_32 {Y : lY} {Rel : cS → mS → Prop} (C : lC Y) (ho : Op_joined Rel) {sc : cS} {sm : mS} {i : Nat} (hi : i + 6 ≤ Y.2.2.2.2.1) (hL : Y.2.2.2.2.1 ≤ 3072) (hr : Rel sc sm) (kk : ∀ (sc1 : cS) (sm1 : mS), Rel sc1 sm1 → XL Y sc1 sm1 1256 (lLS Y i) []) : XL Y sc sm 1154 (lLS Y i) [] := by
  obtain ⟨N1, N2, r, sc1, sm1, e1, e2, hr1⟩ := ho sc sm hr (Y.2.2.2.2.2 (nI i + 1).toNatClampNeg) (Y.2.2.2.2.2 (nI i + 2).toNatClampNeg) (Y.2.2.2.2.2 (nI i + 3).toNatClampNeg) (Y.2.2.2.2.2 (nI i + 4).toNatClampNeg)
  refine l_aload_n (j := 2) C dL_law_1154 rfl rfl ?_
  refine l_aload_n (j := 3) C dL_law_1155 rfl rfl ?_
  refine l_iload_n (j := 0) C dL_law_1156 rfl rfl ?_
  refine l_iconst (v := 1) C dL_law_1157 (by decide) ?_
  refine l_iadd C dL_law_1158 ?_
  refine l_sld C (l_in (k := 1) (by omega) hi hL) dL_law_1159 ?_
  refine l_aload_n (j := 3) C dL_law_1160 rfl rfl ?_
  refine l_iload_n (j := 0) C dL_law_1161 rfl rfl ?_
  refine l_iconst (v := 2) C dL_law_1162 (by decide) ?_
  refine l_iadd C dL_law_1163 ?_
  refine l_sld C (l_in (k := 2) (by omega) hi hL) dL_law_1164 ?_
  refine l_aload_n (j := 3) C dL_law_1165 rfl rfl ?_
  refine l_iload_n (j := 0) C dL_law_1166 rfl rfl ?_
  refine l_iconst (v := 3) C dL_law_1167 (by decide) ?_
  refine l_iadd C dL_law_1168 ?_
  refine l_sld C (l_in (k := 3) (by omega) hi hL) dL_law_1169 ?_
  refine l_aload_n (j := 3) C dL_law_1170 rfl rfl ?_
  refine l_iload_n (j := 0) C dL_law_1171 rfl rfl ?_
  refine l_iconst (v := 4) C dL_law_1172 (by decide) ?_
  refine l_iadd C dL_law_1173 ?_
  refine l_sld C (l_in (k := 4) (by omega) hi hL) dL_law_1174 ?_
  refine l_callC (As := [.int (Y.2.2.2.2.2 (nI i + 1).toNatClampNeg), .int (Y.2.2.2.2.2 (nI i + 2).toNatClampNeg), .int (Y.2.2.2.2.2 (nI i + 3).toNatClampNeg), .int (Y.2.2.2.2.2 (nI i + 4).toNatClampNeg)]) (n := 4) C dL_law_1175 (fun l G => c8_joined l G e1) lk687 lk688 lk689 lk78 lk690 ⟨rfl, rfl⟩ ⟨by decide +kernel, by decide +kernel, by decide +kernel⟩ rfl ⟨Nat.le_of_ble_eq_true rfl, Nat.le_of_ble_eq_true rfl⟩ rfl rfl (Nat.le_of_ble_eq_true rfl) ?_
  refine l_aload_n (j := 1) C dL_law_1178 rfl rfl ?_
  refine l_aload_n (j := 3) C dL_law_1179 rfl rfl ?_
  refine l_iload_n (j := 0) C dL_law_1180 rfl rfl ?_
  refine l_iconst (v := 1) C dL_law_1181 (by decide) ?_
  refine l_iadd C dL_law_1182 ?_
  refine l_sld C (l_in (k := 1) (by omega) hi hL) dL_law_1183 ?_
  refine l_aload_n (j := 3) C dL_law_1184 rfl rfl ?_
  refine l_iload_n (j := 0) C dL_law_1185 rfl rfl ?_
  refine l_iconst (v := 2) C dL_law_1186 (by decide) ?_
  refine l_iadd C dL_law_1187 ?_
  refine l_sld C (l_in (k := 2) (by omega) hi hL) dL_law_1188 ?_
  refine l_aload_n (j := 3) C dL_law_1189 rfl rfl ?_
  refine l_iload_n (j := 0) C dL_law_1190 rfl rfl ?_
  refine l_iconst (v := 3) C dL_law_1191 (by decide) ?_
  refine l_iadd C dL_law_1192 ?_
  refine l_sld C (l_in (k := 3) (by omega) hi hL) dL_law_1193 ?_
  refine l_aload_n (j := 3) C dL_law_1194 rfl rfl ?_
  refine l_iload_n (j := 0) C dL_law_1195 rfl rfl ?_
  refine l_iconst (v := 4) C dL_law_1196 (by decide) ?_
  refine l_iadd C dL_law_1197 ?_
  refine l_sld C (l_in (k := 4) (by omega) hi hL) dL_law_1198 ?_
  refine l_callM (As := [.int (Y.2.2.2.2.2 (nI i + 1).toNatClampNeg), .int (Y.2.2.2.2.2 (nI i + 2).toNatClampNeg), .int (Y.2.2.2.2.2 (nI i + 3).toNatClampNeg), .int (Y.2.2.2.2.2 (nI i + 4).toNatClampNeg)]) (n := 4) C dL_law_1199 (fun l G => c9_joined l G e2) lk1018 lk1019 lk1020 lk87 lk1021 ⟨rfl, rfl⟩ ⟨by decide +kernel, by decide +kernel, by decide +kernel⟩ rfl ⟨Nat.le_of_ble_eq_true rfl, Nat.le_of_ble_eq_true rfl⟩ rfl rfl (Nat.le_of_ble_eq_true rfl) ?_
  refine l_icmp_eq (tgt := 1256) C dL_law_1202 (by decide) ?_
  exact kk _ _ hr1
def Op_undo (Rel : cS → mS → Prop) : Prop := ∀ (s : cS) (t : mS), Rel s t → ∃ (N1 N2 : Nat) (r : Int32) (s1 : cS) (t1 : mS), f8_undo N1 s = some (r, s1) ∧ f9_undo N2 t = some (r, t1) ∧ Rel s1 t1
set_option maxRecDepth 100000 in
theorem law_33 {Y : lY} {Rel : cS → mS → Prop} (C : lC Y) (ho : Op_undo Rel) {sc : cS} {sm : mS} {i : Nat} (hi : i + 6 ≤ Y.2.2.2.2.1) (hL : Y.2.2.2.2.1 ≤ 3072) (hr : Rel sc sm) (kk : ∀ (sc1 : cS) (sm1 : mS), Rel sc1 sm1 → XL Y sc1 sm1 1256 (lLS Y i) []) : XL Y sc sm 1207 (lLS Y i) [] := by
  obtain ⟨N1, N2, r, sc1, sm1, e1, e2, hr1⟩ := ho sc sm hr 
  refine l_aload_n (j := 2) C dL_law_1207 rfl rfl ?_
  refine l_callC (As := []) (n := 0) C dL_law_1208 (fun l G => c8_undo l G e1) lk691 lk692 lk693 lk78 lk694 ⟨rfl, rfl⟩ ⟨by decide +kernel, by decide +kernel, by decide +kernel⟩ rfl ⟨Nat.le_of_ble_eq_true rfl, Nat.le_of_ble_eq_true rfl⟩ rfl rfl (Nat.le_of_ble_eq_true rfl) ?_
  refine l_aload_n (j := 1) C dL_law_1211 rfl rfl ?_
  refine l_callM (As := []) (n := 0) C dL_law_1212 (fun l G => c9_undo l G e2) lk799 lk800 lk801 lk87 lk802 ⟨rfl, rfl⟩ ⟨by decide +kernel, by decide +kernel, by decide +kernel⟩ rfl ⟨Nat.le_of_ble_eq_true rfl, Nat.le_of_ble_eq_true rfl⟩ rfl rfl (Nat.le_of_ble_eq_true rfl) ?_
  refine l_icmp_eq (tgt := 1256) C dL_law_1215 (by decide) ?_
  exact kk _ _ hr1
def Op_size (Rel : cS → mS → Prop) : Prop := ∀ (s : cS) (t : mS), Rel s t → ∀ (p1 : Int32), ∃ (N1 N2 : Nat) (r : Int32) (s1 : cS) (t1 : mS), f8_size N1 p1 s = some (r, s1) ∧ f9_size N2 p1 t = some (r, t1) ∧ Rel s1 t1
set_option maxRecDepth 100000 in
theorem law_34 {Y : lY} {Rel : cS → mS → Prop} (C : lC Y) (ho : Op_size Rel) {sc : cS} {sm : mS} {i : Nat} (hi : i + 6 ≤ Y.2.2.2.2.1) (hL : Y.2.2.2.2.1 ≤ 3072) (hr : Rel sc sm) (kk : ∀ (sc1 : cS) (sm1 : mS), Rel sc1 sm1 → XL Y sc1 sm1 1256 (lLS Y i) []) : XL Y sc sm 1220 (lLS Y i) [] := by
  obtain ⟨N1, N2, r, sc1, sm1, e1, e2, hr1⟩ := ho sc sm hr (Y.2.2.2.2.2 (nI i + 1).toNatClampNeg)
  refine l_aload_n (j := 2) C dL_law_1220 rfl rfl ?_
  refine l_aload_n (j := 3) C dL_law_1221 rfl rfl ?_
  refine l_iload_n (j := 0) C dL_law_1222 rfl rfl ?_
  refine l_iconst (v := 1) C dL_law_1223 (by decide) ?_
  refine l_iadd C dL_law_1224 ?_
  refine l_sld C (l_in (k := 1) (by omega) hi hL) dL_law_1225 ?_
  refine l_callC (As := [.int (Y.2.2.2.2.2 (nI i + 1).toNatClampNeg)]) (n := 1) C dL_law_1226 (fun l G => c8_size l G e1) lk723 lk724 lk725 lk78 lk726 ⟨rfl, rfl⟩ ⟨by decide +kernel, by decide +kernel, by decide +kernel⟩ rfl ⟨Nat.le_of_ble_eq_true rfl, Nat.le_of_ble_eq_true rfl⟩ rfl rfl (Nat.le_of_ble_eq_true rfl) ?_
  refine l_aload_n (j := 1) C dL_law_1229 rfl rfl ?_
  refine l_aload_n (j := 3) C dL_law_1230 rfl rfl ?_
  refine l_iload_n (j := 0) C dL_law_1231 rfl rfl ?_
  refine l_iconst (v := 1) C dL_law_1232 (by decide) ?_
  refine l_iadd C dL_law_1233 ?_
  refine l_sld C (l_in (k := 1) (by omega) hi hL) dL_law_1234 ?_
  refine l_callM (As := [.int (Y.2.2.2.2.2 (nI i + 1).toNatClampNeg)]) (n := 1) C dL_law_1235 (fun l G => c9_size l G e2) lk1022 lk1023 lk1024 lk87 lk1025 ⟨rfl, rfl⟩ ⟨by decide +kernel, by decide +kernel, by decide +kernel⟩ rfl ⟨Nat.le_of_ble_eq_true rfl, Nat.le_of_ble_eq_true rfl⟩ rfl rfl (Nat.le_of_ble_eq_true rfl) ?_
  refine l_icmp_eq (tgt := 1256) C dL_law_1238 (by decide) ?_
  exact kk _ _ hr1
def Op_trouble (Rel : cS → mS → Prop) : Prop := ∀ (s : cS) (t : mS), Rel s t → ∃ (N1 N2 : Nat) (r : Int32) (s1 : cS) (t1 : mS), f8_trouble N1 s = some (r, s1) ∧ f9_trouble N2 t = some (r, t1) ∧ Rel s1 t1
set_option maxRecDepth 100000 in
theorem law_35 {Y : lY} {Rel : cS → mS → Prop} (C : lC Y) (ho : Op_trouble Rel) {sc : cS} {sm : mS} {i : Nat} (hi : i + 6 ≤ Y.2.2.2.2.1) (hL : Y.2.2.2.2.1 ≤ 3072) (hr : Rel sc sm) (kk : ∀ (sc1 : cS) (sm1 : mS), Rel sc1 sm1 → XL Y sc1 sm1 1256 (lLS Y i) []) : XL Y sc sm 1243 (lLS Y i) [] := by
  obtain ⟨N1, N2, r, sc1, sm1, e1, e2, hr1⟩ := ho sc sm hr 
  refine l_aload_n (j := 2) C dL_law_1243 rfl rfl ?_
  refine l_callC (As := []) (n := 0) C dL_law_1244 (fun l G => c8_trouble l G e1) lk727 lk728 lk729 lk78 lk730 ⟨rfl, rfl⟩ ⟨by decide +kernel, by decide +kernel, by decide +kernel⟩ rfl ⟨Nat.le_of_ble_eq_true rfl, Nat.le_of_ble_eq_true rfl⟩ rfl rfl (Nat.le_of_ble_eq_true rfl) ?_
  refine l_aload_n (j := 1) C dL_law_1247 rfl rfl ?_
  refine l_callM (As := []) (n := 0) C dL_law_1248 (fun l G => c9_trouble l G e2) lk1026 lk1027 lk1028 lk87 lk1029 ⟨rfl, rfl⟩ ⟨by decide +kernel, by decide +kernel, by decide +kernel⟩ rfl ⟨Nat.le_of_ble_eq_true rfl, Nat.le_of_ble_eq_true rfl⟩ rfl rfl (Nat.le_of_ble_eq_true rfl) ?_
  refine l_icmp_eq (tgt := 1256) C dL_law_1251 (by decide) ?_
  exact kk _ _ hr1
def OpsOk (Rel : cS → mS → Prop) : Prop := Op_range Rel ∧ Op_meter Rel ∧ Op_part Rel ∧ Op_miss Rel ∧ Op_worth Rel ∧ Op_partOf Rel ∧ Op_kind Rel ∧ Op_read Rel ∧ Op_trail Rel ∧ Op_rest Rel ∧ Op_spans Rel ∧ Op_span Rel ∧ Op_codes Rel ∧ Op_lacks Rel ∧ Op_back Rel ∧ Op_widest Rel ∧ Op_edge Rel ∧ Op_line Rel ∧ Op_covered Rel ∧ Op_tail Rel ∧ Op_mend Rel ∧ Op_count Rel ∧ Op_noise Rel ∧ Op_still Rel ∧ Op_mean Rel ∧ Op_fault Rel ∧ Op_clear Rel ∧ Op_shown Rel ∧ Op_shows Rel ∧ Op_showing Rel ∧ Op_alike Rel ∧ Op_beyond Rel ∧ Op_joined Rel ∧ Op_undo Rel ∧ Op_size Rel ∧ Op_trouble Rel
set_option maxRecDepth 100000 in
theorem law_step {Y : lY} {Rel : cS → mS → Prop} (C : lC Y) (ho : OpsOk Rel) {sc : cS} {sm : mS} {i : Nat} (hi : i + 6 ≤ Y.2.2.2.2.1) (hL : Y.2.2.2.2.1 ≤ 3072) (hr : Rel sc sm) (kk : ∀ (sc1 : cS) (sm1 : mS), Rel sc1 sm1 → XL Y sc1 sm1 1256 (lLS Y i) []) (x : Int32) : XL Y sc sm 33 (lLS Y i) [.int x] := by
  obtain ⟨h0, h1, h2, h3, h4, h5, h6, h7, h8, h9, h10, h11, h12, h13, h14, h15, h16, h17, h18, h19, h20, h21, h22, h23, h24, h25, h26, h27, h28, h29, h30, h31, h32, h33, h34, h35⟩ := ho
  by_cases c0 : x = 0
  · refine l_tableIn (off := 159) (tgt := 192) C dL_law_33 (by rw [c0]; decide) (by rw [c0]; decide) (by rw [c0]; rfl) (by decide) ?_
    exact law_0 C h0 hi hL hr kk
  by_cases c1 : x = 1
  · refine l_tableIn (off := 182) (tgt := 215) C dL_law_33 (by rw [c1]; decide) (by rw [c1]; decide) (by rw [c1]; rfl) (by decide) ?_
    exact law_1 C h1 hi hL hr kk
  by_cases c2 : x = 2
  · refine l_tableIn (off := 205) (tgt := 238) C dL_law_33 (by rw [c2]; decide) (by rw [c2]; decide) (by rw [c2]; rfl) (by decide) ?_
    exact law_2 C h2 hi hL hr kk
  by_cases c3 : x = 3
  · refine l_tableIn (off := 248) (tgt := 281) C dL_law_33 (by rw [c3]; decide) (by rw [c3]; decide) (by rw [c3]; rfl) (by decide) ?_
    exact law_3 C h3 hi hL hr kk
  by_cases c4 : x = 4
  · refine l_tableIn (off := 291) (tgt := 324) C dL_law_33 (by rw [c4]; decide) (by rw [c4]; decide) (by rw [c4]; rfl) (by decide) ?_
    exact law_4 C h4 hi hL hr kk
  by_cases c5 : x = 5
  · refine l_tableIn (off := 334) (tgt := 367) C dL_law_33 (by rw [c5]; decide) (by rw [c5]; decide) (by rw [c5]; rfl) (by decide) ?_
    exact law_5 C h5 hi hL hr kk
  by_cases c6 : x = 6
  · refine l_tableIn (off := 377) (tgt := 410) C dL_law_33 (by rw [c6]; decide) (by rw [c6]; decide) (by rw [c6]; rfl) (by decide) ?_
    exact law_6 C h6 hi hL hr kk
  by_cases c7 : x = 7
  · refine l_tableIn (off := 410) (tgt := 443) C dL_law_33 (by rw [c7]; decide) (by rw [c7]; decide) (by rw [c7]; rfl) (by decide) ?_
    exact law_7 C h7 hi hL hr kk
  by_cases c8 : x = 8
  · refine l_tableIn (off := 443) (tgt := 476) C dL_law_33 (by rw [c8]; decide) (by rw [c8]; decide) (by rw [c8]; rfl) (by decide) ?_
    exact law_8 C h8 hi hL hr kk
  by_cases c9 : x = 9
  · refine l_tableIn (off := 476) (tgt := 509) C dL_law_33 (by rw [c9]; decide) (by rw [c9]; decide) (by rw [c9]; rfl) (by decide) ?_
    exact law_9 C h9 hi hL hr kk
  by_cases c10 : x = 10
  · refine l_tableIn (off := 509) (tgt := 542) C dL_law_33 (by rw [c10]; decide) (by rw [c10]; decide) (by rw [c10]; rfl) (by decide) ?_
    exact law_10 C h10 hi hL hr kk
  by_cases c11 : x = 11
  · refine l_tableIn (off := 532) (tgt := 565) C dL_law_33 (by rw [c11]; decide) (by rw [c11]; decide) (by rw [c11]; rfl) (by decide) ?_
    exact law_11 C h11 hi hL hr kk
  by_cases c12 : x = 12
  · refine l_tableIn (off := 575) (tgt := 608) C dL_law_33 (by rw [c12]; decide) (by rw [c12]; decide) (by rw [c12]; rfl) (by decide) ?_
    exact law_12 C h12 hi hL hr kk
  by_cases c13 : x = 13
  · refine l_tableIn (off := 598) (tgt := 631) C dL_law_33 (by rw [c13]; decide) (by rw [c13]; decide) (by rw [c13]; rfl) (by decide) ?_
    exact law_13 C h13 hi hL hr kk
  by_cases c14 : x = 14
  · refine l_tableIn (off := 621) (tgt := 654) C dL_law_33 (by rw [c14]; decide) (by rw [c14]; decide) (by rw [c14]; rfl) (by decide) ?_
    exact law_14 C h14 hi hL hr kk
  by_cases c15 : x = 15
  · refine l_tableIn (off := 644) (tgt := 677) C dL_law_33 (by rw [c15]; decide) (by rw [c15]; decide) (by rw [c15]; rfl) (by decide) ?_
    exact law_15 C h15 hi hL hr kk
  by_cases c16 : x = 16
  · refine l_tableIn (off := 667) (tgt := 700) C dL_law_33 (by rw [c16]; decide) (by rw [c16]; decide) (by rw [c16]; rfl) (by decide) ?_
    exact law_16 C h16 hi hL hr kk
  by_cases c17 : x = 17
  · refine l_tableIn (off := 700) (tgt := 733) C dL_law_33 (by rw [c17]; decide) (by rw [c17]; decide) (by rw [c17]; rfl) (by decide) ?_
    exact law_17 C h17 hi hL hr kk
  by_cases c18 : x = 18
  · refine l_tableIn (off := 733) (tgt := 766) C dL_law_33 (by rw [c18]; decide) (by rw [c18]; decide) (by rw [c18]; rfl) (by decide) ?_
    exact law_18 C h18 hi hL hr kk
  by_cases c19 : x = 19
  · refine l_tableIn (off := 756) (tgt := 789) C dL_law_33 (by rw [c19]; decide) (by rw [c19]; decide) (by rw [c19]; rfl) (by decide) ?_
    exact law_19 C h19 hi hL hr kk
  by_cases c20 : x = 20
  · refine l_tableIn (off := 779) (tgt := 812) C dL_law_33 (by rw [c20]; decide) (by rw [c20]; decide) (by rw [c20]; rfl) (by decide) ?_
    exact law_20 C h20 hi hL hr kk
  by_cases c21 : x = 21
  · refine l_tableIn (off := 802) (tgt := 835) C dL_law_33 (by rw [c21]; decide) (by rw [c21]; decide) (by rw [c21]; rfl) (by decide) ?_
    exact law_21 C h21 hi hL hr kk
  by_cases c22 : x = 22
  · refine l_tableIn (off := 865) (tgt := 898) C dL_law_33 (by rw [c22]; decide) (by rw [c22]; decide) (by rw [c22]; rfl) (by decide) ?_
    exact law_22 C h22 hi hL hr kk
  by_cases c23 : x = 23
  · refine l_tableIn (off := 898) (tgt := 931) C dL_law_33 (by rw [c23]; decide) (by rw [c23]; decide) (by rw [c23]; rfl) (by decide) ?_
    exact law_23 C h23 hi hL hr kk
  by_cases c24 : x = 24
  · refine l_tableIn (off := 911) (tgt := 944) C dL_law_33 (by rw [c24]; decide) (by rw [c24]; decide) (by rw [c24]; rfl) (by decide) ?_
    exact law_24 C h24 hi hL hr kk
  by_cases c25 : x = 25
  · refine l_tableIn (off := 970) (tgt := 1003) C dL_law_33 (by rw [c25]; decide) (by rw [c25]; decide) (by rw [c25]; rfl) (by decide) ?_
    exact law_25 C h25 hi hL hr kk
  by_cases c26 : x = 26
  · refine l_tableIn (off := 1013) (tgt := 1046) C dL_law_33 (by rw [c26]; decide) (by rw [c26]; decide) (by rw [c26]; rfl) (by decide) ?_
    exact law_26 C h26 hi hL hr kk
  by_cases c27 : x = 27
  · refine l_tableIn (off := 1026) (tgt := 1059) C dL_law_33 (by rw [c27]; decide) (by rw [c27]; decide) (by rw [c27]; rfl) (by decide) ?_
    exact law_27 C h27 hi hL hr kk
  by_cases c28 : x = 28
  · refine l_tableIn (off := 1049) (tgt := 1082) C dL_law_33 (by rw [c28]; decide) (by rw [c28]; decide) (by rw [c28]; rfl) (by decide) ?_
    exact law_28 C h28 hi hL hr kk
  by_cases c29 : x = 29
  · refine l_tableIn (off := 1062) (tgt := 1095) C dL_law_33 (by rw [c29]; decide) (by rw [c29]; decide) (by rw [c29]; rfl) (by decide) ?_
    exact law_29 C h29 hi hL hr kk
  by_cases c30 : x = 30
  · refine l_tableIn (off := 1085) (tgt := 1118) C dL_law_33 (by rw [c30]; decide) (by rw [c30]; decide) (by rw [c30]; rfl) (by decide) ?_
    exact law_30 C h30 hi hL hr kk
  by_cases c31 : x = 31
  · refine l_tableIn (off := 1098) (tgt := 1131) C dL_law_33 (by rw [c31]; decide) (by rw [c31]; decide) (by rw [c31]; rfl) (by decide) ?_
    exact law_31 C h31 hi hL hr kk
  by_cases c32 : x = 32
  · refine l_tableIn (off := 1121) (tgt := 1154) C dL_law_33 (by rw [c32]; decide) (by rw [c32]; decide) (by rw [c32]; rfl) (by decide) ?_
    exact law_32 C h32 hi hL hr kk
  by_cases c33 : x = 33
  · refine l_tableIn (off := 1174) (tgt := 1207) C dL_law_33 (by rw [c33]; decide) (by rw [c33]; decide) (by rw [c33]; rfl) (by decide) ?_
    exact law_33 C h33 hi hL hr kk
  by_cases c34 : x = 34
  · refine l_tableIn (off := 1187) (tgt := 1220) C dL_law_33 (by rw [c34]; decide) (by rw [c34]; decide) (by rw [c34]; rfl) (by decide) ?_
    exact law_34 C h34 hi hL hr kk
  by_cases c35 : x = 35
  · refine l_tableIn (off := 1210) (tgt := 1243) C dL_law_33 (by rw [c35]; decide) (by rw [c35]; decide) (by rw [c35]; rfl) (by decide) ?_
    exact law_35 C h35 hi hL hr kk
  refine l_tableOut (tgt := 1256) C dL_law_33 (by have q0 := lv_neT c0 (a := 0) (by decide); have q1 := lv_neT c1 (a := 1) (by decide); have q2 := lv_neT c2 (a := 2) (by decide); have q3 := lv_neT c3 (a := 3) (by decide); have q4 := lv_neT c4 (a := 4) (by decide); have q5 := lv_neT c5 (a := 5) (by decide); have q6 := lv_neT c6 (a := 6) (by decide); have q7 := lv_neT c7 (a := 7) (by decide); have q8 := lv_neT c8 (a := 8) (by decide); have q9 := lv_neT c9 (a := 9) (by decide); have q10 := lv_neT c10 (a := 10) (by decide); have q11 := lv_neT c11 (a := 11) (by decide); have q12 := lv_neT c12 (a := 12) (by decide); have q13 := lv_neT c13 (a := 13) (by decide); have q14 := lv_neT c14 (a := 14) (by decide); have q15 := lv_neT c15 (a := 15) (by decide); have q16 := lv_neT c16 (a := 16) (by decide); have q17 := lv_neT c17 (a := 17) (by decide); have q18 := lv_neT c18 (a := 18) (by decide); have q19 := lv_neT c19 (a := 19) (by decide); have q20 := lv_neT c20 (a := 20) (by decide); have q21 := lv_neT c21 (a := 21) (by decide); have q22 := lv_neT c22 (a := 22) (by decide); have q23 := lv_neT c23 (a := 23) (by decide); have q24 := lv_neT c24 (a := 24) (by decide); have q25 := lv_neT c25 (a := 25) (by decide); have q26 := lv_neT c26 (a := 26) (by decide); have q27 := lv_neT c27 (a := 27) (by decide); have q28 := lv_neT c28 (a := 28) (by decide); have q29 := lv_neT c29 (a := 29) (by decide); have q30 := lv_neT c30 (a := 30) (by decide); have q31 := lv_neT c31 (a := 31) (by decide); have q32 := lv_neT c32 (a := 32) (by decide); have q33 := lv_neT c33 (a := 33) (by decide); have q34 := lv_neT c34 (a := 34) (by decide); have q35 := lv_neT c35 (a := 35) (by decide); omega) (by decide) ?_
  exact kk _ _ hr
theorem law_gt {Ln i : Nat} (h : Ln < i + 6) (hi : i ≤ 3072) (hL : Ln ≤ 3072) : (Int32.ofNat Ln - 6) < nI i := by
  rw [Int32.lt_iff_toInt_lt]
  have e : (Int32.ofNat Ln - 6).toInt = (Ln : Int) - 6 := pk_sub_toInt (a := Ln) (b := 6) (by omega) (by omega)
  rw [e, nI_toInt (by omega)]
  omega
set_option maxRecDepth 100000 in
theorem law_loop {Y : lY} {Rel : cS → mS → Prop} (C : lC Y) (ho : OpsOk Rel) (hL : Y.2.2.2.2.1 ≤ 3072) : ∀ (d i : Nat) (sc : cS) (sm : mS), Y.2.2.2.2.1 < i + d → i ≤ 3072 → Rel sc sm → XL Y sc sm 18 (lLS Y i) [] := by
  intro d
  induction d with
  | zero =>
    intro i sc sm h1 h2 hr
    refine l_iload_n (j := 0) C dL_law_18 rfl rfl ?_
    refine l_aload_n (j := 3) C dL_law_19 rfl rfl ?_
    refine l_slen C dL_law_20 ?_
    refine l_bipush (v := 6) C dL_law_21 (by decide) ?_
    refine l_isub C dL_law_23 ?_
    have e : (Int32.ofNat Y.2.2.2.2.1 - 6) < nI i := law_gt (by omega) (by omega) (by omega)
    refine l_icmp_gt (tgt := 1262) C dL_law_24 (by decide) (fun _ => ?_) (fun q => absurd e q)
    refine l_iconst (v := 1) C dL_law_1262 (by decide) ?_
    exact l_end C dL_law_1263
  | succ d ih =>
    intro i sc sm h1 h2 hr
    refine l_iload_n (j := 0) C dL_law_18 rfl rfl ?_
    refine l_aload_n (j := 3) C dL_law_19 rfl rfl ?_
    refine l_slen C dL_law_20 ?_
    refine l_bipush (v := 6) C dL_law_21 (by decide) ?_
    refine l_isub C dL_law_23 ?_
    refine l_icmp_gt (tgt := 1262) C dL_law_24 (by decide) (fun _ => ?_) (fun q => ?_)
    · refine l_iconst (v := 1) C dL_law_1262 (by decide) ?_
      exact l_end C dL_law_1263
    · have hi : i + 6 ≤ Y.2.2.2.2.1 := by
        rcases Nat.lt_or_ge Y.2.2.2.2.1 (i + 6) with z | z
        · exact absurd (law_gt z h2 hL) q
        · exact z
      refine l_aload_n (j := 3) C dL_law_27 rfl rfl ?_
      refine l_iload_n (j := 0) C dL_law_28 rfl rfl ?_
      refine l_sld C (l_in0 hi hL) dL_law_29 ?_
      refine l_bipush (v := 63) C dL_law_30 (by decide) ?_
      refine l_iand C dL_law_32 ?_
      refine law_step C ho hi hL hr (fun sc1 sm1 hr1 => ?_) _
      refine l_iinc (j := 0) (v := nI (i + 6)) (ls' := lLS Y (i + 6)) C dL_law_1256 rfl (nI_add i 6) (Nat.le_of_ble_eq_true rfl) rfl ?_
      refine l_goto (tgt := 18) C dL_law_1259 (by decide) ?_
      exact ih (i + 6) sc1 sm1 (by omega) (by omega) hr1
