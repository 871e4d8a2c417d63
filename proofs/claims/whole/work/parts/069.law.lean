theorem lg_cmp_self (v : Int64) : lg_cmp v v = 0 := (lg_cmp_eq v v).mpr rfl
theorem gt6 {L i : Nat} (hL : L ≤ 3072) (hi : i ≤ L + 6) (h : L < i + 6) : Int32.ofNat L - 6 < nI i := by
  show nI L - nI 6 < nI i
  rw [Int32.lt_iff_toInt_lt, pk_sub_toInt (by omega) (by decide), nI_toInt (by omega)]
  omega
set_option maxHeartbeats 4000000 in
set_option maxRecDepth 100000 in
theorem law_0 {p : Program} {l : Launch} {e : Env} {s : State} {m : MethodId} {below : List Frame} {meth : Method} {c : Code} {b L : Nat} {xs : Nat → Int32} {D : va_G} {cy : Nat → ClassId} {adF adM : Nat → Nat} {A : Nat → Prop} {E : State → Prop} (C : lC p m c s b L xs D cy adF adM A E) {Inv : St → St → Prop} {f x : St} (i : Int32) (hin1 : vp_in (i + 1) L) (hin2 : vp_in (i + 2) L) (hin3 : vp_in (i + 3) L) (hin4 : vp_in (i + 4) L) (hin5 : vp_in (i + 5) L) (hst : ∀ (a1 a2 a3 a4 a5 : Int32), wp_X11_feed (fun r f2 => wp_X12_feed (fun r2 x2 => r = r2 ∧ Inv f2 x2) a1 a2 a3 a4 a5 x) a1 a2 a3 a4 a5 f) (hk : ∀ f2 x2, Inv f2 x2 → wL p l e s m below meth c b D cy adF adM A 1129 f2 x2 [(0, .ref b), (1, .ref (adF 0)), (2, .ref (adM 0)), (3, .int i)] []) : wL p l e s m below meth c b D cy adF adM A 184 f x [(0, .ref b), (1, .ref (adF 0)), (2, .ref (adM 0)), (3, .int i)] [] := by
  refine l_aload_n C dL_law_184 rfl 1 rfl ?_
  refine l_aload_n C dL_law_185 rfl 0 rfl ?_
  refine l_iload_n C dL_law_186 rfl 3 rfl ?_
  refine l_iconst C 1 dL_law_187 (by decide) ?_
  refine l_iadd C dL_law_188 ?_
  refine l_sld C hin1 dL_law_189 ?_
  refine l_aload_n C dL_law_190 rfl 0 rfl ?_
  refine l_iload_n C dL_law_191 rfl 3 rfl ?_
  refine l_iconst C 2 dL_law_192 (by decide) ?_
  refine l_iadd C dL_law_193 ?_
  refine l_sld C hin2 dL_law_194 ?_
  refine l_aload_n C dL_law_195 rfl 0 rfl ?_
  refine l_iload_n C dL_law_196 rfl 3 rfl ?_
  refine l_iconst C 3 dL_law_197 (by decide) ?_
  refine l_iadd C dL_law_198 ?_
  refine l_sld C hin3 dL_law_199 ?_
  refine l_aload_n C dL_law_200 rfl 0 rfl ?_
  refine l_iload_n C dL_law_201 rfl 3 rfl ?_
  refine l_iconst C 4 dL_law_202 (by decide) ?_
  refine l_iadd C dL_law_203 ?_
  refine l_sld C hin4 dL_law_204 ?_
  refine l_aload_n C dL_law_205 rfl 0 rfl ?_
  refine l_iload_n C dL_law_206 rfl 3 rfl ?_
  refine l_iconst C 5 dL_law_207 (by decide) ?_
  refine l_iadd C dL_law_208 ?_
  refine l_sld C hin5 dL_law_209 ?_
  refine l_callFi C (c_X11_feed l D cy adF (aF adF) E C.2.2.1.1 (wEok_narrow C.2.2.2.1 C.2.2.1.2.2.1) _ _ _ _ _ _ _ (hst (xs (i + 1).toNatClampNeg) (xs (i + 2).toNatClampNeg) (xs (i + 3).toNatClampNeg) (xs (i + 4).toNatClampNeg) (xs (i + 5).toNatClampNeg))) mM_L_13 uV_X11_feed rfl rfl ⟨Nat.le_of_ble_eq_true rfl, Nat.le_of_ble_eq_true rfl⟩ rfl rfl (Nat.le_of_ble_eq_true rfl) dL_law_210 (fun r1 f2 h1 => ?_)
  refine l_aload_n C dL_law_213 rfl 2 rfl ?_
  refine l_aload_n C dL_law_214 rfl 0 rfl ?_
  refine l_iload_n C dL_law_215 rfl 3 rfl ?_
  refine l_iconst C 1 dL_law_216 (by decide) ?_
  refine l_iadd C dL_law_217 ?_
  refine l_sld C hin1 dL_law_218 ?_
  refine l_aload_n C dL_law_219 rfl 0 rfl ?_
  refine l_iload_n C dL_law_220 rfl 3 rfl ?_
  refine l_iconst C 2 dL_law_221 (by decide) ?_
  refine l_iadd C dL_law_222 ?_
  refine l_sld C hin2 dL_law_223 ?_
  refine l_aload_n C dL_law_224 rfl 0 rfl ?_
  refine l_iload_n C dL_law_225 rfl 3 rfl ?_
  refine l_iconst C 3 dL_law_226 (by decide) ?_
  refine l_iadd C dL_law_227 ?_
  refine l_sld C hin3 dL_law_228 ?_
  refine l_aload_n C dL_law_229 rfl 0 rfl ?_
  refine l_iload_n C dL_law_230 rfl 3 rfl ?_
  refine l_iconst C 4 dL_law_231 (by decide) ?_
  refine l_iadd C dL_law_232 ?_
  refine l_sld C hin4 dL_law_233 ?_
  refine l_aload_n C dL_law_234 rfl 0 rfl ?_
  refine l_iload_n C dL_law_235 rfl 3 rfl ?_
  refine l_iconst C 5 dL_law_236 (by decide) ?_
  refine l_iadd C dL_law_237 ?_
  refine l_sld C hin5 dL_law_238 ?_
  refine l_callMi C (c_X12_feed l D cy adM (aM adM) E C.2.2.1.2.1 (wEok_narrow C.2.2.2.1 C.2.2.1.2.2.2.1) _ _ _ _ _ _ _ h1) mM_L_17 uV_X12_feed rfl rfl ⟨Nat.le_of_ble_eq_true rfl, Nat.le_of_ble_eq_true rfl⟩ rfl rfl (Nat.le_of_ble_eq_true rfl) dL_law_239 (fun r2 x2 h2 => ?_)
  obtain ⟨er, hI⟩ := h2
  refine l_icmp_eq C 1129 dL_law_242 (by decide) (fun _ => ?_) (fun h9 => absurd er h9)
  exact hk _ _ hI
set_option maxHeartbeats 4000000 in
set_option maxRecDepth 100000 in
theorem law_1 {p : Program} {l : Launch} {e : Env} {s : State} {m : MethodId} {below : List Frame} {meth : Method} {c : Code} {b L : Nat} {xs : Nat → Int32} {D : va_G} {cy : Nat → ClassId} {adF adM : Nat → Nat} {A : Nat → Prop} {E : State → Prop} (C : lC p m c s b L xs D cy adF adM A E) {Inv : St → St → Prop} {f x : St} (i : Int32) (hin1 : vp_in (i + 1) L) (hin2 : vp_in (i + 2) L) (hin3 : vp_in (i + 3) L) (hin4 : vp_in (i + 4) L) (hin5 : vp_in (i + 5) L) (hst : ∀ (a1 : Int32), wp_X11_back (fun r f2 => wp_X12_back (fun r2 x2 => r = r2 ∧ Inv f2 x2) a1 x) a1 f) (hk : ∀ f2 x2, Inv f2 x2 → wL p l e s m below meth c b D cy adF adM A 1129 f2 x2 [(0, .ref b), (1, .ref (adF 0)), (2, .ref (adM 0)), (3, .int i)] []) : wL p l e s m below meth c b D cy adF adM A 247 f x [(0, .ref b), (1, .ref (adF 0)), (2, .ref (adM 0)), (3, .int i)] [] := by
  refine l_aload_n C dL_law_247 rfl 1 rfl ?_
  refine l_aload_n C dL_law_248 rfl 0 rfl ?_
  refine l_iload_n C dL_law_249 rfl 3 rfl ?_
  refine l_iconst C 1 dL_law_250 (by decide) ?_
  refine l_iadd C dL_law_251 ?_
  refine l_sld C hin1 dL_law_252 ?_
  refine l_callFi C (c_X11_back l D cy adF (aF adF) E C.2.2.1.1 (wEok_narrow C.2.2.2.1 C.2.2.1.2.2.1) _ _ _ (hst (xs (i + 1).toNatClampNeg))) mM_L_18 uV_X11_back rfl rfl ⟨Nat.le_of_ble_eq_true rfl, Nat.le_of_ble_eq_true rfl⟩ rfl rfl (Nat.le_of_ble_eq_true rfl) dL_law_253 (fun r1 f2 h1 => ?_)
  refine l_aload_n C dL_law_256 rfl 2 rfl ?_
  refine l_aload_n C dL_law_257 rfl 0 rfl ?_
  refine l_iload_n C dL_law_258 rfl 3 rfl ?_
  refine l_iconst C 1 dL_law_259 (by decide) ?_
  refine l_iadd C dL_law_260 ?_
  refine l_sld C hin1 dL_law_261 ?_
  refine l_callMi C (c_X12_back l D cy adM (aM adM) E C.2.2.1.2.1 (wEok_narrow C.2.2.2.1 C.2.2.1.2.2.2.1) _ _ _ h1) mM_L_22 uV_X12_back rfl rfl ⟨Nat.le_of_ble_eq_true rfl, Nat.le_of_ble_eq_true rfl⟩ rfl rfl (Nat.le_of_ble_eq_true rfl) dL_law_262 (fun r2 x2 h2 => ?_)
  obtain ⟨er, hI⟩ := h2
  refine l_icmp_eq C 1129 dL_law_265 (by decide) (fun _ => ?_) (fun h9 => absurd er h9)
  exact hk _ _ hI
set_option maxHeartbeats 4000000 in
set_option maxRecDepth 100000 in
theorem law_2 {p : Program} {l : Launch} {e : Env} {s : State} {m : MethodId} {below : List Frame} {meth : Method} {c : Code} {b L : Nat} {xs : Nat → Int32} {D : va_G} {cy : Nat → ClassId} {adF adM : Nat → Nat} {A : Nat → Prop} {E : State → Prop} (C : lC p m c s b L xs D cy adF adM A E) {Inv : St → St → Prop} {f x : St} (i : Int32) (hin1 : vp_in (i + 1) L) (hin2 : vp_in (i + 2) L) (hin3 : vp_in (i + 3) L) (hin4 : vp_in (i + 4) L) (hin5 : vp_in (i + 5) L) (hst : wp_X11_read (fun r f2 => wp_X12_read (fun r2 x2 => r = r2 ∧ Inv f2 x2) x) f) (hk : ∀ f2 x2, Inv f2 x2 → wL p l e s m below meth c b D cy adF adM A 1129 f2 x2 [(0, .ref b), (1, .ref (adF 0)), (2, .ref (adM 0)), (3, .int i)] []) : wL p l e s m below meth c b D cy adF adM A 270 f x [(0, .ref b), (1, .ref (adF 0)), (2, .ref (adM 0)), (3, .int i)] [] := by
  refine l_aload_n C dL_law_270 rfl 1 rfl ?_
  refine l_callFi C (c_X11_read l D cy adF (aF adF) E C.2.2.1.1 (wEok_narrow C.2.2.2.1 C.2.2.1.2.2.1) _  _ hst) mM_L_23 uV_X11_read rfl rfl ⟨Nat.le_of_ble_eq_true rfl, Nat.le_of_ble_eq_true rfl⟩ rfl rfl (Nat.le_of_ble_eq_true rfl) dL_law_271 (fun r1 f2 h1 => ?_)
  refine l_aload_n C dL_law_274 rfl 2 rfl ?_
  refine l_callMi C (c_X12_read l D cy adM (aM adM) E C.2.2.1.2.1 (wEok_narrow C.2.2.2.1 C.2.2.1.2.2.2.1) _  _ h1) mM_L_27 uV_X12_read rfl rfl ⟨Nat.le_of_ble_eq_true rfl, Nat.le_of_ble_eq_true rfl⟩ rfl rfl (Nat.le_of_ble_eq_true rfl) dL_law_275 (fun r2 x2 h2 => ?_)
  obtain ⟨er, hI⟩ := h2
  refine l_icmp_eq C 1129 dL_law_278 (by decide) (fun _ => ?_) (fun h9 => absurd er h9)
  exact hk _ _ hI
set_option maxHeartbeats 4000000 in
set_option maxRecDepth 100000 in
theorem law_3 {p : Program} {l : Launch} {e : Env} {s : State} {m : MethodId} {below : List Frame} {meth : Method} {c : Code} {b L : Nat} {xs : Nat → Int32} {D : va_G} {cy : Nat → ClassId} {adF adM : Nat → Nat} {A : Nat → Prop} {E : State → Prop} (C : lC p m c s b L xs D cy adF adM A E) {Inv : St → St → Prop} {f x : St} (i : Int32) (hin1 : vp_in (i + 1) L) (hin2 : vp_in (i + 2) L) (hin3 : vp_in (i + 3) L) (hin4 : vp_in (i + 4) L) (hin5 : vp_in (i + 5) L) (hst : wp_X11_place (fun r f2 => wp_X12_place (fun r2 x2 => r = r2 ∧ Inv f2 x2) x) f) (hk : ∀ f2 x2, Inv f2 x2 → wL p l e s m below meth c b D cy adF adM A 1129 f2 x2 [(0, .ref b), (1, .ref (adF 0)), (2, .ref (adM 0)), (3, .int i)] []) : wL p l e s m below meth c b D cy adF adM A 283 f x [(0, .ref b), (1, .ref (adF 0)), (2, .ref (adM 0)), (3, .int i)] [] := by
  refine l_aload_n C dL_law_283 rfl 1 rfl ?_
  refine l_callFi C (c_X11_place l D cy adF (aF adF) E C.2.2.1.1 (wEok_narrow C.2.2.2.1 C.2.2.1.2.2.1) _  _ hst) mM_L_28 uV_X11_place rfl rfl ⟨Nat.le_of_ble_eq_true rfl, Nat.le_of_ble_eq_true rfl⟩ rfl rfl (Nat.le_of_ble_eq_true rfl) dL_law_284 (fun r1 f2 h1 => ?_)
  refine l_aload_n C dL_law_287 rfl 2 rfl ?_
  refine l_callMi C (c_X12_place l D cy adM (aM adM) E C.2.2.1.2.1 (wEok_narrow C.2.2.2.1 C.2.2.1.2.2.2.1) _  _ h1) mM_L_31 uV_X12_place rfl rfl ⟨Nat.le_of_ble_eq_true rfl, Nat.le_of_ble_eq_true rfl⟩ rfl rfl (Nat.le_of_ble_eq_true rfl) dL_law_288 (fun r2 x2 h2 => ?_)
  obtain ⟨er, hI⟩ := h2
  refine l_icmp_eq C 1129 dL_law_291 (by decide) (fun _ => ?_) (fun h9 => absurd er h9)
  exact hk _ _ hI
set_option maxHeartbeats 4000000 in
set_option maxRecDepth 100000 in
theorem law_4 {p : Program} {l : Launch} {e : Env} {s : State} {m : MethodId} {below : List Frame} {meth : Method} {c : Code} {b L : Nat} {xs : Nat → Int32} {D : va_G} {cy : Nat → ClassId} {adF adM : Nat → Nat} {A : Nat → Prop} {E : State → Prop} (C : lC p m c s b L xs D cy adF adM A E) {Inv : St → St → Prop} {f x : St} (i : Int32) (hin1 : vp_in (i + 1) L) (hin2 : vp_in (i + 2) L) (hin3 : vp_in (i + 3) L) (hin4 : vp_in (i + 4) L) (hin5 : vp_in (i + 5) L) (hst : ∀ (a1 a2 : Int32), wp_X11_tell (fun r f2 => wp_X12_tell (fun r2 x2 => r = r2 ∧ Inv f2 x2) a1 a2 x) a1 a2 f) (hk : ∀ f2 x2, Inv f2 x2 → wL p l e s m below meth c b D cy adF adM A 1129 f2 x2 [(0, .ref b), (1, .ref (adF 0)), (2, .ref (adM 0)), (3, .int i)] []) : wL p l e s m below meth c b D cy adF adM A 296 f x [(0, .ref b), (1, .ref (adF 0)), (2, .ref (adM 0)), (3, .int i)] [] := by
  refine l_aload_n C dL_law_296 rfl 1 rfl ?_
  refine l_aload_n C dL_law_297 rfl 0 rfl ?_
  refine l_iload_n C dL_law_298 rfl 3 rfl ?_
  refine l_iconst C 1 dL_law_299 (by decide) ?_
  refine l_iadd C dL_law_300 ?_
  refine l_sld C hin1 dL_law_301 ?_
  refine l_aload_n C dL_law_302 rfl 0 rfl ?_
  refine l_iload_n C dL_law_303 rfl 3 rfl ?_
  refine l_iconst C 2 dL_law_304 (by decide) ?_
  refine l_iadd C dL_law_305 ?_
  refine l_sld C hin2 dL_law_306 ?_
  refine l_callFi C (c_X11_tell l D cy adF (aF adF) E C.2.2.1.1 (wEok_narrow C.2.2.2.1 C.2.2.1.2.2.1) _ _ _ _ (hst (xs (i + 1).toNatClampNeg) (xs (i + 2).toNatClampNeg))) mM_L_32 uV_X11_tell rfl rfl ⟨Nat.le_of_ble_eq_true rfl, Nat.le_of_ble_eq_true rfl⟩ rfl rfl (Nat.le_of_ble_eq_true rfl) dL_law_307 (fun r1 f2 h1 => ?_)
  refine l_aload_n C dL_law_310 rfl 2 rfl ?_
  refine l_aload_n C dL_law_311 rfl 0 rfl ?_
  refine l_iload_n C dL_law_312 rfl 3 rfl ?_
  refine l_iconst C 1 dL_law_313 (by decide) ?_
  refine l_iadd C dL_law_314 ?_
  refine l_sld C hin1 dL_law_315 ?_
  refine l_aload_n C dL_law_316 rfl 0 rfl ?_
  refine l_iload_n C dL_law_317 rfl 3 rfl ?_
  refine l_iconst C 2 dL_law_318 (by decide) ?_
  refine l_iadd C dL_law_319 ?_
  refine l_sld C hin2 dL_law_320 ?_
  refine l_callMi C (c_X12_tell l D cy adM (aM adM) E C.2.2.1.2.1 (wEok_narrow C.2.2.2.1 C.2.2.1.2.2.2.1) _ _ _ _ h1) mM_L_36 uV_X12_tell rfl rfl ⟨Nat.le_of_ble_eq_true rfl, Nat.le_of_ble_eq_true rfl⟩ rfl rfl (Nat.le_of_ble_eq_true rfl) dL_law_321 (fun r2 x2 h2 => ?_)
  obtain ⟨er, hI⟩ := h2
  refine l_icmp_eq C 1129 dL_law_324 (by decide) (fun _ => ?_) (fun h9 => absurd er h9)
  exact hk _ _ hI
set_option maxHeartbeats 4000000 in
set_option maxRecDepth 100000 in
theorem law_5 {p : Program} {l : Launch} {e : Env} {s : State} {m : MethodId} {below : List Frame} {meth : Method} {c : Code} {b L : Nat} {xs : Nat → Int32} {D : va_G} {cy : Nat → ClassId} {adF adM : Nat → Nat} {A : Nat → Prop} {E : State → Prop} (C : lC p m c s b L xs D cy adF adM A E) {Inv : St → St → Prop} {f x : St} (i : Int32) (hin1 : vp_in (i + 1) L) (hin2 : vp_in (i + 2) L) (hin3 : vp_in (i + 3) L) (hin4 : vp_in (i + 4) L) (hin5 : vp_in (i + 5) L) (hst : ∀ (a1 a2 a3 : Int32), wp_X11_lay (fun r f2 => wp_X12_lay (fun r2 x2 => r = r2 ∧ Inv f2 x2) a1 a2 a3 x) a1 a2 a3 f) (hk : ∀ f2 x2, Inv f2 x2 → wL p l e s m below meth c b D cy adF adM A 1129 f2 x2 [(0, .ref b), (1, .ref (adF 0)), (2, .ref (adM 0)), (3, .int i)] []) : wL p l e s m below meth c b D cy adF adM A 329 f x [(0, .ref b), (1, .ref (adF 0)), (2, .ref (adM 0)), (3, .int i)] [] := by
  refine l_aload_n C dL_law_329 rfl 1 rfl ?_
  refine l_aload_n C dL_law_330 rfl 0 rfl ?_
  refine l_iload_n C dL_law_331 rfl 3 rfl ?_
  refine l_iconst C 1 dL_law_332 (by decide) ?_
  refine l_iadd C dL_law_333 ?_
  refine l_sld C hin1 dL_law_334 ?_
  refine l_aload_n C dL_law_335 rfl 0 rfl ?_
  refine l_iload_n C dL_law_336 rfl 3 rfl ?_
  refine l_iconst C 2 dL_law_337 (by decide) ?_
  refine l_iadd C dL_law_338 ?_
  refine l_sld C hin2 dL_law_339 ?_
  refine l_aload_n C dL_law_340 rfl 0 rfl ?_
  refine l_iload_n C dL_law_341 rfl 3 rfl ?_
  refine l_iconst C 3 dL_law_342 (by decide) ?_
  refine l_iadd C dL_law_343 ?_
  refine l_sld C hin3 dL_law_344 ?_
  refine l_callFi C (c_X11_lay l D cy adF (aF adF) E C.2.2.1.1 (wEok_narrow C.2.2.2.1 C.2.2.1.2.2.1) _ _ _ _ _ (hst (xs (i + 1).toNatClampNeg) (xs (i + 2).toNatClampNeg) (xs (i + 3).toNatClampNeg))) mM_L_37 uV_X11_lay rfl rfl ⟨Nat.le_of_ble_eq_true rfl, Nat.le_of_ble_eq_true rfl⟩ rfl rfl (Nat.le_of_ble_eq_true rfl) dL_law_345 (fun r1 f2 h1 => ?_)
  refine l_aload_n C dL_law_348 rfl 2 rfl ?_
  refine l_aload_n C dL_law_349 rfl 0 rfl ?_
  refine l_iload_n C dL_law_350 rfl 3 rfl ?_
  refine l_iconst C 1 dL_law_351 (by decide) ?_
  refine l_iadd C dL_law_352 ?_
  refine l_sld C hin1 dL_law_353 ?_
  refine l_aload_n C dL_law_354 rfl 0 rfl ?_
  refine l_iload_n C dL_law_355 rfl 3 rfl ?_
  refine l_iconst C 2 dL_law_356 (by decide) ?_
  refine l_iadd C dL_law_357 ?_
  refine l_sld C hin2 dL_law_358 ?_
  refine l_aload_n C dL_law_359 rfl 0 rfl ?_
  refine l_iload_n C dL_law_360 rfl 3 rfl ?_
  refine l_iconst C 3 dL_law_361 (by decide) ?_
  refine l_iadd C dL_law_362 ?_
  refine l_sld C hin3 dL_law_363 ?_
  refine l_callMi C (c_X12_lay l D cy adM (aM adM) E C.2.2.1.2.1 (wEok_narrow C.2.2.2.1 C.2.2.1.2.2.2.1) _ _ _ _ _ h1) mM_L_41 uV_X12_lay rfl rfl ⟨Nat.le_of_ble_eq_true rfl, Nat.le_of_ble_eq_true rfl⟩ rfl rfl (Nat.le_of_ble_eq_true rfl) dL_law_364 (fun r2 x2 h2 => ?_)
  obtain ⟨er, hI⟩ := h2
  refine l_icmp_eq C 1129 dL_law_367 (by decide) (fun _ => ?_) (fun h9 => absurd er h9)
  exact hk _ _ hI
set_option maxHeartbeats 4000000 in
set_option maxRecDepth 100000 in
theorem law_6 {p : Program} {l : Launch} {e : Env} {s : State} {m : MethodId} {below : List Frame} {meth : Method} {c : Code} {b L : Nat} {xs : Nat → Int32} {D : va_G} {cy : Nat → ClassId} {adF adM : Nat → Nat} {A : Nat → Prop} {E : State → Prop} (C : lC p m c s b L xs D cy adF adM A E) {Inv : St → St → Prop} {f x : St} (i : Int32) (hin1 : vp_in (i + 1) L) (hin2 : vp_in (i + 2) L) (hin3 : vp_in (i + 3) L) (hin4 : vp_in (i + 4) L) (hin5 : vp_in (i + 5) L) (hst : wp_X11_undo (fun r f2 => wp_X12_undo (fun r2 x2 => r = r2 ∧ Inv f2 x2) x) f) (hk : ∀ f2 x2, Inv f2 x2 → wL p l e s m below meth c b D cy adF adM A 1129 f2 x2 [(0, .ref b), (1, .ref (adF 0)), (2, .ref (adM 0)), (3, .int i)] []) : wL p l e s m below meth c b D cy adF adM A 372 f x [(0, .ref b), (1, .ref (adF 0)), (2, .ref (adM 0)), (3, .int i)] [] := by
  refine l_aload_n C dL_law_372 rfl 1 rfl ?_
  refine l_callFi C (c_X11_undo l D cy adF (aF adF) E C.2.2.1.1 (wEok_narrow C.2.2.2.1 C.2.2.1.2.2.1) _  _ hst) mM_L_42 uV_X11_undo rfl rfl ⟨Nat.le_of_ble_eq_true rfl, Nat.le_of_ble_eq_true rfl⟩ rfl rfl (Nat.le_of_ble_eq_true rfl) dL_law_373 (fun r1 f2 h1 => ?_)
  refine l_aload_n C dL_law_376 rfl 2 rfl ?_
  refine l_callMi C (c_X12_undo l D cy adM (aM adM) E C.2.2.1.2.1 (wEok_narrow C.2.2.2.1 C.2.2.1.2.2.2.1) _  _ h1) mM_L_46 uV_X12_undo rfl rfl ⟨Nat.le_of_ble_eq_true rfl, Nat.le_of_ble_eq_true rfl⟩ rfl rfl (Nat.le_of_ble_eq_true rfl) dL_law_377 (fun r2 x2 h2 => ?_)
  obtain ⟨er, hI⟩ := h2
  refine l_icmp_eq C 1129 dL_law_380 (by decide) (fun _ => ?_) (fun h9 => absurd er h9)
  exact hk _ _ hI
set_option maxHeartbeats 4000000 in
set_option maxRecDepth 100000 in
theorem law_7 {p : Program} {l : Launch} {e : Env} {s : State} {m : MethodId} {below : List Frame} {meth : Method} {c : Code} {b L : Nat} {xs : Nat → Int32} {D : va_G} {cy : Nat → ClassId} {adF adM : Nat → Nat} {A : Nat → Prop} {E : State → Prop} (C : lC p m c s b L xs D cy adF adM A E) {Inv : St → St → Prop} {f x : St} (i : Int32) (hin1 : vp_in (i + 1) L) (hin2 : vp_in (i + 2) L) (hin3 : vp_in (i + 3) L) (hin4 : vp_in (i + 4) L) (hin5 : vp_in (i + 5) L) (hst : ∀ (a1 a2 : Int32), wp_X11_link (fun r f2 => wp_X12_link (fun r2 x2 => r = r2 ∧ Inv f2 x2) a1 a2 x) a1 a2 f) (hk : ∀ f2 x2, Inv f2 x2 → wL p l e s m below meth c b D cy adF adM A 1129 f2 x2 [(0, .ref b), (1, .ref (adF 0)), (2, .ref (adM 0)), (3, .int i)] []) : wL p l e s m below meth c b D cy adF adM A 385 f x [(0, .ref b), (1, .ref (adF 0)), (2, .ref (adM 0)), (3, .int i)] [] := by
  refine l_aload_n C dL_law_385 rfl 1 rfl ?_
  refine l_aload_n C dL_law_386 rfl 0 rfl ?_
  refine l_iload_n C dL_law_387 rfl 3 rfl ?_
  refine l_iconst C 1 dL_law_388 (by decide) ?_
  refine l_iadd C dL_law_389 ?_
  refine l_sld C hin1 dL_law_390 ?_
  refine l_aload_n C dL_law_391 rfl 0 rfl ?_
  refine l_iload_n C dL_law_392 rfl 3 rfl ?_
  refine l_iconst C 2 dL_law_393 (by decide) ?_
  refine l_iadd C dL_law_394 ?_
  refine l_sld C hin2 dL_law_395 ?_
  refine l_callFi C (c_X11_link l D cy adF (aF adF) E C.2.2.1.1 (wEok_narrow C.2.2.2.1 C.2.2.1.2.2.1) _ _ _ _ (hst (xs (i + 1).toNatClampNeg) (xs (i + 2).toNatClampNeg))) mM_L_47 uV_X11_link rfl rfl ⟨Nat.le_of_ble_eq_true rfl, Nat.le_of_ble_eq_true rfl⟩ rfl rfl (Nat.le_of_ble_eq_true rfl) dL_law_396 (fun r1 f2 h1 => ?_)
  refine l_aload_n C dL_law_399 rfl 2 rfl ?_
  refine l_aload_n C dL_law_400 rfl 0 rfl ?_
  refine l_iload_n C dL_law_401 rfl 3 rfl ?_
  refine l_iconst C 1 dL_law_402 (by decide) ?_
  refine l_iadd C dL_law_403 ?_
  refine l_sld C hin1 dL_law_404 ?_
  refine l_aload_n C dL_law_405 rfl 0 rfl ?_
  refine l_iload_n C dL_law_406 rfl 3 rfl ?_
  refine l_iconst C 2 dL_law_407 (by decide) ?_
  refine l_iadd C dL_law_408 ?_
  refine l_sld C hin2 dL_law_409 ?_
  refine l_callMi C (c_X12_link l D cy adM (aM adM) E C.2.2.1.2.1 (wEok_narrow C.2.2.2.1 C.2.2.1.2.2.2.1) _ _ _ _ h1) mM_L_51 uV_X12_link rfl rfl ⟨Nat.le_of_ble_eq_true rfl, Nat.le_of_ble_eq_true rfl⟩ rfl rfl (Nat.le_of_ble_eq_true rfl) dL_law_410 (fun r2 x2 h2 => ?_)
  obtain ⟨er, hI⟩ := h2
  refine l_icmp_eq C 1129 dL_law_413 (by decide) (fun _ => ?_) (fun h9 => absurd er h9)
  exact hk _ _ hI
set_option maxHeartbeats 4000000 in
set_option maxRecDepth 100000 in
theorem law_8 {p : Program} {l : Launch} {e : Env} {s : State} {m : MethodId} {below : List Frame} {meth : Method} {c : Code} {b L : Nat} {xs : Nat → Int32} {D : va_G} {cy : Nat → ClassId} {adF adM : Nat → Nat} {A : Nat → Prop} {E : State → Prop} (C : lC p m c s b L xs D cy adF adM A E) {Inv : St → St → Prop} {f x : St} (i : Int32) (hin1 : vp_in (i + 1) L) (hin2 : vp_in (i + 2) L) (hin3 : vp_in (i + 3) L) (hin4 : vp_in (i + 4) L) (hin5 : vp_in (i + 5) L) (hst : ∀ (a1 a2 : Int32), wp_X11_way (fun r f2 => wp_X12_way (fun r2 x2 => r = r2 ∧ Inv f2 x2) a1 a2 x) a1 a2 f) (hk : ∀ f2 x2, Inv f2 x2 → wL p l e s m below meth c b D cy adF adM A 1129 f2 x2 [(0, .ref b), (1, .ref (adF 0)), (2, .ref (adM 0)), (3, .int i)] []) : wL p l e s m below meth c b D cy adF adM A 418 f x [(0, .ref b), (1, .ref (adF 0)), (2, .ref (adM 0)), (3, .int i)] [] := by
  refine l_aload_n C dL_law_418 rfl 1 rfl ?_
  refine l_aload_n C dL_law_419 rfl 0 rfl ?_
  refine l_iload_n C dL_law_420 rfl 3 rfl ?_
  refine l_iconst C 1 dL_law_421 (by decide) ?_
  refine l_iadd C dL_law_422 ?_
  refine l_sld C hin1 dL_law_423 ?_
  refine l_aload_n C dL_law_424 rfl 0 rfl ?_
  refine l_iload_n C dL_law_425 rfl 3 rfl ?_
  refine l_iconst C 2 dL_law_426 (by decide) ?_
  refine l_iadd C dL_law_427 ?_
  refine l_sld C hin2 dL_law_428 ?_
  refine l_callFi C (c_X11_way l D cy adF (aF adF) E C.2.2.1.1 (wEok_narrow C.2.2.2.1 C.2.2.1.2.2.1) _ _ _ _ (hst (xs (i + 1).toNatClampNeg) (xs (i + 2).toNatClampNeg))) mM_L_52 uV_X11_way rfl rfl ⟨Nat.le_of_ble_eq_true rfl, Nat.le_of_ble_eq_true rfl⟩ rfl rfl (Nat.le_of_ble_eq_true rfl) dL_law_429 (fun r1 f2 h1 => ?_)
  refine l_aload_n C dL_law_432 rfl 2 rfl ?_
  refine l_aload_n C dL_law_433 rfl 0 rfl ?_
  refine l_iload_n C dL_law_434 rfl 3 rfl ?_
  refine l_iconst C 1 dL_law_435 (by decide) ?_
  refine l_iadd C dL_law_436 ?_
  refine l_sld C hin1 dL_law_437 ?_
  refine l_aload_n C dL_law_438 rfl 0 rfl ?_
  refine l_iload_n C dL_law_439 rfl 3 rfl ?_
  refine l_iconst C 2 dL_law_440 (by decide) ?_
  refine l_iadd C dL_law_441 ?_
  refine l_sld C hin2 dL_law_442 ?_
  refine l_callMi C (c_X12_way l D cy adM (aM adM) E C.2.2.1.2.1 (wEok_narrow C.2.2.2.1 C.2.2.1.2.2.2.1) _ _ _ _ h1) mM_L_55 uV_X12_way rfl rfl ⟨Nat.le_of_ble_eq_true rfl, Nat.le_of_ble_eq_true rfl⟩ rfl rfl (Nat.le_of_ble_eq_true rfl) dL_law_443 (fun r2 x2 h2 => ?_)
  obtain ⟨er, hI⟩ := h2
  refine l_icmp_eq C 1129 dL_law_446 (by decide) (fun _ => ?_) (fun h9 => absurd er h9)
  exact hk _ _ hI
set_option maxHeartbeats 4000000 in
set_option maxRecDepth 100000 in
theorem law_9 {p : Program} {l : Launch} {e : Env} {s : State} {m : MethodId} {below : List Frame} {meth : Method} {c : Code} {b L : Nat} {xs : Nat → Int32} {D : va_G} {cy : Nat → ClassId} {adF adM : Nat → Nat} {A : Nat → Prop} {E : State → Prop} (C : lC p m c s b L xs D cy adF adM A E) {Inv : St → St → Prop} {f x : St} (i : Int32) (hin1 : vp_in (i + 1) L) (hin2 : vp_in (i + 2) L) (hin3 : vp_in (i + 3) L) (hin4 : vp_in (i + 4) L) (hin5 : vp_in (i + 5) L) (hst : ∀ (a1 a2 : Int32), wp_X11_post (fun r f2 => wp_X12_post (fun r2 x2 => r = r2 ∧ Inv f2 x2) a1 a2 x) a1 a2 f) (hk : ∀ f2 x2, Inv f2 x2 → wL p l e s m below meth c b D cy adF adM A 1129 f2 x2 [(0, .ref b), (1, .ref (adF 0)), (2, .ref (adM 0)), (3, .int i)] []) : wL p l e s m below meth c b D cy adF adM A 451 f x [(0, .ref b), (1, .ref (adF 0)), (2, .ref (adM 0)), (3, .int i)] [] := by
  refine l_aload_n C dL_law_451 rfl 1 rfl ?_
  refine l_aload_n C dL_law_452 rfl 0 rfl ?_
  refine l_iload_n C dL_law_453 rfl 3 rfl ?_
  refine l_iconst C 1 dL_law_454 (by decide) ?_
  refine l_iadd C dL_law_455 ?_
  refine l_sld C hin1 dL_law_456 ?_
  refine l_aload_n C dL_law_457 rfl 0 rfl ?_
  refine l_iload_n C dL_law_458 rfl 3 rfl ?_
  refine l_iconst C 2 dL_law_459 (by decide) ?_
  refine l_iadd C dL_law_460 ?_
  refine l_sld C hin2 dL_law_461 ?_
  refine l_callFi C (c_X11_post l D cy adF (aF adF) E C.2.2.1.1 (wEok_narrow C.2.2.2.1 C.2.2.1.2.2.1) _ _ _ _ (hst (xs (i + 1).toNatClampNeg) (xs (i + 2).toNatClampNeg))) mM_L_56 uV_X11_post rfl rfl ⟨Nat.le_of_ble_eq_true rfl, Nat.le_of_ble_eq_true rfl⟩ rfl rfl (Nat.le_of_ble_eq_true rfl) dL_law_462 (fun r1 f2 h1 => ?_)
  refine l_aload_n C dL_law_465 rfl 2 rfl ?_
  refine l_aload_n C dL_law_466 rfl 0 rfl ?_
  refine l_iload_n C dL_law_467 rfl 3 rfl ?_
  refine l_iconst C 1 dL_law_468 (by decide) ?_
  refine l_iadd C dL_law_469 ?_
  refine l_sld C hin1 dL_law_470 ?_
  refine l_aload_n C dL_law_471 rfl 0 rfl ?_
  refine l_iload_n C dL_law_472 rfl 3 rfl ?_
  refine l_iconst C 2 dL_law_473 (by decide) ?_
  refine l_iadd C dL_law_474 ?_
  refine l_sld C hin2 dL_law_475 ?_
  refine l_callMi C (c_X12_post l D cy adM (aM adM) E C.2.2.1.2.1 (wEok_narrow C.2.2.2.1 C.2.2.1.2.2.2.1) _ _ _ _ h1) mM_L_59 uV_X12_post rfl rfl ⟨Nat.le_of_ble_eq_true rfl, Nat.le_of_ble_eq_true rfl⟩ rfl rfl (Nat.le_of_ble_eq_true rfl) dL_law_476 (fun r2 x2 h2 => ?_)
  obtain ⟨er, hI⟩ := h2
  refine l_icmp_eq C 1129 dL_law_479 (by decide) (fun _ => ?_) (fun h9 => absurd er h9)
  exact hk _ _ hI
set_option maxHeartbeats 4000000 in
set_option maxRecDepth 100000 in
theorem law_10 {p : Program} {l : Launch} {e : Env} {s : State} {m : MethodId} {below : List Frame} {meth : Method} {c : Code} {b L : Nat} {xs : Nat → Int32} {D : va_G} {cy : Nat → ClassId} {adF adM : Nat → Nat} {A : Nat → Prop} {E : State → Prop} (C : lC p m c s b L xs D cy adF adM A E) {Inv : St → St → Prop} {f x : St} (i : Int32) (hin1 : vp_in (i + 1) L) (hin2 : vp_in (i + 2) L) (hin3 : vp_in (i + 3) L) (hin4 : vp_in (i + 4) L) (hin5 : vp_in (i + 5) L) (hst : ∀ (a1 : Int32), wp_X11_sets (fun r f2 => wp_X12_sets (fun r2 x2 => r = r2 ∧ Inv f2 x2) a1 x) a1 f) (hk : ∀ f2 x2, Inv f2 x2 → wL p l e s m below meth c b D cy adF adM A 1129 f2 x2 [(0, .ref b), (1, .ref (adF 0)), (2, .ref (adM 0)), (3, .int i)] []) : wL p l e s m below meth c b D cy adF adM A 484 f x [(0, .ref b), (1, .ref (adF 0)), (2, .ref (adM 0)), (3, .int i)] [] := by
  refine l_aload_n C dL_law_484 rfl 1 rfl ?_
  refine l_aload_n C dL_law_485 rfl 0 rfl ?_
  refine l_iload_n C dL_law_486 rfl 3 rfl ?_
  refine l_iconst C 1 dL_law_487 (by decide) ?_
  refine l_iadd C dL_law_488 ?_
  refine l_sld C hin1 dL_law_489 ?_
  refine l_callFi C (c_X11_sets l D cy adF (aF adF) E C.2.2.1.1 (wEok_narrow C.2.2.2.1 C.2.2.1.2.2.1) _ _ _ (hst (xs (i + 1).toNatClampNeg))) mM_L_60 uV_X11_sets rfl rfl ⟨Nat.le_of_ble_eq_true rfl, Nat.le_of_ble_eq_true rfl⟩ rfl rfl (Nat.le_of_ble_eq_true rfl) dL_law_490 (fun r1 f2 h1 => ?_)
  refine l_aload_n C dL_law_493 rfl 2 rfl ?_
  refine l_aload_n C dL_law_494 rfl 0 rfl ?_
  refine l_iload_n C dL_law_495 rfl 3 rfl ?_
  refine l_iconst C 1 dL_law_496 (by decide) ?_
  refine l_iadd C dL_law_497 ?_
  refine l_sld C hin1 dL_law_498 ?_
  refine l_callMi C (c_X12_sets l D cy adM (aM adM) E C.2.2.1.2.1 (wEok_narrow C.2.2.2.1 C.2.2.1.2.2.2.1) _ _ _ h1) mM_L_63 uV_X12_sets rfl rfl ⟨Nat.le_of_ble_eq_true rfl, Nat.le_of_ble_eq_true rfl⟩ rfl rfl (Nat.le_of_ble_eq_true rfl) dL_law_499 (fun r2 x2 h2 => ?_)
  obtain ⟨er, hI⟩ := h2
  refine l_icmp_eq C 1129 dL_law_502 (by decide) (fun _ => ?_) (fun h9 => absurd er h9)
  exact hk _ _ hI
set_option maxHeartbeats 4000000 in
set_option maxRecDepth 100000 in
theorem law_11 {p : Program} {l : Launch} {e : Env} {s : State} {m : MethodId} {below : List Frame} {meth : Method} {c : Code} {b L : Nat} {xs : Nat → Int32} {D : va_G} {cy : Nat → ClassId} {adF adM : Nat → Nat} {A : Nat → Prop} {E : State → Prop} (C : lC p m c s b L xs D cy adF adM A E) {Inv : St → St → Prop} {f x : St} (i : Int32) (hin1 : vp_in (i + 1) L) (hin2 : vp_in (i + 2) L) (hin3 : vp_in (i + 3) L) (hin4 : vp_in (i + 4) L) (hin5 : vp_in (i + 5) L) (hst : ∀ (a1 : Int32), wp_X11_lean (fun r f2 => wp_X12_lean (fun r2 x2 => r = r2 ∧ Inv f2 x2) a1 x) a1 f) (hk : ∀ f2 x2, Inv f2 x2 → wL p l e s m below meth c b D cy adF adM A 1129 f2 x2 [(0, .ref b), (1, .ref (adF 0)), (2, .ref (adM 0)), (3, .int i)] []) : wL p l e s m below meth c b D cy adF adM A 507 f x [(0, .ref b), (1, .ref (adF 0)), (2, .ref (adM 0)), (3, .int i)] [] := by
  refine l_aload_n C dL_law_507 rfl 1 rfl ?_
  refine l_aload_n C dL_law_508 rfl 0 rfl ?_
  refine l_iload_n C dL_law_509 rfl 3 rfl ?_
  refine l_iconst C 1 dL_law_510 (by decide) ?_
  refine l_iadd C dL_law_511 ?_
  refine l_sld C hin1 dL_law_512 ?_
  refine l_callFi C (c_X11_lean l D cy adF (aF adF) E C.2.2.1.1 (wEok_narrow C.2.2.2.1 C.2.2.1.2.2.1) _ _ _ (hst (xs (i + 1).toNatClampNeg))) mM_L_64 uV_X11_lean rfl rfl ⟨Nat.le_of_ble_eq_true rfl, Nat.le_of_ble_eq_true rfl⟩ rfl rfl (Nat.le_of_ble_eq_true rfl) dL_law_513 (fun r1 f2 h1 => ?_)
  refine l_aload_n C dL_law_516 rfl 2 rfl ?_
  refine l_aload_n C dL_law_517 rfl 0 rfl ?_
  refine l_iload_n C dL_law_518 rfl 3 rfl ?_
  refine l_iconst C 1 dL_law_519 (by decide) ?_
  refine l_iadd C dL_law_520 ?_
  refine l_sld C hin1 dL_law_521 ?_
  refine l_callMi C (c_X12_lean l D cy adM (aM adM) E C.2.2.1.2.1 (wEok_narrow C.2.2.2.1 C.2.2.1.2.2.2.1) _ _ _ h1) mM_L_67 uV_X12_lean rfl rfl ⟨Nat.le_of_ble_eq_true rfl, Nat.le_of_ble_eq_true rfl⟩ rfl rfl (Nat.le_of_ble_eq_true rfl) dL_law_522 (fun r2 x2 h2 => ?_)
  obtain ⟨er, hI⟩ := h2
  refine l_icmp_eq C 1129 dL_law_525 (by decide) (fun _ => ?_) (fun h9 => absurd er h9)
  exact hk _ _ hI
set_option maxHeartbeats 4000000 in
set_option maxRecDepth 100000 in
theorem law_12 {p : Program} {l : Launch} {e : Env} {s : State} {m : MethodId} {below : List Frame} {meth : Method} {c : Code} {b L : Nat} {xs : Nat → Int32} {D : va_G} {cy : Nat → ClassId} {adF adM : Nat → Nat} {A : Nat → Prop} {E : State → Prop} (C : lC p m c s b L xs D cy adF adM A E) {Inv : St → St → Prop} {f x : St} (i : Int32) (hin1 : vp_in (i + 1) L) (hin2 : vp_in (i + 2) L) (hin3 : vp_in (i + 3) L) (hin4 : vp_in (i + 4) L) (hin5 : vp_in (i + 5) L) (hst : ∀ (a1 : Int32), wp_X11_explains (fun r f2 => wp_X12_explains (fun r2 x2 => r = r2 ∧ Inv f2 x2) a1 x) a1 f) (hk : ∀ f2 x2, Inv f2 x2 → wL p l e s m below meth c b D cy adF adM A 1129 f2 x2 [(0, .ref b), (1, .ref (adF 0)), (2, .ref (adM 0)), (3, .int i)] []) : wL p l e s m below meth c b D cy adF adM A 530 f x [(0, .ref b), (1, .ref (adF 0)), (2, .ref (adM 0)), (3, .int i)] [] := by
  refine l_aload_n C dL_law_530 rfl 1 rfl ?_
  refine l_aload_n C dL_law_531 rfl 0 rfl ?_
  refine l_iload_n C dL_law_532 rfl 3 rfl ?_
  refine l_iconst C 1 dL_law_533 (by decide) ?_
  refine l_iadd C dL_law_534 ?_
  refine l_sld C hin1 dL_law_535 ?_
  refine l_callFi C (c_X11_explains l D cy adF (aF adF) E C.2.2.1.1 (wEok_narrow C.2.2.2.1 C.2.2.1.2.2.1) _ _ _ (hst (xs (i + 1).toNatClampNeg))) mM_L_68 uV_X11_explains rfl rfl ⟨Nat.le_of_ble_eq_true rfl, Nat.le_of_ble_eq_true rfl⟩ rfl rfl (Nat.le_of_ble_eq_true rfl) dL_law_536 (fun r1 f2 h1 => ?_)
  refine l_aload_n C dL_law_539 rfl 2 rfl ?_
  refine l_aload_n C dL_law_540 rfl 0 rfl ?_
  refine l_iload_n C dL_law_541 rfl 3 rfl ?_
  refine l_iconst C 1 dL_law_542 (by decide) ?_
  refine l_iadd C dL_law_543 ?_
  refine l_sld C hin1 dL_law_544 ?_
  refine l_callMi C (c_X12_explains l D cy adM (aM adM) E C.2.2.1.2.1 (wEok_narrow C.2.2.2.1 C.2.2.1.2.2.2.1) _ _ _ h1) mM_L_71 uV_X12_explains rfl rfl ⟨Nat.le_of_ble_eq_true rfl, Nat.le_of_ble_eq_true rfl⟩ rfl rfl (Nat.le_of_ble_eq_true rfl) dL_law_545 (fun r2 x2 h2 => ?_)
  obtain ⟨er, hI⟩ := h2
  refine l_icmp_eq C 1129 dL_law_548 (by decide) (fun _ => ?_) (fun h9 => absurd er h9)
  exact hk _ _ hI
set_option maxHeartbeats 4000000 in
set_option maxRecDepth 100000 in
theorem law_13 {p : Program} {l : Launch} {e : Env} {s : State} {m : MethodId} {below : List Frame} {meth : Method} {c : Code} {b L : Nat} {xs : Nat → Int32} {D : va_G} {cy : Nat → ClassId} {adF adM : Nat → Nat} {A : Nat → Prop} {E : State → Prop} (C : lC p m c s b L xs D cy adF adM A E) {Inv : St → St → Prop} {f x : St} (i : Int32) (hin1 : vp_in (i + 1) L) (hin2 : vp_in (i + 2) L) (hin3 : vp_in (i + 3) L) (hin4 : vp_in (i + 4) L) (hin5 : vp_in (i + 5) L) (hst : wp_X11_likeliest (fun r f2 => wp_X12_likeliest (fun r2 x2 => r = r2 ∧ Inv f2 x2) x) f) (hk : ∀ f2 x2, Inv f2 x2 → wL p l e s m below meth c b D cy adF adM A 1129 f2 x2 [(0, .ref b), (1, .ref (adF 0)), (2, .ref (adM 0)), (3, .int i)] []) : wL p l e s m below meth c b D cy adF adM A 553 f x [(0, .ref b), (1, .ref (adF 0)), (2, .ref (adM 0)), (3, .int i)] [] := by
  refine l_aload_n C dL_law_553 rfl 1 rfl ?_
  refine l_callFi C (c_X11_likeliest l D cy adF (aF adF) E C.2.2.1.1 (wEok_narrow C.2.2.2.1 C.2.2.1.2.2.1) _  _ hst) mM_L_72 uV_X11_likeliest rfl rfl ⟨Nat.le_of_ble_eq_true rfl, Nat.le_of_ble_eq_true rfl⟩ rfl rfl (Nat.le_of_ble_eq_true rfl) dL_law_554 (fun r1 f2 h1 => ?_)
  refine l_aload_n C dL_law_557 rfl 2 rfl ?_
  refine l_callMi C (c_X12_likeliest l D cy adM (aM adM) E C.2.2.1.2.1 (wEok_narrow C.2.2.2.1 C.2.2.1.2.2.2.1) _  _ h1) mM_L_75 uV_X12_likeliest rfl rfl ⟨Nat.le_of_ble_eq_true rfl, Nat.le_of_ble_eq_true rfl⟩ rfl rfl (Nat.le_of_ble_eq_true rfl) dL_law_558 (fun r2 x2 h2 => ?_)
  obtain ⟨er, hI⟩ := h2
  refine l_icmp_eq C 1129 dL_law_561 (by decide) (fun _ => ?_) (fun h9 => absurd er h9)
  exact hk _ _ hI
set_option maxHeartbeats 4000000 in
set_option maxRecDepth 100000 in
theorem law_14 {p : Program} {l : Launch} {e : Env} {s : State} {m : MethodId} {below : List Frame} {meth : Method} {c : Code} {b L : Nat} {xs : Nat → Int32} {D : va_G} {cy : Nat → ClassId} {adF adM : Nat → Nat} {A : Nat → Prop} {E : State → Prop} (C : lC p m c s b L xs D cy adF adM A E) {Inv : St → St → Prop} {f x : St} (i : Int32) (hin1 : vp_in (i + 1) L) (hin2 : vp_in (i + 2) L) (hin3 : vp_in (i + 3) L) (hin4 : vp_in (i + 4) L) (hin5 : vp_in (i + 5) L) (hst : ∀ (a1 : Int32), wp_X11_weight (fun r f2 => wp_X12_weight (fun r2 x2 => r = r2 ∧ Inv f2 x2) a1 x) a1 f) (hk : ∀ f2 x2, Inv f2 x2 → wL p l e s m below meth c b D cy adF adM A 1129 f2 x2 [(0, .ref b), (1, .ref (adF 0)), (2, .ref (adM 0)), (3, .int i)] []) : wL p l e s m below meth c b D cy adF adM A 566 f x [(0, .ref b), (1, .ref (adF 0)), (2, .ref (adM 0)), (3, .int i)] [] := by
  refine l_aload_n C dL_law_566 rfl 1 rfl ?_
  refine l_aload_n C dL_law_567 rfl 0 rfl ?_
  refine l_iload_n C dL_law_568 rfl 3 rfl ?_
  refine l_iconst C 1 dL_law_569 (by decide) ?_
  refine l_iadd C dL_law_570 ?_
  refine l_sld C hin1 dL_law_571 ?_
  refine l_callFl C (c_X11_weight l D cy adF (aF adF) E C.2.2.1.1 (wEok_narrow C.2.2.2.1 C.2.2.1.2.2.1) _ _ _ (hst (xs (i + 1).toNatClampNeg))) mM_L_76 uV_X11_weight rfl rfl ⟨Nat.le_of_ble_eq_true rfl, Nat.le_of_ble_eq_true rfl⟩ rfl rfl (Nat.le_of_ble_eq_true rfl) dL_law_572 (fun r1 f2 h1 => ?_)
  refine l_aload_n C dL_law_575 rfl 2 rfl ?_
  refine l_aload_n C dL_law_576 rfl 0 rfl ?_
  refine l_iload_n C dL_law_577 rfl 3 rfl ?_
  refine l_iconst C 1 dL_law_578 (by decide) ?_
  refine l_iadd C dL_law_579 ?_
  refine l_sld C hin1 dL_law_580 ?_
  refine l_callMl C (c_X12_weight l D cy adM (aM adM) E C.2.2.1.2.1 (wEok_narrow C.2.2.2.1 C.2.2.1.2.2.2.1) _ _ _ h1) mM_L_80 uV_X12_weight rfl rfl ⟨Nat.le_of_ble_eq_true rfl, Nat.le_of_ble_eq_true rfl⟩ rfl rfl (Nat.le_of_ble_eq_true rfl) dL_law_581 (fun r2 x2 h2 => ?_)
  obtain ⟨er, hI⟩ := h2
  refine l_lcmp C dL_law_584 ?_
  refine l_if_eq C 1129 dL_law_585 (by decide) (fun _ => ?_) (fun h9 => absurd (by rw [er]; exact lg_cmp_self _) h9)
  exact hk _ _ hI
set_option maxHeartbeats 4000000 in
set_option maxRecDepth 100000 in
theorem law_15 {p : Program} {l : Launch} {e : Env} {s : State} {m : MethodId} {below : List Frame} {meth : Method} {c : Code} {b L : Nat} {xs : Nat → Int32} {D : va_G} {cy : Nat → ClassId} {adF adM : Nat → Nat} {A : Nat → Prop} {E : State → Prop} (C : lC p m c s b L xs D cy adF adM A E) {Inv : St → St → Prop} {f x : St} (i : Int32) (hin1 : vp_in (i + 1) L) (hin2 : vp_in (i + 2) L) (hin3 : vp_in (i + 3) L) (hin4 : vp_in (i + 4) L) (hin5 : vp_in (i + 5) L) (hst : ∀ (a1 : Int32), wp_X11_cheapest (fun r f2 => wp_X12_cheapest (fun r2 x2 => r = r2 ∧ Inv f2 x2) a1 x) a1 f) (hk : ∀ f2 x2, Inv f2 x2 → wL p l e s m below meth c b D cy adF adM A 1129 f2 x2 [(0, .ref b), (1, .ref (adF 0)), (2, .ref (adM 0)), (3, .int i)] []) : wL p l e s m below meth c b D cy adF adM A 590 f x [(0, .ref b), (1, .ref (adF 0)), (2, .ref (adM 0)), (3, .int i)] [] := by
  refine l_aload_n C dL_law_590 rfl 1 rfl ?_
  refine l_aload_n C dL_law_591 rfl 0 rfl ?_
  refine l_iload_n C dL_law_592 rfl 3 rfl ?_
  refine l_iconst C 1 dL_law_593 (by decide) ?_
  refine l_iadd C dL_law_594 ?_
  refine l_sld C hin1 dL_law_595 ?_
  refine l_callFi C (c_X11_cheapest l D cy adF (aF adF) E C.2.2.1.1 (wEok_narrow C.2.2.2.1 C.2.2.1.2.2.1) _ _ _ (hst (xs (i + 1).toNatClampNeg))) mM_L_81 uV_X11_cheapest rfl rfl ⟨Nat.le_of_ble_eq_true rfl, Nat.le_of_ble_eq_true rfl⟩ rfl rfl (Nat.le_of_ble_eq_true rfl) dL_law_596 (fun r1 f2 h1 => ?_)
  refine l_aload_n C dL_law_599 rfl 2 rfl ?_
  refine l_aload_n C dL_law_600 rfl 0 rfl ?_
  refine l_iload_n C dL_law_601 rfl 3 rfl ?_
  refine l_iconst C 1 dL_law_602 (by decide) ?_
  refine l_iadd C dL_law_603 ?_
  refine l_sld C hin1 dL_law_604 ?_
  refine l_callMi C (c_X12_cheapest l D cy adM (aM adM) E C.2.2.1.2.1 (wEok_narrow C.2.2.2.1 C.2.2.1.2.2.2.1) _ _ _ h1) mM_L_84 uV_X12_cheapest rfl rfl ⟨Nat.le_of_ble_eq_true rfl, Nat.le_of_ble_eq_true rfl⟩ rfl rfl (Nat.le_of_ble_eq_true rfl) dL_law_605 (fun r2 x2 h2 => ?_)
  obtain ⟨er, hI⟩ := h2
  refine l_icmp_eq C 1129 dL_law_608 (by decide) (fun _ => ?_) (fun h9 => absurd er h9)
  exact hk _ _ hI
set_option maxHeartbeats 4000000 in
set_option maxRecDepth 100000 in
theorem law_16 {p : Program} {l : Launch} {e : Env} {s : State} {m : MethodId} {below : List Frame} {meth : Method} {c : Code} {b L : Nat} {xs : Nat → Int32} {D : va_G} {cy : Nat → ClassId} {adF adM : Nat → Nat} {A : Nat → Prop} {E : State → Prop} (C : lC p m c s b L xs D cy adF adM A E) {Inv : St → St → Prop} {f x : St} (i : Int32) (hin1 : vp_in (i + 1) L) (hin2 : vp_in (i + 2) L) (hin3 : vp_in (i + 3) L) (hin4 : vp_in (i + 4) L) (hin5 : vp_in (i + 5) L) (hst : ∀ (a1 : Int32), wp_X11_disbelieved (fun r f2 => wp_X12_disbelieved (fun r2 x2 => r = r2 ∧ Inv f2 x2) a1 x) a1 f) (hk : ∀ f2 x2, Inv f2 x2 → wL p l e s m below meth c b D cy adF adM A 1129 f2 x2 [(0, .ref b), (1, .ref (adF 0)), (2, .ref (adM 0)), (3, .int i)] []) : wL p l e s m below meth c b D cy adF adM A 613 f x [(0, .ref b), (1, .ref (adF 0)), (2, .ref (adM 0)), (3, .int i)] [] := by
  refine l_aload_n C dL_law_613 rfl 1 rfl ?_
  refine l_aload_n C dL_law_614 rfl 0 rfl ?_
  refine l_iload_n C dL_law_615 rfl 3 rfl ?_
  refine l_iconst C 1 dL_law_616 (by decide) ?_
  refine l_iadd C dL_law_617 ?_
  refine l_sld C hin1 dL_law_618 ?_
  refine l_callFi C (c_X11_disbelieved l D cy adF (aF adF) E C.2.2.1.1 (wEok_narrow C.2.2.2.1 C.2.2.1.2.2.1) _ _ _ (hst (xs (i + 1).toNatClampNeg))) mM_L_85 uV_X11_disbelieved rfl rfl ⟨Nat.le_of_ble_eq_true rfl, Nat.le_of_ble_eq_true rfl⟩ rfl rfl (Nat.le_of_ble_eq_true rfl) dL_law_619 (fun r1 f2 h1 => ?_)
  refine l_aload_n C dL_law_622 rfl 2 rfl ?_
  refine l_aload_n C dL_law_623 rfl 0 rfl ?_
  refine l_iload_n C dL_law_624 rfl 3 rfl ?_
  refine l_iconst C 1 dL_law_625 (by decide) ?_
  refine l_iadd C dL_law_626 ?_
  refine l_sld C hin1 dL_law_627 ?_
  refine l_callMi C (c_X12_disbelieved l D cy adM (aM adM) E C.2.2.1.2.1 (wEok_narrow C.2.2.2.1 C.2.2.1.2.2.2.1) _ _ _ h1) mM_L_88 uV_X12_disbelieved rfl rfl ⟨Nat.le_of_ble_eq_true rfl, Nat.le_of_ble_eq_true rfl⟩ rfl rfl (Nat.le_of_ble_eq_true rfl) dL_law_628 (fun r2 x2 h2 => ?_)
  obtain ⟨er, hI⟩ := h2
  refine l_icmp_eq C 1129 dL_law_631 (by decide) (fun _ => ?_) (fun h9 => absurd er h9)
  exact hk _ _ hI
set_option maxHeartbeats 4000000 in
set_option maxRecDepth 100000 in
theorem law_17 {p : Program} {l : Launch} {e : Env} {s : State} {m : MethodId} {below : List Frame} {meth : Method} {c : Code} {b L : Nat} {xs : Nat → Int32} {D : va_G} {cy : Nat → ClassId} {adF adM : Nat → Nat} {A : Nat → Prop} {E : State → Prop} (C : lC p m c s b L xs D cy adF adM A E) {Inv : St → St → Prop} {f x : St} (i : Int32) (hin1 : vp_in (i + 1) L) (hin2 : vp_in (i + 2) L) (hin3 : vp_in (i + 3) L) (hin4 : vp_in (i + 4) L) (hin5 : vp_in (i + 5) L) (hst : ∀ (a1 : Int32), wp_X11_blamed (fun r f2 => wp_X12_blamed (fun r2 x2 => r = r2 ∧ Inv f2 x2) a1 x) a1 f) (hk : ∀ f2 x2, Inv f2 x2 → wL p l e s m below meth c b D cy adF adM A 1129 f2 x2 [(0, .ref b), (1, .ref (adF 0)), (2, .ref (adM 0)), (3, .int i)] []) : wL p l e s m below meth c b D cy adF adM A 636 f x [(0, .ref b), (1, .ref (adF 0)), (2, .ref (adM 0)), (3, .int i)] [] := by
  refine l_aload_n C dL_law_636 rfl 1 rfl ?_
  refine l_aload_n C dL_law_637 rfl 0 rfl ?_
  refine l_iload_n C dL_law_638 rfl 3 rfl ?_
  refine l_iconst C 1 dL_law_639 (by decide) ?_
  refine l_iadd C dL_law_640 ?_
  refine l_sld C hin1 dL_law_641 ?_
  refine l_callFi C (c_X11_blamed l D cy adF (aF adF) E C.2.2.1.1 (wEok_narrow C.2.2.2.1 C.2.2.1.2.2.1) _ _ _ (hst (xs (i + 1).toNatClampNeg))) mM_L_89 uV_X11_blamed rfl rfl ⟨Nat.le_of_ble_eq_true rfl, Nat.le_of_ble_eq_true rfl⟩ rfl rfl (Nat.le_of_ble_eq_true rfl) dL_law_642 (fun r1 f2 h1 => ?_)
  refine l_aload_n C dL_law_645 rfl 2 rfl ?_
  refine l_aload_n C dL_law_646 rfl 0 rfl ?_
  refine l_iload_n C dL_law_647 rfl 3 rfl ?_
  refine l_iconst C 1 dL_law_648 (by decide) ?_
  refine l_iadd C dL_law_649 ?_
  refine l_sld C hin1 dL_law_650 ?_
  refine l_callMi C (c_X12_blamed l D cy adM (aM adM) E C.2.2.1.2.1 (wEok_narrow C.2.2.2.1 C.2.2.1.2.2.2.1) _ _ _ h1) mM_L_92 uV_X12_blamed rfl rfl ⟨Nat.le_of_ble_eq_true rfl, Nat.le_of_ble_eq_true rfl⟩ rfl rfl (Nat.le_of_ble_eq_true rfl) dL_law_651 (fun r2 x2 h2 => ?_)
  obtain ⟨er, hI⟩ := h2
  refine l_icmp_eq C 1129 dL_law_654 (by decide) (fun _ => ?_) (fun h9 => absurd er h9)
  exact hk _ _ hI
set_option maxHeartbeats 4000000 in
set_option maxRecDepth 100000 in
theorem law_18 {p : Program} {l : Launch} {e : Env} {s : State} {m : MethodId} {below : List Frame} {meth : Method} {c : Code} {b L : Nat} {xs : Nat → Int32} {D : va_G} {cy : Nat → ClassId} {adF adM : Nat → Nat} {A : Nat → Prop} {E : State → Prop} (C : lC p m c s b L xs D cy adF adM A E) {Inv : St → St → Prop} {f x : St} (i : Int32) (hin1 : vp_in (i + 1) L) (hin2 : vp_in (i + 2) L) (hin3 : vp_in (i + 3) L) (hin4 : vp_in (i + 4) L) (hin5 : vp_in (i + 5) L) (hst : wp_X11_level (fun r f2 => wp_X12_level (fun r2 x2 => r = r2 ∧ Inv f2 x2) x) f) (hk : ∀ f2 x2, Inv f2 x2 → wL p l e s m below meth c b D cy adF adM A 1129 f2 x2 [(0, .ref b), (1, .ref (adF 0)), (2, .ref (adM 0)), (3, .int i)] []) : wL p l e s m below meth c b D cy adF adM A 659 f x [(0, .ref b), (1, .ref (adF 0)), (2, .ref (adM 0)), (3, .int i)] [] := by
  refine l_aload_n C dL_law_659 rfl 1 rfl ?_
  refine l_callFi C (c_X11_level l D cy adF (aF adF) E C.2.2.1.1 (wEok_narrow C.2.2.2.1 C.2.2.1.2.2.1) _  _ hst) mM_L_93 uV_X11_level rfl rfl ⟨Nat.le_of_ble_eq_true rfl, Nat.le_of_ble_eq_true rfl⟩ rfl rfl (Nat.le_of_ble_eq_true rfl) dL_law_660 (fun r1 f2 h1 => ?_)
  refine l_aload_n C dL_law_663 rfl 2 rfl ?_
  refine l_callMi C (c_X12_level l D cy adM (aM adM) E C.2.2.1.2.1 (wEok_narrow C.2.2.2.1 C.2.2.1.2.2.2.1) _  _ h1) mM_L_96 uV_X12_level rfl rfl ⟨Nat.le_of_ble_eq_true rfl, Nat.le_of_ble_eq_true rfl⟩ rfl rfl (Nat.le_of_ble_eq_true rfl) dL_law_664 (fun r2 x2 h2 => ?_)
  obtain ⟨er, hI⟩ := h2
  refine l_icmp_eq C 1129 dL_law_667 (by decide) (fun _ => ?_) (fun h9 => absurd er h9)
  exact hk _ _ hI
set_option maxHeartbeats 4000000 in
set_option maxRecDepth 100000 in
theorem law_19 {p : Program} {l : Launch} {e : Env} {s : State} {m : MethodId} {below : List Frame} {meth : Method} {c : Code} {b L : Nat} {xs : Nat → Int32} {D : va_G} {cy : Nat → ClassId} {adF adM : Nat → Nat} {A : Nat → Prop} {E : State → Prop} (C : lC p m c s b L xs D cy adF adM A E) {Inv : St → St → Prop} {f x : St} (i : Int32) (hin1 : vp_in (i + 1) L) (hin2 : vp_in (i + 2) L) (hin3 : vp_in (i + 3) L) (hin4 : vp_in (i + 4) L) (hin5 : vp_in (i + 5) L) (hst : ∀ (a1 : Int32), wp_X11_twin (fun r f2 => wp_X12_twin (fun r2 x2 => r = r2 ∧ Inv f2 x2) a1 x) a1 f) (hk : ∀ f2 x2, Inv f2 x2 → wL p l e s m below meth c b D cy adF adM A 1129 f2 x2 [(0, .ref b), (1, .ref (adF 0)), (2, .ref (adM 0)), (3, .int i)] []) : wL p l e s m below meth c b D cy adF adM A 672 f x [(0, .ref b), (1, .ref (adF 0)), (2, .ref (adM 0)), (3, .int i)] [] := by
  refine l_aload_n C dL_law_672 rfl 1 rfl ?_
  refine l_aload_n C dL_law_673 rfl 0 rfl ?_
  refine l_iload_n C dL_law_674 rfl 3 rfl ?_
  refine l_iconst C 1 dL_law_675 (by decide) ?_
  refine l_iadd C dL_law_676 ?_
  refine l_sld C hin1 dL_law_677 ?_
  refine l_callFi C (c_X11_twin l D cy adF (aF adF) E C.2.2.1.1 (wEok_narrow C.2.2.2.1 C.2.2.1.2.2.1) _ _ _ (hst (xs (i + 1).toNatClampNeg))) mM_L_97 uV_X11_twin rfl rfl ⟨Nat.le_of_ble_eq_true rfl, Nat.le_of_ble_eq_true rfl⟩ rfl rfl (Nat.le_of_ble_eq_true rfl) dL_law_678 (fun r1 f2 h1 => ?_)
  refine l_aload_n C dL_law_681 rfl 2 rfl ?_
  refine l_aload_n C dL_law_682 rfl 0 rfl ?_
  refine l_iload_n C dL_law_683 rfl 3 rfl ?_
  refine l_iconst C 1 dL_law_684 (by decide) ?_
  refine l_iadd C dL_law_685 ?_
  refine l_sld C hin1 dL_law_686 ?_
  refine l_callMi C (c_X12_twin l D cy adM (aM adM) E C.2.2.1.2.1 (wEok_narrow C.2.2.2.1 C.2.2.1.2.2.2.1) _ _ _ h1) mM_L_100 uV_X12_twin rfl rfl ⟨Nat.le_of_ble_eq_true rfl, Nat.le_of_ble_eq_true rfl⟩ rfl rfl (Nat.le_of_ble_eq_true rfl) dL_law_687 (fun r2 x2 h2 => ?_)
  obtain ⟨er, hI⟩ := h2
  refine l_icmp_eq C 1129 dL_law_690 (by decide) (fun _ => ?_) (fun h9 => absurd er h9)
  exact hk _ _ hI
set_option maxHeartbeats 4000000 in
set_option maxRecDepth 100000 in
theorem law_20 {p : Program} {l : Launch} {e : Env} {s : State} {m : MethodId} {below : List Frame} {meth : Method} {c : Code} {b L : Nat} {xs : Nat → Int32} {D : va_G} {cy : Nat → ClassId} {adF adM : Nat → Nat} {A : Nat → Prop} {E : State → Prop} (C : lC p m c s b L xs D cy adF adM A E) {Inv : St → St → Prop} {f x : St} (i : Int32) (hin1 : vp_in (i + 1) L) (hin2 : vp_in (i + 2) L) (hin3 : vp_in (i + 3) L) (hin4 : vp_in (i + 4) L) (hin5 : vp_in (i + 5) L) (hst : ∀ (a1 : Int32), wp_X11_trace (fun r f2 => wp_X12_trace (fun r2 x2 => r = r2 ∧ Inv f2 x2) a1 x) a1 f) (hk : ∀ f2 x2, Inv f2 x2 → wL p l e s m below meth c b D cy adF adM A 1129 f2 x2 [(0, .ref b), (1, .ref (adF 0)), (2, .ref (adM 0)), (3, .int i)] []) : wL p l e s m below meth c b D cy adF adM A 695 f x [(0, .ref b), (1, .ref (adF 0)), (2, .ref (adM 0)), (3, .int i)] [] := by
  refine l_aload_n C dL_law_695 rfl 1 rfl ?_
  refine l_aload_n C dL_law_696 rfl 0 rfl ?_
  refine l_iload_n C dL_law_697 rfl 3 rfl ?_
  refine l_iconst C 1 dL_law_698 (by decide) ?_
  refine l_iadd C dL_law_699 ?_
  refine l_sld C hin1 dL_law_700 ?_
  refine l_callFi C (c_X11_trace l D cy adF (aF adF) E C.2.2.1.1 (wEok_narrow C.2.2.2.1 C.2.2.1.2.2.1) _ _ _ (hst (xs (i + 1).toNatClampNeg))) mM_L_101 uV_X11_trace rfl rfl ⟨Nat.le_of_ble_eq_true rfl, Nat.le_of_ble_eq_true rfl⟩ rfl rfl (Nat.le_of_ble_eq_true rfl) dL_law_701 (fun r1 f2 h1 => ?_)
  refine l_aload_n C dL_law_704 rfl 2 rfl ?_
  refine l_aload_n C dL_law_705 rfl 0 rfl ?_
  refine l_iload_n C dL_law_706 rfl 3 rfl ?_
  refine l_iconst C 1 dL_law_707 (by decide) ?_
  refine l_iadd C dL_law_708 ?_
  refine l_sld C hin1 dL_law_709 ?_
  refine l_callMi C (c_X12_trace l D cy adM (aM adM) E C.2.2.1.2.1 (wEok_narrow C.2.2.2.1 C.2.2.1.2.2.2.1) _ _ _ h1) mM_L_104 uV_X12_trace rfl rfl ⟨Nat.le_of_ble_eq_true rfl, Nat.le_of_ble_eq_true rfl⟩ rfl rfl (Nat.le_of_ble_eq_true rfl) dL_law_710 (fun r2 x2 h2 => ?_)
  obtain ⟨er, hI⟩ := h2
  refine l_icmp_eq C 1129 dL_law_713 (by decide) (fun _ => ?_) (fun h9 => absurd er h9)
  exact hk _ _ hI
set_option maxHeartbeats 4000000 in
set_option maxRecDepth 100000 in
theorem law_21 {p : Program} {l : Launch} {e : Env} {s : State} {m : MethodId} {below : List Frame} {meth : Method} {c : Code} {b L : Nat} {xs : Nat → Int32} {D : va_G} {cy : Nat → ClassId} {adF adM : Nat → Nat} {A : Nat → Prop} {E : State → Prop} (C : lC p m c s b L xs D cy adF adM A E) {Inv : St → St → Prop} {f x : St} (i : Int32) (hin1 : vp_in (i + 1) L) (hin2 : vp_in (i + 2) L) (hin3 : vp_in (i + 3) L) (hin4 : vp_in (i + 4) L) (hin5 : vp_in (i + 5) L) (hst : ∀ (a1 a2 : Int32), wp_X11_choice (fun r f2 => wp_X12_choice (fun r2 x2 => r = r2 ∧ Inv f2 x2) a1 a2 x) a1 a2 f) (hk : ∀ f2 x2, Inv f2 x2 → wL p l e s m below meth c b D cy adF adM A 1129 f2 x2 [(0, .ref b), (1, .ref (adF 0)), (2, .ref (adM 0)), (3, .int i)] []) : wL p l e s m below meth c b D cy adF adM A 718 f x [(0, .ref b), (1, .ref (adF 0)), (2, .ref (adM 0)), (3, .int i)] [] := by
  refine l_aload_n C dL_law_718 rfl 1 rfl ?_
  refine l_aload_n C dL_law_719 rfl 0 rfl ?_
  refine l_iload_n C dL_law_720 rfl 3 rfl ?_
  refine l_iconst C 1 dL_law_721 (by decide) ?_
  refine l_iadd C dL_law_722 ?_
  refine l_sld C hin1 dL_law_723 ?_
  refine l_aload_n C dL_law_724 rfl 0 rfl ?_
  refine l_iload_n C dL_law_725 rfl 3 rfl ?_
  refine l_iconst C 2 dL_law_726 (by decide) ?_
  refine l_iadd C dL_law_727 ?_
  refine l_sld C hin2 dL_law_728 ?_
  refine l_callFi C (c_X11_choice l D cy adF (aF adF) E C.2.2.1.1 (wEok_narrow C.2.2.2.1 C.2.2.1.2.2.1) _ _ _ _ (hst (xs (i + 1).toNatClampNeg) (xs (i + 2).toNatClampNeg))) mM_L_105 uV_X11_choice rfl rfl ⟨Nat.le_of_ble_eq_true rfl, Nat.le_of_ble_eq_true rfl⟩ rfl rfl (Nat.le_of_ble_eq_true rfl) dL_law_729 (fun r1 f2 h1 => ?_)
  refine l_aload_n C dL_law_732 rfl 2 rfl ?_
  refine l_aload_n C dL_law_733 rfl 0 rfl ?_
  refine l_iload_n C dL_law_734 rfl 3 rfl ?_
  refine l_iconst C 1 dL_law_735 (by decide) ?_
  refine l_iadd C dL_law_736 ?_
  refine l_sld C hin1 dL_law_737 ?_
  refine l_aload_n C dL_law_738 rfl 0 rfl ?_
  refine l_iload_n C dL_law_739 rfl 3 rfl ?_
  refine l_iconst C 2 dL_law_740 (by decide) ?_
  refine l_iadd C dL_law_741 ?_
  refine l_sld C hin2 dL_law_742 ?_
  refine l_callMi C (c_X12_choice l D cy adM (aM adM) E C.2.2.1.2.1 (wEok_narrow C.2.2.2.1 C.2.2.1.2.2.2.1) _ _ _ _ h1) mM_L_108 uV_X12_choice rfl rfl ⟨Nat.le_of_ble_eq_true rfl, Nat.le_of_ble_eq_true rfl⟩ rfl rfl (Nat.le_of_ble_eq_true rfl) dL_law_743 (fun r2 x2 h2 => ?_)
  obtain ⟨er, hI⟩ := h2
  refine l_icmp_eq C 1129 dL_law_746 (by decide) (fun _ => ?_) (fun h9 => absurd er h9)
  exact hk _ _ hI
set_option maxHeartbeats 4000000 in
set_option maxRecDepth 100000 in
theorem law_22 {p : Program} {l : Launch} {e : Env} {s : State} {m : MethodId} {below : List Frame} {meth : Method} {c : Code} {b L : Nat} {xs : Nat → Int32} {D : va_G} {cy : Nat → ClassId} {adF adM : Nat → Nat} {A : Nat → Prop} {E : State → Prop} (C : lC p m c s b L xs D cy adF adM A E) {Inv : St → St → Prop} {f x : St} (i : Int32) (hin1 : vp_in (i + 1) L) (hin2 : vp_in (i + 2) L) (hin3 : vp_in (i + 3) L) (hin4 : vp_in (i + 4) L) (hin5 : vp_in (i + 5) L) (hst : ∀ (a1 a2 : Int32), wp_X11_after (fun r f2 => wp_X12_after (fun r2 x2 => r = r2 ∧ Inv f2 x2) a1 a2 x) a1 a2 f) (hk : ∀ f2 x2, Inv f2 x2 → wL p l e s m below meth c b D cy adF adM A 1129 f2 x2 [(0, .ref b), (1, .ref (adF 0)), (2, .ref (adM 0)), (3, .int i)] []) : wL p l e s m below meth c b D cy adF adM A 751 f x [(0, .ref b), (1, .ref (adF 0)), (2, .ref (adM 0)), (3, .int i)] [] := by
  refine l_aload_n C dL_law_751 rfl 1 rfl ?_
  refine l_aload_n C dL_law_752 rfl 0 rfl ?_
  refine l_iload_n C dL_law_753 rfl 3 rfl ?_
  refine l_iconst C 1 dL_law_754 (by decide) ?_
  refine l_iadd C dL_law_755 ?_
  refine l_sld C hin1 dL_law_756 ?_
  refine l_aload_n C dL_law_757 rfl 0 rfl ?_
  refine l_iload_n C dL_law_758 rfl 3 rfl ?_
  refine l_iconst C 2 dL_law_759 (by decide) ?_
  refine l_iadd C dL_law_760 ?_
  refine l_sld C hin2 dL_law_761 ?_
  refine l_if_eq C 769 dL_law_762 (by decide) (fun hz2 => ?_) (fun hz2 => ?_)
  ·
    refine l_iconst C 0 dL_law_769 (by decide) ?_
    refine l_callFi C (c_X11_after l D cy adF (aF adF) E C.2.2.1.1 (wEok_narrow C.2.2.2.1 C.2.2.1.2.2.1) _ _ _ _ (hst (xs (i + 1).toNatClampNeg) 0)) mM_L_109 uV_X11_after rfl rfl ⟨Nat.le_of_ble_eq_true rfl, Nat.le_of_ble_eq_true rfl⟩ rfl rfl (Nat.le_of_ble_eq_true rfl) dL_law_770 (fun r1 f2 h1 => ?_)
    refine l_aload_n C dL_law_773 rfl 2 rfl ?_
    refine l_aload_n C dL_law_774 rfl 0 rfl ?_
    refine l_iload_n C dL_law_775 rfl 3 rfl ?_
    refine l_iconst C 1 dL_law_776 (by decide) ?_
    refine l_iadd C dL_law_777 ?_
    refine l_sld C hin1 dL_law_778 ?_
    refine l_aload_n C dL_law_779 rfl 0 rfl ?_
    refine l_iload_n C dL_law_780 rfl 3 rfl ?_
    refine l_iconst C 2 dL_law_781 (by decide) ?_
    refine l_iadd C dL_law_782 ?_
    refine l_sld C hin2 dL_law_783 ?_
    refine l_if_eq C 791 dL_law_784 (by decide) (fun _ => ?_) (fun h9 => absurd hz2 h9)
    refine l_iconst C 0 dL_law_791 (by decide) ?_
    refine l_callMi C (c_X12_after l D cy adM (aM adM) E C.2.2.1.2.1 (wEok_narrow C.2.2.2.1 C.2.2.1.2.2.2.1) _ _ _ _ h1) mM_L_113 uV_X12_after rfl rfl ⟨Nat.le_of_ble_eq_true rfl, Nat.le_of_ble_eq_true rfl⟩ rfl rfl (Nat.le_of_ble_eq_true rfl) dL_law_792 (fun r2 x2 h2 => ?_)
    obtain ⟨er, hI⟩ := h2
    refine l_icmp_eq C 1129 dL_law_795 (by decide) (fun _ => ?_) (fun h9 => absurd er h9)
    exact hk _ _ hI
  ·
    refine l_iconst C 1 dL_law_765 (by decide) ?_
    refine l_goto C 770 dL_law_766 (by decide) ?_
    refine l_callFi C (c_X11_after l D cy adF (aF adF) E C.2.2.1.1 (wEok_narrow C.2.2.2.1 C.2.2.1.2.2.1) _ _ _ _ (hst (xs (i + 1).toNatClampNeg) 1)) mM_L_109 uV_X11_after rfl rfl ⟨Nat.le_of_ble_eq_true rfl, Nat.le_of_ble_eq_true rfl⟩ rfl rfl (Nat.le_of_ble_eq_true rfl) dL_law_770 (fun r1 f2 h1 => ?_)
    refine l_aload_n C dL_law_773 rfl 2 rfl ?_
    refine l_aload_n C dL_law_774 rfl 0 rfl ?_
    refine l_iload_n C dL_law_775 rfl 3 rfl ?_
    refine l_iconst C 1 dL_law_776 (by decide) ?_
    refine l_iadd C dL_law_777 ?_
    refine l_sld C hin1 dL_law_778 ?_
    refine l_aload_n C dL_law_779 rfl 0 rfl ?_
    refine l_iload_n C dL_law_780 rfl 3 rfl ?_
    refine l_iconst C 2 dL_law_781 (by decide) ?_
    refine l_iadd C dL_law_782 ?_
    refine l_sld C hin2 dL_law_783 ?_
    refine l_if_eq C 791 dL_law_784 (by decide) (fun h9 => absurd h9 hz2) (fun _ => ?_)
    refine l_iconst C 1 dL_law_787 (by decide) ?_
    refine l_goto C 792 dL_law_788 (by decide) ?_
    refine l_callMi C (c_X12_after l D cy adM (aM adM) E C.2.2.1.2.1 (wEok_narrow C.2.2.2.1 C.2.2.1.2.2.2.1) _ _ _ _ h1) mM_L_113 uV_X12_after rfl rfl ⟨Nat.le_of_ble_eq_true rfl, Nat.le_of_ble_eq_true rfl⟩ rfl rfl (Nat.le_of_ble_eq_true rfl) dL_law_792 (fun r2 x2 h2 => ?_)
    obtain ⟨er, hI⟩ := h2
    refine l_icmp_eq C 1129 dL_law_795 (by decide) (fun _ => ?_) (fun h9 => absurd er h9)
    exact hk _ _ hI
set_option maxHeartbeats 4000000 in
set_option maxRecDepth 100000 in
theorem law_23 {p : Program} {l : Launch} {e : Env} {s : State} {m : MethodId} {below : List Frame} {meth : Method} {c : Code} {b L : Nat} {xs : Nat → Int32} {D : va_G} {cy : Nat → ClassId} {adF adM : Nat → Nat} {A : Nat → Prop} {E : State → Prop} (C : lC p m c s b L xs D cy adF adM A E) {Inv : St → St → Prop} {f x : St} (i : Int32) (hin1 : vp_in (i + 1) L) (hin2 : vp_in (i + 2) L) (hin3 : vp_in (i + 3) L) (hin4 : vp_in (i + 4) L) (hin5 : vp_in (i + 5) L) (hst : wp_X11_next (fun r f2 => wp_X12_next (fun r2 x2 => r = r2 ∧ Inv f2 x2) x) f) (hk : ∀ f2 x2, Inv f2 x2 → wL p l e s m below meth c b D cy adF adM A 1129 f2 x2 [(0, .ref b), (1, .ref (adF 0)), (2, .ref (adM 0)), (3, .int i)] []) : wL p l e s m below meth c b D cy adF adM A 800 f x [(0, .ref b), (1, .ref (adF 0)), (2, .ref (adM 0)), (3, .int i)] [] := by
  refine l_aload_n C dL_law_800 rfl 1 rfl ?_
  refine l_callFi C (c_X11_next l D cy adF (aF adF) E C.2.2.1.1 (wEok_narrow C.2.2.2.1 C.2.2.1.2.2.1) _  _ hst) mM_L_114 uV_X11_next rfl rfl ⟨Nat.le_of_ble_eq_true rfl, Nat.le_of_ble_eq_true rfl⟩ rfl rfl (Nat.le_of_ble_eq_true rfl) dL_law_801 (fun r1 f2 h1 => ?_)
  refine l_aload_n C dL_law_804 rfl 2 rfl ?_
  refine l_callMi C (c_X12_next l D cy adM (aM adM) E C.2.2.1.2.1 (wEok_narrow C.2.2.2.1 C.2.2.1.2.2.2.1) _  _ h1) mM_L_117 uV_X12_next rfl rfl ⟨Nat.le_of_ble_eq_true rfl, Nat.le_of_ble_eq_true rfl⟩ rfl rfl (Nat.le_of_ble_eq_true rfl) dL_law_805 (fun r2 x2 h2 => ?_)
  obtain ⟨er, hI⟩ := h2
  refine l_icmp_eq C 1129 dL_law_808 (by decide) (fun _ => ?_) (fun h9 => absurd er h9)
  exact hk _ _ hI
set_option maxHeartbeats 4000000 in
set_option maxRecDepth 100000 in
theorem law_24 {p : Program} {l : Launch} {e : Env} {s : State} {m : MethodId} {below : List Frame} {meth : Method} {c : Code} {b L : Nat} {xs : Nat → Int32} {D : va_G} {cy : Nat → ClassId} {adF adM : Nat → Nat} {A : Nat → Prop} {E : State → Prop} (C : lC p m c s b L xs D cy adF adM A E) {Inv : St → St → Prop} {f x : St} (i : Int32) (hin1 : vp_in (i + 1) L) (hin2 : vp_in (i + 2) L) (hin3 : vp_in (i + 3) L) (hin4 : vp_in (i + 4) L) (hin5 : vp_in (i + 5) L) (hst : ∀ (a1 : Int32), wp_X11_tries (fun r f2 => wp_X12_tries (fun r2 x2 => r = r2 ∧ Inv f2 x2) a1 x) a1 f) (hk : ∀ f2 x2, Inv f2 x2 → wL p l e s m below meth c b D cy adF adM A 1129 f2 x2 [(0, .ref b), (1, .ref (adF 0)), (2, .ref (adM 0)), (3, .int i)] []) : wL p l e s m below meth c b D cy adF adM A 813 f x [(0, .ref b), (1, .ref (adF 0)), (2, .ref (adM 0)), (3, .int i)] [] := by
  refine l_aload_n C dL_law_813 rfl 1 rfl ?_
  refine l_aload_n C dL_law_814 rfl 0 rfl ?_
  refine l_iload_n C dL_law_815 rfl 3 rfl ?_
  refine l_iconst C 1 dL_law_816 (by decide) ?_
  refine l_iadd C dL_law_817 ?_
  refine l_sld C hin1 dL_law_818 ?_
  refine l_if_eq C 826 dL_law_819 (by decide) (fun hz1 => ?_) (fun hz1 => ?_)
  ·
    refine l_iconst C 0 dL_law_826 (by decide) ?_
    refine l_callFi C (c_X11_tries l D cy adF (aF adF) E C.2.2.1.1 (wEok_narrow C.2.2.2.1 C.2.2.1.2.2.1) _ _ _ (hst 0)) mM_L_118 uV_X11_tries rfl rfl ⟨Nat.le_of_ble_eq_true rfl, Nat.le_of_ble_eq_true rfl⟩ rfl rfl (Nat.le_of_ble_eq_true rfl) dL_law_827 (fun r1 f2 h1 => ?_)
    refine l_aload_n C dL_law_830 rfl 2 rfl ?_
    refine l_aload_n C dL_law_831 rfl 0 rfl ?_
    refine l_iload_n C dL_law_832 rfl 3 rfl ?_
    refine l_iconst C 1 dL_law_833 (by decide) ?_
    refine l_iadd C dL_law_834 ?_
    refine l_sld C hin1 dL_law_835 ?_
    refine l_if_eq C 843 dL_law_836 (by decide) (fun _ => ?_) (fun h9 => absurd hz1 h9)
    refine l_iconst C 0 dL_law_843 (by decide) ?_
    refine l_callMi C (c_X12_tries l D cy adM (aM adM) E C.2.2.1.2.1 (wEok_narrow C.2.2.2.1 C.2.2.1.2.2.2.1) _ _ _ h1) mM_L_122 uV_X12_tries rfl rfl ⟨Nat.le_of_ble_eq_true rfl, Nat.le_of_ble_eq_true rfl⟩ rfl rfl (Nat.le_of_ble_eq_true rfl) dL_law_844 (fun r2 x2 h2 => ?_)
    obtain ⟨er, hI⟩ := h2
    refine l_icmp_eq C 1129 dL_law_847 (by decide) (fun _ => ?_) (fun h9 => absurd er h9)
    exact hk _ _ hI
  ·
    refine l_iconst C 1 dL_law_822 (by decide) ?_
    refine l_goto C 827 dL_law_823 (by decide) ?_
    refine l_callFi C (c_X11_tries l D cy adF (aF adF) E C.2.2.1.1 (wEok_narrow C.2.2.2.1 C.2.2.1.2.2.1) _ _ _ (hst 1)) mM_L_118 uV_X11_tries rfl rfl ⟨Nat.le_of_ble_eq_true rfl, Nat.le_of_ble_eq_true rfl⟩ rfl rfl (Nat.le_of_ble_eq_true rfl) dL_law_827 (fun r1 f2 h1 => ?_)
    refine l_aload_n C dL_law_830 rfl 2 rfl ?_
    refine l_aload_n C dL_law_831 rfl 0 rfl ?_
    refine l_iload_n C dL_law_832 rfl 3 rfl ?_
    refine l_iconst C 1 dL_law_833 (by decide) ?_
    refine l_iadd C dL_law_834 ?_
    refine l_sld C hin1 dL_law_835 ?_
    refine l_if_eq C 843 dL_law_836 (by decide) (fun h9 => absurd h9 hz1) (fun _ => ?_)
    refine l_iconst C 1 dL_law_839 (by decide) ?_
    refine l_goto C 844 dL_law_840 (by decide) ?_
    refine l_callMi C (c_X12_tries l D cy adM (aM adM) E C.2.2.1.2.1 (wEok_narrow C.2.2.2.1 C.2.2.1.2.2.2.1) _ _ _ h1) mM_L_122 uV_X12_tries rfl rfl ⟨Nat.le_of_ble_eq_true rfl, Nat.le_of_ble_eq_true rfl⟩ rfl rfl (Nat.le_of_ble_eq_true rfl) dL_law_844 (fun r2 x2 h2 => ?_)
    obtain ⟨er, hI⟩ := h2
    refine l_icmp_eq C 1129 dL_law_847 (by decide) (fun _ => ?_) (fun h9 => absurd er h9)
    exact hk _ _ hI
set_option maxHeartbeats 4000000 in
set_option maxRecDepth 100000 in
theorem law_25 {p : Program} {l : Launch} {e : Env} {s : State} {m : MethodId} {below : List Frame} {meth : Method} {c : Code} {b L : Nat} {xs : Nat → Int32} {D : va_G} {cy : Nat → ClassId} {adF adM : Nat → Nat} {A : Nat → Prop} {E : State → Prop} (C : lC p m c s b L xs D cy adF adM A E) {Inv : St → St → Prop} {f x : St} (i : Int32) (hin1 : vp_in (i + 1) L) (hin2 : vp_in (i + 2) L) (hin3 : vp_in (i + 3) L) (hin4 : vp_in (i + 4) L) (hin5 : vp_in (i + 5) L) (hst : ∀ (a1 a2 : Int32), wp_X11_plan (fun r f2 => wp_X12_plan (fun r2 x2 => r = r2 ∧ Inv f2 x2) a1 a2 x) a1 a2 f) (hk : ∀ f2 x2, Inv f2 x2 → wL p l e s m below meth c b D cy adF adM A 1129 f2 x2 [(0, .ref b), (1, .ref (adF 0)), (2, .ref (adM 0)), (3, .int i)] []) : wL p l e s m below meth c b D cy adF adM A 852 f x [(0, .ref b), (1, .ref (adF 0)), (2, .ref (adM 0)), (3, .int i)] [] := by
  refine l_aload_n C dL_law_852 rfl 1 rfl ?_
  refine l_aload_n C dL_law_853 rfl 0 rfl ?_
  refine l_iload_n C dL_law_854 rfl 3 rfl ?_
  refine l_iconst C 1 dL_law_855 (by decide) ?_
  refine l_iadd C dL_law_856 ?_
  refine l_sld C hin1 dL_law_857 ?_
  refine l_aload_n C dL_law_858 rfl 0 rfl ?_
  refine l_iload_n C dL_law_859 rfl 3 rfl ?_
  refine l_iconst C 2 dL_law_860 (by decide) ?_
  refine l_iadd C dL_law_861 ?_
  refine l_sld C hin2 dL_law_862 ?_
  refine l_callFi C (c_X11_plan l D cy adF (aF adF) E C.2.2.1.1 (wEok_narrow C.2.2.2.1 C.2.2.1.2.2.1) _ _ _ _ (hst (xs (i + 1).toNatClampNeg) (xs (i + 2).toNatClampNeg))) mM_L_123 uV_X11_plan rfl rfl ⟨Nat.le_of_ble_eq_true rfl, Nat.le_of_ble_eq_true rfl⟩ rfl rfl (Nat.le_of_ble_eq_true rfl) dL_law_863 (fun r1 f2 h1 => ?_)
  refine l_aload_n C dL_law_866 rfl 2 rfl ?_
  refine l_aload_n C dL_law_867 rfl 0 rfl ?_
  refine l_iload_n C dL_law_868 rfl 3 rfl ?_
  refine l_iconst C 1 dL_law_869 (by decide) ?_
  refine l_iadd C dL_law_870 ?_
  refine l_sld C hin1 dL_law_871 ?_
  refine l_aload_n C dL_law_872 rfl 0 rfl ?_
  refine l_iload_n C dL_law_873 rfl 3 rfl ?_
  refine l_iconst C 2 dL_law_874 (by decide) ?_
  refine l_iadd C dL_law_875 ?_
  refine l_sld C hin2 dL_law_876 ?_
  refine l_callMi C (c_X12_plan l D cy adM (aM adM) E C.2.2.1.2.1 (wEok_narrow C.2.2.2.1 C.2.2.1.2.2.2.1) _ _ _ _ h1) mM_L_126 uV_X12_plan rfl rfl ⟨Nat.le_of_ble_eq_true rfl, Nat.le_of_ble_eq_true rfl⟩ rfl rfl (Nat.le_of_ble_eq_true rfl) dL_law_877 (fun r2 x2 h2 => ?_)
  obtain ⟨er, hI⟩ := h2
  refine l_icmp_eq C 1129 dL_law_880 (by decide) (fun _ => ?_) (fun h9 => absurd er h9)
  exact hk _ _ hI
set_option maxHeartbeats 4000000 in
set_option maxRecDepth 100000 in
theorem law_26 {p : Program} {l : Launch} {e : Env} {s : State} {m : MethodId} {below : List Frame} {meth : Method} {c : Code} {b L : Nat} {xs : Nat → Int32} {D : va_G} {cy : Nat → ClassId} {adF adM : Nat → Nat} {A : Nat → Prop} {E : State → Prop} (C : lC p m c s b L xs D cy adF adM A E) {Inv : St → St → Prop} {f x : St} (i : Int32) (hin1 : vp_in (i + 1) L) (hin2 : vp_in (i + 2) L) (hin3 : vp_in (i + 3) L) (hin4 : vp_in (i + 4) L) (hin5 : vp_in (i + 5) L) (hst : ∀ (a1 a2 : Int32), wp_X11_guess (fun r f2 => wp_X12_guess (fun r2 x2 => r = r2 ∧ Inv f2 x2) a1 a2 x) a1 a2 f) (hk : ∀ f2 x2, Inv f2 x2 → wL p l e s m below meth c b D cy adF adM A 1129 f2 x2 [(0, .ref b), (1, .ref (adF 0)), (2, .ref (adM 0)), (3, .int i)] []) : wL p l e s m below meth c b D cy adF adM A 885 f x [(0, .ref b), (1, .ref (adF 0)), (2, .ref (adM 0)), (3, .int i)] [] := by
  refine l_aload_n C dL_law_885 rfl 1 rfl ?_
  refine l_aload_n C dL_law_886 rfl 0 rfl ?_
  refine l_iload_n C dL_law_887 rfl 3 rfl ?_
  refine l_iconst C 1 dL_law_888 (by decide) ?_
  refine l_iadd C dL_law_889 ?_
  refine l_sld C hin1 dL_law_890 ?_
  refine l_aload_n C dL_law_891 rfl 0 rfl ?_
  refine l_iload_n C dL_law_892 rfl 3 rfl ?_
  refine l_iconst C 2 dL_law_893 (by decide) ?_
  refine l_iadd C dL_law_894 ?_
  refine l_sld C hin2 dL_law_895 ?_
  refine l_callFi C (c_X11_guess l D cy adF (aF adF) E C.2.2.1.1 (wEok_narrow C.2.2.2.1 C.2.2.1.2.2.1) _ _ _ _ (hst (xs (i + 1).toNatClampNeg) (xs (i + 2).toNatClampNeg))) mM_L_127 uV_X11_guess rfl rfl ⟨Nat.le_of_ble_eq_true rfl, Nat.le_of_ble_eq_true rfl⟩ rfl rfl (Nat.le_of_ble_eq_true rfl) dL_law_896 (fun r1 f2 h1 => ?_)
  refine l_aload_n C dL_law_899 rfl 2 rfl ?_
  refine l_aload_n C dL_law_900 rfl 0 rfl ?_
  refine l_iload_n C dL_law_901 rfl 3 rfl ?_
  refine l_iconst C 1 dL_law_902 (by decide) ?_
  refine l_iadd C dL_law_903 ?_
  refine l_sld C hin1 dL_law_904 ?_
  refine l_aload_n C dL_law_905 rfl 0 rfl ?_
  refine l_iload_n C dL_law_906 rfl 3 rfl ?_
  refine l_iconst C 2 dL_law_907 (by decide) ?_
  refine l_iadd C dL_law_908 ?_
  refine l_sld C hin2 dL_law_909 ?_
  refine l_callMi C (c_X12_guess l D cy adM (aM adM) E C.2.2.1.2.1 (wEok_narrow C.2.2.2.1 C.2.2.1.2.2.2.1) _ _ _ _ h1) mM_L_130 uV_X12_guess rfl rfl ⟨Nat.le_of_ble_eq_true rfl, Nat.le_of_ble_eq_true rfl⟩ rfl rfl (Nat.le_of_ble_eq_true rfl) dL_law_910 (fun r2 x2 h2 => ?_)
  obtain ⟨er, hI⟩ := h2
  refine l_icmp_eq C 1129 dL_law_913 (by decide) (fun _ => ?_) (fun h9 => absurd er h9)
  exact hk _ _ hI
set_option maxHeartbeats 4000000 in
set_option maxRecDepth 100000 in
theorem law_27 {p : Program} {l : Launch} {e : Env} {s : State} {m : MethodId} {below : List Frame} {meth : Method} {c : Code} {b L : Nat} {xs : Nat → Int32} {D : va_G} {cy : Nat → ClassId} {adF adM : Nat → Nat} {A : Nat → Prop} {E : State → Prop} (C : lC p m c s b L xs D cy adF adM A E) {Inv : St → St → Prop} {f x : St} (i : Int32) (hin1 : vp_in (i + 1) L) (hin2 : vp_in (i + 2) L) (hin3 : vp_in (i + 3) L) (hin4 : vp_in (i + 4) L) (hin5 : vp_in (i + 5) L) (hst : ∀ (a1 a2 a3 a4 : Int32), wp_X11_path (fun r f2 => wp_X12_path (fun r2 x2 => r = r2 ∧ Inv f2 x2) a1 a2 a3 a4 x) a1 a2 a3 a4 f) (hk : ∀ f2 x2, Inv f2 x2 → wL p l e s m below meth c b D cy adF adM A 1129 f2 x2 [(0, .ref b), (1, .ref (adF 0)), (2, .ref (adM 0)), (3, .int i)] []) : wL p l e s m below meth c b D cy adF adM A 918 f x [(0, .ref b), (1, .ref (adF 0)), (2, .ref (adM 0)), (3, .int i)] [] := by
  refine l_aload_n C dL_law_918 rfl 1 rfl ?_
  refine l_aload_n C dL_law_919 rfl 0 rfl ?_
  refine l_iload_n C dL_law_920 rfl 3 rfl ?_
  refine l_iconst C 1 dL_law_921 (by decide) ?_
  refine l_iadd C dL_law_922 ?_
  refine l_sld C hin1 dL_law_923 ?_
  refine l_aload_n C dL_law_924 rfl 0 rfl ?_
  refine l_iload_n C dL_law_925 rfl 3 rfl ?_
  refine l_iconst C 2 dL_law_926 (by decide) ?_
  refine l_iadd C dL_law_927 ?_
  refine l_sld C hin2 dL_law_928 ?_
  refine l_aload_n C dL_law_929 rfl 0 rfl ?_
  refine l_iload_n C dL_law_930 rfl 3 rfl ?_
  refine l_iconst C 3 dL_law_931 (by decide) ?_
  refine l_iadd C dL_law_932 ?_
  refine l_sld C hin3 dL_law_933 ?_
  refine l_aload_n C dL_law_934 rfl 0 rfl ?_
  refine l_iload_n C dL_law_935 rfl 3 rfl ?_
  refine l_iconst C 4 dL_law_936 (by decide) ?_
  refine l_iadd C dL_law_937 ?_
  refine l_sld C hin4 dL_law_938 ?_
  refine l_callFi C (c_X11_path l D cy adF (aF adF) E C.2.2.1.1 (wEok_narrow C.2.2.2.1 C.2.2.1.2.2.1) _ _ _ _ _ _ (hst (xs (i + 1).toNatClampNeg) (xs (i + 2).toNatClampNeg) (xs (i + 3).toNatClampNeg) (xs (i + 4).toNatClampNeg))) mM_L_131 uV_X11_path rfl rfl ⟨Nat.le_of_ble_eq_true rfl, Nat.le_of_ble_eq_true rfl⟩ rfl rfl (Nat.le_of_ble_eq_true rfl) dL_law_939 (fun r1 f2 h1 => ?_)
  refine l_aload_n C dL_law_942 rfl 2 rfl ?_
  refine l_aload_n C dL_law_943 rfl 0 rfl ?_
  refine l_iload_n C dL_law_944 rfl 3 rfl ?_
  refine l_iconst C 1 dL_law_945 (by decide) ?_
  refine l_iadd C dL_law_946 ?_
  refine l_sld C hin1 dL_law_947 ?_
  refine l_aload_n C dL_law_948 rfl 0 rfl ?_
  refine l_iload_n C dL_law_949 rfl 3 rfl ?_
  refine l_iconst C 2 dL_law_950 (by decide) ?_
  refine l_iadd C dL_law_951 ?_
  refine l_sld C hin2 dL_law_952 ?_
  refine l_aload_n C dL_law_953 rfl 0 rfl ?_
  refine l_iload_n C dL_law_954 rfl 3 rfl ?_
  refine l_iconst C 3 dL_law_955 (by decide) ?_
  refine l_iadd C dL_law_956 ?_
  refine l_sld C hin3 dL_law_957 ?_
  refine l_aload_n C dL_law_958 rfl 0 rfl ?_
  refine l_iload_n C dL_law_959 rfl 3 rfl ?_
  refine l_iconst C 4 dL_law_960 (by decide) ?_
  refine l_iadd C dL_law_961 ?_
  refine l_sld C hin4 dL_law_962 ?_
  refine l_callMi C (c_X12_path l D cy adM (aM adM) E C.2.2.1.2.1 (wEok_narrow C.2.2.2.1 C.2.2.1.2.2.2.1) _ _ _ _ _ _ h1) mM_L_135 uV_X12_path rfl rfl ⟨Nat.le_of_ble_eq_true rfl, Nat.le_of_ble_eq_true rfl⟩ rfl rfl (Nat.le_of_ble_eq_true rfl) dL_law_963 (fun r2 x2 h2 => ?_)
  obtain ⟨er, hI⟩ := h2
  refine l_icmp_eq C 1129 dL_law_966 (by decide) (fun _ => ?_) (fun h9 => absurd er h9)
  exact hk _ _ hI
set_option maxHeartbeats 4000000 in
set_option maxRecDepth 100000 in
theorem law_28 {p : Program} {l : Launch} {e : Env} {s : State} {m : MethodId} {below : List Frame} {meth : Method} {c : Code} {b L : Nat} {xs : Nat → Int32} {D : va_G} {cy : Nat → ClassId} {adF adM : Nat → Nat} {A : Nat → Prop} {E : State → Prop} (C : lC p m c s b L xs D cy adF adM A E) {Inv : St → St → Prop} {f x : St} (i : Int32) (hin1 : vp_in (i + 1) L) (hin2 : vp_in (i + 2) L) (hin3 : vp_in (i + 3) L) (hin4 : vp_in (i + 4) L) (hin5 : vp_in (i + 5) L) (hst : ∀ (a1 a2 : Int32), wp_X11_fresh (fun r f2 => wp_X12_fresh (fun r2 x2 => r = r2 ∧ Inv f2 x2) a1 a2 x) a1 a2 f) (hk : ∀ f2 x2, Inv f2 x2 → wL p l e s m below meth c b D cy adF adM A 1129 f2 x2 [(0, .ref b), (1, .ref (adF 0)), (2, .ref (adM 0)), (3, .int i)] []) : wL p l e s m below meth c b D cy adF adM A 971 f x [(0, .ref b), (1, .ref (adF 0)), (2, .ref (adM 0)), (3, .int i)] [] := by
  refine l_aload_n C dL_law_971 rfl 1 rfl ?_
  refine l_aload_n C dL_law_972 rfl 0 rfl ?_
  refine l_iload_n C dL_law_973 rfl 3 rfl ?_
  refine l_iconst C 1 dL_law_974 (by decide) ?_
  refine l_iadd C dL_law_975 ?_
  refine l_sld C hin1 dL_law_976 ?_
  refine l_aload_n C dL_law_977 rfl 0 rfl ?_
  refine l_iload_n C dL_law_978 rfl 3 rfl ?_
  refine l_iconst C 2 dL_law_979 (by decide) ?_
  refine l_iadd C dL_law_980 ?_
  refine l_sld C hin2 dL_law_981 ?_
  refine l_callFi C (c_X11_fresh l D cy adF (aF adF) E C.2.2.1.1 (wEok_narrow C.2.2.2.1 C.2.2.1.2.2.1) _ _ _ _ (hst (xs (i + 1).toNatClampNeg) (xs (i + 2).toNatClampNeg))) mM_L_136 uV_X11_fresh rfl rfl ⟨Nat.le_of_ble_eq_true rfl, Nat.le_of_ble_eq_true rfl⟩ rfl rfl (Nat.le_of_ble_eq_true rfl) dL_law_982 (fun r1 f2 h1 => ?_)
  refine l_aload_n C dL_law_985 rfl 2 rfl ?_
  refine l_aload_n C dL_law_986 rfl 0 rfl ?_
  refine l_iload_n C dL_law_987 rfl 3 rfl ?_
  refine l_iconst C 1 dL_law_988 (by decide) ?_
  refine l_iadd C dL_law_989 ?_
  refine l_sld C hin1 dL_law_990 ?_
  refine l_aload_n C dL_law_991 rfl 0 rfl ?_
  refine l_iload_n C dL_law_992 rfl 3 rfl ?_
  refine l_iconst C 2 dL_law_993 (by decide) ?_
  refine l_iadd C dL_law_994 ?_
  refine l_sld C hin2 dL_law_995 ?_
  refine l_callMi C (c_X12_fresh l D cy adM (aM adM) E C.2.2.1.2.1 (wEok_narrow C.2.2.2.1 C.2.2.1.2.2.2.1) _ _ _ _ h1) mM_L_139 uV_X12_fresh rfl rfl ⟨Nat.le_of_ble_eq_true rfl, Nat.le_of_ble_eq_true rfl⟩ rfl rfl (Nat.le_of_ble_eq_true rfl) dL_law_996 (fun r2 x2 h2 => ?_)
  obtain ⟨er, hI⟩ := h2
  refine l_icmp_eq C 1129 dL_law_999 (by decide) (fun _ => ?_) (fun h9 => absurd er h9)
  exact hk _ _ hI
set_option maxHeartbeats 4000000 in
set_option maxRecDepth 100000 in
theorem law_29 {p : Program} {l : Launch} {e : Env} {s : State} {m : MethodId} {below : List Frame} {meth : Method} {c : Code} {b L : Nat} {xs : Nat → Int32} {D : va_G} {cy : Nat → ClassId} {adF adM : Nat → Nat} {A : Nat → Prop} {E : State → Prop} (C : lC p m c s b L xs D cy adF adM A E) {Inv : St → St → Prop} {f x : St} (i : Int32) (hin1 : vp_in (i + 1) L) (hin2 : vp_in (i + 2) L) (hin3 : vp_in (i + 3) L) (hin4 : vp_in (i + 4) L) (hin5 : vp_in (i + 5) L) (hst : ∀ (a1 a2 : Int32), wp_X11_lost (fun r f2 => wp_X12_lost (fun r2 x2 => r = r2 ∧ Inv f2 x2) a1 a2 x) a1 a2 f) (hk : ∀ f2 x2, Inv f2 x2 → wL p l e s m below meth c b D cy adF adM A 1129 f2 x2 [(0, .ref b), (1, .ref (adF 0)), (2, .ref (adM 0)), (3, .int i)] []) : wL p l e s m below meth c b D cy adF adM A 1004 f x [(0, .ref b), (1, .ref (adF 0)), (2, .ref (adM 0)), (3, .int i)] [] := by
  refine l_aload_n C dL_law_1004 rfl 1 rfl ?_
  refine l_aload_n C dL_law_1005 rfl 0 rfl ?_
  refine l_iload_n C dL_law_1006 rfl 3 rfl ?_
  refine l_iconst C 1 dL_law_1007 (by decide) ?_
  refine l_iadd C dL_law_1008 ?_
  refine l_sld C hin1 dL_law_1009 ?_
  refine l_aload_n C dL_law_1010 rfl 0 rfl ?_
  refine l_iload_n C dL_law_1011 rfl 3 rfl ?_
  refine l_iconst C 2 dL_law_1012 (by decide) ?_
  refine l_iadd C dL_law_1013 ?_
  refine l_sld C hin2 dL_law_1014 ?_
  refine l_callFi C (c_X11_lost l D cy adF (aF adF) E C.2.2.1.1 (wEok_narrow C.2.2.2.1 C.2.2.1.2.2.1) _ _ _ _ (hst (xs (i + 1).toNatClampNeg) (xs (i + 2).toNatClampNeg))) mM_L_140 uV_X11_lost rfl rfl ⟨Nat.le_of_ble_eq_true rfl, Nat.le_of_ble_eq_true rfl⟩ rfl rfl (Nat.le_of_ble_eq_true rfl) dL_law_1015 (fun r1 f2 h1 => ?_)
  refine l_aload_n C dL_law_1018 rfl 2 rfl ?_
  refine l_aload_n C dL_law_1019 rfl 0 rfl ?_
  refine l_iload_n C dL_law_1020 rfl 3 rfl ?_
  refine l_iconst C 1 dL_law_1021 (by decide) ?_
  refine l_iadd C dL_law_1022 ?_
  refine l_sld C hin1 dL_law_1023 ?_
  refine l_aload_n C dL_law_1024 rfl 0 rfl ?_
  refine l_iload_n C dL_law_1025 rfl 3 rfl ?_
  refine l_iconst C 2 dL_law_1026 (by decide) ?_
  refine l_iadd C dL_law_1027 ?_
  refine l_sld C hin2 dL_law_1028 ?_
  refine l_callMi C (c_X12_lost l D cy adM (aM adM) E C.2.2.1.2.1 (wEok_narrow C.2.2.2.1 C.2.2.1.2.2.2.1) _ _ _ _ h1) mM_L_143 uV_X12_lost rfl rfl ⟨Nat.le_of_ble_eq_true rfl, Nat.le_of_ble_eq_true rfl⟩ rfl rfl (Nat.le_of_ble_eq_true rfl) dL_law_1029 (fun r2 x2 h2 => ?_)
  obtain ⟨er, hI⟩ := h2
  refine l_icmp_eq C 1129 dL_law_1032 (by decide) (fun _ => ?_) (fun h9 => absurd er h9)
  exact hk _ _ hI
set_option maxHeartbeats 4000000 in
set_option maxRecDepth 100000 in
theorem law_30 {p : Program} {l : Launch} {e : Env} {s : State} {m : MethodId} {below : List Frame} {meth : Method} {c : Code} {b L : Nat} {xs : Nat → Int32} {D : va_G} {cy : Nat → ClassId} {adF adM : Nat → Nat} {A : Nat → Prop} {E : State → Prop} (C : lC p m c s b L xs D cy adF adM A E) {Inv : St → St → Prop} {f x : St} (i : Int32) (hin1 : vp_in (i + 1) L) (hin2 : vp_in (i + 2) L) (hin3 : vp_in (i + 3) L) (hin4 : vp_in (i + 4) L) (hin5 : vp_in (i + 5) L) (hst : ∀ (a1 : Int32), wp_X11_split (fun r f2 => wp_X12_split (fun r2 x2 => r = r2 ∧ Inv f2 x2) a1 x) a1 f) (hk : ∀ f2 x2, Inv f2 x2 → wL p l e s m below meth c b D cy adF adM A 1129 f2 x2 [(0, .ref b), (1, .ref (adF 0)), (2, .ref (adM 0)), (3, .int i)] []) : wL p l e s m below meth c b D cy adF adM A 1037 f x [(0, .ref b), (1, .ref (adF 0)), (2, .ref (adM 0)), (3, .int i)] [] := by
  refine l_aload_n C dL_law_1037 rfl 1 rfl ?_
  refine l_aload_n C dL_law_1038 rfl 0 rfl ?_
  refine l_iload_n C dL_law_1039 rfl 3 rfl ?_
  refine l_iconst C 1 dL_law_1040 (by decide) ?_
  refine l_iadd C dL_law_1041 ?_
  refine l_sld C hin1 dL_law_1042 ?_
  refine l_callFi C (c_X11_split l D cy adF (aF adF) E C.2.2.1.1 (wEok_narrow C.2.2.2.1 C.2.2.1.2.2.1) _ _ _ (hst (xs (i + 1).toNatClampNeg))) mM_L_144 uV_X11_split rfl rfl ⟨Nat.le_of_ble_eq_true rfl, Nat.le_of_ble_eq_true rfl⟩ rfl rfl (Nat.le_of_ble_eq_true rfl) dL_law_1043 (fun r1 f2 h1 => ?_)
  refine l_aload_n C dL_law_1046 rfl 2 rfl ?_
  refine l_aload_n C dL_law_1047 rfl 0 rfl ?_
  refine l_iload_n C dL_law_1048 rfl 3 rfl ?_
  refine l_iconst C 1 dL_law_1049 (by decide) ?_
  refine l_iadd C dL_law_1050 ?_
  refine l_sld C hin1 dL_law_1051 ?_
  refine l_callMi C (c_X12_split l D cy adM (aM adM) E C.2.2.1.2.1 (wEok_narrow C.2.2.2.1 C.2.2.1.2.2.2.1) _ _ _ h1) mM_L_147 uV_X12_split rfl rfl ⟨Nat.le_of_ble_eq_true rfl, Nat.le_of_ble_eq_true rfl⟩ rfl rfl (Nat.le_of_ble_eq_true rfl) dL_law_1052 (fun r2 x2 h2 => ?_)
  obtain ⟨er, hI⟩ := h2
  refine l_icmp_eq C 1129 dL_law_1055 (by decide) (fun _ => ?_) (fun h9 => absurd er h9)
  exact hk _ _ hI
set_option maxHeartbeats 4000000 in
set_option maxRecDepth 100000 in
theorem law_31 {p : Program} {l : Launch} {e : Env} {s : State} {m : MethodId} {below : List Frame} {meth : Method} {c : Code} {b L : Nat} {xs : Nat → Int32} {D : va_G} {cy : Nat → ClassId} {adF adM : Nat → Nat} {A : Nat → Prop} {E : State → Prop} (C : lC p m c s b L xs D cy adF adM A E) {Inv : St → St → Prop} {f x : St} (i : Int32) (hin1 : vp_in (i + 1) L) (hin2 : vp_in (i + 2) L) (hin3 : vp_in (i + 3) L) (hin4 : vp_in (i + 4) L) (hin5 : vp_in (i + 5) L) (hst : ∀ (a1 : Int32), wp_X11_hold (fun r f2 => wp_X12_hold (fun r2 x2 => r = r2 ∧ Inv f2 x2) a1 x) a1 f) (hk : ∀ f2 x2, Inv f2 x2 → wL p l e s m below meth c b D cy adF adM A 1129 f2 x2 [(0, .ref b), (1, .ref (adF 0)), (2, .ref (adM 0)), (3, .int i)] []) : wL p l e s m below meth c b D cy adF adM A 1060 f x [(0, .ref b), (1, .ref (adF 0)), (2, .ref (adM 0)), (3, .int i)] [] := by
  refine l_aload_n C dL_law_1060 rfl 1 rfl ?_
  refine l_aload_n C dL_law_1061 rfl 0 rfl ?_
  refine l_iload_n C dL_law_1062 rfl 3 rfl ?_
  refine l_iconst C 1 dL_law_1063 (by decide) ?_
  refine l_iadd C dL_law_1064 ?_
  refine l_sld C hin1 dL_law_1065 ?_
  refine l_callFi C (c_X11_hold l D cy adF (aF adF) E C.2.2.1.1 (wEok_narrow C.2.2.2.1 C.2.2.1.2.2.1) _ _ _ (hst (xs (i + 1).toNatClampNeg))) mM_L_148 uV_X11_hold rfl rfl ⟨Nat.le_of_ble_eq_true rfl, Nat.le_of_ble_eq_true rfl⟩ rfl rfl (Nat.le_of_ble_eq_true rfl) dL_law_1066 (fun r1 f2 h1 => ?_)
  refine l_aload_n C dL_law_1069 rfl 2 rfl ?_
  refine l_aload_n C dL_law_1070 rfl 0 rfl ?_
  refine l_iload_n C dL_law_1071 rfl 3 rfl ?_
  refine l_iconst C 1 dL_law_1072 (by decide) ?_
  refine l_iadd C dL_law_1073 ?_
  refine l_sld C hin1 dL_law_1074 ?_
  refine l_callMi C (c_X12_hold l D cy adM (aM adM) E C.2.2.1.2.1 (wEok_narrow C.2.2.2.1 C.2.2.1.2.2.2.1) _ _ _ h1) mM_L_152 uV_X12_hold rfl rfl ⟨Nat.le_of_ble_eq_true rfl, Nat.le_of_ble_eq_true rfl⟩ rfl rfl (Nat.le_of_ble_eq_true rfl) dL_law_1075 (fun r2 x2 h2 => ?_)
  obtain ⟨er, hI⟩ := h2
  refine l_icmp_eq C 1129 dL_law_1078 (by decide) (fun _ => ?_) (fun h9 => absurd er h9)
  exact hk _ _ hI
set_option maxHeartbeats 4000000 in
set_option maxRecDepth 100000 in
theorem law_32 {p : Program} {l : Launch} {e : Env} {s : State} {m : MethodId} {below : List Frame} {meth : Method} {c : Code} {b L : Nat} {xs : Nat → Int32} {D : va_G} {cy : Nat → ClassId} {adF adM : Nat → Nat} {A : Nat → Prop} {E : State → Prop} (C : lC p m c s b L xs D cy adF adM A E) {Inv : St → St → Prop} {f x : St} (i : Int32) (hin1 : vp_in (i + 1) L) (hin2 : vp_in (i + 2) L) (hin3 : vp_in (i + 3) L) (hin4 : vp_in (i + 4) L) (hin5 : vp_in (i + 5) L) (hst : ∀ (a1 : Int32), wp_X11_restore (fun r f2 => wp_X12_restore (fun r2 x2 => r = r2 ∧ Inv f2 x2) a1 x) a1 f) (hk : ∀ f2 x2, Inv f2 x2 → wL p l e s m below meth c b D cy adF adM A 1129 f2 x2 [(0, .ref b), (1, .ref (adF 0)), (2, .ref (adM 0)), (3, .int i)] []) : wL p l e s m below meth c b D cy adF adM A 1083 f x [(0, .ref b), (1, .ref (adF 0)), (2, .ref (adM 0)), (3, .int i)] [] := by
  refine l_aload_n C dL_law_1083 rfl 1 rfl ?_
  refine l_aload_n C dL_law_1084 rfl 0 rfl ?_
  refine l_iload_n C dL_law_1085 rfl 3 rfl ?_
  refine l_iconst C 1 dL_law_1086 (by decide) ?_
  refine l_iadd C dL_law_1087 ?_
  refine l_sld C hin1 dL_law_1088 ?_
  refine l_callFi C (c_X11_restore l D cy adF (aF adF) E C.2.2.1.1 (wEok_narrow C.2.2.2.1 C.2.2.1.2.2.1) _ _ _ (hst (xs (i + 1).toNatClampNeg))) mM_L_153 uV_X11_restore rfl rfl ⟨Nat.le_of_ble_eq_true rfl, Nat.le_of_ble_eq_true rfl⟩ rfl rfl (Nat.le_of_ble_eq_true rfl) dL_law_1089 (fun r1 f2 h1 => ?_)
  refine l_aload_n C dL_law_1092 rfl 2 rfl ?_
  refine l_aload_n C dL_law_1093 rfl 0 rfl ?_
  refine l_iload_n C dL_law_1094 rfl 3 rfl ?_
  refine l_iconst C 1 dL_law_1095 (by decide) ?_
  refine l_iadd C dL_law_1096 ?_
  refine l_sld C hin1 dL_law_1097 ?_
  refine l_callMi C (c_X12_restore l D cy adM (aM adM) E C.2.2.1.2.1 (wEok_narrow C.2.2.2.1 C.2.2.1.2.2.2.1) _ _ _ h1) mM_L_156 uV_X12_restore rfl rfl ⟨Nat.le_of_ble_eq_true rfl, Nat.le_of_ble_eq_true rfl⟩ rfl rfl (Nat.le_of_ble_eq_true rfl) dL_law_1098 (fun r2 x2 h2 => ?_)
  obtain ⟨er, hI⟩ := h2
  refine l_icmp_eq C 1129 dL_law_1101 (by decide) (fun _ => ?_) (fun h9 => absurd er h9)
  exact hk _ _ hI
set_option maxHeartbeats 4000000 in
set_option maxRecDepth 100000 in
theorem law_33 {p : Program} {l : Launch} {e : Env} {s : State} {m : MethodId} {below : List Frame} {meth : Method} {c : Code} {b L : Nat} {xs : Nat → Int32} {D : va_G} {cy : Nat → ClassId} {adF adM : Nat → Nat} {A : Nat → Prop} {E : State → Prop} (C : lC p m c s b L xs D cy adF adM A E) {Inv : St → St → Prop} {f x : St} (i : Int32) (hin1 : vp_in (i + 1) L) (hin2 : vp_in (i + 2) L) (hin3 : vp_in (i + 3) L) (hin4 : vp_in (i + 4) L) (hin5 : vp_in (i + 5) L) (hst : ∀ (a1 : Int32), wp_X11_count (fun r f2 => wp_X12_count (fun r2 x2 => r = r2 ∧ Inv f2 x2) a1 x) a1 f) (hk : ∀ f2 x2, Inv f2 x2 → wL p l e s m below meth c b D cy adF adM A 1129 f2 x2 [(0, .ref b), (1, .ref (adF 0)), (2, .ref (adM 0)), (3, .int i)] []) : wL p l e s m below meth c b D cy adF adM A 1106 f x [(0, .ref b), (1, .ref (adF 0)), (2, .ref (adM 0)), (3, .int i)] [] := by
  refine l_aload_n C dL_law_1106 rfl 1 rfl ?_
  refine l_aload_n C dL_law_1107 rfl 0 rfl ?_
  refine l_iload_n C dL_law_1108 rfl 3 rfl ?_
  refine l_iconst C 1 dL_law_1109 (by decide) ?_
  refine l_iadd C dL_law_1110 ?_
  refine l_sld C hin1 dL_law_1111 ?_
  refine l_callFi C (c_X11_count l D cy adF (aF adF) E C.2.2.1.1 (wEok_narrow C.2.2.2.1 C.2.2.1.2.2.1) _ _ _ (hst (xs (i + 1).toNatClampNeg))) mM_L_157 uV_X11_count rfl rfl ⟨Nat.le_of_ble_eq_true rfl, Nat.le_of_ble_eq_true rfl⟩ rfl rfl (Nat.le_of_ble_eq_true rfl) dL_law_1112 (fun r1 f2 h1 => ?_)
  refine l_aload_n C dL_law_1115 rfl 2 rfl ?_
  refine l_aload_n C dL_law_1116 rfl 0 rfl ?_
  refine l_iload_n C dL_law_1117 rfl 3 rfl ?_
  refine l_iconst C 1 dL_law_1118 (by decide) ?_
  refine l_iadd C dL_law_1119 ?_
  refine l_sld C hin1 dL_law_1120 ?_
  refine l_callMi C (c_X12_count l D cy adM (aM adM) E C.2.2.1.2.1 (wEok_narrow C.2.2.2.1 C.2.2.1.2.2.2.1) _ _ _ h1) mM_L_160 uV_X12_count rfl rfl ⟨Nat.le_of_ble_eq_true rfl, Nat.le_of_ble_eq_true rfl⟩ rfl rfl (Nat.le_of_ble_eq_true rfl) dL_law_1121 (fun r2 x2 h2 => ?_)
  obtain ⟨er, hI⟩ := h2
  refine l_icmp_eq C 1129 dL_law_1124 (by decide) (fun _ => ?_) (fun h9 => absurd er h9)
  exact hk _ _ hI
/-- what is left to prove of feed -/
def Step_0 (Inv : St → St → Prop) : Prop := ∀ (f x : St), Inv f x → ∀ (a1 a2 a3 a4 a5 : Int32), wp_X11_feed (fun r f2 => wp_X12_feed (fun r2 x2 => r = r2 ∧ Inv f2 x2) a1 a2 a3 a4 a5 x) a1 a2 a3 a4 a5 f
/-- what is left to prove of back -/
def Step_1 (Inv : St → St → Prop) : Prop := ∀ (f x : St), Inv f x → ∀ (a1 : Int32), wp_X11_back (fun r f2 => wp_X12_back (fun r2 x2 => r = r2 ∧ Inv f2 x2) a1 x) a1 f
/-- what is left to prove of read -/
def Step_2 (Inv : St → St → Prop) : Prop := ∀ (f x : St), Inv f x → wp_X11_read (fun r f2 => wp_X12_read (fun r2 x2 => r = r2 ∧ Inv f2 x2) x) f
/-- what is left to prove of place -/
def Step_3 (Inv : St → St → Prop) : Prop := ∀ (f x : St), Inv f x → wp_X11_place (fun r f2 => wp_X12_place (fun r2 x2 => r = r2 ∧ Inv f2 x2) x) f
/-- what is left to prove of tell -/
def Step_4 (Inv : St → St → Prop) : Prop := ∀ (f x : St), Inv f x → ∀ (a1 a2 : Int32), wp_X11_tell (fun r f2 => wp_X12_tell (fun r2 x2 => r = r2 ∧ Inv f2 x2) a1 a2 x) a1 a2 f
/-- what is left to prove of lay -/
def Step_5 (Inv : St → St → Prop) : Prop := ∀ (f x : St), Inv f x → ∀ (a1 a2 a3 : Int32), wp_X11_lay (fun r f2 => wp_X12_lay (fun r2 x2 => r = r2 ∧ Inv f2 x2) a1 a2 a3 x) a1 a2 a3 f
/-- what is left to prove of undo -/
def Step_6 (Inv : St → St → Prop) : Prop := ∀ (f x : St), Inv f x → wp_X11_undo (fun r f2 => wp_X12_undo (fun r2 x2 => r = r2 ∧ Inv f2 x2) x) f
/-- what is left to prove of link -/
def Step_7 (Inv : St → St → Prop) : Prop := ∀ (f x : St), Inv f x → ∀ (a1 a2 : Int32), wp_X11_link (fun r f2 => wp_X12_link (fun r2 x2 => r = r2 ∧ Inv f2 x2) a1 a2 x) a1 a2 f
/-- what is left to prove of way -/
def Step_8 (Inv : St → St → Prop) : Prop := ∀ (f x : St), Inv f x → ∀ (a1 a2 : Int32), wp_X11_way (fun r f2 => wp_X12_way (fun r2 x2 => r = r2 ∧ Inv f2 x2) a1 a2 x) a1 a2 f
/-- what is left to prove of post -/
def Step_9 (Inv : St → St → Prop) : Prop := ∀ (f x : St), Inv f x → ∀ (a1 a2 : Int32), wp_X11_post (fun r f2 => wp_X12_post (fun r2 x2 => r = r2 ∧ Inv f2 x2) a1 a2 x) a1 a2 f
/-- what is left to prove of sets -/
def Step_10 (Inv : St → St → Prop) : Prop := ∀ (f x : St), Inv f x → ∀ (a1 : Int32), wp_X11_sets (fun r f2 => wp_X12_sets (fun r2 x2 => r = r2 ∧ Inv f2 x2) a1 x) a1 f
/-- what is left to prove of lean -/
def Step_11 (Inv : St → St → Prop) : Prop := ∀ (f x : St), Inv f x → ∀ (a1 : Int32), wp_X11_lean (fun r f2 => wp_X12_lean (fun r2 x2 => r = r2 ∧ Inv f2 x2) a1 x) a1 f
/-- what is left to prove of explains -/
def Step_12 (Inv : St → St → Prop) : Prop := ∀ (f x : St), Inv f x → ∀ (a1 : Int32), wp_X11_explains (fun r f2 => wp_X12_explains (fun r2 x2 => r = r2 ∧ Inv f2 x2) a1 x) a1 f
/-- what is left to prove of likeliest -/
def Step_13 (Inv : St → St → Prop) : Prop := ∀ (f x : St), Inv f x → wp_X11_likeliest (fun r f2 => wp_X12_likeliest (fun r2 x2 => r = r2 ∧ Inv f2 x2) x) f
/-- what is left to prove of weight -/
def Step_14 (Inv : St → St → Prop) : Prop := ∀ (f x : St), Inv f x → ∀ (a1 : Int32), wp_X11_weight (fun r f2 => wp_X12_weight (fun r2 x2 => r = r2 ∧ Inv f2 x2) a1 x) a1 f
/-- what is left to prove of cheapest -/
def Step_15 (Inv : St → St → Prop) : Prop := ∀ (f x : St), Inv f x → ∀ (a1 : Int32), wp_X11_cheapest (fun r f2 => wp_X12_cheapest (fun r2 x2 => r = r2 ∧ Inv f2 x2) a1 x) a1 f
/-- what is left to prove of disbelieved -/
def Step_16 (Inv : St → St → Prop) : Prop := ∀ (f x : St), Inv f x → ∀ (a1 : Int32), wp_X11_disbelieved (fun r f2 => wp_X12_disbelieved (fun r2 x2 => r = r2 ∧ Inv f2 x2) a1 x) a1 f
/-- what is left to prove of blamed -/
def Step_17 (Inv : St → St → Prop) : Prop := ∀ (f x : St), Inv f x → ∀ (a1 : Int32), wp_X11_blamed (fun r f2 => wp_X12_blamed (fun r2 x2 => r = r2 ∧ Inv f2 x2) a1 x) a1 f
/-- what is left to prove of level -/
def Step_18 (Inv : St → St → Prop) : Prop := ∀ (f x : St), Inv f x → wp_X11_level (fun r f2 => wp_X12_level (fun r2 x2 => r = r2 ∧ Inv f2 x2) x) f
/-- what is left to prove of twin -/
def Step_19 (Inv : St → St → Prop) : Prop := ∀ (f x : St), Inv f x → ∀ (a1 : Int32), wp_X11_twin (fun r f2 => wp_X12_twin (fun r2 x2 => r = r2 ∧ Inv f2 x2) a1 x) a1 f
/-- what is left to prove of trace -/
def Step_20 (Inv : St → St → Prop) : Prop := ∀ (f x : St), Inv f x → ∀ (a1 : Int32), wp_X11_trace (fun r f2 => wp_X12_trace (fun r2 x2 => r = r2 ∧ Inv f2 x2) a1 x) a1 f
/-- what is left to prove of choice -/
def Step_21 (Inv : St → St → Prop) : Prop := ∀ (f x : St), Inv f x → ∀ (a1 a2 : Int32), wp_X11_choice (fun r f2 => wp_X12_choice (fun r2 x2 => r = r2 ∧ Inv f2 x2) a1 a2 x) a1 a2 f
/-- what is left to prove of after -/
def Step_22 (Inv : St → St → Prop) : Prop := ∀ (f x : St), Inv f x → ∀ (a1 a2 : Int32), wp_X11_after (fun r f2 => wp_X12_after (fun r2 x2 => r = r2 ∧ Inv f2 x2) a1 a2 x) a1 a2 f
/-- what is left to prove of next -/
def Step_23 (Inv : St → St → Prop) : Prop := ∀ (f x : St), Inv f x → wp_X11_next (fun r f2 => wp_X12_next (fun r2 x2 => r = r2 ∧ Inv f2 x2) x) f
/-- what is left to prove of tries -/
def Step_24 (Inv : St → St → Prop) : Prop := ∀ (f x : St), Inv f x → ∀ (a1 : Int32), wp_X11_tries (fun r f2 => wp_X12_tries (fun r2 x2 => r = r2 ∧ Inv f2 x2) a1 x) a1 f
/-- what is left to prove of plan -/
def Step_25 (Inv : St → St → Prop) : Prop := ∀ (f x : St), Inv f x → ∀ (a1 a2 : Int32), wp_X11_plan (fun r f2 => wp_X12_plan (fun r2 x2 => r = r2 ∧ Inv f2 x2) a1 a2 x) a1 a2 f
/-- what is left to prove of guess -/
def Step_26 (Inv : St → St → Prop) : Prop := ∀ (f x : St), Inv f x → ∀ (a1 a2 : Int32), wp_X11_guess (fun r f2 => wp_X12_guess (fun r2 x2 => r = r2 ∧ Inv f2 x2) a1 a2 x) a1 a2 f
/-- what is left to prove of path -/
def Step_27 (Inv : St → St → Prop) : Prop := ∀ (f x : St), Inv f x → ∀ (a1 a2 a3 a4 : Int32), wp_X11_path (fun r f2 => wp_X12_path (fun r2 x2 => r = r2 ∧ Inv f2 x2) a1 a2 a3 a4 x) a1 a2 a3 a4 f
/-- what is left to prove of fresh -/
def Step_28 (Inv : St → St → Prop) : Prop := ∀ (f x : St), Inv f x → ∀ (a1 a2 : Int32), wp_X11_fresh (fun r f2 => wp_X12_fresh (fun r2 x2 => r = r2 ∧ Inv f2 x2) a1 a2 x) a1 a2 f
/-- what is left to prove of lost -/
def Step_29 (Inv : St → St → Prop) : Prop := ∀ (f x : St), Inv f x → ∀ (a1 a2 : Int32), wp_X11_lost (fun r f2 => wp_X12_lost (fun r2 x2 => r = r2 ∧ Inv f2 x2) a1 a2 x) a1 a2 f
/-- what is left to prove of split -/
def Step_30 (Inv : St → St → Prop) : Prop := ∀ (f x : St), Inv f x → ∀ (a1 : Int32), wp_X11_split (fun r f2 => wp_X12_split (fun r2 x2 => r = r2 ∧ Inv f2 x2) a1 x) a1 f
/-- what is left to prove of hold -/
def Step_31 (Inv : St → St → Prop) : Prop := ∀ (f x : St), Inv f x → ∀ (a1 : Int32), wp_X11_hold (fun r f2 => wp_X12_hold (fun r2 x2 => r = r2 ∧ Inv f2 x2) a1 x) a1 f
/-- what is left to prove of restore -/
def Step_32 (Inv : St → St → Prop) : Prop := ∀ (f x : St), Inv f x → ∀ (a1 : Int32), wp_X11_restore (fun r f2 => wp_X12_restore (fun r2 x2 => r = r2 ∧ Inv f2 x2) a1 x) a1 f
/-- what is left to prove of count -/
def Step_33 (Inv : St → St → Prop) : Prop := ∀ (f x : St), Inv f x → ∀ (a1 : Int32), wp_X11_count (fun r f2 => wp_X12_count (fun r2 x2 => r = r2 ∧ Inv f2 x2) a1 x) a1 f
def LawSteps (Inv : St → St → Prop) : Prop := Step_0 Inv ∧ Step_1 Inv ∧ Step_2 Inv ∧ Step_3 Inv ∧ Step_4 Inv ∧ Step_5 Inv ∧ Step_6 Inv ∧ Step_7 Inv ∧ Step_8 Inv ∧ Step_9 Inv ∧ Step_10 Inv ∧ Step_11 Inv ∧ Step_12 Inv ∧ Step_13 Inv ∧ Step_14 Inv ∧ Step_15 Inv ∧ Step_16 Inv ∧ Step_17 Inv ∧ Step_18 Inv ∧ Step_19 Inv ∧ Step_20 Inv ∧ Step_21 Inv ∧ Step_22 Inv ∧ Step_23 Inv ∧ Step_24 Inv ∧ Step_25 Inv ∧ Step_26 Inv ∧ Step_27 Inv ∧ Step_28 Inv ∧ Step_29 Inv ∧ Step_30 Inv ∧ Step_31 Inv ∧ Step_32 Inv ∧ Step_33 Inv
set_option maxHeartbeats 4000000 in
set_option maxRecDepth 100000 in
/-- the law's loop -/
theorem law_loop {p : Program} {l : Launch} {e : Env} {s : State} {m : MethodId} {below : List Frame} {meth : Method} {c : Code} {b L : Nat} {xs : Nat → Int32} {D : va_G} {cy : Nat → ClassId} {adF adM : Nat → Nat} {A : Nat → Prop} {E : State → Prop} (C : lC p m c s b L xs D cy adF adM A E) (hr : meth.sig.returnType = ret ∧ meth.locks = false) (hL : L ≤ 3072) {Inv : St → St → Prop} (hSt : LawSteps Inv) : ∀ (n i : Nat) (f x : St), L < i + 6 * n → i ≤ L + 6 → Inv f x → wL p l e s m below meth c b D cy adF adM A 18 f x [(0, .ref b), (1, .ref (adF 0)), (2, .ref (adM 0)), (3, .int (nI i))] [] := by
  intro n
  induction n with
  | zero =>
    intro i f x h1 h2 hI
    refine l_iload_n C dL_law_18 rfl 3 rfl ?_
    refine l_aload_n C dL_law_19 rfl 0 rfl ?_
    refine l_slen C dL_law_20 ?_
    refine l_bipush C 6 dL_law_21 (by decide) ?_
    refine l_isub C dL_law_23 ?_
    refine l_icmp_gt C 1135 dL_law_24 (by decide) (fun _ => ?_) (fun hc => absurd (gt6 (L := L) (i := i) (by omega) (by omega) (by omega)) hc)
    refine l_iconst C 1 dL_law_1135 (by decide) ?_
    exact l_ret C hr dL_law_1136
  | succ n ih =>
    intro i f x h1 h2 hI
    refine l_iload_n C dL_law_18 rfl 3 rfl ?_
    refine l_aload_n C dL_law_19 rfl 0 rfl ?_
    refine l_slen C dL_law_20 ?_
    refine l_bipush C 6 dL_law_21 (by decide) ?_
    refine l_isub C dL_law_23 ?_
    refine l_icmp_gt C 1135 dL_law_24 (by decide) (fun _ => ?_) (fun hc => ?_)
    · refine l_iconst C 1 dL_law_1135 (by decide) ?_
      exact l_ret C hr dL_law_1136
    · have hi : i + 6 ≤ L := by
        rcases Nat.lt_or_ge L (i + 6) with q | q
        · exact absurd (gt6 (by omega) (by omega) q) hc
        · exact q
      refine l_aload_n C dL_law_27 rfl 0 rfl ?_
      refine l_iload_n C dL_law_28 rfl 3 rfl ?_
      refine l_sld C (vp_in_nI (by omega) (by omega)) dL_law_29 ?_
      refine l_bipush C 63 dL_law_30 (by decide) ?_
      refine l_iand C dL_law_32 ?_
      have hk : ∀ f2 x2, Inv f2 x2 → wL p l e s m below meth c b D cy adF adM A 1129 f2 x2 [(0, .ref b), (1, .ref (adF 0)), (2, .ref (adM 0)), (3, .int (nI i))] [] := by
        intro f2 x2 hI2
        refine l_iinc C (nI (i + 6)) [(0, .ref b), (1, .ref (adF 0)), (2, .ref (adM 0)), (3, .int (nI (i + 6)))] dL_law_1129 (kk := 3) rfl (by rw [← nI_add]; rfl) (by decide) rfl ?_
        refine l_goto C 18 dL_law_1132 (by decide) ?_
        exact ih (i + 6) f2 x2 (by omega) (by omega) hI2
      have hin : ∀ k, k < 6 → vp_in (nI i + nI k) L := fun k hk => by rw [nI_add]; exact vp_in_nI (by omega) (by omega)
      have hin1 : vp_in (nI i + 1) L := hin 1 (by decide)
      have hin2 : vp_in (nI i + 2) L := hin 2 (by decide)
      have hin3 : vp_in (nI i + 3) L := hin 3 (by decide)
      have hin4 : vp_in (nI i + 4) L := hin 4 (by decide)
      have hin5 : vp_in (nI i + 5) L := hin 5 (by decide)
      refine l_table C 1129 dL_law_33 (by decide) (hk f x hI) (fun j hj => ?_)
      match j, hj with
      | 0, _ => exact ⟨151, 184, rfl, by decide, law_0 C (nI i) hin1 hin2 hin3 hin4 hin5 (hSt.1 f x hI) hk⟩
      | 1, _ => exact ⟨214, 247, rfl, by decide, law_1 C (nI i) hin1 hin2 hin3 hin4 hin5 (hSt.2.1 f x hI) hk⟩
      | 2, _ => exact ⟨237, 270, rfl, by decide, law_2 C (nI i) hin1 hin2 hin3 hin4 hin5 (hSt.2.2.1 f x hI) hk⟩
      | 3, _ => exact ⟨250, 283, rfl, by decide, law_3 C (nI i) hin1 hin2 hin3 hin4 hin5 (hSt.2.2.2.1 f x hI) hk⟩
      | 4, _ => exact ⟨263, 296, rfl, by decide, law_4 C (nI i) hin1 hin2 hin3 hin4 hin5 (hSt.2.2.2.2.1 f x hI) hk⟩
      | 5, _ => exact ⟨296, 329, rfl, by decide, law_5 C (nI i) hin1 hin2 hin3 hin4 hin5 (hSt.2.2.2.2.2.1 f x hI) hk⟩
      | 6, _ => exact ⟨339, 372, rfl, by decide, law_6 C (nI i) hin1 hin2 hin3 hin4 hin5 (hSt.2.2.2.2.2.2.1 f x hI) hk⟩
      | 7, _ => exact ⟨352, 385, rfl, by decide, law_7 C (nI i) hin1 hin2 hin3 hin4 hin5 (hSt.2.2.2.2.2.2.2.1 f x hI) hk⟩
      | 8, _ => exact ⟨385, 418, rfl, by decide, law_8 C (nI i) hin1 hin2 hin3 hin4 hin5 (hSt.2.2.2.2.2.2.2.2.1 f x hI) hk⟩
      | 9, _ => exact ⟨418, 451, rfl, by decide, law_9 C (nI i) hin1 hin2 hin3 hin4 hin5 (hSt.2.2.2.2.2.2.2.2.2.1 f x hI) hk⟩
      | 10, _ => exact ⟨451, 484, rfl, by decide, law_10 C (nI i) hin1 hin2 hin3 hin4 hin5 (hSt.2.2.2.2.2.2.2.2.2.2.1 f x hI) hk⟩
      | 11, _ => exact ⟨474, 507, rfl, by decide, law_11 C (nI i) hin1 hin2 hin3 hin4 hin5 (hSt.2.2.2.2.2.2.2.2.2.2.2.1 f x hI) hk⟩
      | 12, _ => exact ⟨497, 530, rfl, by decide, law_12 C (nI i) hin1 hin2 hin3 hin4 hin5 (hSt.2.2.2.2.2.2.2.2.2.2.2.2.1 f x hI) hk⟩
      | 13, _ => exact ⟨520, 553, rfl, by decide, law_13 C (nI i) hin1 hin2 hin3 hin4 hin5 (hSt.2.2.2.2.2.2.2.2.2.2.2.2.2.1 f x hI) hk⟩
      | 14, _ => exact ⟨533, 566, rfl, by decide, law_14 C (nI i) hin1 hin2 hin3 hin4 hin5 (hSt.2.2.2.2.2.2.2.2.2.2.2.2.2.2.1 f x hI) hk⟩
      | 15, _ => exact ⟨557, 590, rfl, by decide, law_15 C (nI i) hin1 hin2 hin3 hin4 hin5 (hSt.2.2.2.2.2.2.2.2.2.2.2.2.2.2.2.1 f x hI) hk⟩
      | 16, _ => exact ⟨580, 613, rfl, by decide, law_16 C (nI i) hin1 hin2 hin3 hin4 hin5 (hSt.2.2.2.2.2.2.2.2.2.2.2.2.2.2.2.2.1 f x hI) hk⟩
      | 17, _ => exact ⟨603, 636, rfl, by decide, law_17 C (nI i) hin1 hin2 hin3 hin4 hin5 (hSt.2.2.2.2.2.2.2.2.2.2.2.2.2.2.2.2.2.1 f x hI) hk⟩
      | 18, _ => exact ⟨626, 659, rfl, by decide, law_18 C (nI i) hin1 hin2 hin3 hin4 hin5 (hSt.2.2.2.2.2.2.2.2.2.2.2.2.2.2.2.2.2.2.1 f x hI) hk⟩
      | 19, _ => exact ⟨639, 672, rfl, by decide, law_19 C (nI i) hin1 hin2 hin3 hin4 hin5 (hSt.2.2.2.2.2.2.2.2.2.2.2.2.2.2.2.2.2.2.2.1 f x hI) hk⟩
      | 20, _ => exact ⟨662, 695, rfl, by decide, law_20 C (nI i) hin1 hin2 hin3 hin4 hin5 (hSt.2.2.2.2.2.2.2.2.2.2.2.2.2.2.2.2.2.2.2.2.1 f x hI) hk⟩
      | 21, _ => exact ⟨685, 718, rfl, by decide, law_21 C (nI i) hin1 hin2 hin3 hin4 hin5 (hSt.2.2.2.2.2.2.2.2.2.2.2.2.2.2.2.2.2.2.2.2.2.1 f x hI) hk⟩
      | 22, _ => exact ⟨718, 751, rfl, by decide, law_22 C (nI i) hin1 hin2 hin3 hin4 hin5 (hSt.2.2.2.2.2.2.2.2.2.2.2.2.2.2.2.2.2.2.2.2.2.2.1 f x hI) hk⟩
      | 23, _ => exact ⟨767, 800, rfl, by decide, law_23 C (nI i) hin1 hin2 hin3 hin4 hin5 (hSt.2.2.2.2.2.2.2.2.2.2.2.2.2.2.2.2.2.2.2.2.2.2.2.1 f x hI) hk⟩
      | 24, _ => exact ⟨780, 813, rfl, by decide, law_24 C (nI i) hin1 hin2 hin3 hin4 hin5 (hSt.2.2.2.2.2.2.2.2.2.2.2.2.2.2.2.2.2.2.2.2.2.2.2.2.1 f x hI) hk⟩
      | 25, _ => exact ⟨819, 852, rfl, by decide, law_25 C (nI i) hin1 hin2 hin3 hin4 hin5 (hSt.2.2.2.2.2.2.2.2.2.2.2.2.2.2.2.2.2.2.2.2.2.2.2.2.2.1 f x hI) hk⟩
      | 26, _ => exact ⟨852, 885, rfl, by decide, law_26 C (nI i) hin1 hin2 hin3 hin4 hin5 (hSt.2.2.2.2.2.2.2.2.2.2.2.2.2.2.2.2.2.2.2.2.2.2.2.2.2.2.1 f x hI) hk⟩
      | 27, _ => exact ⟨885, 918, rfl, by decide, law_27 C (nI i) hin1 hin2 hin3 hin4 hin5 (hSt.2.2.2.2.2.2.2.2.2.2.2.2.2.2.2.2.2.2.2.2.2.2.2.2.2.2.2.1 f x hI) hk⟩
      | 28, _ => exact ⟨938, 971, rfl, by decide, law_28 C (nI i) hin1 hin2 hin3 hin4 hin5 (hSt.2.2.2.2.2.2.2.2.2.2.2.2.2.2.2.2.2.2.2.2.2.2.2.2.2.2.2.2.1 f x hI) hk⟩
      | 29, _ => exact ⟨971, 1004, rfl, by decide, law_29 C (nI i) hin1 hin2 hin3 hin4 hin5 (hSt.2.2.2.2.2.2.2.2.2.2.2.2.2.2.2.2.2.2.2.2.2.2.2.2.2.2.2.2.2.1 f x hI) hk⟩
      | 30, _ => exact ⟨1004, 1037, rfl, by decide, law_30 C (nI i) hin1 hin2 hin3 hin4 hin5 (hSt.2.2.2.2.2.2.2.2.2.2.2.2.2.2.2.2.2.2.2.2.2.2.2.2.2.2.2.2.2.2.1 f x hI) hk⟩
      | 31, _ => exact ⟨1027, 1060, rfl, by decide, law_31 C (nI i) hin1 hin2 hin3 hin4 hin5 (hSt.2.2.2.2.2.2.2.2.2.2.2.2.2.2.2.2.2.2.2.2.2.2.2.2.2.2.2.2.2.2.2.1 f x hI) hk⟩
      | 32, _ => exact ⟨1050, 1083, rfl, by decide, law_32 C (nI i) hin1 hin2 hin3 hin4 hin5 (hSt.2.2.2.2.2.2.2.2.2.2.2.2.2.2.2.2.2.2.2.2.2.2.2.2.2.2.2.2.2.2.2.2.1 f x hI) hk⟩
      | 33, _ => exact ⟨1073, 1106, rfl, by decide, law_33 C (nI i) hin1 hin2 hin3 hin4 hin5 (hSt.2.2.2.2.2.2.2.2.2.2.2.2.2.2.2.2.2.2.2.2.2.2.2.2.2.2.2.2.2.2.2.2.2 f x hI) hk⟩
      | j + 34, hj => exact absurd hj (by omega)
