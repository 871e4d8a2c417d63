/-! FaultWaysModel.count(I)I -/
def wp_X12_count_187 (post : Int32 → St → Prop) (z0 : Int32) (z1 : Int32) (σ : St) : Prop :=
  vp_in 2 3 ∧ (((ga σ 18 2) = 0 → post ((z1 + z0) + 0) σ) ∧ (¬ (ga σ 18 2) = 0 → post ((z1 + z0) + 1) σ))
def wp_X12_count_173 (post : Int32 → St → Prop) (z0 : Int32) (σ : St) : Prop :=
  vp_in 1 3 ∧ (((ga σ 18 1) = 0 → wp_X12_count_187 post 0 z0 σ) ∧ (¬ (ga σ 18 1) = 0 → wp_X12_count_187 post 1 z0 σ))
def wp_X12_count (post : Int32 → St → Prop) (a1 : Int32) (σ : St) : Prop :=
  ((a1).toInt < 0 ∨ 17 < (a1).toInt → post (-1) σ) ∧ (a1 = 0 → post (gi σ 17) σ) ∧ (a1 = 1 → post (gi σ 18) σ) ∧ (a1 = 2 → vp_in 0 121 ∧ (post (ga σ 14 0) σ)) ∧ (a1 = 3 → wp_X12_knows (fun τ1 => post (gi τ1 43) τ1) σ) ∧ (a1 = 4 → wp_X12_inState (fun r3 τ2 => post r3 τ2) 1 σ) ∧ (a1 = 5 → wp_X12_inState (fun r5 τ4 => post r5 τ4) 2 σ) ∧ (a1 = 6 → wp_X12_inState (fun r7 τ6 => post r7 τ6) 3 σ) ∧ (a1 = 7 → wp_X12_waysThatAre (fun r9 τ8 => post r9 τ8) 1 σ) ∧ (a1 = 8 → wp_X12_waysThatAre (fun r11 τ10 => post r11 τ10) 2 σ) ∧ (a1 = 9 → wp_X12_seenLinks (fun r13 τ12 => post r13 τ12) σ) ∧ (a1 = 10 → post (gi σ 2) σ) ∧ (a1 = 11 → post (gi σ 38) σ) ∧ (a1 = 12 → vp_in 0 3 ∧ (((ga σ 18 0) = 0 → wp_X12_count_173 post 0 σ) ∧ (¬ (ga σ 18 0) = 0 → wp_X12_count_173 post 1 σ))) ∧ (a1 = 13 → wp_X12_knows (fun τ14 => (0 ≤ (gi τ14 49) → wp_X12_bitsOf (fun r16 τ15 => post r16 τ15) (gi τ14 49) τ14) ∧ (¬ 0 ≤ (gi τ14 49) → post (-2) τ14)) σ) ∧ (a1 = 14 → post (gi σ 19) σ) ∧ (a1 = 15 → post (gi σ 20) σ) ∧ (a1 = 16 → post (gi σ 21) σ) ∧ (a1 = 17 → wp_X12_laysPlans (fun τ17 => post (gi τ17 58) τ17) σ)
def rm_X12_count : Room := { frames := 5, cells := 0, slots := 0, locals := 108 }
set_option maxHeartbeats 4000000 in
set_option maxRecDepth 100000 in
theorem k_X12_count_187 {p : Program} {l : Launch} {e : Env} {s : State} {m : MethodId} {args : Array Value} {below : List Frame} {meth : Method} {c : Code} {D : va_G} {cy : Nat → ClassId} {ad : Nat → Nat} {A : Nat → Prop} {E : State → Prop} {post : Int32 → St → Prop} (C : wC p m meth c cX12_count 2 (some .int) s args RX12 D cy A (wM cy ad) E) (z0 : Int32) (z1 : Int32) (σ : St) (h : wp_X12_count_187 post z0 z1 σ) : wG p l e rm_X12_count s m args below meth c (MQ below (va_Qi post (wPost D (wM cy ad)) A) args s 0 0 A) 2 D A (wM cy ad) 187 σ [(0, .ref (ad 0))] [.int z0, .int z1] := by
  unfold wp_X12_count_187 at h
  refine g_iadd C dX12_count_187 ?_
  refine g_aload_n C dX12_count_188 rfl 0 rfl ?_
  refine gtM_0_40 C mF_X12_70 dX12_count_189 ?_
  refine g_iconst C 2 dX12_count_192 (by decide) ?_
  refine alM_18 C h.1 dX12_count_193 ?_
  have h := h.2
  refine g_if_eq C 201 dX12_count_194 (by decide) (fun hc => ?_) (fun hc => ?_)
  · have h := h.1 hc
    refine g_iconst C 0 dX12_count_201 (by decide) ?_
    refine g_iadd C dX12_count_202 ?_
    exact g_iret C rfl dX12_count_203 h
  · have h := h.2 hc
    refine g_iconst C 1 dX12_count_197 (by decide) ?_
    refine g_goto C 202 dX12_count_198 (by decide) ?_
    refine g_iadd C dX12_count_202 ?_
    exact g_iret C rfl dX12_count_203 h
set_option maxHeartbeats 4000000 in
set_option maxRecDepth 100000 in
theorem k_X12_count_173 {p : Program} {l : Launch} {e : Env} {s : State} {m : MethodId} {args : Array Value} {below : List Frame} {meth : Method} {c : Code} {D : va_G} {cy : Nat → ClassId} {ad : Nat → Nat} {A : Nat → Prop} {E : State → Prop} {post : Int32 → St → Prop} (C : wC p m meth c cX12_count 2 (some .int) s args RX12 D cy A (wM cy ad) E) (z0 : Int32) (σ : St) (h : wp_X12_count_173 post z0 σ) : wG p l e rm_X12_count s m args below meth c (MQ below (va_Qi post (wPost D (wM cy ad)) A) args s 0 0 A) 2 D A (wM cy ad) 173 σ [(0, .ref (ad 0))] [.int z0] := by
  unfold wp_X12_count_173 at h
  refine g_aload_n C dX12_count_173 rfl 0 rfl ?_
  refine gtM_0_40 C mF_X12_70 dX12_count_174 ?_
  refine g_iconst C 1 dX12_count_177 (by decide) ?_
  refine alM_18 C h.1 dX12_count_178 ?_
  have h := h.2
  refine g_if_eq C 186 dX12_count_179 (by decide) (fun hc => ?_) (fun hc => ?_)
  · have h := h.1 hc
    refine g_iconst C 0 dX12_count_186 (by decide) ?_
    exact k_X12_count_187 C 0 z0 σ h
  · have h := h.2 hc
    refine g_iconst C 1 dX12_count_182 (by decide) ?_
    refine g_goto C 187 dX12_count_183 (by decide) ?_
    exact k_X12_count_187 C 1 z0 σ h
set_option maxHeartbeats 4000000 in
set_option maxRecDepth 100000 in
theorem k_X12_count_0 {p : Program} {l : Launch} {e : Env} {s : State} {m : MethodId} {args : Array Value} {below : List Frame} {meth : Method} {c : Code} {D : va_G} {cy : Nat → ClassId} {ad : Nat → Nat} {A : Nat → Prop} {E : State → Prop} {post : Int32 → St → Prop} (C : wC p m meth c cX12_count 2 (some .int) s args RX12 D cy A (wM cy ad) E) (a1 : Int32) (σ : St) (h : wp_X12_count post a1 σ) : wG p l e rm_X12_count s m args below meth c (MQ below (va_Qi post (wPost D (wM cy ad)) A) args s 0 0 A) 2 D A (wM cy ad) 0 σ [(0, .ref (ad 0)), (1, .int a1)] [] := by
  unfold wp_X12_count at h
  refine g_iload_n C dX12_count_0 rfl 1 rfl ?_
  refine g_table C 252 dX12_count_1 (by decide) (fun hc => ?_) (fun j hj hx => ?_)
  · have h := h.1 hc
    refine g_iconst C (-1) dX12_count_252 (by decide) ?_
    exact g_iret C rfl dX12_count_253 h
  · have h := h.2
    match j, hj, hx with
    | 0, hj, hx =>
      have h := h.1 (swx hx rfl)
      refine ⟨87, 88, rfl, by decide, ?_⟩
      refine g_aload_n C dX12_count_88 rfl 0 rfl ?_
      refine gtM_0_17 C mF_X12_197 dX12_count_89 ?_
      exact g_iret C rfl dX12_count_92 h
    | 1, hj, hx =>
      have h := h.2.1 (swx hx rfl)
      refine ⟨92, 93, rfl, by decide, ?_⟩
      refine g_aload_n C dX12_count_93 rfl 0 rfl ?_
      refine gtM_0_18 C mF_X12_200 dX12_count_94 ?_
      exact g_iret C rfl dX12_count_97 h
    | 2, hj, hx =>
      have h := h.2.2.1 (swx hx rfl)
      refine ⟨97, 98, rfl, by decide, ?_⟩
      refine g_aload_n C dX12_count_98 rfl 0 rfl ?_
      refine gtM_0_34 C mF_X12_58 dX12_count_99 ?_
      refine g_iconst C 0 dX12_count_102 (by decide) ?_
      refine alM_14 C h.1 dX12_count_103 ?_
      have h := h.2
      exact g_iret C rfl dX12_count_104 h
    | 3, hj, hx =>
      have h := h.2.2.2.1 (swx hx rfl)
      refine ⟨104, 105, rfl, by decide, ?_⟩
      refine g_aload_n C dX12_count_105 rfl 0 rfl ?_
      refine g_callVv C (c_X12_knows l D cy ad A E C.2.2.1 C.2.2.2.1 _  _ h) rfl (wlM_0 cy ad σ) (uCV C mM_X12_332 uV_X12_knows rfl rfl ⟨Nat.le_of_ble_eq_true rfl, Nat.le_of_ble_eq_true rfl⟩) rfl rfl (Nat.le_of_ble_eq_true rfl) dX12_count_106 (fun τ1 h => ?_)
      refine g_aload_n C dX12_count_109 rfl 0 rfl ?_
      refine gtM_0_43 C mF_X12_287 dX12_count_110 ?_
      exact g_iret C rfl dX12_count_113 h
    | 4, hj, hx =>
      have h := h.2.2.2.2.1 (swx hx rfl)
      refine ⟨113, 114, rfl, by decide, ?_⟩
      refine g_aload_n C dX12_count_114 rfl 0 rfl ?_
      refine g_iconst C 1 dX12_count_115 (by decide) ?_
      refine g_callVi C (c_X12_inState l D cy ad A E C.2.2.1 C.2.2.2.1 _ _ _ h) rfl (wlM_0 cy ad σ) (uCV C mM_X12_436 uV_X12_inState rfl rfl ⟨Nat.le_of_ble_eq_true rfl, Nat.le_of_ble_eq_true rfl⟩) rfl rfl (Nat.le_of_ble_eq_true rfl) dX12_count_116 (fun r3 τ2 h => ?_)
      exact g_iret C rfl dX12_count_119 h
    | 5, hj, hx =>
      have h := h.2.2.2.2.2.1 (swx hx rfl)
      refine ⟨119, 120, rfl, by decide, ?_⟩
      refine g_aload_n C dX12_count_120 rfl 0 rfl ?_
      refine g_iconst C 2 dX12_count_121 (by decide) ?_
      refine g_callVi C (c_X12_inState l D cy ad A E C.2.2.1 C.2.2.2.1 _ _ _ h) rfl (wlM_0 cy ad σ) (uCV C mM_X12_436 uV_X12_inState rfl rfl ⟨Nat.le_of_ble_eq_true rfl, Nat.le_of_ble_eq_true rfl⟩) rfl rfl (Nat.le_of_ble_eq_true rfl) dX12_count_122 (fun r5 τ4 h => ?_)
      exact g_iret C rfl dX12_count_125 h
    | 6, hj, hx =>
      have h := h.2.2.2.2.2.2.1 (swx hx rfl)
      refine ⟨125, 126, rfl, by decide, ?_⟩
      refine g_aload_n C dX12_count_126 rfl 0 rfl ?_
      refine g_iconst C 3 dX12_count_127 (by decide) ?_
      refine g_callVi C (c_X12_inState l D cy ad A E C.2.2.1 C.2.2.2.1 _ _ _ h) rfl (wlM_0 cy ad σ) (uCV C mM_X12_436 uV_X12_inState rfl rfl ⟨Nat.le_of_ble_eq_true rfl, Nat.le_of_ble_eq_true rfl⟩) rfl rfl (Nat.le_of_ble_eq_true rfl) dX12_count_128 (fun r7 τ6 h => ?_)
      exact g_iret C rfl dX12_count_131 h
    | 7, hj, hx =>
      have h := h.2.2.2.2.2.2.2.1 (swx hx rfl)
      refine ⟨131, 132, rfl, by decide, ?_⟩
      refine g_aload_n C dX12_count_132 rfl 0 rfl ?_
      refine g_iconst C 1 dX12_count_133 (by decide) ?_
      refine g_callVi C (c_X12_waysThatAre l D cy ad A E C.2.2.1 C.2.2.2.1 _ _ _ h) rfl (wlM_0 cy ad σ) (uCV C mM_X12_439 uV_X12_waysThatAre rfl rfl ⟨Nat.le_of_ble_eq_true rfl, Nat.le_of_ble_eq_true rfl⟩) rfl rfl (Nat.le_of_ble_eq_true rfl) dX12_count_134 (fun r9 τ8 h => ?_)
      exact g_iret C rfl dX12_count_137 h
    | 8, hj, hx =>
      have h := h.2.2.2.2.2.2.2.2.1 (swx hx rfl)
      refine ⟨137, 138, rfl, by decide, ?_⟩
      refine g_aload_n C dX12_count_138 rfl 0 rfl ?_
      refine g_iconst C 2 dX12_count_139 (by decide) ?_
      refine g_callVi C (c_X12_waysThatAre l D cy ad A E C.2.2.1 C.2.2.2.1 _ _ _ h) rfl (wlM_0 cy ad σ) (uCV C mM_X12_439 uV_X12_waysThatAre rfl rfl ⟨Nat.le_of_ble_eq_true rfl, Nat.le_of_ble_eq_true rfl⟩) rfl rfl (Nat.le_of_ble_eq_true rfl) dX12_count_140 (fun r11 τ10 h => ?_)
      exact g_iret C rfl dX12_count_143 h
    | 9, hj, hx =>
      have h := h.2.2.2.2.2.2.2.2.2.1 (swx hx rfl)
      refine ⟨143, 144, rfl, by decide, ?_⟩
      refine g_aload_n C dX12_count_144 rfl 0 rfl ?_
      refine g_callVi C (c_X12_seenLinks l D cy ad A E C.2.2.1 C.2.2.2.1 _  _ h) rfl (wlM_0 cy ad σ) (uCV C mM_X12_372 uV_X12_seenLinks rfl rfl ⟨Nat.le_of_ble_eq_true rfl, Nat.le_of_ble_eq_true rfl⟩) rfl rfl (Nat.le_of_ble_eq_true rfl) dX12_count_145 (fun r13 τ12 h => ?_)
      exact g_iret C rfl dX12_count_148 h
    | 10, hj, hx =>
      have h := h.2.2.2.2.2.2.2.2.2.2.1 (swx hx rfl)
      refine ⟨148, 149, rfl, by decide, ?_⟩
      refine g_aload_n C dX12_count_149 rfl 0 rfl ?_
      refine gtM_0_2 C mF_X12_114 dX12_count_150 ?_
      exact g_iret C rfl dX12_count_153 h
    | 11, hj, hx =>
      have h := h.2.2.2.2.2.2.2.2.2.2.2.1 (swx hx rfl)
      refine ⟨153, 154, rfl, by decide, ?_⟩
      refine g_aload_n C dX12_count_154 rfl 0 rfl ?_
      refine gtM_0_38 C mF_X12_215 dX12_count_155 ?_
      exact g_iret C rfl dX12_count_158 h
    | 12, hj, hx =>
      have h := h.2.2.2.2.2.2.2.2.2.2.2.2.1 (swx hx rfl)
      refine ⟨158, 159, rfl, by decide, ?_⟩
      refine g_aload_n C dX12_count_159 rfl 0 rfl ?_
      refine gtM_0_40 C mF_X12_70 dX12_count_160 ?_
      refine g_iconst C 0 dX12_count_163 (by decide) ?_
      refine alM_18 C h.1 dX12_count_164 ?_
      have h := h.2
      refine g_if_eq C 172 dX12_count_165 (by decide) (fun hc => ?_) (fun hc => ?_)
      · have h := h.1 hc
        refine g_iconst C 0 dX12_count_172 (by decide) ?_
        refine g_sub [0] rfl ?_
        exact k_X12_count_173 C 0 σ h
      · have h := h.2 hc
        refine g_iconst C 1 dX12_count_168 (by decide) ?_
        refine g_goto C 173 dX12_count_169 (by decide) ?_
        refine g_sub [0] rfl ?_
        exact k_X12_count_173 C 1 σ h
    | 13, hj, hx =>
      have h := h.2.2.2.2.2.2.2.2.2.2.2.2.2.1 (swx hx rfl)
      refine ⟨203, 204, rfl, by decide, ?_⟩
      refine g_aload_n C dX12_count_204 rfl 0 rfl ?_
      refine g_callVv C (c_X12_knows l D cy ad A E C.2.2.1 C.2.2.2.1 _  _ h) rfl (wlM_0 cy ad σ) (uCV C mM_X12_332 uV_X12_knows rfl rfl ⟨Nat.le_of_ble_eq_true rfl, Nat.le_of_ble_eq_true rfl⟩) rfl rfl (Nat.le_of_ble_eq_true rfl) dX12_count_205 (fun τ14 h => ?_)
      refine g_aload_n C dX12_count_208 rfl 0 rfl ?_
      refine gtM_0_49 C mF_X12_308 dX12_count_209 ?_
      refine g_if_ge C 220 dX12_count_212 (by decide) (fun hc => ?_) (fun hc => ?_)
      · have h := h.1 hc
        refine g_aload_n C dX12_count_220 rfl 0 rfl ?_
        refine gtM_0_49 C mF_X12_308 dX12_count_221 ?_
        refine g_callSi C (c_X12_bitsOf l D cy ad A E C.2.2.1 C.2.2.2.1 _ _ _ h) (uCS C mM_X12_293 uS_X12_bitsOf rfl rfl ⟨Nat.le_of_ble_eq_true rfl, Nat.le_of_ble_eq_true rfl⟩) rfl rfl (Nat.le_of_ble_eq_true rfl) dX12_count_224 (fun r16 τ15 h => ?_)
        exact g_iret C rfl dX12_count_227 h
      · have h := h.2 hc
        refine g_bipush C (-2) dX12_count_215 (by decide) ?_
        refine g_goto C 227 dX12_count_217 (by decide) ?_
        exact g_iret C rfl dX12_count_227 h
    | 14, hj, hx =>
      have h := h.2.2.2.2.2.2.2.2.2.2.2.2.2.2.1 (swx hx rfl)
      refine ⟨227, 228, rfl, by decide, ?_⟩
      refine g_aload_n C dX12_count_228 rfl 0 rfl ?_
      refine gtM_0_19 C mF_X12_203 dX12_count_229 ?_
      exact g_iret C rfl dX12_count_232 h
    | 15, hj, hx =>
      have h := h.2.2.2.2.2.2.2.2.2.2.2.2.2.2.2.1 (swx hx rfl)
      refine ⟨232, 233, rfl, by decide, ?_⟩
      refine g_aload_n C dX12_count_233 rfl 0 rfl ?_
      refine gtM_0_20 C mF_X12_111 dX12_count_234 ?_
      exact g_iret C rfl dX12_count_237 h
    | 16, hj, hx =>
      have h := h.2.2.2.2.2.2.2.2.2.2.2.2.2.2.2.2.1 (swx hx rfl)
      refine ⟨237, 238, rfl, by decide, ?_⟩
      refine g_aload_n C dX12_count_238 rfl 0 rfl ?_
      refine gtM_0_21 C mF_X12_212 dX12_count_239 ?_
      exact g_iret C rfl dX12_count_242 h
    | 17, hj, hx =>
      have h := h.2.2.2.2.2.2.2.2.2.2.2.2.2.2.2.2.2 (swx hx rfl)
      refine ⟨242, 243, rfl, by decide, ?_⟩
      refine g_aload_n C dX12_count_243 rfl 0 rfl ?_
      refine g_callVv C (c_X12_laysPlans l D cy ad A E C.2.2.1 C.2.2.2.1 _  _ h) rfl (wlM_0 cy ad σ) (uCV C mM_X12_414 uV_X12_laysPlans rfl rfl ⟨Nat.le_of_ble_eq_true rfl, Nat.le_of_ble_eq_true rfl⟩) rfl rfl (Nat.le_of_ble_eq_true rfl) dX12_count_244 (fun τ17 h => ?_)
      refine g_aload_n C dX12_count_247 rfl 0 rfl ?_
      refine gtM_0_58 C mF_X12_402 dX12_count_248 ?_
      exact g_iret C rfl dX12_count_251 h
    | j + 18, hj, hx => exact absurd hj (by omega)
theorem c_X12_count (l : Launch) (D : va_G) (cy : Nat → ClassId) (ad : Nat → Nat) (A : Nat → Prop) (E : State → Prop) (hD : ∀ σ, va_D A (wM cy ad σ)) (hE : wEok A E) (post : Int32 → St → Prop) (a1 : Int32) (σ : St) (h : wp_X12_count post a1 σ) : Met l yX12_count (uW yX12_count cX12_count 2 (some .int)) rm_X12_count (va_Pc [.ref (ad 0), .int a1] (wPre D cy (wM cy ad) E σ)) (va_Qi post (wPost D (wM cy ad)) A) 0 0 A :=
  met_of (by decide) rfl hD hE (Nat.le_of_ble_eq_true rfl) rfl (fun p e s m below meth c C => (k_X12_count_0 C a1 σ h))
