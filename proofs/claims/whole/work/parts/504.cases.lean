/-! the law's cases -/
set_option maxRecDepth 100000 in
set_option maxHeartbeats 4000000 in
theorem lc_0 {κ : Ctx} (C : Cx κ cL_law RL room_1 4) {b L : Nat} {xs : Nat → Int32} (hX : Sc κ b L xs) (hL : L ≤ 3584) {G : Shp} {ad ro : Nat → Nat} (H : CS G ad ro) (H9 : RG G ad ro) {i cells slots : Nat} (hi : i + 7 ≤ L) (hcs : cells ≤ room_1.cells ∧ slots ≤ room_1.slots) {D : Dat} {S : AS} (h : ClV ad ro D D S) (h9 : RfV ad ro D D S) (fin : ∀ D' S', ClV ad ro D' D' S' → RfV ad ro D' D' S' → J κ cells slots G D' 1087 (LV b (ad 0) (ad 500) i) []) : J κ cells slots G D 148 (LV b (ad 0) (ad 500) i) [] := by
  refine j_aload_n C dL_law_148 rfl 2 rfl ?_
  refine j_cVI C (X8_status_ok _ G D (ad 0)  (fun r D' => ClV ad ro D D' (sStatus S).2 ∧ r = (sStatus S).1) (status_sp H h (fun D' c => ⟨c, rfl⟩))) H.x_ rfl k_279 mv_X8_status ⟨Nat.le_of_ble_eq_true rfl, Nat.le_of_ble_eq_true rfl⟩ ⟨rfl, rfl⟩ rfl rfl (Nat.le_of_ble_eq_true rfl) hcs dL_law_149 (fun r1 D1 hp => ?_)
  obtain ⟨c1, e1⟩ := hp
  have g1 := h9.by H9 c1
  refine j_aload_n C dL_law_152 rfl 1 rfl ?_
  refine j_cVI C (X9_status_ok _ G D1 (ad 500)  (fun r D' => RfV ad ro D1 D' (sStatus S).2 ∧ r = (sStatus S).1) (status9_sp H9 g1 (fun D' c => ⟨c, rfl⟩))) H9.x_ rfl k_855 mv_X9_status ⟨Nat.le_of_ble_eq_true rfl, Nat.le_of_ble_eq_true rfl⟩ ⟨rfl, rfl⟩ rfl rfl (Nat.le_of_ble_eq_true rfl) hcs dL_law_153 (fun r2 D2 hp => ?_)
  obtain ⟨c2, e2⟩ := hp
  refine j_icmp_eq (tgt := 1087) C dL_law_156 (by decide) (fun _ => ?_) (fun hc => absurd (e1.trans e2.symm) hc)
  exact fin D2 _ (c1.by H c2) c2.self
set_option maxRecDepth 100000 in
set_option maxHeartbeats 4000000 in
theorem lc_1 {κ : Ctx} (C : Cx κ cL_law RL room_1 4) {b L : Nat} {xs : Nat → Int32} (hX : Sc κ b L xs) (hL : L ≤ 3584) {G : Shp} {ad ro : Nat → Nat} (H : CS G ad ro) (H9 : RG G ad ro) {i cells slots : Nat} (hi : i + 7 ≤ L) (hcs : cells ≤ room_1.cells ∧ slots ≤ room_1.slots) {D : Dat} {S : AS} (h : ClV ad ro D D S) (h9 : RfV ad ro D D S) (fin : ∀ D' S', ClV ad ro D' D' S' → RfV ad ro D' D' S' → J κ cells slots G D' 1087 (LV b (ad 0) (ad 500) i) []) : J κ cells slots G D 161 (LV b (ad 0) (ad 500) i) [] := by
  refine j_aload_n C dL_law_161 rfl 2 rfl ?_
  refine j_arg (k := 1) C hX hL (by omega) (by decide) dL_law_162 dL_law_163 dL_law_164 dL_law_165 dL_law_166 ?_
  refine j_cVI C (X8_out_ok _ G D (ad 0) (xs (i + 1)) (fun r D' => ClV ad ro D D' (sOut S (xs (i + 1))).2 ∧ r = (sOut S (xs (i + 1))).1) (out_sp H h (fun D' c => ⟨c, rfl⟩))) H.x_ rfl k_283 mv_X8_out ⟨Nat.le_of_ble_eq_true rfl, Nat.le_of_ble_eq_true rfl⟩ ⟨rfl, rfl⟩ rfl rfl (Nat.le_of_ble_eq_true rfl) hcs dL_law_167 (fun r1 D1 hp => ?_)
  obtain ⟨c1, e1⟩ := hp
  have g1 := h9.by H9 c1
  refine j_aload_n C dL_law_170 rfl 1 rfl ?_
  refine j_arg (k := 1) C hX hL (by omega) (by decide) dL_law_171 dL_law_172 dL_law_173 dL_law_174 dL_law_175 ?_
  refine j_cVI C (X9_out_ok _ G D1 (ad 500) (xs (i + 1)) (fun r D' => RfV ad ro D1 D' (sOut S (xs (i + 1))).2 ∧ r = (sOut S (xs (i + 1))).1) (out9_sp H9 g1 (fun D' c => ⟨c, rfl⟩))) H9.x_ rfl k_859 mv_X9_out ⟨Nat.le_of_ble_eq_true rfl, Nat.le_of_ble_eq_true rfl⟩ ⟨rfl, rfl⟩ rfl rfl (Nat.le_of_ble_eq_true rfl) hcs dL_law_176 (fun r2 D2 hp => ?_)
  obtain ⟨c2, e2⟩ := hp
  refine j_icmp_eq (tgt := 1087) C dL_law_179 (by decide) (fun _ => ?_) (fun hc => absurd (e1.trans e2.symm) hc)
  exact fin D2 _ (c1.by H c2) c2.self
set_option maxRecDepth 100000 in
set_option maxHeartbeats 4000000 in
theorem lc_2 {κ : Ctx} (C : Cx κ cL_law RL room_1 4) {b L : Nat} {xs : Nat → Int32} (hX : Sc κ b L xs) (hL : L ≤ 3584) {G : Shp} {ad ro : Nat → Nat} (H : CS G ad ro) (H9 : RG G ad ro) {i cells slots : Nat} (hi : i + 7 ≤ L) (hcs : cells ≤ room_1.cells ∧ slots ≤ room_1.slots) {D : Dat} {S : AS} (h : ClV ad ro D D S) (h9 : RfV ad ro D D S) (fin : ∀ D' S', ClV ad ro D' D' S' → RfV ad ro D' D' S' → J κ cells slots G D' 1087 (LV b (ad 0) (ad 500) i) []) : J κ cells slots G D 184 (LV b (ad 0) (ad 500) i) [] := by
  refine j_aload_n C dL_law_184 rfl 2 rfl ?_
  refine j_arg (k := 1) C hX hL (by omega) (by decide) dL_law_185 dL_law_186 dL_law_187 dL_law_188 dL_law_189 ?_
  refine j_arg (k := 2) C hX hL (by omega) (by decide) dL_law_190 dL_law_191 dL_law_192 dL_law_193 dL_law_194 ?_
  refine j_arg (k := 3) C hX hL (by omega) (by decide) dL_law_195 dL_law_196 dL_law_197 dL_law_198 dL_law_199 ?_
  refine j_cVI C (X8_put_ok _ G D (ad 0) (xs (i + 1)) (xs (i + 2)) (xs (i + 3)) (fun r D' => ClV ad ro D D' (sPut S (xs (i + 1)) (xs (i + 2)) (xs (i + 3))).2 ∧ r = (sPut S (xs (i + 1)) (xs (i + 2)) (xs (i + 3))).1) (put_sp H h (fun D' c => ⟨c, rfl⟩))) H.x_ rfl k_295 mv_X8_put ⟨Nat.le_of_ble_eq_true rfl, Nat.le_of_ble_eq_true rfl⟩ ⟨rfl, rfl⟩ rfl rfl (Nat.le_of_ble_eq_true rfl) hcs dL_law_200 (fun r1 D1 hp => ?_)
  obtain ⟨c1, e1⟩ := hp
  have g1 := h9.by H9 c1
  refine j_aload_n C dL_law_203 rfl 1 rfl ?_
  refine j_arg (k := 1) C hX hL (by omega) (by decide) dL_law_204 dL_law_205 dL_law_206 dL_law_207 dL_law_208 ?_
  refine j_arg (k := 2) C hX hL (by omega) (by decide) dL_law_209 dL_law_210 dL_law_211 dL_law_212 dL_law_213 ?_
  refine j_arg (k := 3) C hX hL (by omega) (by decide) dL_law_214 dL_law_215 dL_law_216 dL_law_217 dL_law_218 ?_
  refine j_cVI C (X9_put_ok _ G D1 (ad 500) (xs (i + 1)) (xs (i + 2)) (xs (i + 3)) (fun r D' => RfV ad ro D1 D' (sPut S (xs (i + 1)) (xs (i + 2)) (xs (i + 3))).2 ∧ r = (sPut S (xs (i + 1)) (xs (i + 2)) (xs (i + 3))).1) (put9_sp H9 h.ok g1 (fun D' c => ⟨c, rfl⟩))) H9.x_ rfl k_863 mv_X9_put ⟨Nat.le_of_ble_eq_true rfl, Nat.le_of_ble_eq_true rfl⟩ ⟨rfl, rfl⟩ rfl rfl (Nat.le_of_ble_eq_true rfl) hcs dL_law_219 (fun r2 D2 hp => ?_)
  obtain ⟨c2, e2⟩ := hp
  refine j_icmp_eq (tgt := 1087) C dL_law_222 (by decide) (fun _ => ?_) (fun hc => absurd (e1.trans e2.symm) hc)
  exact fin D2 _ (c1.by H c2) c2.self
set_option maxRecDepth 100000 in
set_option maxHeartbeats 4000000 in
theorem lc_3 {κ : Ctx} (C : Cx κ cL_law RL room_1 4) {b L : Nat} {xs : Nat → Int32} (hX : Sc κ b L xs) (hL : L ≤ 3584) {G : Shp} {ad ro : Nat → Nat} (H : CS G ad ro) (H9 : RG G ad ro) {i cells slots : Nat} (hi : i + 7 ≤ L) (hcs : cells ≤ room_1.cells ∧ slots ≤ room_1.slots) {D : Dat} {S : AS} (h : ClV ad ro D D S) (h9 : RfV ad ro D D S) (fin : ∀ D' S', ClV ad ro D' D' S' → RfV ad ro D' D' S' → J κ cells slots G D' 1087 (LV b (ad 0) (ad 500) i) []) : J κ cells slots G D 227 (LV b (ad 0) (ad 500) i) [] := by
  refine j_aload_n C dL_law_227 rfl 2 rfl ?_
  refine j_arg (k := 1) C hX hL (by omega) (by decide) dL_law_228 dL_law_229 dL_law_230 dL_law_231 dL_law_232 ?_
  refine j_arg (k := 2) C hX hL (by omega) (by decide) dL_law_233 dL_law_234 dL_law_235 dL_law_236 dL_law_237 ?_
  refine j_arg (k := 3) C hX hL (by omega) (by decide) dL_law_238 dL_law_239 dL_law_240 dL_law_241 dL_law_242 ?_
  refine j_arg (k := 4) C hX hL (by omega) (by decide) dL_law_243 dL_law_244 dL_law_245 dL_law_246 dL_law_247 ?_
  refine j_arg (k := 5) C hX hL (by omega) (by decide) dL_law_248 dL_law_249 dL_law_250 dL_law_251 dL_law_252 ?_
  refine j_cVI C (X8_fill_ok _ G D (ad 0) (xs (i + 1)) (xs (i + 2)) (xs (i + 3)) (xs (i + 4)) (xs (i + 5)) (fun r D' => ClV ad ro D D' (sFill S (xs (i + 1)) (xs (i + 2)) (xs (i + 3)) (xs (i + 4)) (xs (i + 5))).2 ∧ r = (sFill S (xs (i + 1)) (xs (i + 2)) (xs (i + 3)) (xs (i + 4)) (xs (i + 5))).1) (fill_spc H h (fun D' c => ⟨c, rfl⟩))) H.x_ rfl k_329 mv_X8_fill ⟨Nat.le_of_ble_eq_true rfl, Nat.le_of_ble_eq_true rfl⟩ ⟨rfl, rfl⟩ rfl rfl (Nat.le_of_ble_eq_true rfl) hcs dL_law_253 (fun r1 D1 hp => ?_)
  obtain ⟨c1, e1⟩ := hp
  have g1 := h9.by H9 c1
  refine j_aload_n C dL_law_256 rfl 1 rfl ?_
  refine j_arg (k := 1) C hX hL (by omega) (by decide) dL_law_257 dL_law_258 dL_law_259 dL_law_260 dL_law_261 ?_
  refine j_arg (k := 2) C hX hL (by omega) (by decide) dL_law_262 dL_law_263 dL_law_264 dL_law_265 dL_law_266 ?_
  refine j_arg (k := 3) C hX hL (by omega) (by decide) dL_law_267 dL_law_268 dL_law_269 dL_law_270 dL_law_271 ?_
  refine j_arg (k := 4) C hX hL (by omega) (by decide) dL_law_272 dL_law_273 dL_law_274 dL_law_275 dL_law_276 ?_
  refine j_arg (k := 5) C hX hL (by omega) (by decide) dL_law_277 dL_law_278 dL_law_279 dL_law_280 dL_law_281 ?_
  refine j_cVI C (X9_fill_ok _ G D1 (ad 500) (xs (i + 1)) (xs (i + 2)) (xs (i + 3)) (xs (i + 4)) (xs (i + 5)) (fun r D' => RfV ad ro D1 D' (sFill S (xs (i + 1)) (xs (i + 2)) (xs (i + 3)) (xs (i + 4)) (xs (i + 5))).2 ∧ r = (sFill S (xs (i + 1)) (xs (i + 2)) (xs (i + 3)) (xs (i + 4)) (xs (i + 5))).1) (fill9_sp H9 h.ok g1 (fun D' c => ⟨c, rfl⟩))) H9.x_ rfl k_885 mv_X9_fill ⟨Nat.le_of_ble_eq_true rfl, Nat.le_of_ble_eq_true rfl⟩ ⟨rfl, rfl⟩ rfl rfl (Nat.le_of_ble_eq_true rfl) hcs dL_law_282 (fun r2 D2 hp => ?_)
  obtain ⟨c2, e2⟩ := hp
  refine j_icmp_eq (tgt := 1087) C dL_law_285 (by decide) (fun _ => ?_) (fun hc => absurd (e1.trans e2.symm) hc)
  exact fin D2 _ (c1.by H c2) c2.self
set_option maxRecDepth 100000 in
set_option maxHeartbeats 4000000 in
theorem lc_4 {κ : Ctx} (C : Cx κ cL_law RL room_1 4) {b L : Nat} {xs : Nat → Int32} (hX : Sc κ b L xs) (hL : L ≤ 3584) {G : Shp} {ad ro : Nat → Nat} (H : CS G ad ro) (H9 : RG G ad ro) {i cells slots : Nat} (hi : i + 7 ≤ L) (hcs : cells ≤ room_1.cells ∧ slots ≤ room_1.slots) {D : Dat} {S : AS} (h : ClV ad ro D D S) (h9 : RfV ad ro D D S) (fin : ∀ D' S', ClV ad ro D' D' S' → RfV ad ro D' D' S' → J κ cells slots G D' 1087 (LV b (ad 0) (ad 500) i) []) : J κ cells slots G D 290 (LV b (ad 0) (ad 500) i) [] := by
  refine j_aload_n C dL_law_290 rfl 2 rfl ?_
  refine j_arg (k := 1) C hX hL (by omega) (by decide) dL_law_291 dL_law_292 dL_law_293 dL_law_294 dL_law_295 ?_
  refine j_arg (k := 2) C hX hL (by omega) (by decide) dL_law_296 dL_law_297 dL_law_298 dL_law_299 dL_law_300 ?_
  refine j_cVI C (X8_gap_ok _ G D (ad 0) (xs (i + 1)) (xs (i + 2)) (fun r D' => ClV ad ro D D' (sGap S (xs (i + 1)) (xs (i + 2))).2 ∧ r = (sGap S (xs (i + 1)) (xs (i + 2))).1) (gap_sp H h (fun D' c => ⟨c, rfl⟩))) H.x_ rfl k_333 mv_X8_gap ⟨Nat.le_of_ble_eq_true rfl, Nat.le_of_ble_eq_true rfl⟩ ⟨rfl, rfl⟩ rfl rfl (Nat.le_of_ble_eq_true rfl) hcs dL_law_301 (fun r1 D1 hp => ?_)
  obtain ⟨c1, e1⟩ := hp
  have g1 := h9.by H9 c1
  refine j_aload_n C dL_law_304 rfl 1 rfl ?_
  refine j_arg (k := 1) C hX hL (by omega) (by decide) dL_law_305 dL_law_306 dL_law_307 dL_law_308 dL_law_309 ?_
  refine j_arg (k := 2) C hX hL (by omega) (by decide) dL_law_310 dL_law_311 dL_law_312 dL_law_313 dL_law_314 ?_
  refine j_cVI C (X9_gap_ok _ G D1 (ad 500) (xs (i + 1)) (xs (i + 2)) (fun r D' => RfV ad ro D1 D' (sGap S (xs (i + 1)) (xs (i + 2))).2 ∧ r = (sGap S (xs (i + 1)) (xs (i + 2))).1) (gap9_sp H9 h.ok g1 (fun D' c => ⟨c, rfl⟩))) H9.x_ rfl k_889 mv_X9_gap ⟨Nat.le_of_ble_eq_true rfl, Nat.le_of_ble_eq_true rfl⟩ ⟨rfl, rfl⟩ rfl rfl (Nat.le_of_ble_eq_true rfl) hcs dL_law_315 (fun r2 D2 hp => ?_)
  obtain ⟨c2, e2⟩ := hp
  refine j_icmp_eq (tgt := 1087) C dL_law_318 (by decide) (fun _ => ?_) (fun hc => absurd (e1.trans e2.symm) hc)
  exact fin D2 _ (c1.by H c2) c2.self
set_option maxRecDepth 100000 in
set_option maxHeartbeats 4000000 in
theorem lc_5 {κ : Ctx} (C : Cx κ cL_law RL room_1 4) {b L : Nat} {xs : Nat → Int32} (hX : Sc κ b L xs) (hL : L ≤ 3584) {G : Shp} {ad ro : Nat → Nat} (H : CS G ad ro) (H9 : RG G ad ro) {i cells slots : Nat} (hi : i + 7 ≤ L) (hcs : cells ≤ room_1.cells ∧ slots ≤ room_1.slots) {D : Dat} {S : AS} (h : ClV ad ro D D S) (h9 : RfV ad ro D D S) (fin : ∀ D' S', ClV ad ro D' D' S' → RfV ad ro D' D' S' → J κ cells slots G D' 1087 (LV b (ad 0) (ad 500) i) []) : J κ cells slots G D 323 (LV b (ad 0) (ad 500) i) [] := by
  refine j_aload_n C dL_law_323 rfl 2 rfl ?_
  refine j_arg (k := 1) C hX hL (by omega) (by decide) dL_law_324 dL_law_325 dL_law_326 dL_law_327 dL_law_328 ?_
  refine j_arg (k := 2) C hX hL (by omega) (by decide) dL_law_329 dL_law_330 dL_law_331 dL_law_332 dL_law_333 ?_
  refine j_cVI C (X8_number_ok _ G D (ad 0) (xs (i + 1)) (xs (i + 2)) (fun r D' => ClV ad ro D D' (sNumber S (xs (i + 1)) (xs (i + 2))).2 ∧ r = (sNumber S (xs (i + 1)) (xs (i + 2))).1) (number_sp H h (fun D' c => ⟨c, rfl⟩))) H.x_ rfl k_345 mv_X8_number ⟨Nat.le_of_ble_eq_true rfl, Nat.le_of_ble_eq_true rfl⟩ ⟨rfl, rfl⟩ rfl rfl (Nat.le_of_ble_eq_true rfl) hcs dL_law_334 (fun r1 D1 hp => ?_)
  obtain ⟨c1, e1⟩ := hp
  have g1 := h9.by H9 c1
  refine j_aload_n C dL_law_337 rfl 1 rfl ?_
  refine j_arg (k := 1) C hX hL (by omega) (by decide) dL_law_338 dL_law_339 dL_law_340 dL_law_341 dL_law_342 ?_
  refine j_arg (k := 2) C hX hL (by omega) (by decide) dL_law_343 dL_law_344 dL_law_345 dL_law_346 dL_law_347 ?_
  refine j_cVI C (X9_number_ok _ G D1 (ad 500) (xs (i + 1)) (xs (i + 2)) (fun r D' => RfV ad ro D1 D' (sNumber S (xs (i + 1)) (xs (i + 2))).2 ∧ r = (sNumber S (xs (i + 1)) (xs (i + 2))).1) (number9_sp H9 g1 (fun D' c => ⟨c, rfl⟩))) H9.x_ rfl k_893 mv_X9_number ⟨Nat.le_of_ble_eq_true rfl, Nat.le_of_ble_eq_true rfl⟩ ⟨rfl, rfl⟩ rfl rfl (Nat.le_of_ble_eq_true rfl) hcs dL_law_348 (fun r2 D2 hp => ?_)
  obtain ⟨c2, e2⟩ := hp
  refine j_icmp_eq (tgt := 1087) C dL_law_351 (by decide) (fun _ => ?_) (fun hc => absurd (e1.trans e2.symm) hc)
  exact fin D2 _ (c1.by H c2) c2.self
set_option maxRecDepth 100000 in
set_option maxHeartbeats 4000000 in
theorem lc_6 {κ : Ctx} (C : Cx κ cL_law RL room_1 4) {b L : Nat} {xs : Nat → Int32} (hX : Sc κ b L xs) (hL : L ≤ 3584) {G : Shp} {ad ro : Nat → Nat} (H : CS G ad ro) (H9 : RG G ad ro) {i cells slots : Nat} (hi : i + 7 ≤ L) (hcs : cells ≤ room_1.cells ∧ slots ≤ room_1.slots) {D : Dat} {S : AS} (h : ClV ad ro D D S) (h9 : RfV ad ro D D S) (fin : ∀ D' S', ClV ad ro D' D' S' → RfV ad ro D' D' S' → J κ cells slots G D' 1087 (LV b (ad 0) (ad 500) i) []) : J κ cells slots G D 356 (LV b (ad 0) (ad 500) i) [] := by
  refine j_aload_n C dL_law_356 rfl 2 rfl ?_
  refine j_arg (k := 1) C hX hL (by omega) (by decide) dL_law_357 dL_law_358 dL_law_359 dL_law_360 dL_law_361 ?_
  refine j_arg (k := 2) C hX hL (by omega) (by decide) dL_law_362 dL_law_363 dL_law_364 dL_law_365 dL_law_366 ?_
  refine j_cVI C (X8_told_ok _ G D (ad 0) (xs (i + 1)) (xs (i + 2)) (fun r D' => ClV ad ro D D' (sTold S (xs (i + 1)) (xs (i + 2))).2 ∧ r = (sTold S (xs (i + 1)) (xs (i + 2))).1) (told_sp H h (fun D' c => ⟨c, rfl⟩))) H.x_ rfl k_358 mv_X8_told ⟨Nat.le_of_ble_eq_true rfl, Nat.le_of_ble_eq_true rfl⟩ ⟨rfl, rfl⟩ rfl rfl (Nat.le_of_ble_eq_true rfl) hcs dL_law_367 (fun r1 D1 hp => ?_)
  obtain ⟨c1, e1⟩ := hp
  have g1 := h9.by H9 c1
  refine j_aload_n C dL_law_370 rfl 1 rfl ?_
  refine j_arg (k := 1) C hX hL (by omega) (by decide) dL_law_371 dL_law_372 dL_law_373 dL_law_374 dL_law_375 ?_
  refine j_arg (k := 2) C hX hL (by omega) (by decide) dL_law_376 dL_law_377 dL_law_378 dL_law_379 dL_law_380 ?_
  refine j_cVI C (X9_told_ok _ G D1 (ad 500) (xs (i + 1)) (xs (i + 2)) (fun r D' => RfV ad ro D1 D' (sTold S (xs (i + 1)) (xs (i + 2))).2 ∧ r = (sTold S (xs (i + 1)) (xs (i + 2))).1) (told9_sp H9 h.ok g1 (fun D' c => ⟨c, rfl⟩))) H9.x_ rfl k_901 mv_X9_told ⟨Nat.le_of_ble_eq_true rfl, Nat.le_of_ble_eq_true rfl⟩ ⟨rfl, rfl⟩ rfl rfl (Nat.le_of_ble_eq_true rfl) hcs dL_law_381 (fun r2 D2 hp => ?_)
  obtain ⟨c2, e2⟩ := hp
  refine j_icmp_eq (tgt := 1087) C dL_law_384 (by decide) (fun _ => ?_) (fun hc => absurd (e1.trans e2.symm) hc)
  exact fin D2 _ (c1.by H c2) c2.self
set_option maxRecDepth 100000 in
set_option maxHeartbeats 4000000 in
theorem lc_7 {κ : Ctx} (C : Cx κ cL_law RL room_1 4) {b L : Nat} {xs : Nat → Int32} (hX : Sc κ b L xs) (hL : L ≤ 3584) {G : Shp} {ad ro : Nat → Nat} (H : CS G ad ro) (H9 : RG G ad ro) {i cells slots : Nat} (hi : i + 7 ≤ L) (hcs : cells ≤ room_1.cells ∧ slots ≤ room_1.slots) {D : Dat} {S : AS} (h : ClV ad ro D D S) (h9 : RfV ad ro D D S) (fin : ∀ D' S', ClV ad ro D' D' S' → RfV ad ro D' D' S' → J κ cells slots G D' 1087 (LV b (ad 0) (ad 500) i) []) : J κ cells slots G D 389 (LV b (ad 0) (ad 500) i) [] := by
  by_cases hz : xs (i + 2) = 0
  · refine j_aload_n C dL_law_389 rfl 2 rfl ?_
    refine j_arg (k := 1) C hX hL (by omega) (by decide) dL_law_390 dL_law_391 dL_law_392 dL_law_393 dL_law_394 ?_
    refine j_arg (k := 2) C hX hL (by omega) (by decide) dL_law_395 dL_law_396 dL_law_397 dL_law_398 dL_law_399 ?_
    refine j_if_eq (tgt := 407) C dL_law_400 (by decide) (fun _ => ?_) (fun hc => absurd hz hc)
    refine j_iconst (v := 0) C dL_law_407 (by decide) ?_
    refine j_arg (k := 3) C hX hL (by omega) (by decide) dL_law_408 dL_law_409 dL_law_410 dL_law_411 dL_law_412 ?_
    refine j_cVI C (X8_model_ok _ G D (ad 0) (xs (i + 1)) 0 (xs (i + 3)) (fun r D' => ClV ad ro D D' (sModel S (xs (i + 1)) 0 (xs (i + 3))).2 ∧ r = (sModel S (xs (i + 1)) 0 (xs (i + 3))).1) (model_sp H h isB_0 (fun D' c => ⟨c, rfl⟩))) H.x_ rfl k_371 mv_X8_model ⟨Nat.le_of_ble_eq_true rfl, Nat.le_of_ble_eq_true rfl⟩ ⟨rfl, rfl⟩ rfl rfl (Nat.le_of_ble_eq_true rfl) hcs dL_law_413 (fun r1 D1 hp => ?_)
    obtain ⟨c1, e1⟩ := hp
    have g1 := h9.by H9 c1
    refine j_aload_n C dL_law_416 rfl 1 rfl ?_
    refine j_arg (k := 1) C hX hL (by omega) (by decide) dL_law_417 dL_law_418 dL_law_419 dL_law_420 dL_law_421 ?_
    refine j_arg (k := 2) C hX hL (by omega) (by decide) dL_law_422 dL_law_423 dL_law_424 dL_law_425 dL_law_426 ?_
    refine j_if_eq (tgt := 434) C dL_law_427 (by decide) (fun _ => ?_) (fun hc => absurd hz hc)
    refine j_iconst (v := 0) C dL_law_434 (by decide) ?_
    refine j_arg (k := 3) C hX hL (by omega) (by decide) dL_law_435 dL_law_436 dL_law_437 dL_law_438 dL_law_439 ?_
    refine j_cVI C (X9_model_ok _ G D1 (ad 500) (xs (i + 1)) 0 (xs (i + 3)) (fun r D' => RfV ad ro D1 D' (sModel S (xs (i + 1)) 0 (xs (i + 3))).2 ∧ r = (sModel S (xs (i + 1)) 0 (xs (i + 3))).1) (model9_sp H9 h.ok g1 isB_0 (fun D' c => ⟨c, rfl⟩))) H9.x_ rfl k_909 mv_X9_model ⟨Nat.le_of_ble_eq_true rfl, Nat.le_of_ble_eq_true rfl⟩ ⟨rfl, rfl⟩ rfl rfl (Nat.le_of_ble_eq_true rfl) hcs dL_law_440 (fun r2 D2 hp => ?_)
    obtain ⟨c2, e2⟩ := hp
    refine j_icmp_eq (tgt := 1087) C dL_law_443 (by decide) (fun _ => ?_) (fun hc => absurd (e1.trans e2.symm) hc)
    exact fin D2 _ (c1.by H c2) c2.self
  · refine j_aload_n C dL_law_389 rfl 2 rfl ?_
    refine j_arg (k := 1) C hX hL (by omega) (by decide) dL_law_390 dL_law_391 dL_law_392 dL_law_393 dL_law_394 ?_
    refine j_arg (k := 2) C hX hL (by omega) (by decide) dL_law_395 dL_law_396 dL_law_397 dL_law_398 dL_law_399 ?_
    refine j_if_eq (tgt := 407) C dL_law_400 (by decide) (fun hc => absurd hc hz) (fun _ => ?_)
    refine j_iconst (v := 1) C dL_law_403 (by decide) ?_
    refine j_goto (tgt := 408) C dL_law_404 (by decide) ?_
    refine j_arg (k := 3) C hX hL (by omega) (by decide) dL_law_408 dL_law_409 dL_law_410 dL_law_411 dL_law_412 ?_
    refine j_cVI C (X8_model_ok _ G D (ad 0) (xs (i + 1)) 1 (xs (i + 3)) (fun r D' => ClV ad ro D D' (sModel S (xs (i + 1)) 1 (xs (i + 3))).2 ∧ r = (sModel S (xs (i + 1)) 1 (xs (i + 3))).1) (model_sp H h isB_1 (fun D' c => ⟨c, rfl⟩))) H.x_ rfl k_371 mv_X8_model ⟨Nat.le_of_ble_eq_true rfl, Nat.le_of_ble_eq_true rfl⟩ ⟨rfl, rfl⟩ rfl rfl (Nat.le_of_ble_eq_true rfl) hcs dL_law_413 (fun r1 D1 hp => ?_)
    obtain ⟨c1, e1⟩ := hp
    have g1 := h9.by H9 c1
    refine j_aload_n C dL_law_416 rfl 1 rfl ?_
    refine j_arg (k := 1) C hX hL (by omega) (by decide) dL_law_417 dL_law_418 dL_law_419 dL_law_420 dL_law_421 ?_
    refine j_arg (k := 2) C hX hL (by omega) (by decide) dL_law_422 dL_law_423 dL_law_424 dL_law_425 dL_law_426 ?_
    refine j_if_eq (tgt := 434) C dL_law_427 (by decide) (fun hc => absurd hc hz) (fun _ => ?_)
    refine j_iconst (v := 1) C dL_law_430 (by decide) ?_
    refine j_goto (tgt := 435) C dL_law_431 (by decide) ?_
    refine j_arg (k := 3) C hX hL (by omega) (by decide) dL_law_435 dL_law_436 dL_law_437 dL_law_438 dL_law_439 ?_
    refine j_cVI C (X9_model_ok _ G D1 (ad 500) (xs (i + 1)) 1 (xs (i + 3)) (fun r D' => RfV ad ro D1 D' (sModel S (xs (i + 1)) 1 (xs (i + 3))).2 ∧ r = (sModel S (xs (i + 1)) 1 (xs (i + 3))).1) (model9_sp H9 h.ok g1 isB_1 (fun D' c => ⟨c, rfl⟩))) H9.x_ rfl k_909 mv_X9_model ⟨Nat.le_of_ble_eq_true rfl, Nat.le_of_ble_eq_true rfl⟩ ⟨rfl, rfl⟩ rfl rfl (Nat.le_of_ble_eq_true rfl) hcs dL_law_440 (fun r2 D2 hp => ?_)
    obtain ⟨c2, e2⟩ := hp
    refine j_icmp_eq (tgt := 1087) C dL_law_443 (by decide) (fun _ => ?_) (fun hc => absurd (e1.trans e2.symm) hc)
    exact fin D2 _ (c1.by H c2) c2.self
set_option maxRecDepth 100000 in
set_option maxHeartbeats 4000000 in
theorem lc_8 {κ : Ctx} (C : Cx κ cL_law RL room_1 4) {b L : Nat} {xs : Nat → Int32} (hX : Sc κ b L xs) (hL : L ≤ 3584) {G : Shp} {ad ro : Nat → Nat} (H : CS G ad ro) (H9 : RG G ad ro) {i cells slots : Nat} (hi : i + 7 ≤ L) (hcs : cells ≤ room_1.cells ∧ slots ≤ room_1.slots) {D : Dat} {S : AS} (h : ClV ad ro D D S) (h9 : RfV ad ro D D S) (fin : ∀ D' S', ClV ad ro D' D' S' → RfV ad ro D' D' S' → J κ cells slots G D' 1087 (LV b (ad 0) (ad 500) i) []) : J κ cells slots G D 448 (LV b (ad 0) (ad 500) i) [] := by
  refine j_aload_n C dL_law_448 rfl 2 rfl ?_
  refine j_arg (k := 1) C hX hL (by omega) (by decide) dL_law_449 dL_law_450 dL_law_451 dL_law_452 dL_law_453 ?_
  refine j_arg (k := 2) C hX hL (by omega) (by decide) dL_law_454 dL_law_455 dL_law_456 dL_law_457 dL_law_458 ?_
  refine j_cVI C (X8_step_ok _ G D (ad 0) (xs (i + 1)) (xs (i + 2)) (fun r D' => ClV ad ro D D' (sStep S (xs (i + 1)) (xs (i + 2))).2 ∧ r = (sStep S (xs (i + 1)) (xs (i + 2))).1) (step_sp H h (fun D' c => ⟨c, rfl⟩))) H.x_ rfl k_375 mv_X8_step ⟨Nat.le_of_ble_eq_true rfl, Nat.le_of_ble_eq_true rfl⟩ ⟨rfl, rfl⟩ rfl rfl (Nat.le_of_ble_eq_true rfl) hcs dL_law_459 (fun r1 D1 hp => ?_)
  obtain ⟨c1, e1⟩ := hp
  have g1 := h9.by H9 c1
  refine j_aload_n C dL_law_462 rfl 1 rfl ?_
  refine j_arg (k := 1) C hX hL (by omega) (by decide) dL_law_463 dL_law_464 dL_law_465 dL_law_466 dL_law_467 ?_
  refine j_arg (k := 2) C hX hL (by omega) (by decide) dL_law_468 dL_law_469 dL_law_470 dL_law_471 dL_law_472 ?_
  refine j_cVI C (X9_step_ok _ G D1 (ad 500) (xs (i + 1)) (xs (i + 2)) (fun r D' => RfV ad ro D1 D' (sStep S (xs (i + 1)) (xs (i + 2))).2 ∧ r = (sStep S (xs (i + 1)) (xs (i + 2))).1) (step9_sp H9 h.ok g1 (fun D' c => ⟨c, rfl⟩))) H9.x_ rfl k_913 mv_X9_step ⟨Nat.le_of_ble_eq_true rfl, Nat.le_of_ble_eq_true rfl⟩ ⟨rfl, rfl⟩ rfl rfl (Nat.le_of_ble_eq_true rfl) hcs dL_law_473 (fun r2 D2 hp => ?_)
  obtain ⟨c2, e2⟩ := hp
  refine j_icmp_eq (tgt := 1087) C dL_law_476 (by decide) (fun _ => ?_) (fun hc => absurd (e1.trans e2.symm) hc)
  exact fin D2 _ (c1.by H c2) c2.self
set_option maxRecDepth 100000 in
set_option maxHeartbeats 4000000 in
theorem lc_9 {κ : Ctx} (C : Cx κ cL_law RL room_1 4) {b L : Nat} {xs : Nat → Int32} (hX : Sc κ b L xs) (hL : L ≤ 3584) {G : Shp} {ad ro : Nat → Nat} (H : CS G ad ro) (H9 : RG G ad ro) {i cells slots : Nat} (hi : i + 7 ≤ L) (hcs : cells ≤ room_1.cells ∧ slots ≤ room_1.slots) {D : Dat} {S : AS} (h : ClV ad ro D D S) (h9 : RfV ad ro D D S) (fin : ∀ D' S', ClV ad ro D' D' S' → RfV ad ro D' D' S' → J κ cells slots G D' 1087 (LV b (ad 0) (ad 500) i) []) : J κ cells slots G D 481 (LV b (ad 0) (ad 500) i) [] := by
  refine j_aload_n C dL_law_481 rfl 2 rfl ?_
  refine j_arg (k := 1) C hX hL (by omega) (by decide) dL_law_482 dL_law_483 dL_law_484 dL_law_485 dL_law_486 ?_
  refine j_arg (k := 2) C hX hL (by omega) (by decide) dL_law_487 dL_law_488 dL_law_489 dL_law_490 dL_law_491 ?_
  refine j_cVI C (X8_unstep_ok _ G D (ad 0) (xs (i + 1)) (xs (i + 2)) (fun r D' => ClV ad ro D D' (sUnstep S (xs (i + 1)) (xs (i + 2))).2 ∧ r = (sUnstep S (xs (i + 1)) (xs (i + 2))).1) (unstep_sp H h (fun D' c => ⟨c, rfl⟩))) H.x_ rfl k_380 mv_X8_unstep ⟨Nat.le_of_ble_eq_true rfl, Nat.le_of_ble_eq_true rfl⟩ ⟨rfl, rfl⟩ rfl rfl (Nat.le_of_ble_eq_true rfl) hcs dL_law_492 (fun r1 D1 hp => ?_)
  obtain ⟨c1, e1⟩ := hp
  have g1 := h9.by H9 c1
  refine j_aload_n C dL_law_495 rfl 1 rfl ?_
  refine j_arg (k := 1) C hX hL (by omega) (by decide) dL_law_496 dL_law_497 dL_law_498 dL_law_499 dL_law_500 ?_
  refine j_arg (k := 2) C hX hL (by omega) (by decide) dL_law_501 dL_law_502 dL_law_503 dL_law_504 dL_law_505 ?_
  refine j_cVI C (X9_unstep_ok _ G D1 (ad 500) (xs (i + 1)) (xs (i + 2)) (fun r D' => RfV ad ro D1 D' (sUnstep S (xs (i + 1)) (xs (i + 2))).2 ∧ r = (sUnstep S (xs (i + 1)) (xs (i + 2))).1) (unstep9_sp H9 h.ok g1 (fun D' c => ⟨c, rfl⟩))) H9.x_ rfl k_925 mv_X9_unstep ⟨Nat.le_of_ble_eq_true rfl, Nat.le_of_ble_eq_true rfl⟩ ⟨rfl, rfl⟩ rfl rfl (Nat.le_of_ble_eq_true rfl) hcs dL_law_506 (fun r2 D2 hp => ?_)
  obtain ⟨c2, e2⟩ := hp
  refine j_icmp_eq (tgt := 1087) C dL_law_509 (by decide) (fun _ => ?_) (fun hc => absurd (e1.trans e2.symm) hc)
  exact fin D2 _ (c1.by H c2) c2.self
set_option maxRecDepth 100000 in
set_option maxHeartbeats 4000000 in
theorem lc_10 {κ : Ctx} (C : Cx κ cL_law RL room_1 4) {b L : Nat} {xs : Nat → Int32} (hX : Sc κ b L xs) (hL : L ≤ 3584) {G : Shp} {ad ro : Nat → Nat} (H : CS G ad ro) (H9 : RG G ad ro) {i cells slots : Nat} (hi : i + 7 ≤ L) (hcs : cells ≤ room_1.cells ∧ slots ≤ room_1.slots) {D : Dat} {S : AS} (h : ClV ad ro D D S) (h9 : RfV ad ro D D S) (fin : ∀ D' S', ClV ad ro D' D' S' → RfV ad ro D' D' S' → J κ cells slots G D' 1087 (LV b (ad 0) (ad 500) i) []) : J κ cells slots G D 514 (LV b (ad 0) (ad 500) i) [] := by
  refine j_aload_n C dL_law_514 rfl 2 rfl ?_
  refine j_arg (k := 1) C hX hL (by omega) (by decide) dL_law_515 dL_law_516 dL_law_517 dL_law_518 dL_law_519 ?_
  refine j_cVI C (X8_feast_ok _ G D (ad 0) (xs (i + 1)) (fun r D' => ClV ad ro D D' (sFeast S (xs (i + 1))).2 ∧ r = (sFeast S (xs (i + 1))).1) (feast_sp H h (fun D' c => ⟨c, rfl⟩))) H.x_ rfl k_384 mv_X8_feast ⟨Nat.le_of_ble_eq_true rfl, Nat.le_of_ble_eq_true rfl⟩ ⟨rfl, rfl⟩ rfl rfl (Nat.le_of_ble_eq_true rfl) hcs dL_law_520 (fun r1 D1 hp => ?_)
  obtain ⟨c1, e1⟩ := hp
  have g1 := h9.by H9 c1
  refine j_aload_n C dL_law_523 rfl 1 rfl ?_
  refine j_arg (k := 1) C hX hL (by omega) (by decide) dL_law_524 dL_law_525 dL_law_526 dL_law_527 dL_law_528 ?_
  refine j_cVI C (X9_feast_ok _ G D1 (ad 500) (xs (i + 1)) (fun r D' => RfV ad ro D1 D' (sFeast S (xs (i + 1))).2 ∧ r = (sFeast S (xs (i + 1))).1) (feast9_sp H9 h.ok g1 (fun D' c => ⟨c, rfl⟩))) H9.x_ rfl k_933 mv_X9_feast ⟨Nat.le_of_ble_eq_true rfl, Nat.le_of_ble_eq_true rfl⟩ ⟨rfl, rfl⟩ rfl rfl (Nat.le_of_ble_eq_true rfl) hcs dL_law_529 (fun r2 D2 hp => ?_)
  obtain ⟨c2, e2⟩ := hp
  refine j_icmp_eq (tgt := 1087) C dL_law_532 (by decide) (fun _ => ?_) (fun hc => absurd (e1.trans e2.symm) hc)
  exact fin D2 _ (c1.by H c2) c2.self
set_option maxRecDepth 100000 in
set_option maxHeartbeats 4000000 in
theorem lc_11 {κ : Ctx} (C : Cx κ cL_law RL room_1 4) {b L : Nat} {xs : Nat → Int32} (hX : Sc κ b L xs) (hL : L ≤ 3584) {G : Shp} {ad ro : Nat → Nat} (H : CS G ad ro) (H9 : RG G ad ro) {i cells slots : Nat} (hi : i + 7 ≤ L) (hcs : cells ≤ room_1.cells ∧ slots ≤ room_1.slots) {D : Dat} {S : AS} (h : ClV ad ro D D S) (h9 : RfV ad ro D D S) (fin : ∀ D' S', ClV ad ro D' D' S' → RfV ad ro D' D' S' → J κ cells slots G D' 1087 (LV b (ad 0) (ad 500) i) []) : J κ cells slots G D 537 (LV b (ad 0) (ad 500) i) [] := by
  refine j_aload_n C dL_law_537 rfl 2 rfl ?_
  refine j_arg (k := 1) C hX hL (by omega) (by decide) dL_law_538 dL_law_539 dL_law_540 dL_law_541 dL_law_542 ?_
  refine j_arg (k := 2) C hX hL (by omega) (by decide) dL_law_543 dL_law_544 dL_law_545 dL_law_546 dL_law_547 ?_
  refine j_arg (k := 3) C hX hL (by omega) (by decide) dL_law_548 dL_law_549 dL_law_550 dL_law_551 dL_law_552 ?_
  refine j_cVI C (X8_on_ok _ G D (ad 0) (xs (i + 1)) (xs (i + 2)) (xs (i + 3)) (fun r D' => ClV ad ro D D' (sOn S (xs (i + 1)) (xs (i + 2)) (xs (i + 3))).2 ∧ r = (sOn S (xs (i + 1)) (xs (i + 2)) (xs (i + 3))).1) (on_sp H h (fun D' c => ⟨c, rfl⟩))) H.x_ rfl k_388 mv_X8_on ⟨Nat.le_of_ble_eq_true rfl, Nat.le_of_ble_eq_true rfl⟩ ⟨rfl, rfl⟩ rfl rfl (Nat.le_of_ble_eq_true rfl) hcs dL_law_553 (fun r1 D1 hp => ?_)
  obtain ⟨c1, e1⟩ := hp
  have g1 := h9.by H9 c1
  refine j_aload_n C dL_law_556 rfl 1 rfl ?_
  refine j_arg (k := 1) C hX hL (by omega) (by decide) dL_law_557 dL_law_558 dL_law_559 dL_law_560 dL_law_561 ?_
  refine j_arg (k := 2) C hX hL (by omega) (by decide) dL_law_562 dL_law_563 dL_law_564 dL_law_565 dL_law_566 ?_
  refine j_arg (k := 3) C hX hL (by omega) (by decide) dL_law_567 dL_law_568 dL_law_569 dL_law_570 dL_law_571 ?_
  refine j_cVI C (X9_on_ok _ G D1 (ad 500) (xs (i + 1)) (xs (i + 2)) (xs (i + 3)) (fun r D' => RfV ad ro D1 D' (sOn S (xs (i + 1)) (xs (i + 2)) (xs (i + 3))).2 ∧ r = (sOn S (xs (i + 1)) (xs (i + 2)) (xs (i + 3))).1) (on9_sp H9 h.ok g1 (fun D' c => ⟨c, rfl⟩))) H9.x_ rfl k_937 mv_X9_on ⟨Nat.le_of_ble_eq_true rfl, Nat.le_of_ble_eq_true rfl⟩ ⟨rfl, rfl⟩ rfl rfl (Nat.le_of_ble_eq_true rfl) hcs dL_law_572 (fun r2 D2 hp => ?_)
  obtain ⟨c2, e2⟩ := hp
  refine j_icmp_eq (tgt := 1087) C dL_law_575 (by decide) (fun _ => ?_) (fun hc => absurd (e1.trans e2.symm) hc)
  exact fin D2 _ (c1.by H c2) c2.self
set_option maxRecDepth 100000 in
set_option maxHeartbeats 4000000 in
theorem lc_12 {κ : Ctx} (C : Cx κ cL_law RL room_1 4) {b L : Nat} {xs : Nat → Int32} (hX : Sc κ b L xs) (hL : L ≤ 3584) {G : Shp} {ad ro : Nat → Nat} (H : CS G ad ro) (H9 : RG G ad ro) {i cells slots : Nat} (hi : i + 7 ≤ L) (hcs : cells ≤ room_1.cells ∧ slots ≤ room_1.slots) {D : Dat} {S : AS} (h : ClV ad ro D D S) (h9 : RfV ad ro D D S) (fin : ∀ D' S', ClV ad ro D' D' S' → RfV ad ro D' D' S' → J κ cells slots G D' 1087 (LV b (ad 0) (ad 500) i) []) : J κ cells slots G D 580 (LV b (ad 0) (ad 500) i) [] := by
  refine j_aload_n C dL_law_580 rfl 2 rfl ?_
  refine j_arg (k := 1) C hX hL (by omega) (by decide) dL_law_581 dL_law_582 dL_law_583 dL_law_584 dL_law_585 ?_
  refine j_cVI C (X8_plain_ok _ G D (ad 0) (xs (i + 1)) (fun r D' => ClV ad ro D D' (sPlain S (xs (i + 1))).2 ∧ r = (sPlain S (xs (i + 1))).1) (plain_sp H h (fun D' c => ⟨c, rfl⟩))) H.x_ rfl k_396 mv_X8_plain ⟨Nat.le_of_ble_eq_true rfl, Nat.le_of_ble_eq_true rfl⟩ ⟨rfl, rfl⟩ rfl rfl (Nat.le_of_ble_eq_true rfl) hcs dL_law_586 (fun r1 D1 hp => ?_)
  obtain ⟨c1, e1⟩ := hp
  have g1 := h9.by H9 c1
  refine j_aload_n C dL_law_589 rfl 1 rfl ?_
  refine j_arg (k := 1) C hX hL (by omega) (by decide) dL_law_590 dL_law_591 dL_law_592 dL_law_593 dL_law_594 ?_
  refine j_cVI C (X9_plain_ok _ G D1 (ad 500) (xs (i + 1)) (fun r D' => RfV ad ro D1 D' (sPlain S (xs (i + 1))).2 ∧ r = (sPlain S (xs (i + 1))).1) (plain9_sp H9 h.ok g1 (fun D' c => ⟨c, rfl⟩))) H9.x_ rfl k_941 mv_X9_plain ⟨Nat.le_of_ble_eq_true rfl, Nat.le_of_ble_eq_true rfl⟩ ⟨rfl, rfl⟩ rfl rfl (Nat.le_of_ble_eq_true rfl) hcs dL_law_595 (fun r2 D2 hp => ?_)
  obtain ⟨c2, e2⟩ := hp
  refine j_icmp_eq (tgt := 1087) C dL_law_598 (by decide) (fun _ => ?_) (fun hc => absurd (e1.trans e2.symm) hc)
  exact fin D2 _ (c1.by H c2) c2.self
set_option maxRecDepth 100000 in
set_option maxHeartbeats 4000000 in
theorem lc_13 {κ : Ctx} (C : Cx κ cL_law RL room_1 4) {b L : Nat} {xs : Nat → Int32} (hX : Sc κ b L xs) (hL : L ≤ 3584) {G : Shp} {ad ro : Nat → Nat} (H : CS G ad ro) (H9 : RG G ad ro) {i cells slots : Nat} (hi : i + 7 ≤ L) (hcs : cells ≤ room_1.cells ∧ slots ≤ room_1.slots) {D : Dat} {S : AS} (h : ClV ad ro D D S) (h9 : RfV ad ro D D S) (fin : ∀ D' S', ClV ad ro D' D' S' → RfV ad ro D' D' S' → J κ cells slots G D' 1087 (LV b (ad 0) (ad 500) i) []) : J κ cells slots G D 603 (LV b (ad 0) (ad 500) i) [] := by
  by_cases hz : xs (i + 3) = 0
  · refine j_aload_n C dL_law_603 rfl 2 rfl ?_
    refine j_arg (k := 1) C hX hL (by omega) (by decide) dL_law_604 dL_law_605 dL_law_606 dL_law_607 dL_law_608 ?_
    refine j_arg (k := 2) C hX hL (by omega) (by decide) dL_law_609 dL_law_610 dL_law_611 dL_law_612 dL_law_613 ?_
    refine j_arg (k := 3) C hX hL (by omega) (by decide) dL_law_614 dL_law_615 dL_law_616 dL_law_617 dL_law_618 ?_
    refine j_if_eq (tgt := 626) C dL_law_619 (by decide) (fun _ => ?_) (fun hc => absurd hz hc)
    refine j_iconst (v := 0) C dL_law_626 (by decide) ?_
    refine j_cVI C (X8_strange_ok _ G D (ad 0) (xs (i + 1)) (xs (i + 2)) 0 (fun r D' => ClV ad ro D D' (sStrange S (xs (i + 1)) (xs (i + 2)) 0).2 ∧ r = (sStrange S (xs (i + 1)) (xs (i + 2)) 0).1) (strange_sp H h (fun D' c => ⟨c, rfl⟩))) H.x_ rfl k_408 mv_X8_strange ⟨Nat.le_of_ble_eq_true rfl, Nat.le_of_ble_eq_true rfl⟩ ⟨rfl, rfl⟩ rfl rfl (Nat.le_of_ble_eq_true rfl) hcs dL_law_627 (fun r1 D1 hp => ?_)
    obtain ⟨c1, e1⟩ := hp
    have g1 := h9.by H9 c1
    refine j_aload_n C dL_law_630 rfl 1 rfl ?_
    refine j_arg (k := 1) C hX hL (by omega) (by decide) dL_law_631 dL_law_632 dL_law_633 dL_law_634 dL_law_635 ?_
    refine j_arg (k := 2) C hX hL (by omega) (by decide) dL_law_636 dL_law_637 dL_law_638 dL_law_639 dL_law_640 ?_
    refine j_arg (k := 3) C hX hL (by omega) (by decide) dL_law_641 dL_law_642 dL_law_643 dL_law_644 dL_law_645 ?_
    refine j_if_eq (tgt := 653) C dL_law_646 (by decide) (fun _ => ?_) (fun hc => absurd hz hc)
    refine j_iconst (v := 0) C dL_law_653 (by decide) ?_
    refine j_cVI C (X9_strange_ok _ G D1 (ad 500) (xs (i + 1)) (xs (i + 2)) 0 (fun r D' => RfV ad ro D1 D' (sStrange S (xs (i + 1)) (xs (i + 2)) 0).2 ∧ r = (sStrange S (xs (i + 1)) (xs (i + 2)) 0).1) (strange9_sp H9 h.ok g1 isB_0 (fun D' c => ⟨c, rfl⟩))) H9.x_ rfl k_945 mv_X9_strange ⟨Nat.le_of_ble_eq_true rfl, Nat.le_of_ble_eq_true rfl⟩ ⟨rfl, rfl⟩ rfl rfl (Nat.le_of_ble_eq_true rfl) hcs dL_law_654 (fun r2 D2 hp => ?_)
    obtain ⟨c2, e2⟩ := hp
    refine j_icmp_eq (tgt := 1087) C dL_law_657 (by decide) (fun _ => ?_) (fun hc => absurd (e1.trans e2.symm) hc)
    exact fin D2 _ (c1.by H c2) c2.self
  · refine j_aload_n C dL_law_603 rfl 2 rfl ?_
    refine j_arg (k := 1) C hX hL (by omega) (by decide) dL_law_604 dL_law_605 dL_law_606 dL_law_607 dL_law_608 ?_
    refine j_arg (k := 2) C hX hL (by omega) (by decide) dL_law_609 dL_law_610 dL_law_611 dL_law_612 dL_law_613 ?_
    refine j_arg (k := 3) C hX hL (by omega) (by decide) dL_law_614 dL_law_615 dL_law_616 dL_law_617 dL_law_618 ?_
    refine j_if_eq (tgt := 626) C dL_law_619 (by decide) (fun hc => absurd hc hz) (fun _ => ?_)
    refine j_iconst (v := 1) C dL_law_622 (by decide) ?_
    refine j_goto (tgt := 627) C dL_law_623 (by decide) ?_
    refine j_cVI C (X8_strange_ok _ G D (ad 0) (xs (i + 1)) (xs (i + 2)) 1 (fun r D' => ClV ad ro D D' (sStrange S (xs (i + 1)) (xs (i + 2)) 1).2 ∧ r = (sStrange S (xs (i + 1)) (xs (i + 2)) 1).1) (strange_sp H h (fun D' c => ⟨c, rfl⟩))) H.x_ rfl k_408 mv_X8_strange ⟨Nat.le_of_ble_eq_true rfl, Nat.le_of_ble_eq_true rfl⟩ ⟨rfl, rfl⟩ rfl rfl (Nat.le_of_ble_eq_true rfl) hcs dL_law_627 (fun r1 D1 hp => ?_)
    obtain ⟨c1, e1⟩ := hp
    have g1 := h9.by H9 c1
    refine j_aload_n C dL_law_630 rfl 1 rfl ?_
    refine j_arg (k := 1) C hX hL (by omega) (by decide) dL_law_631 dL_law_632 dL_law_633 dL_law_634 dL_law_635 ?_
    refine j_arg (k := 2) C hX hL (by omega) (by decide) dL_law_636 dL_law_637 dL_law_638 dL_law_639 dL_law_640 ?_
    refine j_arg (k := 3) C hX hL (by omega) (by decide) dL_law_641 dL_law_642 dL_law_643 dL_law_644 dL_law_645 ?_
    refine j_if_eq (tgt := 653) C dL_law_646 (by decide) (fun hc => absurd hc hz) (fun _ => ?_)
    refine j_iconst (v := 1) C dL_law_649 (by decide) ?_
    refine j_goto (tgt := 654) C dL_law_650 (by decide) ?_
    refine j_cVI C (X9_strange_ok _ G D1 (ad 500) (xs (i + 1)) (xs (i + 2)) 1 (fun r D' => RfV ad ro D1 D' (sStrange S (xs (i + 1)) (xs (i + 2)) 1).2 ∧ r = (sStrange S (xs (i + 1)) (xs (i + 2)) 1).1) (strange9_sp H9 h.ok g1 isB_1 (fun D' c => ⟨c, rfl⟩))) H9.x_ rfl k_945 mv_X9_strange ⟨Nat.le_of_ble_eq_true rfl, Nat.le_of_ble_eq_true rfl⟩ ⟨rfl, rfl⟩ rfl rfl (Nat.le_of_ble_eq_true rfl) hcs dL_law_654 (fun r2 D2 hp => ?_)
    obtain ⟨c2, e2⟩ := hp
    refine j_icmp_eq (tgt := 1087) C dL_law_657 (by decide) (fun _ => ?_) (fun hc => absurd (e1.trans e2.symm) hc)
    exact fin D2 _ (c1.by H c2) c2.self
set_option maxRecDepth 100000 in
set_option maxHeartbeats 4000000 in
theorem lc_14 {κ : Ctx} (C : Cx κ cL_law RL room_1 4) {b L : Nat} {xs : Nat → Int32} (hX : Sc κ b L xs) (hL : L ≤ 3584) {G : Shp} {ad ro : Nat → Nat} (H : CS G ad ro) (H9 : RG G ad ro) {i cells slots : Nat} (hi : i + 7 ≤ L) (hcs : cells ≤ room_1.cells ∧ slots ≤ room_1.slots) {D : Dat} {S : AS} (h : ClV ad ro D D S) (h9 : RfV ad ro D D S) (fin : ∀ D' S', ClV ad ro D' D' S' → RfV ad ro D' D' S' → J κ cells slots G D' 1087 (LV b (ad 0) (ad 500) i) []) : J κ cells slots G D 662 (LV b (ad 0) (ad 500) i) [] := by
  refine j_aload_n C dL_law_662 rfl 2 rfl ?_
  refine j_arg (k := 1) C hX hL (by omega) (by decide) dL_law_663 dL_law_664 dL_law_665 dL_law_666 dL_law_667 ?_
  refine j_arg (k := 2) C hX hL (by omega) (by decide) dL_law_668 dL_law_669 dL_law_670 dL_law_671 dL_law_672 ?_
  refine j_cVI C (X8_isStrange_ok _ G D (ad 0) (xs (i + 1)) (xs (i + 2)) (fun r D' => ClV ad ro D D' (sIsStrange S (xs (i + 1)) (xs (i + 2))).2 ∧ r = (sIsStrange S (xs (i + 1)) (xs (i + 2))).1) (isStrange_sp H h (fun D' c => ⟨c, rfl⟩))) H.x_ rfl k_412 mv_X8_isStrange ⟨Nat.le_of_ble_eq_true rfl, Nat.le_of_ble_eq_true rfl⟩ ⟨rfl, rfl⟩ rfl rfl (Nat.le_of_ble_eq_true rfl) hcs dL_law_673 (fun r1 D1 hp => ?_)
  obtain ⟨c1, e1⟩ := hp
  have g1 := h9.by H9 c1
  refine j_aload_n C dL_law_676 rfl 1 rfl ?_
  refine j_arg (k := 1) C hX hL (by omega) (by decide) dL_law_677 dL_law_678 dL_law_679 dL_law_680 dL_law_681 ?_
  refine j_arg (k := 2) C hX hL (by omega) (by decide) dL_law_682 dL_law_683 dL_law_684 dL_law_685 dL_law_686 ?_
  refine j_cVI C (X9_isStrange_ok _ G D1 (ad 500) (xs (i + 1)) (xs (i + 2)) (fun r D' => RfV ad ro D1 D' (sIsStrange S (xs (i + 1)) (xs (i + 2))).2 ∧ r = (sIsStrange S (xs (i + 1)) (xs (i + 2))).1) (isStrange9_sp H9 g1 (fun D' c => ⟨c, rfl⟩))) H9.x_ rfl k_949 mv_X9_isStrange ⟨Nat.le_of_ble_eq_true rfl, Nat.le_of_ble_eq_true rfl⟩ ⟨rfl, rfl⟩ rfl rfl (Nat.le_of_ble_eq_true rfl) hcs dL_law_687 (fun r2 D2 hp => ?_)
  obtain ⟨c2, e2⟩ := hp
  refine j_icmp_eq (tgt := 1087) C dL_law_690 (by decide) (fun _ => ?_) (fun hc => absurd (e1.trans e2.symm) hc)
  exact fin D2 _ (c1.by H c2) c2.self
set_option maxRecDepth 100000 in
set_option maxHeartbeats 4000000 in
theorem lc_15 {κ : Ctx} (C : Cx κ cL_law RL room_1 4) {b L : Nat} {xs : Nat → Int32} (hX : Sc κ b L xs) (hL : L ≤ 3584) {G : Shp} {ad ro : Nat → Nat} (H : CS G ad ro) (H9 : RG G ad ro) {i cells slots : Nat} (hi : i + 7 ≤ L) (hcs : cells ≤ room_1.cells ∧ slots ≤ room_1.slots) {D : Dat} {S : AS} (h : ClV ad ro D D S) (h9 : RfV ad ro D D S) (fin : ∀ D' S', ClV ad ro D' D' S' → RfV ad ro D' D' S' → J κ cells slots G D' 1087 (LV b (ad 0) (ad 500) i) []) : J κ cells slots G D 695 (LV b (ad 0) (ad 500) i) [] := by
  refine j_aload_n C dL_law_695 rfl 2 rfl ?_
  refine j_arg (k := 1) C hX hL (by omega) (by decide) dL_law_696 dL_law_697 dL_law_698 dL_law_699 dL_law_700 ?_
  refine j_arg (k := 2) C hX hL (by omega) (by decide) dL_law_701 dL_law_702 dL_law_703 dL_law_704 dL_law_705 ?_
  refine j_cVI C (X8_part_ok _ G D (ad 0) (xs (i + 1)) (xs (i + 2)) (fun r D' => ClV ad ro D D' (sPart S (xs (i + 1)) (xs (i + 2))).2 ∧ r = (sPart S (xs (i + 1)) (xs (i + 2))).1) (part_sp H h (fun D' c => ⟨c, rfl⟩))) H.x_ rfl k_416 mv_X8_part ⟨Nat.le_of_ble_eq_true rfl, Nat.le_of_ble_eq_true rfl⟩ ⟨rfl, rfl⟩ rfl rfl (Nat.le_of_ble_eq_true rfl) hcs dL_law_706 (fun r1 D1 hp => ?_)
  obtain ⟨c1, e1⟩ := hp
  have g1 := h9.by H9 c1
  refine j_aload_n C dL_law_709 rfl 1 rfl ?_
  refine j_arg (k := 1) C hX hL (by omega) (by decide) dL_law_710 dL_law_711 dL_law_712 dL_law_713 dL_law_714 ?_
  refine j_arg (k := 2) C hX hL (by omega) (by decide) dL_law_715 dL_law_716 dL_law_717 dL_law_718 dL_law_719 ?_
  refine j_cVI C (X9_part_ok _ G D1 (ad 500) (xs (i + 1)) (xs (i + 2)) (fun r D' => RfV ad ro D1 D' (sPart S (xs (i + 1)) (xs (i + 2))).2 ∧ r = (sPart S (xs (i + 1)) (xs (i + 2))).1) (part9_sp H9 h.ok g1 (fun D' c => ⟨c, rfl⟩))) H9.x_ rfl k_953 mv_X9_part ⟨Nat.le_of_ble_eq_true rfl, Nat.le_of_ble_eq_true rfl⟩ ⟨rfl, rfl⟩ rfl rfl (Nat.le_of_ble_eq_true rfl) hcs dL_law_720 (fun r2 D2 hp => ?_)
  obtain ⟨c2, e2⟩ := hp
  refine j_icmp_eq (tgt := 1087) C dL_law_723 (by decide) (fun _ => ?_) (fun hc => absurd (e1.trans e2.symm) hc)
  exact fin D2 _ (c1.by H c2) c2.self
set_option maxRecDepth 100000 in
set_option maxHeartbeats 4000000 in
theorem lc_16 {κ : Ctx} (C : Cx κ cL_law RL room_1 4) {b L : Nat} {xs : Nat → Int32} (hX : Sc κ b L xs) (hL : L ≤ 3584) {G : Shp} {ad ro : Nat → Nat} (H : CS G ad ro) (H9 : RG G ad ro) {i cells slots : Nat} (hi : i + 7 ≤ L) (hcs : cells ≤ room_1.cells ∧ slots ≤ room_1.slots) {D : Dat} {S : AS} (h : ClV ad ro D D S) (h9 : RfV ad ro D D S) (fin : ∀ D' S', ClV ad ro D' D' S' → RfV ad ro D' D' S' → J κ cells slots G D' 1087 (LV b (ad 0) (ad 500) i) []) : J κ cells slots G D 728 (LV b (ad 0) (ad 500) i) [] := by
  refine j_aload_n C dL_law_728 rfl 2 rfl ?_
  refine j_arg (k := 1) C hX hL (by omega) (by decide) dL_law_729 dL_law_730 dL_law_731 dL_law_732 dL_law_733 ?_
  refine j_arg (k := 2) C hX hL (by omega) (by decide) dL_law_734 dL_law_735 dL_law_736 dL_law_737 dL_law_738 ?_
  refine j_cVI C (X8_stepBy_ok _ G D (ad 0) (xs (i + 1)) (xs (i + 2)) (fun r D' => ClV ad ro D D' (sStepBy S (xs (i + 1)) (xs (i + 2))).2 ∧ r = (sStepBy S (xs (i + 1)) (xs (i + 2))).1) (stepBy_sp H h (fun D' c => ⟨c, rfl⟩))) H.x_ rfl k_617 mv_X8_stepBy ⟨Nat.le_of_ble_eq_true rfl, Nat.le_of_ble_eq_true rfl⟩ ⟨rfl, rfl⟩ rfl rfl (Nat.le_of_ble_eq_true rfl) hcs dL_law_739 (fun r1 D1 hp => ?_)
  obtain ⟨c1, e1⟩ := hp
  have g1 := h9.by H9 c1
  refine j_aload_n C dL_law_742 rfl 1 rfl ?_
  refine j_arg (k := 1) C hX hL (by omega) (by decide) dL_law_743 dL_law_744 dL_law_745 dL_law_746 dL_law_747 ?_
  refine j_arg (k := 2) C hX hL (by omega) (by decide) dL_law_748 dL_law_749 dL_law_750 dL_law_751 dL_law_752 ?_
  refine j_cVI C (X9_stepBy_ok _ G D1 (ad 500) (xs (i + 1)) (xs (i + 2)) (fun r D' => RfV ad ro D1 D' (sStepBy S (xs (i + 1)) (xs (i + 2))).2 ∧ r = (sStepBy S (xs (i + 1)) (xs (i + 2))).1) (stepBy9_sp H9 h.ok g1 (fun D' c => ⟨c, rfl⟩))) H9.x_ rfl k_1077 mv_X9_stepBy ⟨Nat.le_of_ble_eq_true rfl, Nat.le_of_ble_eq_true rfl⟩ ⟨rfl, rfl⟩ rfl rfl (Nat.le_of_ble_eq_true rfl) hcs dL_law_753 (fun r2 D2 hp => ?_)
  obtain ⟨c2, e2⟩ := hp
  refine j_icmp_eq (tgt := 1087) C dL_law_756 (by decide) (fun _ => ?_) (fun hc => absurd (e1.trans e2.symm) hc)
  exact fin D2 _ (c1.by H c2) c2.self
set_option maxRecDepth 100000 in
set_option maxHeartbeats 4000000 in
theorem lc_17 {κ : Ctx} (C : Cx κ cL_law RL room_1 4) {b L : Nat} {xs : Nat → Int32} (hX : Sc κ b L xs) (hL : L ≤ 3584) {G : Shp} {ad ro : Nat → Nat} (H : CS G ad ro) (H9 : RG G ad ro) {i cells slots : Nat} (hi : i + 7 ≤ L) (hcs : cells ≤ room_1.cells ∧ slots ≤ room_1.slots) {D : Dat} {S : AS} (h : ClV ad ro D D S) (h9 : RfV ad ro D D S) (fin : ∀ D' S', ClV ad ro D' D' S' → RfV ad ro D' D' S' → J κ cells slots G D' 1087 (LV b (ad 0) (ad 500) i) []) : J κ cells slots G D 761 (LV b (ad 0) (ad 500) i) [] := by
  refine j_aload_n C dL_law_761 rfl 2 rfl ?_
  refine j_arg (k := 1) C hX hL (by omega) (by decide) dL_law_762 dL_law_763 dL_law_764 dL_law_765 dL_law_766 ?_
  refine j_arg (k := 2) C hX hL (by omega) (by decide) dL_law_767 dL_law_768 dL_law_769 dL_law_770 dL_law_771 ?_
  refine j_cVI C (X8_feastBy_ok _ G D (ad 0) (xs (i + 1)) (xs (i + 2)) (fun r D' => ClV ad ro D D' (sFeastBy S (xs (i + 1)) (xs (i + 2))).2 ∧ r = (sFeastBy S (xs (i + 1)) (xs (i + 2))).1) (feastBy_sp H h (fun D' c => ⟨c, rfl⟩))) H.x_ rfl k_625 mv_X8_feastBy ⟨Nat.le_of_ble_eq_true rfl, Nat.le_of_ble_eq_true rfl⟩ ⟨rfl, rfl⟩ rfl rfl (Nat.le_of_ble_eq_true rfl) hcs dL_law_772 (fun r1 D1 hp => ?_)
  obtain ⟨c1, e1⟩ := hp
  have g1 := h9.by H9 c1
  refine j_aload_n C dL_law_775 rfl 1 rfl ?_
  refine j_arg (k := 1) C hX hL (by omega) (by decide) dL_law_776 dL_law_777 dL_law_778 dL_law_779 dL_law_780 ?_
  refine j_arg (k := 2) C hX hL (by omega) (by decide) dL_law_781 dL_law_782 dL_law_783 dL_law_784 dL_law_785 ?_
  refine j_cVI C (X9_feastBy_ok _ G D1 (ad 500) (xs (i + 1)) (xs (i + 2)) (fun r D' => RfV ad ro D1 D' (sFeastBy S (xs (i + 1)) (xs (i + 2))).2 ∧ r = (sFeastBy S (xs (i + 1)) (xs (i + 2))).1) (feastBy9_sp H9 h.ok g1 (fun D' c => ⟨c, rfl⟩))) H9.x_ rfl k_1081 mv_X9_feastBy ⟨Nat.le_of_ble_eq_true rfl, Nat.le_of_ble_eq_true rfl⟩ ⟨rfl, rfl⟩ rfl rfl (Nat.le_of_ble_eq_true rfl) hcs dL_law_786 (fun r2 D2 hp => ?_)
  obtain ⟨c2, e2⟩ := hp
  refine j_icmp_eq (tgt := 1087) C dL_law_789 (by decide) (fun _ => ?_) (fun hc => absurd (e1.trans e2.symm) hc)
  exact fin D2 _ (c1.by H c2) c2.self
set_option maxRecDepth 100000 in
set_option maxHeartbeats 4000000 in
theorem lc_18 {κ : Ctx} (C : Cx κ cL_law RL room_1 4) {b L : Nat} {xs : Nat → Int32} (hX : Sc κ b L xs) (hL : L ≤ 3584) {G : Shp} {ad ro : Nat → Nat} (H : CS G ad ro) (H9 : RG G ad ro) {i cells slots : Nat} (hi : i + 7 ≤ L) (hcs : cells ≤ room_1.cells ∧ slots ≤ room_1.slots) {D : Dat} {S : AS} (h : ClV ad ro D D S) (h9 : RfV ad ro D D S) (fin : ∀ D' S', ClV ad ro D' D' S' → RfV ad ro D' D' S' → J κ cells slots G D' 1087 (LV b (ad 0) (ad 500) i) []) : J κ cells slots G D 794 (LV b (ad 0) (ad 500) i) [] := by
  refine j_aload_n C dL_law_794 rfl 2 rfl ?_
  refine j_arg (k := 1) C hX hL (by omega) (by decide) dL_law_795 dL_law_796 dL_law_797 dL_law_798 dL_law_799 ?_
  refine j_arg (k := 2) C hX hL (by omega) (by decide) dL_law_800 dL_law_801 dL_law_802 dL_law_803 dL_law_804 ?_
  refine j_cVI C (X8_season_ok _ G D (ad 0) (xs (i + 1)) (xs (i + 2)) (fun r D' => ClV ad ro D D' (sSeason S (xs (i + 1)) (xs (i + 2))).2 ∧ r = (sSeason S (xs (i + 1)) (xs (i + 2))).1) (season_sp H h (fun D' c => ⟨c, rfl⟩))) H.x_ rfl k_629 mv_X8_season ⟨Nat.le_of_ble_eq_true rfl, Nat.le_of_ble_eq_true rfl⟩ ⟨rfl, rfl⟩ rfl rfl (Nat.le_of_ble_eq_true rfl) hcs dL_law_805 (fun r1 D1 hp => ?_)
  obtain ⟨c1, e1⟩ := hp
  have g1 := h9.by H9 c1
  refine j_aload_n C dL_law_808 rfl 1 rfl ?_
  refine j_arg (k := 1) C hX hL (by omega) (by decide) dL_law_809 dL_law_810 dL_law_811 dL_law_812 dL_law_813 ?_
  refine j_arg (k := 2) C hX hL (by omega) (by decide) dL_law_814 dL_law_815 dL_law_816 dL_law_817 dL_law_818 ?_
  refine j_cVI C (X9_season_ok _ G D1 (ad 500) (xs (i + 1)) (xs (i + 2)) (fun r D' => RfV ad ro D1 D' (sSeason S (xs (i + 1)) (xs (i + 2))).2 ∧ r = (sSeason S (xs (i + 1)) (xs (i + 2))).1) (season9_sp H9 h.ok g1 (fun D' c => ⟨c, rfl⟩))) H9.x_ rfl k_1085 mv_X9_season ⟨Nat.le_of_ble_eq_true rfl, Nat.le_of_ble_eq_true rfl⟩ ⟨rfl, rfl⟩ rfl rfl (Nat.le_of_ble_eq_true rfl) hcs dL_law_819 (fun r2 D2 hp => ?_)
  obtain ⟨c2, e2⟩ := hp
  refine j_icmp_eq (tgt := 1087) C dL_law_822 (by decide) (fun _ => ?_) (fun hc => absurd (e1.trans e2.symm) hc)
  exact fin D2 _ (c1.by H c2) c2.self
set_option maxRecDepth 100000 in
set_option maxHeartbeats 4000000 in
theorem lc_19 {κ : Ctx} (C : Cx κ cL_law RL room_1 4) {b L : Nat} {xs : Nat → Int32} (hX : Sc κ b L xs) (hL : L ≤ 3584) {G : Shp} {ad ro : Nat → Nat} (H : CS G ad ro) (H9 : RG G ad ro) {i cells slots : Nat} (hi : i + 7 ≤ L) (hcs : cells ≤ room_1.cells ∧ slots ≤ room_1.slots) {D : Dat} {S : AS} (h : ClV ad ro D D S) (h9 : RfV ad ro D D S) (fin : ∀ D' S', ClV ad ro D' D' S' → RfV ad ro D' D' S' → J κ cells slots G D' 1087 (LV b (ad 0) (ad 500) i) []) : J κ cells slots G D 827 (LV b (ad 0) (ad 500) i) [] := by
  refine j_aload_n C dL_law_827 rfl 2 rfl ?_
  refine j_arg (k := 1) C hX hL (by omega) (by decide) dL_law_828 dL_law_829 dL_law_830 dL_law_831 dL_law_832 ?_
  refine j_arg (k := 2) C hX hL (by omega) (by decide) dL_law_833 dL_law_834 dL_law_835 dL_law_836 dL_law_837 ?_
  refine j_arg (k := 3) C hX hL (by omega) (by decide) dL_law_838 dL_law_839 dL_law_840 dL_law_841 dL_law_842 ?_
  refine j_cVI C (X8_at_ok _ G D (ad 0) (xs (i + 1)) (xs (i + 2)) (xs (i + 3)) (fun r D' => ClV ad ro D D' (sAt S (xs (i + 1)) (xs (i + 2)) (xs (i + 3))).2 ∧ r = (sAt S (xs (i + 1)) (xs (i + 2)) (xs (i + 3))).1) (at_sp H h (fun D' c => ⟨c, rfl⟩))) H.x_ rfl k_638 mv_X8_at ⟨Nat.le_of_ble_eq_true rfl, Nat.le_of_ble_eq_true rfl⟩ ⟨rfl, rfl⟩ rfl rfl (Nat.le_of_ble_eq_true rfl) hcs dL_law_843 (fun r1 D1 hp => ?_)
  obtain ⟨c1, e1⟩ := hp
  have g1 := h9.by H9 c1
  refine j_aload_n C dL_law_846 rfl 1 rfl ?_
  refine j_arg (k := 1) C hX hL (by omega) (by decide) dL_law_847 dL_law_848 dL_law_849 dL_law_850 dL_law_851 ?_
  refine j_arg (k := 2) C hX hL (by omega) (by decide) dL_law_852 dL_law_853 dL_law_854 dL_law_855 dL_law_856 ?_
  refine j_arg (k := 3) C hX hL (by omega) (by decide) dL_law_857 dL_law_858 dL_law_859 dL_law_860 dL_law_861 ?_
  refine j_cVI C (X9_at_ok _ G D1 (ad 500) (xs (i + 1)) (xs (i + 2)) (xs (i + 3)) (fun r D' => RfV ad ro D1 D' (sAt S (xs (i + 1)) (xs (i + 2)) (xs (i + 3))).2 ∧ r = (sAt S (xs (i + 1)) (xs (i + 2)) (xs (i + 3))).1) (at9_sp H9 h.ok g1 (fun D' c => ⟨c, rfl⟩))) H9.x_ rfl k_1093 mv_X9_at ⟨Nat.le_of_ble_eq_true rfl, Nat.le_of_ble_eq_true rfl⟩ ⟨rfl, rfl⟩ rfl rfl (Nat.le_of_ble_eq_true rfl) hcs dL_law_862 (fun r2 D2 hp => ?_)
  obtain ⟨c2, e2⟩ := hp
  refine j_icmp_eq (tgt := 1087) C dL_law_865 (by decide) (fun _ => ?_) (fun hc => absurd (e1.trans e2.symm) hc)
  exact fin D2 _ (c1.by H c2) c2.self
set_option maxRecDepth 100000 in
set_option maxHeartbeats 4000000 in
theorem lc_20 {κ : Ctx} (C : Cx κ cL_law RL room_1 4) {b L : Nat} {xs : Nat → Int32} (hX : Sc κ b L xs) (hL : L ≤ 3584) {G : Shp} {ad ro : Nat → Nat} (H : CS G ad ro) (H9 : RG G ad ro) {i cells slots : Nat} (hi : i + 7 ≤ L) (hcs : cells ≤ room_1.cells ∧ slots ≤ room_1.slots) {D : Dat} {S : AS} (h : ClV ad ro D D S) (h9 : RfV ad ro D D S) (fin : ∀ D' S', ClV ad ro D' D' S' → RfV ad ro D' D' S' → J κ cells slots G D' 1087 (LV b (ad 0) (ad 500) i) []) : J κ cells slots G D 870 (LV b (ad 0) (ad 500) i) [] := by
  refine j_aload_n C dL_law_870 rfl 2 rfl ?_
  refine j_arg (k := 1) C hX hL (by omega) (by decide) dL_law_871 dL_law_872 dL_law_873 dL_law_874 dL_law_875 ?_
  refine j_arg (k := 2) C hX hL (by omega) (by decide) dL_law_876 dL_law_877 dL_law_878 dL_law_879 dL_law_880 ?_
  refine j_cVI C (X8_rest_ok _ G D (ad 0) (xs (i + 1)) (xs (i + 2)) (fun r D' => ClV ad ro D D' (sRest S (xs (i + 1)) (xs (i + 2))).2 ∧ r = (sRest S (xs (i + 1)) (xs (i + 2))).1) (rest_sp H h (fun D' c => ⟨c, rfl⟩))) H.x_ rfl k_667 mv_X8_rest ⟨Nat.le_of_ble_eq_true rfl, Nat.le_of_ble_eq_true rfl⟩ ⟨rfl, rfl⟩ rfl rfl (Nat.le_of_ble_eq_true rfl) hcs dL_law_881 (fun r1 D1 hp => ?_)
  obtain ⟨c1, e1⟩ := hp
  have g1 := h9.by H9 c1
  refine j_aload_n C dL_law_884 rfl 1 rfl ?_
  refine j_arg (k := 1) C hX hL (by omega) (by decide) dL_law_885 dL_law_886 dL_law_887 dL_law_888 dL_law_889 ?_
  refine j_arg (k := 2) C hX hL (by omega) (by decide) dL_law_890 dL_law_891 dL_law_892 dL_law_893 dL_law_894 ?_
  refine j_cVI C (X9_rest_ok _ G D1 (ad 500) (xs (i + 1)) (xs (i + 2)) (fun r D' => RfV ad ro D1 D' (sRest S (xs (i + 1)) (xs (i + 2))).2 ∧ r = (sRest S (xs (i + 1)) (xs (i + 2))).1) (rest9_sp H9 h.ok g1 (fun D' c => ⟨c, rfl⟩))) H9.x_ rfl k_1100 mv_X9_rest ⟨Nat.le_of_ble_eq_true rfl, Nat.le_of_ble_eq_true rfl⟩ ⟨rfl, rfl⟩ rfl rfl (Nat.le_of_ble_eq_true rfl) hcs dL_law_895 (fun r2 D2 hp => ?_)
  obtain ⟨c2, e2⟩ := hp
  refine j_icmp_eq (tgt := 1087) C dL_law_898 (by decide) (fun _ => ?_) (fun hc => absurd (e1.trans e2.symm) hc)
  exact fin D2 _ (c1.by H c2) c2.self
set_option maxRecDepth 100000 in
set_option maxHeartbeats 4000000 in
theorem lc_21 {κ : Ctx} (C : Cx κ cL_law RL room_1 4) {b L : Nat} {xs : Nat → Int32} (hX : Sc κ b L xs) (hL : L ≤ 3584) {G : Shp} {ad ro : Nat → Nat} (H : CS G ad ro) (H9 : RG G ad ro) {i cells slots : Nat} (hi : i + 7 ≤ L) (hcs : cells ≤ room_1.cells ∧ slots ≤ room_1.slots) {D : Dat} {S : AS} (h : ClV ad ro D D S) (h9 : RfV ad ro D D S) (fin : ∀ D' S', ClV ad ro D' D' S' → RfV ad ro D' D' S' → J κ cells slots G D' 1087 (LV b (ad 0) (ad 500) i) []) : J κ cells slots G D 903 (LV b (ad 0) (ad 500) i) [] := by
  refine j_aload_n C dL_law_903 rfl 2 rfl ?_
  refine j_arg (k := 1) C hX hL (by omega) (by decide) dL_law_904 dL_law_905 dL_law_906 dL_law_907 dL_law_908 ?_
  refine j_cVI C (X8_where_ok _ G D (ad 0) (xs (i + 1)) (fun r D' => ClV ad ro D D' (sWhere S (xs (i + 1))).2 ∧ r = (sWhere S (xs (i + 1))).1) (where_sp H h (fun D' c => ⟨c, rfl⟩))) H.x_ rfl k_676 mv_X8_where ⟨Nat.le_of_ble_eq_true rfl, Nat.le_of_ble_eq_true rfl⟩ ⟨rfl, rfl⟩ rfl rfl (Nat.le_of_ble_eq_true rfl) hcs dL_law_909 (fun r1 D1 hp => ?_)
  obtain ⟨c1, e1⟩ := hp
  have g1 := h9.by H9 c1
  refine j_aload_n C dL_law_912 rfl 1 rfl ?_
  refine j_arg (k := 1) C hX hL (by omega) (by decide) dL_law_913 dL_law_914 dL_law_915 dL_law_916 dL_law_917 ?_
  refine j_cVI C (X9_where_ok _ G D1 (ad 500) (xs (i + 1)) (fun r D' => RfV ad ro D1 D' (sWhere S (xs (i + 1))).2 ∧ r = (sWhere S (xs (i + 1))).1) (where9_sp H9 h.ok g1 (fun D' c => ⟨c, rfl⟩))) H9.x_ rfl k_1108 mv_X9_where ⟨Nat.le_of_ble_eq_true rfl, Nat.le_of_ble_eq_true rfl⟩ ⟨rfl, rfl⟩ rfl rfl (Nat.le_of_ble_eq_true rfl) hcs dL_law_918 (fun r2 D2 hp => ?_)
  obtain ⟨c2, e2⟩ := hp
  refine j_icmp_eq (tgt := 1087) C dL_law_921 (by decide) (fun _ => ?_) (fun hc => absurd (e1.trans e2.symm) hc)
  exact fin D2 _ (c1.by H c2) c2.self
set_option maxRecDepth 100000 in
set_option maxHeartbeats 4000000 in
theorem lc_22 {κ : Ctx} (C : Cx κ cL_law RL room_1 4) {b L : Nat} {xs : Nat → Int32} (hX : Sc κ b L xs) (hL : L ≤ 3584) {G : Shp} {ad ro : Nat → Nat} (H : CS G ad ro) (H9 : RG G ad ro) {i cells slots : Nat} (hi : i + 7 ≤ L) (hcs : cells ≤ room_1.cells ∧ slots ≤ room_1.slots) {D : Dat} {S : AS} (h : ClV ad ro D D S) (h9 : RfV ad ro D D S) (fin : ∀ D' S', ClV ad ro D' D' S' → RfV ad ro D' D' S' → J κ cells slots G D' 1087 (LV b (ad 0) (ad 500) i) []) : J κ cells slots G D 926 (LV b (ad 0) (ad 500) i) [] := by
  refine j_aload_n C dL_law_926 rfl 2 rfl ?_
  refine j_arg (k := 1) C hX hL (by omega) (by decide) dL_law_927 dL_law_928 dL_law_929 dL_law_930 dL_law_931 ?_
  refine j_arg (k := 2) C hX hL (by omega) (by decide) dL_law_932 dL_law_933 dL_law_934 dL_law_935 dL_law_936 ?_
  refine j_arg (k := 3) C hX hL (by omega) (by decide) dL_law_937 dL_law_938 dL_law_939 dL_law_940 dL_law_941 ?_
  refine j_cVI C (X8_rounds_ok _ G D (ad 0) (xs (i + 1)) (xs (i + 2)) (xs (i + 3)) (fun r D' => ClV ad ro D D' (sRounds S (xs (i + 1)) (xs (i + 2)) (xs (i + 3))).2 ∧ r = (sRounds S (xs (i + 1)) (xs (i + 2)) (xs (i + 3))).1) (rounds_sp H h (fun D' c => ⟨c, rfl⟩))) H.x_ rfl k_691 mv_X8_rounds ⟨Nat.le_of_ble_eq_true rfl, Nat.le_of_ble_eq_true rfl⟩ ⟨rfl, rfl⟩ rfl rfl (Nat.le_of_ble_eq_true rfl) hcs dL_law_942 (fun r1 D1 hp => ?_)
  obtain ⟨c1, e1⟩ := hp
  have g1 := h9.by H9 c1
  refine j_aload_n C dL_law_945 rfl 1 rfl ?_
  refine j_arg (k := 1) C hX hL (by omega) (by decide) dL_law_946 dL_law_947 dL_law_948 dL_law_949 dL_law_950 ?_
  refine j_arg (k := 2) C hX hL (by omega) (by decide) dL_law_951 dL_law_952 dL_law_953 dL_law_954 dL_law_955 ?_
  refine j_arg (k := 3) C hX hL (by omega) (by decide) dL_law_956 dL_law_957 dL_law_958 dL_law_959 dL_law_960 ?_
  refine j_cVI C (X9_rounds_ok _ G D1 (ad 500) (xs (i + 1)) (xs (i + 2)) (xs (i + 3)) (fun r D' => RfV ad ro D1 D' (sRounds S (xs (i + 1)) (xs (i + 2)) (xs (i + 3))).2 ∧ r = (sRounds S (xs (i + 1)) (xs (i + 2)) (xs (i + 3))).1) (rounds9_sp H9 h.ok g1 (fun D' c => ⟨c, rfl⟩))) H9.x_ rfl k_1112 mv_X9_rounds ⟨Nat.le_of_ble_eq_true rfl, Nat.le_of_ble_eq_true rfl⟩ ⟨rfl, rfl⟩ rfl rfl (Nat.le_of_ble_eq_true rfl) hcs dL_law_961 (fun r2 D2 hp => ?_)
  obtain ⟨c2, e2⟩ := hp
  refine j_icmp_eq (tgt := 1087) C dL_law_964 (by decide) (fun _ => ?_) (fun hc => absurd (e1.trans e2.symm) hc)
  exact fin D2 _ (c1.by H c2) c2.self
set_option maxRecDepth 100000 in
set_option maxHeartbeats 4000000 in
theorem lc_23 {κ : Ctx} (C : Cx κ cL_law RL room_1 4) {b L : Nat} {xs : Nat → Int32} (hX : Sc κ b L xs) (hL : L ≤ 3584) {G : Shp} {ad ro : Nat → Nat} (H : CS G ad ro) (H9 : RG G ad ro) {i cells slots : Nat} (hi : i + 7 ≤ L) (hcs : cells ≤ room_1.cells ∧ slots ≤ room_1.slots) {D : Dat} {S : AS} (h : ClV ad ro D D S) (h9 : RfV ad ro D D S) (fin : ∀ D' S', ClV ad ro D' D' S' → RfV ad ro D' D' S' → J κ cells slots G D' 1087 (LV b (ad 0) (ad 500) i) []) : J κ cells slots G D 969 (LV b (ad 0) (ad 500) i) [] := by
  refine j_aload_n C dL_law_969 rfl 2 rfl ?_
  refine j_arg (k := 1) C hX hL (by omega) (by decide) dL_law_970 dL_law_971 dL_law_972 dL_law_973 dL_law_974 ?_
  refine j_arg (k := 2) C hX hL (by omega) (by decide) dL_law_975 dL_law_976 dL_law_977 dL_law_978 dL_law_979 ?_
  refine j_arg (k := 3) C hX hL (by omega) (by decide) dL_law_980 dL_law_981 dL_law_982 dL_law_983 dL_law_984 ?_
  refine j_cVI C (X8_pull_ok _ G D (ad 0) (xs (i + 1)) (xs (i + 2)) (xs (i + 3)) (fun r D' => ClV ad ro D D' (sPull S (xs (i + 1)) (xs (i + 2)) (xs (i + 3))).2 ∧ r = (sPull S (xs (i + 1)) (xs (i + 2)) (xs (i + 3))).1) (pull_sp H h (fun D' c => ⟨c, rfl⟩))) H.x_ rfl k_741 mv_X8_pull ⟨Nat.le_of_ble_eq_true rfl, Nat.le_of_ble_eq_true rfl⟩ ⟨rfl, rfl⟩ rfl rfl (Nat.le_of_ble_eq_true rfl) hcs dL_law_985 (fun r1 D1 hp => ?_)
  obtain ⟨c1, e1⟩ := hp
  have g1 := h9.by H9 c1
  refine j_aload_n C dL_law_988 rfl 1 rfl ?_
  refine j_arg (k := 1) C hX hL (by omega) (by decide) dL_law_989 dL_law_990 dL_law_991 dL_law_992 dL_law_993 ?_
  refine j_arg (k := 2) C hX hL (by omega) (by decide) dL_law_994 dL_law_995 dL_law_996 dL_law_997 dL_law_998 ?_
  refine j_arg (k := 3) C hX hL (by omega) (by decide) dL_law_999 dL_law_1000 dL_law_1001 dL_law_1002 dL_law_1003 ?_
  refine j_cVI C (X9_pull_ok _ G D1 (ad 500) (xs (i + 1)) (xs (i + 2)) (xs (i + 3)) (fun r D' => RfV ad ro D1 D' (sPull S (xs (i + 1)) (xs (i + 2)) (xs (i + 3))).2 ∧ r = (sPull S (xs (i + 1)) (xs (i + 2)) (xs (i + 3))).1) (pull9_sp H9 h.ok g1 (fun D' c => ⟨c, rfl⟩))) H9.x_ rfl k_1124 mv_X9_pull ⟨Nat.le_of_ble_eq_true rfl, Nat.le_of_ble_eq_true rfl⟩ ⟨rfl, rfl⟩ rfl rfl (Nat.le_of_ble_eq_true rfl) hcs dL_law_1004 (fun r2 D2 hp => ?_)
  obtain ⟨c2, e2⟩ := hp
  refine j_icmp_eq (tgt := 1087) C dL_law_1007 (by decide) (fun _ => ?_) (fun hc => absurd (e1.trans e2.symm) hc)
  exact fin D2 _ (c1.by H c2) c2.self
set_option maxRecDepth 100000 in
set_option maxHeartbeats 4000000 in
theorem lc_24 {κ : Ctx} (C : Cx κ cL_law RL room_1 4) {b L : Nat} {xs : Nat → Int32} (hX : Sc κ b L xs) (hL : L ≤ 3584) {G : Shp} {ad ro : Nat → Nat} (H : CS G ad ro) (H9 : RG G ad ro) {i cells slots : Nat} (hi : i + 7 ≤ L) (hcs : cells ≤ room_1.cells ∧ slots ≤ room_1.slots) {D : Dat} {S : AS} (h : ClV ad ro D D S) (h9 : RfV ad ro D D S) (fin : ∀ D' S', ClV ad ro D' D' S' → RfV ad ro D' D' S' → J κ cells slots G D' 1087 (LV b (ad 0) (ad 500) i) []) : J κ cells slots G D 1012 (LV b (ad 0) (ad 500) i) [] := by
  refine j_aload_n C dL_law_1012 rfl 2 rfl ?_
  refine j_arg (k := 1) C hX hL (by omega) (by decide) dL_law_1013 dL_law_1014 dL_law_1015 dL_law_1016 dL_law_1017 ?_
  refine j_arg (k := 2) C hX hL (by omega) (by decide) dL_law_1018 dL_law_1019 dL_law_1020 dL_law_1021 dL_law_1022 ?_
  refine j_arg (k := 3) C hX hL (by omega) (by decide) dL_law_1023 dL_law_1024 dL_law_1025 dL_law_1026 dL_law_1027 ?_
  refine j_arg (k := 4) C hX hL (by omega) (by decide) dL_law_1028 dL_law_1029 dL_law_1030 dL_law_1031 dL_law_1032 ?_
  refine j_arg (k := 5) C hX hL (by omega) (by decide) dL_law_1033 dL_law_1034 dL_law_1035 dL_law_1036 dL_law_1037 ?_
  refine j_arg6 C hX hL (by omega) dL_law_1038 dL_law_1039 dL_law_1040 dL_law_1042 dL_law_1043 ?_
  refine j_cVI C (X8_right_ok _ G D (ad 0) (xs (i + 1)) (xs (i + 2)) (xs (i + 3)) (xs (i + 4)) (xs (i + 5)) (xs (i + 6)) (fun r D' => ClV ad ro D D' (sRight S (xs (i + 1)) (xs (i + 2)) (xs (i + 3)) (xs (i + 4)) (xs (i + 5)) (xs (i + 6))).2 ∧ r = (sRight S (xs (i + 1)) (xs (i + 2)) (xs (i + 3)) (xs (i + 4)) (xs (i + 5)) (xs (i + 6))).1) (right_sp H h (fun D' c => ⟨c, rfl⟩))) H.x_ rfl k_745 mv_X8_right ⟨Nat.le_of_ble_eq_true rfl, Nat.le_of_ble_eq_true rfl⟩ ⟨rfl, rfl⟩ rfl rfl (Nat.le_of_ble_eq_true rfl) hcs dL_law_1044 (fun r1 D1 hp => ?_)
  obtain ⟨c1, e1⟩ := hp
  have g1 := h9.by H9 c1
  refine j_aload_n C dL_law_1047 rfl 1 rfl ?_
  refine j_arg (k := 1) C hX hL (by omega) (by decide) dL_law_1048 dL_law_1049 dL_law_1050 dL_law_1051 dL_law_1052 ?_
  refine j_arg (k := 2) C hX hL (by omega) (by decide) dL_law_1053 dL_law_1054 dL_law_1055 dL_law_1056 dL_law_1057 ?_
  refine j_arg (k := 3) C hX hL (by omega) (by decide) dL_law_1058 dL_law_1059 dL_law_1060 dL_law_1061 dL_law_1062 ?_
  refine j_arg (k := 4) C hX hL (by omega) (by decide) dL_law_1063 dL_law_1064 dL_law_1065 dL_law_1066 dL_law_1067 ?_
  refine j_arg (k := 5) C hX hL (by omega) (by decide) dL_law_1068 dL_law_1069 dL_law_1070 dL_law_1071 dL_law_1072 ?_
  refine j_arg6 C hX hL (by omega) dL_law_1073 dL_law_1074 dL_law_1075 dL_law_1077 dL_law_1078 ?_
  refine j_cVI C (X9_right_ok _ G D1 (ad 500) (xs (i + 1)) (xs (i + 2)) (xs (i + 3)) (xs (i + 4)) (xs (i + 5)) (xs (i + 6)) (fun r D' => RfV ad ro D1 D' (sRight S (xs (i + 1)) (xs (i + 2)) (xs (i + 3)) (xs (i + 4)) (xs (i + 5)) (xs (i + 6))).2 ∧ r = (sRight S (xs (i + 1)) (xs (i + 2)) (xs (i + 3)) (xs (i + 4)) (xs (i + 5)) (xs (i + 6))).1) (right9_sp H9 h.ok g1 (fun D' c => ⟨c, rfl⟩))) H9.x_ rfl k_1128 mv_X9_right ⟨Nat.le_of_ble_eq_true rfl, Nat.le_of_ble_eq_true rfl⟩ ⟨rfl, rfl⟩ rfl rfl (Nat.le_of_ble_eq_true rfl) hcs dL_law_1079 (fun r2 D2 hp => ?_)
  obtain ⟨c2, e2⟩ := hp
  refine j_icmp_eq (tgt := 1087) C dL_law_1082 (by decide) (fun _ => ?_) (fun hc => absurd (e1.trans e2.symm) hc)
  exact fin D2 _ (c1.by H c2) c2.self
