/-! the cases of the law's loop -/
theorem lw_c0 {X : zX} (C : zB X code 4 R_Law room_1) {b L : Nat} {xs : Nat → Int32} (S : zSc X b L xs) {i : Int32} (hi : zIn i L) {bl k n : Nat} {a : ast} {x : cx} {h : zH} (hL : LawI h bl a x) (hR : Rm k n x) (K : zGo X b bl i) : Zt X 4 k n 144 (lvL b bl i) [] h := by
  obtain ⟨r, h1, h2, a', eF, z1, eG, z2, hL'⟩ := law_ground (N := 4000) (Nat.le_refl _) hL (xs (i + (1 : Int32)).toNatClampNeg) (xs (i + (2 : Int32)).toNatClampNeg)
  refine z_aload_n C 2 d_law_144 rfl rfl ?_
  refine z_aload_n C 3 d_law_145 rfl rfl ?_
  refine z_iload_n C 0 d_law_146 rfl rfl ?_
  refine z_iconst C (v := (1 : Int32)) d_law_147 (by decide) ?_
  refine z_iadd C d_law_148 ?_
  refine z_sld C S hi.1 d_law_149 ?_
  refine z_aload_n C 3 d_law_150 rfl rfl ?_
  refine z_iload_n C 0 d_law_151 rfl rfl ?_
  refine z_iconst C (v := (2 : Int32)) d_law_152 (by decide) ?_
  refine z_iadd C d_law_153 ?_
  refine z_sld C S hi.2.1 d_law_154 ?_
  refine z_callV C (ci := 1) (c_LT_ground 4000 C.2.2.1 eF) rfl z1 w_300 w_57 w_297 w_298 w_299 pd_LT_ground rfl ⟨(Nat.le_of_ble_eq_true rfl), (Nat.le_of_ble_eq_true rfl)⟩ hR.le0 rfl (Nat.le_of_ble_eq_true rfl) d_law_155 (k' := k) (n' := n) (stk' := [.int r]) rfl rfl rfl ?_
  refine z_aload_n C 1 d_law_158 rfl rfl ?_
  refine z_aload_n C 3 d_law_159 rfl rfl ?_
  refine z_iload_n C 0 d_law_160 rfl rfl ?_
  refine z_iconst C (v := (1 : Int32)) d_law_161 (by decide) ?_
  refine z_iadd C d_law_162 ?_
  refine z_sld C S hi.1 d_law_163 ?_
  refine z_aload_n C 3 d_law_164 rfl rfl ?_
  refine z_iload_n C 0 d_law_165 rfl rfl ?_
  refine z_iconst C (v := (2 : Int32)) d_law_166 (by decide) ?_
  refine z_iadd C d_law_167 ?_
  refine z_sld C S hi.2.1 d_law_168 ?_
  refine z_callV C (ci := 0) (c_Model_ground 4000 C.2.2.1 eG) rfl z2 w_851 w_66 w_848 w_849 w_850 pd_Model_ground rfl ⟨(Nat.le_of_ble_eq_true rfl), (Nat.le_of_ble_eq_true rfl)⟩ hR.le0 rfl (Nat.le_of_ble_eq_true rfl) d_law_169 (k' := k) (n' := n) (stk' := [.int r, .int r]) rfl rfl rfl ?_
  exact z_ic_eq (tgt := 744) C d_law_172 (by decide) (A := some ()) (B := none) (r := ()) (if_pos rfl) (fun _ => K k n h2 a' _ hL' hR) (fun q => by cases q)

theorem lw_c1 {X : zX} (C : zB X code 4 R_Law room_1) {b L : Nat} {xs : Nat → Int32} (S : zSc X b L xs) {i : Int32} (hi : zIn i L) {bl k n : Nat} {a : ast} {x : cx} {h : zH} (hL : LawI h bl a x) (hR : Rm k n x) (K : zGo X b bl i) : Zt X 4 k n 177 (lvL b bl i) [] h := by
  obtain ⟨r, h1, h2, a', eF, z1, eG, z2, hL'⟩ := law_prices (N := 4000) (Nat.le_refl _) hL (xs (i + (1 : Int32)).toNatClampNeg) (xs (i + (2 : Int32)).toNatClampNeg) (xs (i + (3 : Int32)).toNatClampNeg)
  refine z_aload_n C 2 d_law_177 rfl rfl ?_
  refine z_aload_n C 3 d_law_178 rfl rfl ?_
  refine z_iload_n C 0 d_law_179 rfl rfl ?_
  refine z_iconst C (v := (1 : Int32)) d_law_180 (by decide) ?_
  refine z_iadd C d_law_181 ?_
  refine z_sld C S hi.1 d_law_182 ?_
  refine z_aload_n C 3 d_law_183 rfl rfl ?_
  refine z_iload_n C 0 d_law_184 rfl rfl ?_
  refine z_iconst C (v := (2 : Int32)) d_law_185 (by decide) ?_
  refine z_iadd C d_law_186 ?_
  refine z_sld C S hi.2.1 d_law_187 ?_
  refine z_aload_n C 3 d_law_188 rfl rfl ?_
  refine z_iload_n C 0 d_law_189 rfl rfl ?_
  refine z_iconst C (v := (3 : Int32)) d_law_190 (by decide) ?_
  refine z_iadd C d_law_191 ?_
  refine z_sld C S hi.2.2.1 d_law_192 ?_
  refine z_callV C (ci := 1) (c_LT_prices 4000 C.2.2.1 eF) rfl z1 w_321 w_57 w_318 w_319 w_320 pd_LT_prices rfl ⟨(Nat.le_of_ble_eq_true rfl), (Nat.le_of_ble_eq_true rfl)⟩ hR.le0 rfl (Nat.le_of_ble_eq_true rfl) d_law_193 (k' := k) (n' := n) (stk' := [.int r]) rfl rfl rfl ?_
  refine z_aload_n C 1 d_law_196 rfl rfl ?_
  refine z_aload_n C 3 d_law_197 rfl rfl ?_
  refine z_iload_n C 0 d_law_198 rfl rfl ?_
  refine z_iconst C (v := (1 : Int32)) d_law_199 (by decide) ?_
  refine z_iadd C d_law_200 ?_
  refine z_sld C S hi.1 d_law_201 ?_
  refine z_aload_n C 3 d_law_202 rfl rfl ?_
  refine z_iload_n C 0 d_law_203 rfl rfl ?_
  refine z_iconst C (v := (2 : Int32)) d_law_204 (by decide) ?_
  refine z_iadd C d_law_205 ?_
  refine z_sld C S hi.2.1 d_law_206 ?_
  refine z_aload_n C 3 d_law_207 rfl rfl ?_
  refine z_iload_n C 0 d_law_208 rfl rfl ?_
  refine z_iconst C (v := (3 : Int32)) d_law_209 (by decide) ?_
  refine z_iadd C d_law_210 ?_
  refine z_sld C S hi.2.2.1 d_law_211 ?_
  refine z_callV C (ci := 0) (c_Model_prices 4000 C.2.2.1 eG) rfl z2 w_871 w_66 w_868 w_869 w_870 pd_Model_prices rfl ⟨(Nat.le_of_ble_eq_true rfl), (Nat.le_of_ble_eq_true rfl)⟩ hR.le0 rfl (Nat.le_of_ble_eq_true rfl) d_law_212 (k' := k) (n' := n) (stk' := [.int r, .int r]) rfl rfl rfl ?_
  exact z_ic_eq (tgt := 744) C d_law_215 (by decide) (A := some ()) (B := none) (r := ()) (if_pos rfl) (fun _ => K k n h2 a' _ hL' hR) (fun q => by cases q)

theorem lw_c2 {X : zX} (C : zB X code 4 R_Law room_1) {b L : Nat} {xs : Nat → Int32} (S : zSc X b L xs) {i : Int32} (hi : zIn i L) {bl k n : Nat} {a : ast} {x : cx} {h : zH} (hL : LawI h bl a x) (hR : Rm k n x) (K : zGo X b bl i) : Zt X 4 k n 220 (lvL b bl i) [] h := by
  obtain ⟨r, h1, h2, a', eF, z1, eG, z2, hL'⟩ := law_span (N := 4000) (Nat.le_refl _) hL (xs (i + (1 : Int32)).toNatClampNeg) (xs (i + (2 : Int32)).toNatClampNeg) (xs (i + (3 : Int32)).toNatClampNeg) ((z_sl (xs (i + (4 : Int32)).toNatClampNeg).toInt64 (32 : Int32)) ||| ((xs (i + (5 : Int32)).toNatClampNeg).toInt64 &&& (4294967295 : Int64)))
  refine z_aload_n C 2 d_law_220 rfl rfl ?_
  refine z_aload_n C 3 d_law_221 rfl rfl ?_
  refine z_iload_n C 0 d_law_222 rfl rfl ?_
  refine z_iconst C (v := (1 : Int32)) d_law_223 (by decide) ?_
  refine z_iadd C d_law_224 ?_
  refine z_sld C S hi.1 d_law_225 ?_
  refine z_aload_n C 3 d_law_226 rfl rfl ?_
  refine z_iload_n C 0 d_law_227 rfl rfl ?_
  refine z_iconst C (v := (2 : Int32)) d_law_228 (by decide) ?_
  refine z_iadd C d_law_229 ?_
  refine z_sld C S hi.2.1 d_law_230 ?_
  refine z_aload_n C 3 d_law_231 rfl rfl ?_
  refine z_iload_n C 0 d_law_232 rfl rfl ?_
  refine z_iconst C (v := (3 : Int32)) d_law_233 (by decide) ?_
  refine z_iadd C d_law_234 ?_
  refine z_sld C S hi.2.2.1 d_law_235 ?_
  refine z_aload_n C 3 d_law_236 rfl rfl ?_
  refine z_iload_n C 0 d_law_237 rfl rfl ?_
  refine z_iconst C (v := (4 : Int32)) d_law_238 (by decide) ?_
  refine z_iadd C d_law_239 ?_
  refine z_sld C S hi.2.2.2.1 d_law_240 ?_
  refine z_i2l C d_law_241 ?_
  refine z_bipush C (v := (32 : Int32)) d_law_242 (by decide) ?_
  refine z_lshl C d_law_244 ?_
  refine z_aload_n C 3 d_law_245 rfl rfl ?_
  refine z_iload_n C 0 d_law_246 rfl rfl ?_
  refine z_iconst C (v := (5 : Int32)) d_law_247 (by decide) ?_
  refine z_iadd C d_law_248 ?_
  refine z_sld C S hi.2.2.2.2 d_law_249 ?_
  refine z_i2l C d_law_250 ?_
  refine z_ldc2 C (v := (4294967295 : Int64)) d_law_251 w_1039 ?_
  refine z_land C d_law_254 ?_
  refine z_lor C d_law_255 ?_
  refine z_callV C (ci := 1) (c_LT_span 4000 C.2.2.1 eF) rfl z1 w_329 w_57 w_326 w_327 w_328 pd_LT_span rfl ⟨(Nat.le_of_ble_eq_true rfl), (Nat.le_of_ble_eq_true rfl)⟩ hR.le0 rfl (Nat.le_of_ble_eq_true rfl) d_law_256 (k' := k) (n' := n) (stk' := [.int r]) rfl rfl rfl ?_
  refine z_aload_n C 1 d_law_259 rfl rfl ?_
  refine z_aload_n C 3 d_law_260 rfl rfl ?_
  refine z_iload_n C 0 d_law_261 rfl rfl ?_
  refine z_iconst C (v := (1 : Int32)) d_law_262 (by decide) ?_
  refine z_iadd C d_law_263 ?_
  refine z_sld C S hi.1 d_law_264 ?_
  refine z_aload_n C 3 d_law_265 rfl rfl ?_
  refine z_iload_n C 0 d_law_266 rfl rfl ?_
  refine z_iconst C (v := (2 : Int32)) d_law_267 (by decide) ?_
  refine z_iadd C d_law_268 ?_
  refine z_sld C S hi.2.1 d_law_269 ?_
  refine z_aload_n C 3 d_law_270 rfl rfl ?_
  refine z_iload_n C 0 d_law_271 rfl rfl ?_
  refine z_iconst C (v := (3 : Int32)) d_law_272 (by decide) ?_
  refine z_iadd C d_law_273 ?_
  refine z_sld C S hi.2.2.1 d_law_274 ?_
  refine z_aload_n C 3 d_law_275 rfl rfl ?_
  refine z_iload_n C 0 d_law_276 rfl rfl ?_
  refine z_iconst C (v := (4 : Int32)) d_law_277 (by decide) ?_
  refine z_iadd C d_law_278 ?_
  refine z_sld C S hi.2.2.2.1 d_law_279 ?_
  refine z_i2l C d_law_280 ?_
  refine z_bipush C (v := (32 : Int32)) d_law_281 (by decide) ?_
  refine z_lshl C d_law_283 ?_
  refine z_aload_n C 3 d_law_284 rfl rfl ?_
  refine z_iload_n C 0 d_law_285 rfl rfl ?_
  refine z_iconst C (v := (5 : Int32)) d_law_286 (by decide) ?_
  refine z_iadd C d_law_287 ?_
  refine z_sld C S hi.2.2.2.2 d_law_288 ?_
  refine z_i2l C d_law_289 ?_
  refine z_ldc2 C (v := (4294967295 : Int64)) d_law_290 w_1039 ?_
  refine z_land C d_law_293 ?_
  refine z_lor C d_law_294 ?_
  refine z_callV C (ci := 0) (c_Model_span 4000 C.2.2.1 eG) rfl z2 w_879 w_66 w_876 w_877 w_878 pd_Model_span rfl ⟨(Nat.le_of_ble_eq_true rfl), (Nat.le_of_ble_eq_true rfl)⟩ hR.le0 rfl (Nat.le_of_ble_eq_true rfl) d_law_295 (k' := k) (n' := n) (stk' := [.int r, .int r]) rfl rfl rfl ?_
  exact z_ic_eq (tgt := 744) C d_law_298 (by decide) (A := some ()) (B := none) (r := ()) (if_pos rfl) (fun _ => K k n h2 a' _ hL' hR) (fun q => by cases q)

theorem lw_c3 {X : zX} (C : zB X code 4 R_Law room_1) {b L : Nat} {xs : Nat → Int32} (S : zSc X b L xs) {i : Int32} (hi : zIn i L) {bl k n : Nat} {a : ast} {x : cx} {h : zH} (hL : LawI h bl a x) (hR : Rm k n x) (K : zGo X b bl i) : Zt X 4 k n 303 (lvL b bl i) [] h := by
  obtain ⟨r, h1, h2, a', eF, z1, eG, z2, hL'⟩ := law_drop (N := 4000) (Nat.le_refl _) hL (xs (i + (1 : Int32)).toNatClampNeg)
  refine z_aload_n C 2 d_law_303 rfl rfl ?_
  refine z_aload_n C 3 d_law_304 rfl rfl ?_
  refine z_iload_n C 0 d_law_305 rfl rfl ?_
  refine z_iconst C (v := (1 : Int32)) d_law_306 (by decide) ?_
  refine z_iadd C d_law_307 ?_
  refine z_sld C S hi.1 d_law_308 ?_
  refine z_callV C (ci := 1) (c_LT_drop 4000 C.2.2.1 eF) rfl z1 w_342 w_57 w_339 w_340 w_341 pd_LT_drop rfl ⟨(Nat.le_of_ble_eq_true rfl), (Nat.le_of_ble_eq_true rfl)⟩ hR.le0 rfl (Nat.le_of_ble_eq_true rfl) d_law_309 (k' := k) (n' := n) (stk' := [.int r]) rfl rfl rfl ?_
  refine z_aload_n C 1 d_law_312 rfl rfl ?_
  refine z_aload_n C 3 d_law_313 rfl rfl ?_
  refine z_iload_n C 0 d_law_314 rfl rfl ?_
  refine z_iconst C (v := (1 : Int32)) d_law_315 (by decide) ?_
  refine z_iadd C d_law_316 ?_
  refine z_sld C S hi.1 d_law_317 ?_
  refine z_callV C (ci := 0) (c_Model_drop 4000 C.2.2.1 eG) rfl z2 w_885 w_66 w_882 w_883 w_884 pd_Model_drop rfl ⟨(Nat.le_of_ble_eq_true rfl), (Nat.le_of_ble_eq_true rfl)⟩ hR.le0 rfl (Nat.le_of_ble_eq_true rfl) d_law_318 (k' := k) (n' := n) (stk' := [.int r, .int r]) rfl rfl rfl ?_
  exact z_ic_eq (tgt := 744) C d_law_321 (by decide) (A := some ()) (B := none) (r := ()) (if_pos rfl) (fun _ => K k n h2 a' _ hL' hR) (fun q => by cases q)

theorem lw_c4 {X : zX} (C : zB X code 4 R_Law room_1) {b L : Nat} {xs : Nat → Int32} (S : zSc X b L xs) {i : Int32} (hi : zIn i L) {bl k n : Nat} {a : ast} {x : cx} {h : zH} (hL : LawI h bl a x) (hR : Rm k n x) (K : zGo X b bl i) : Zt X 4 k n 326 (lvL b bl i) [] h := by
  obtain ⟨r, h1, h2, a', eF, z1, eG, z2, hL'⟩ := law_fixed (N := 4000) (Nat.le_refl _) hL (xs (i + (1 : Int32)).toNatClampNeg) (xs (i + (2 : Int32)).toNatClampNeg)
  refine z_aload_n C 2 d_law_326 rfl rfl ?_
  refine z_aload_n C 3 d_law_327 rfl rfl ?_
  refine z_iload_n C 0 d_law_328 rfl rfl ?_
  refine z_iconst C (v := (1 : Int32)) d_law_329 (by decide) ?_
  refine z_iadd C d_law_330 ?_
  refine z_sld C S hi.1 d_law_331 ?_
  refine z_aload_n C 3 d_law_332 rfl rfl ?_
  refine z_iload_n C 0 d_law_333 rfl rfl ?_
  refine z_iconst C (v := (2 : Int32)) d_law_334 (by decide) ?_
  refine z_iadd C d_law_335 ?_
  refine z_sld C S hi.2.1 d_law_336 ?_
  refine z_callV C (ci := 1) (c_LT_fixed 4000 C.2.2.1 eF) rfl z1 w_350 w_57 w_347 w_348 w_349 pd_LT_fixed rfl ⟨(Nat.le_of_ble_eq_true rfl), (Nat.le_of_ble_eq_true rfl)⟩ hR.le0 rfl (Nat.le_of_ble_eq_true rfl) d_law_337 (k' := k) (n' := n) (stk' := [.int r]) rfl rfl rfl ?_
  refine z_aload_n C 1 d_law_340 rfl rfl ?_
  refine z_aload_n C 3 d_law_341 rfl rfl ?_
  refine z_iload_n C 0 d_law_342 rfl rfl ?_
  refine z_iconst C (v := (1 : Int32)) d_law_343 (by decide) ?_
  refine z_iadd C d_law_344 ?_
  refine z_sld C S hi.1 d_law_345 ?_
  refine z_aload_n C 3 d_law_346 rfl rfl ?_
  refine z_iload_n C 0 d_law_347 rfl rfl ?_
  refine z_iconst C (v := (2 : Int32)) d_law_348 (by decide) ?_
  refine z_iadd C d_law_349 ?_
  refine z_sld C S hi.2.1 d_law_350 ?_
  refine z_callV C (ci := 0) (c_Model_fixed 4000 C.2.2.1 eG) rfl z2 w_889 w_66 w_886 w_887 w_888 pd_Model_fixed rfl ⟨(Nat.le_of_ble_eq_true rfl), (Nat.le_of_ble_eq_true rfl)⟩ hR.le0 rfl (Nat.le_of_ble_eq_true rfl) d_law_351 (k' := k) (n' := n) (stk' := [.int r, .int r]) rfl rfl rfl ?_
  exact z_ic_eq (tgt := 744) C d_law_354 (by decide) (A := some ()) (B := none) (r := ()) (if_pos rfl) (fun _ => K k n h2 a' _ hL' hR) (fun q => by cases q)

theorem lw_c5 {X : zX} (C : zB X code 4 R_Law room_1) {b L : Nat} {xs : Nat → Int32} (S : zSc X b L xs) {i : Int32} (hi : zIn i L) {bl k n : Nat} {a : ast} {x : cx} {h : zH} (hL : LawI h bl a x) (hR : Rm k n x) (K : zGo X b bl i) : Zt X 4 k n 359 (lvL b bl i) [] h := by
  obtain ⟨r, h1, h2, a', eF, z1, eG, z2, hL'⟩ := law_slopes (N := 4000) (Nat.le_refl _) hL (xs (i + (1 : Int32)).toNatClampNeg) (xs (i + (2 : Int32)).toNatClampNeg) (xs (i + (3 : Int32)).toNatClampNeg)
  refine z_aload_n C 2 d_law_359 rfl rfl ?_
  refine z_aload_n C 3 d_law_360 rfl rfl ?_
  refine z_iload_n C 0 d_law_361 rfl rfl ?_
  refine z_iconst C (v := (1 : Int32)) d_law_362 (by decide) ?_
  refine z_iadd C d_law_363 ?_
  refine z_sld C S hi.1 d_law_364 ?_
  refine z_aload_n C 3 d_law_365 rfl rfl ?_
  refine z_iload_n C 0 d_law_366 rfl rfl ?_
  refine z_iconst C (v := (2 : Int32)) d_law_367 (by decide) ?_
  refine z_iadd C d_law_368 ?_
  refine z_sld C S hi.2.1 d_law_369 ?_
  refine z_aload_n C 3 d_law_370 rfl rfl ?_
  refine z_iload_n C 0 d_law_371 rfl rfl ?_
  refine z_iconst C (v := (3 : Int32)) d_law_372 (by decide) ?_
  refine z_iadd C d_law_373 ?_
  refine z_sld C S hi.2.2.1 d_law_374 ?_
  refine z_callV C (ci := 1) (c_LT_slopes 4000 C.2.2.1 eF) rfl z1 w_359 w_57 w_356 w_357 w_358 pd_LT_slopes rfl ⟨(Nat.le_of_ble_eq_true rfl), (Nat.le_of_ble_eq_true rfl)⟩ hR.le0 rfl (Nat.le_of_ble_eq_true rfl) d_law_375 (k' := k) (n' := n) (stk' := [.int r]) rfl rfl rfl ?_
  refine z_aload_n C 1 d_law_378 rfl rfl ?_
  refine z_aload_n C 3 d_law_379 rfl rfl ?_
  refine z_iload_n C 0 d_law_380 rfl rfl ?_
  refine z_iconst C (v := (1 : Int32)) d_law_381 (by decide) ?_
  refine z_iadd C d_law_382 ?_
  refine z_sld C S hi.1 d_law_383 ?_
  refine z_aload_n C 3 d_law_384 rfl rfl ?_
  refine z_iload_n C 0 d_law_385 rfl rfl ?_
  refine z_iconst C (v := (2 : Int32)) d_law_386 (by decide) ?_
  refine z_iadd C d_law_387 ?_
  refine z_sld C S hi.2.1 d_law_388 ?_
  refine z_aload_n C 3 d_law_389 rfl rfl ?_
  refine z_iload_n C 0 d_law_390 rfl rfl ?_
  refine z_iconst C (v := (3 : Int32)) d_law_391 (by decide) ?_
  refine z_iadd C d_law_392 ?_
  refine z_sld C S hi.2.2.1 d_law_393 ?_
  refine z_callV C (ci := 0) (c_Model_slopes 4000 C.2.2.1 eG) rfl z2 w_893 w_66 w_890 w_891 w_892 pd_Model_slopes rfl ⟨(Nat.le_of_ble_eq_true rfl), (Nat.le_of_ble_eq_true rfl)⟩ hR.le0 rfl (Nat.le_of_ble_eq_true rfl) d_law_394 (k' := k) (n' := n) (stk' := [.int r, .int r]) rfl rfl rfl ?_
  exact z_ic_eq (tgt := 744) C d_law_397 (by decide) (A := some ()) (B := none) (r := ()) (if_pos rfl) (fun _ => K k n h2 a' _ hL' hR) (fun q => by cases q)

theorem lw_c6 {X : zX} (C : zB X code 4 R_Law room_1) {b L : Nat} {xs : Nat → Int32} (S : zSc X b L xs) {i : Int32} (hi : zIn i L) {bl k n : Nat} {a : ast} {x : cx} {h : zH} (hL : LawI h bl a x) (hR : Rm k n x) (K : zGo X b bl i) : Zt X 4 k n 402 (lvL b bl i) [] h := by
  rcases law_run (N := 4000) (Nat.le_refl _) hL with ⟨sw, r, h1, h2, a', eF, z1, eG, z2, hL'⟩ | ⟨hx, sw, s, r, h1, h2, a', eF, z1, eG, z2, hL'⟩
  · have hR' : Rm k n (x.1, x.2.1, sw, x.2.2.2) := hR
    refine z_aload_n C 2 d_law_402 rfl rfl ?_
    refine z_callV C (ci := 1) (c_LT_runA 4000 C.2.2.1 eF) rfl z1 w_363 w_57 w_360 w_361 w_362 pd_LT_run rfl ⟨(Nat.le_of_ble_eq_true rfl), (Nat.le_of_ble_eq_true rfl)⟩ hR.le0 rfl (Nat.le_of_ble_eq_true rfl) d_law_403 (k' := k) (n' := n) (stk' := [.int r]) rfl rfl rfl ?_
    refine z_aload_n C 1 d_law_406 rfl rfl ?_
    refine z_callV C (ci := 0) (c_Model_run 4000 C.2.2.1 eG) rfl z2 w_897 w_66 w_894 w_895 w_896 pd_Model_run rfl ⟨(Nat.le_of_ble_eq_true rfl), (Nat.le_of_ble_eq_true rfl)⟩ hR.le0 rfl (Nat.le_of_ble_eq_true rfl) d_law_407 (k' := k) (n' := n) (stk' := [.int r, .int r]) rfl rfl rfl ?_
    exact z_ic_eq (tgt := 744) C d_law_410 (by decide) (A := some ()) (B := none) (r := ()) (if_pos rfl) (fun _ => K k n h2 a' _ hL' hR') (fun q => by cases q)
  · have hR' : Rm (k + 29) (n + 94086) (x.1, x.2.1, sw, some s, x.2.2.2.2) := hR.best hx
    refine z_aload_n C 2 d_law_402 rfl rfl ?_
    refine z_callV C (ci := 1) (c_LT_run 4000 C.2.2.1 eF) rfl z1 w_363 w_57 w_360 w_361 w_362 pd_LT_run rfl ⟨(Nat.le_of_ble_eq_true rfl), (Nat.le_of_ble_eq_true rfl)⟩ hR'.le0 rfl (Nat.le_of_ble_eq_true rfl) d_law_403 (k' := k + 29) (n' := n + 94086) (stk' := [.int r]) rfl rfl rfl ?_
    refine z_aload_n C 1 d_law_406 rfl rfl ?_
    refine z_callV C (ci := 0) (c_Model_run 4000 C.2.2.1 eG) rfl z2 w_897 w_66 w_894 w_895 w_896 pd_Model_run rfl ⟨(Nat.le_of_ble_eq_true rfl), (Nat.le_of_ble_eq_true rfl)⟩ hR'.le0 rfl (Nat.le_of_ble_eq_true rfl) d_law_407 (k' := k + 29) (n' := n + 94086) (stk' := [.int r, .int r]) rfl rfl rfl ?_
    exact z_ic_eq (tgt := 744) C d_law_410 (by decide) (A := some ()) (B := none) (r := ()) (if_pos rfl) (fun _ => K _ _ h2 a' _ hL' hR') (fun q => by cases q)

theorem lw_c7 {X : zX} (C : zB X code 4 R_Law room_1) {b L : Nat} {xs : Nat → Int32} (S : zSc X b L xs) {i : Int32} (hi : zIn i L) {bl k n : Nat} {a : ast} {x : cx} {h : zH} (hL : LawI h bl a x) (hR : Rm k n x) (K : zGo X b bl i) : Zt X 4 k n 415 (lvL b bl i) [] h := by
  obtain ⟨r, h1, h2, a', eF, z1, eG, z2, hL'⟩ := law_level (N := 4000) (Nat.le_refl _) hL (xs (i + (1 : Int32)).toNatClampNeg)
  refine z_aload_n C 2 d_law_415 rfl rfl ?_
  refine z_aload_n C 3 d_law_416 rfl rfl ?_
  refine z_iload_n C 0 d_law_417 rfl rfl ?_
  refine z_iconst C (v := (1 : Int32)) d_law_418 (by decide) ?_
  refine z_iadd C d_law_419 ?_
  refine z_sld C S hi.1 d_law_420 ?_
  refine z_callV C (ci := 1) (c_LT_level 4000 C.2.2.1 eF) rfl z1 w_587 w_57 w_584 w_585 w_586 pd_LT_level rfl ⟨(Nat.le_of_ble_eq_true rfl), (Nat.le_of_ble_eq_true rfl)⟩ hR.le0 rfl (Nat.le_of_ble_eq_true rfl) d_law_421 (k' := k) (n' := n) (stk' := [.int r]) rfl rfl rfl ?_
  refine z_aload_n C 1 d_law_424 rfl rfl ?_
  refine z_aload_n C 3 d_law_425 rfl rfl ?_
  refine z_iload_n C 0 d_law_426 rfl rfl ?_
  refine z_iconst C (v := (1 : Int32)) d_law_427 (by decide) ?_
  refine z_iadd C d_law_428 ?_
  refine z_sld C S hi.1 d_law_429 ?_
  refine z_callV C (ci := 0) (c_Model_level 4000 C.2.2.1 eG) rfl z2 w_960 w_66 w_957 w_958 w_959 pd_Model_level rfl ⟨(Nat.le_of_ble_eq_true rfl), (Nat.le_of_ble_eq_true rfl)⟩ hR.le0 rfl (Nat.le_of_ble_eq_true rfl) d_law_430 (k' := k) (n' := n) (stk' := [.int r, .int r]) rfl rfl rfl ?_
  exact z_ic_eq (tgt := 744) C d_law_433 (by decide) (A := some ()) (B := none) (r := ()) (if_pos rfl) (fun _ => K k n h2 a' _ hL' hR) (fun q => by cases q)

theorem lw_c8 {X : zX} (C : zB X code 4 R_Law room_1) {b L : Nat} {xs : Nat → Int32} (S : zSc X b L xs) {i : Int32} (hi : zIn i L) {bl k n : Nat} {a : ast} {x : cx} {h : zH} (hL : LawI h bl a x) (hR : Rm k n x) (K : zGo X b bl i) : Zt X 4 k n 438 (lvL b bl i) [] h := by
  obtain ⟨r, h1, h2, a', eF, z1, eG, z2, hL'⟩ := law_cost (N := 4000) (Nat.le_refl _) hL 
  refine z_aload_n C 2 d_law_438 rfl rfl ?_
  refine z_callV C (ci := 1) (c_LT_cost 4000 C.2.2.1 eF) rfl z1 w_591 w_57 w_588 w_589 w_590 pd_LT_cost rfl ⟨(Nat.le_of_ble_eq_true rfl), (Nat.le_of_ble_eq_true rfl)⟩ hR.le0 rfl (Nat.le_of_ble_eq_true rfl) d_law_439 (k' := k) (n' := n) (stk' := [.long r]) rfl rfl rfl ?_
  refine z_aload_n C 1 d_law_442 rfl rfl ?_
  refine z_callV C (ci := 0) (c_Model_cost 4000 C.2.2.1 eG) rfl z2 w_964 w_66 w_961 w_962 w_963 pd_Model_cost rfl ⟨(Nat.le_of_ble_eq_true rfl), (Nat.le_of_ble_eq_true rfl)⟩ hR.le0 rfl (Nat.le_of_ble_eq_true rfl) d_law_443 (k' := k) (n' := n) (stk' := [.long r, .long r]) rfl rfl rfl ?_
  refine z_lcmp C d_law_446 ?_
  exact z_if_eq (tgt := 744) C d_law_447 (by decide) (A := some ()) (B := none) (r := ()) (if_pos lg_self) (fun _ => K k n h2 a' _ hL' hR) (fun q => by cases q)

theorem lw_c9 {X : zX} (C : zB X code 4 R_Law room_1) {b L : Nat} {xs : Nat → Int32} (S : zSc X b L xs) {i : Int32} (hi : zIn i L) {bl k n : Nat} {a : ast} {x : cx} {h : zH} (hL : LawI h bl a x) (hR : Rm k n x) (K : zGo X b bl i) : Zt X 4 k n 452 (lvL b bl i) [] h := by
  rcases law_other (N := 4000) (Nat.le_refl _) hL (xs (i + (1 : Int32)).toNatClampNeg) with ⟨r, h1, h2, a', eF, z1, eG, z2, hL'⟩ | ⟨hx, s, r, h1, h2, a', eF, z1, eG, z2, hL'⟩
  · refine z_aload_n C 2 d_law_452 rfl rfl ?_
    refine z_aload_n C 3 d_law_453 rfl rfl ?_
    refine z_iload_n C 0 d_law_454 rfl rfl ?_
    refine z_iconst C (v := (1 : Int32)) d_law_455 (by decide) ?_
    refine z_iadd C d_law_456 ?_
    refine z_sld C S hi.1 d_law_457 ?_
    refine z_callV C (ci := 1) (c_LT_otherA 4000 C.2.2.1 eF) rfl z1 w_596 w_57 w_593 w_594 w_595 pd_LT_other rfl ⟨(Nat.le_of_ble_eq_true rfl), (Nat.le_of_ble_eq_true rfl)⟩ hR.le0 rfl (Nat.le_of_ble_eq_true rfl) d_law_458 (k' := k) (n' := n) (stk' := [.long r]) rfl rfl rfl ?_
    refine z_aload_n C 1 d_law_461 rfl rfl ?_
    refine z_aload_n C 3 d_law_462 rfl rfl ?_
    refine z_iload_n C 0 d_law_463 rfl rfl ?_
    refine z_iconst C (v := (1 : Int32)) d_law_464 (by decide) ?_
    refine z_iadd C d_law_465 ?_
    refine z_sld C S hi.1 d_law_466 ?_
    refine z_callV C (ci := 0) (c_Model_other 4000 C.2.2.1 eG) rfl z2 w_968 w_66 w_965 w_966 w_967 pd_Model_other rfl ⟨(Nat.le_of_ble_eq_true rfl), (Nat.le_of_ble_eq_true rfl)⟩ hR.le0 rfl (Nat.le_of_ble_eq_true rfl) d_law_467 (k' := k) (n' := n) (stk' := [.long r, .long r]) rfl rfl rfl ?_
    refine z_lcmp C d_law_470 ?_
    exact z_if_eq (tgt := 744) C d_law_471 (by decide) (A := some ()) (B := none) (r := ()) (if_pos lg_self) (fun _ => K k n h2 a' _ hL' hR) (fun q => by cases q)
  · have hR' : Rm (k + 29) (n + 94086) (x.1, x.2.1, x.2.2.1, x.2.2.2.1, some s) := hR.cheap hx
    refine z_aload_n C 2 d_law_452 rfl rfl ?_
    refine z_aload_n C 3 d_law_453 rfl rfl ?_
    refine z_iload_n C 0 d_law_454 rfl rfl ?_
    refine z_iconst C (v := (1 : Int32)) d_law_455 (by decide) ?_
    refine z_iadd C d_law_456 ?_
    refine z_sld C S hi.1 d_law_457 ?_
    refine z_callV C (ci := 1) (c_LT_other 4000 C.2.2.1 eF) rfl z1 w_596 w_57 w_593 w_594 w_595 pd_LT_other rfl ⟨(Nat.le_of_ble_eq_true rfl), (Nat.le_of_ble_eq_true rfl)⟩ hR'.le0 rfl (Nat.le_of_ble_eq_true rfl) d_law_458 (k' := k + 29) (n' := n + 94086) (stk' := [.long r]) rfl rfl rfl ?_
    refine z_aload_n C 1 d_law_461 rfl rfl ?_
    refine z_aload_n C 3 d_law_462 rfl rfl ?_
    refine z_iload_n C 0 d_law_463 rfl rfl ?_
    refine z_iconst C (v := (1 : Int32)) d_law_464 (by decide) ?_
    refine z_iadd C d_law_465 ?_
    refine z_sld C S hi.1 d_law_466 ?_
    refine z_callV C (ci := 0) (c_Model_other 4000 C.2.2.1 eG) rfl z2 w_968 w_66 w_965 w_966 w_967 pd_Model_other rfl ⟨(Nat.le_of_ble_eq_true rfl), (Nat.le_of_ble_eq_true rfl)⟩ hR'.le0 rfl (Nat.le_of_ble_eq_true rfl) d_law_467 (k' := k + 29) (n' := n + 94086) (stk' := [.long r, .long r]) rfl rfl rfl ?_
    refine z_lcmp C d_law_470 ?_
    exact z_if_eq (tgt := 744) C d_law_471 (by decide) (A := some ()) (B := none) (r := ()) (if_pos lg_self) (fun _ => K _ _ h2 a' _ hL' hR') (fun q => by cases q)

theorem lw_c10 {X : zX} (C : zB X code 4 R_Law room_1) {b L : Nat} {xs : Nat → Int32} (S : zSc X b L xs) {i : Int32} (hi : zIn i L) {bl k n : Nat} {a : ast} {x : cx} {h : zH} (hL : LawI h bl a x) (hR : Rm k n x) (K : zGo X b bl i) : Zt X 4 k n 476 (lvL b bl i) [] h := by
  obtain ⟨sw, r, h1, h2, a', eF, z1, eG, z2, hL'⟩ := law_move (N := 4000) (Nat.le_refl _) hL (xs (i + (1 : Int32)).toNatClampNeg) (xs (i + (2 : Int32)).toNatClampNeg)
  refine z_aload_n C 2 d_law_476 rfl rfl ?_
  refine z_aload_n C 3 d_law_477 rfl rfl ?_
  refine z_iload_n C 0 d_law_478 rfl rfl ?_
  refine z_iconst C (v := (1 : Int32)) d_law_479 (by decide) ?_
  refine z_iadd C d_law_480 ?_
  refine z_sld C S hi.1 d_law_481 ?_
  refine z_aload_n C 3 d_law_482 rfl rfl ?_
  refine z_iload_n C 0 d_law_483 rfl rfl ?_
  refine z_iconst C (v := (2 : Int32)) d_law_484 (by decide) ?_
  refine z_iadd C d_law_485 ?_
  refine z_sld C S hi.2.1 d_law_486 ?_
  refine z_callV C (ci := 1) (c_LT_moveA 4000 C.2.2.1 eF) rfl z1 w_605 w_57 w_602 w_603 w_604 pd_LT_move rfl ⟨(Nat.le_of_ble_eq_true rfl), (Nat.le_of_ble_eq_true rfl)⟩ hR.le0 rfl (Nat.le_of_ble_eq_true rfl) d_law_487 (k' := k) (n' := n) (stk' := [.int r]) rfl rfl rfl ?_
  refine z_aload_n C 1 d_law_490 rfl rfl ?_
  refine z_aload_n C 3 d_law_491 rfl rfl ?_
  refine z_iload_n C 0 d_law_492 rfl rfl ?_
  refine z_iconst C (v := (1 : Int32)) d_law_493 (by decide) ?_
  refine z_iadd C d_law_494 ?_
  refine z_sld C S hi.1 d_law_495 ?_
  refine z_aload_n C 3 d_law_496 rfl rfl ?_
  refine z_iload_n C 0 d_law_497 rfl rfl ?_
  refine z_iconst C (v := (2 : Int32)) d_law_498 (by decide) ?_
  refine z_iadd C d_law_499 ?_
  refine z_sld C S hi.2.1 d_law_500 ?_
  refine z_callV C (ci := 0) (c_Model_move 4000 C.2.2.1 eG) rfl z2 w_956 w_66 w_953 w_954 w_955 pd_Model_move rfl ⟨(Nat.le_of_ble_eq_true rfl), (Nat.le_of_ble_eq_true rfl)⟩ hR.le0 rfl (Nat.le_of_ble_eq_true rfl) d_law_501 (k' := k) (n' := n) (stk' := [.int r, .int r]) rfl rfl rfl ?_
  exact z_ic_eq (tgt := 744) C d_law_504 (by decide) (A := some ()) (B := none) (r := ()) (if_pos rfl) (fun _ => K k n h2 a' _ hL' hR) (fun q => by cases q)

theorem lw_c11 {X : zX} (C : zB X code 4 R_Law room_1) {b L : Nat} {xs : Nat → Int32} (S : zSc X b L xs) {i : Int32} (hi : zIn i L) {bl k n : Nat} {a : ast} {x : cx} {h : zH} (hL : LawI h bl a x) (hR : Rm k n x) (K : zGo X b bl i) : Zt X 4 k n 509 (lvL b bl i) [] h := by
  obtain ⟨r, h1, h2, a', eF, z1, eG, z2, hL'⟩ := law_speed (N := 4000) (Nat.le_refl _) hL (xs (i + (1 : Int32)).toNatClampNeg)
  refine z_aload_n C 2 d_law_509 rfl rfl ?_
  refine z_aload_n C 3 d_law_510 rfl rfl ?_
  refine z_iload_n C 0 d_law_511 rfl rfl ?_
  refine z_iconst C (v := (1 : Int32)) d_law_512 (by decide) ?_
  refine z_iadd C d_law_513 ?_
  refine z_sld C S hi.1 d_law_514 ?_
  refine z_callV C (ci := 1) (c_LT_speed 4000 C.2.2.1 eF) rfl z1 w_609 w_57 w_606 w_607 w_608 pd_LT_speed rfl ⟨(Nat.le_of_ble_eq_true rfl), (Nat.le_of_ble_eq_true rfl)⟩ hR.le0 rfl (Nat.le_of_ble_eq_true rfl) d_law_515 (k' := k) (n' := n) (stk' := [.int r]) rfl rfl rfl ?_
  refine z_aload_n C 1 d_law_518 rfl rfl ?_
  refine z_aload_n C 3 d_law_519 rfl rfl ?_
  refine z_iload_n C 0 d_law_520 rfl rfl ?_
  refine z_iconst C (v := (1 : Int32)) d_law_521 (by decide) ?_
  refine z_iadd C d_law_522 ?_
  refine z_sld C S hi.1 d_law_523 ?_
  refine z_callV C (ci := 0) (c_Model_speed 4000 C.2.2.1 eG) rfl z2 w_987 w_66 w_984 w_985 w_986 pd_Model_speed rfl ⟨(Nat.le_of_ble_eq_true rfl), (Nat.le_of_ble_eq_true rfl)⟩ hR.le0 rfl (Nat.le_of_ble_eq_true rfl) d_law_524 (k' := k) (n' := n) (stk' := [.int r, .int r]) rfl rfl rfl ?_
  exact z_ic_eq (tgt := 744) C d_law_527 (by decide) (A := some ()) (B := none) (r := ()) (if_pos rfl) (fun _ => K k n h2 a' _ hL' hR) (fun q => by cases q)

theorem lw_c12 {X : zX} (C : zB X code 4 R_Law room_1) {b L : Nat} {xs : Nat → Int32} (S : zSc X b L xs) {i : Int32} (hi : zIn i L) {bl k n : Nat} {a : ast} {x : cx} {h : zH} (hL : LawI h bl a x) (hR : Rm k n x) (K : zGo X b bl i) : Zt X 4 k n 532 (lvL b bl i) [] h := by
  obtain ⟨r, h1, h2, a', eF, z1, eG, z2, hL'⟩ := law_curve (N := 4000) (Nat.le_refl _) hL (xs (i + (1 : Int32)).toNatClampNeg) (xs (i + (2 : Int32)).toNatClampNeg)
  refine z_aload_n C 2 d_law_532 rfl rfl ?_
  refine z_aload_n C 3 d_law_533 rfl rfl ?_
  refine z_iload_n C 0 d_law_534 rfl rfl ?_
  refine z_iconst C (v := (1 : Int32)) d_law_535 (by decide) ?_
  refine z_iadd C d_law_536 ?_
  refine z_sld C S hi.1 d_law_537 ?_
  refine z_aload_n C 3 d_law_538 rfl rfl ?_
  refine z_iload_n C 0 d_law_539 rfl rfl ?_
  refine z_iconst C (v := (2 : Int32)) d_law_540 (by decide) ?_
  refine z_iadd C d_law_541 ?_
  refine z_sld C S hi.2.1 d_law_542 ?_
  refine z_callV C (ci := 1) (c_LT_curve 4000 C.2.2.1 eF) rfl z1 w_613 w_57 w_610 w_611 w_612 pd_LT_curve rfl ⟨(Nat.le_of_ble_eq_true rfl), (Nat.le_of_ble_eq_true rfl)⟩ hR.le0 rfl (Nat.le_of_ble_eq_true rfl) d_law_543 (k' := k) (n' := n) (stk' := [.int r]) rfl rfl rfl ?_
  refine z_aload_n C 1 d_law_546 rfl rfl ?_
  refine z_aload_n C 3 d_law_547 rfl rfl ?_
  refine z_iload_n C 0 d_law_548 rfl rfl ?_
  refine z_iconst C (v := (1 : Int32)) d_law_549 (by decide) ?_
  refine z_iadd C d_law_550 ?_
  refine z_sld C S hi.1 d_law_551 ?_
  refine z_aload_n C 3 d_law_552 rfl rfl ?_
  refine z_iload_n C 0 d_law_553 rfl rfl ?_
  refine z_iconst C (v := (2 : Int32)) d_law_554 (by decide) ?_
  refine z_iadd C d_law_555 ?_
  refine z_sld C S hi.2.1 d_law_556 ?_
  refine z_callV C (ci := 0) (c_Model_curve 4000 C.2.2.1 eG) rfl z2 w_991 w_66 w_988 w_989 w_990 pd_Model_curve rfl ⟨(Nat.le_of_ble_eq_true rfl), (Nat.le_of_ble_eq_true rfl)⟩ hR.le0 rfl (Nat.le_of_ble_eq_true rfl) d_law_557 (k' := k) (n' := n) (stk' := [.int r, .int r]) rfl rfl rfl ?_
  exact z_ic_eq (tgt := 744) C d_law_560 (by decide) (A := some ()) (B := none) (r := ()) (if_pos rfl) (fun _ => K k n h2 a' _ hL' hR) (fun q => by cases q)

theorem lw_c13 {X : zX} (C : zB X code 4 R_Law room_1) {b L : Nat} {xs : Nat → Int32} (S : zSc X b L xs) {i : Int32} (hi : zIn i L) {bl k n : Nat} {a : ast} {x : cx} {h : zH} (hL : LawI h bl a x) (hR : Rm k n x) (K : zGo X b bl i) : Zt X 4 k n 565 (lvL b bl i) [] h := by
  obtain ⟨r, h1, h2, a', eF, z1, eG, z2, hL'⟩ := law_curveAt (N := 4000) (Nat.le_refl _) hL (xs (i + (1 : Int32)).toNatClampNeg) (xs (i + (2 : Int32)).toNatClampNeg)
  refine z_aload_n C 2 d_law_565 rfl rfl ?_
  refine z_aload_n C 3 d_law_566 rfl rfl ?_
  refine z_iload_n C 0 d_law_567 rfl rfl ?_
  refine z_iconst C (v := (1 : Int32)) d_law_568 (by decide) ?_
  refine z_iadd C d_law_569 ?_
  refine z_sld C S hi.1 d_law_570 ?_
  refine z_aload_n C 3 d_law_571 rfl rfl ?_
  refine z_iload_n C 0 d_law_572 rfl rfl ?_
  refine z_iconst C (v := (2 : Int32)) d_law_573 (by decide) ?_
  refine z_iadd C d_law_574 ?_
  refine z_sld C S hi.2.1 d_law_575 ?_
  refine z_callV C (ci := 1) (c_LT_curveAt 4000 C.2.2.1 eF) rfl z1 w_636 w_57 w_633 w_634 w_635 pd_LT_curveAt rfl ⟨(Nat.le_of_ble_eq_true rfl), (Nat.le_of_ble_eq_true rfl)⟩ hR.le0 rfl (Nat.le_of_ble_eq_true rfl) d_law_576 (k' := k) (n' := n) (stk' := [.long r]) rfl rfl rfl ?_
  refine z_aload_n C 1 d_law_579 rfl rfl ?_
  refine z_aload_n C 3 d_law_580 rfl rfl ?_
  refine z_iload_n C 0 d_law_581 rfl rfl ?_
  refine z_iconst C (v := (1 : Int32)) d_law_582 (by decide) ?_
  refine z_iadd C d_law_583 ?_
  refine z_sld C S hi.1 d_law_584 ?_
  refine z_aload_n C 3 d_law_585 rfl rfl ?_
  refine z_iload_n C 0 d_law_586 rfl rfl ?_
  refine z_iconst C (v := (2 : Int32)) d_law_587 (by decide) ?_
  refine z_iadd C d_law_588 ?_
  refine z_sld C S hi.2.1 d_law_589 ?_
  refine z_callV C (ci := 0) (c_Model_curveAt 4000 C.2.2.1 eG) rfl z2 w_1003 w_66 w_1000 w_1001 w_1002 pd_Model_curveAt rfl ⟨(Nat.le_of_ble_eq_true rfl), (Nat.le_of_ble_eq_true rfl)⟩ hR.le0 rfl (Nat.le_of_ble_eq_true rfl) d_law_590 (k' := k) (n' := n) (stk' := [.long r, .long r]) rfl rfl rfl ?_
  refine z_lcmp C d_law_593 ?_
  exact z_if_eq (tgt := 744) C d_law_594 (by decide) (A := some ()) (B := none) (r := ()) (if_pos lg_self) (fun _ => K k n h2 a' _ hL' hR) (fun q => by cases q)

theorem lw_c14 {X : zX} (C : zB X code 4 R_Law room_1) {b L : Nat} {xs : Nat → Int32} (S : zSc X b L xs) {i : Int32} (hi : zIn i L) {bl k n : Nat} {a : ast} {x : cx} {h : zH} (hL : LawI h bl a x) (hR : Rm k n x) (K : zGo X b bl i) : Zt X 4 k n 599 (lvL b bl i) [] h := by
  obtain ⟨r, h1, h2, a', eF, z1, eG, z2, hL'⟩ := law_lorry (N := 4000) (Nat.le_refl _) hL (xs (i + (1 : Int32)).toNatClampNeg) (xs (i + (2 : Int32)).toNatClampNeg) (xs (i + (3 : Int32)).toNatClampNeg) (xs (i + (4 : Int32)).toNatClampNeg)
  refine z_aload_n C 2 d_law_599 rfl rfl ?_
  refine z_aload_n C 3 d_law_600 rfl rfl ?_
  refine z_iload_n C 0 d_law_601 rfl rfl ?_
  refine z_iconst C (v := (1 : Int32)) d_law_602 (by decide) ?_
  refine z_iadd C d_law_603 ?_
  refine z_sld C S hi.1 d_law_604 ?_
  refine z_aload_n C 3 d_law_605 rfl rfl ?_
  refine z_iload_n C 0 d_law_606 rfl rfl ?_
  refine z_iconst C (v := (2 : Int32)) d_law_607 (by decide) ?_
  refine z_iadd C d_law_608 ?_
  refine z_sld C S hi.2.1 d_law_609 ?_
  refine z_aload_n C 3 d_law_610 rfl rfl ?_
  refine z_iload_n C 0 d_law_611 rfl rfl ?_
  refine z_iconst C (v := (3 : Int32)) d_law_612 (by decide) ?_
  refine z_iadd C d_law_613 ?_
  refine z_sld C S hi.2.2.1 d_law_614 ?_
  refine z_aload_n C 3 d_law_615 rfl rfl ?_
  refine z_iload_n C 0 d_law_616 rfl rfl ?_
  refine z_iconst C (v := (4 : Int32)) d_law_617 (by decide) ?_
  refine z_iadd C d_law_618 ?_
  refine z_sld C S hi.2.2.2.1 d_law_619 ?_
  refine z_callV C (ci := 1) (c_LT_lorry 4000 C.2.2.1 eF) rfl z1 w_643 w_57 w_640 w_641 w_642 pd_LT_lorry rfl ⟨(Nat.le_of_ble_eq_true rfl), (Nat.le_of_ble_eq_true rfl)⟩ hR.le0 rfl (Nat.le_of_ble_eq_true rfl) d_law_620 (k' := k) (n' := n) (stk' := [.int r]) rfl rfl rfl ?_
  refine z_aload_n C 1 d_law_623 rfl rfl ?_
  refine z_aload_n C 3 d_law_624 rfl rfl ?_
  refine z_iload_n C 0 d_law_625 rfl rfl ?_
  refine z_iconst C (v := (1 : Int32)) d_law_626 (by decide) ?_
  refine z_iadd C d_law_627 ?_
  refine z_sld C S hi.1 d_law_628 ?_
  refine z_aload_n C 3 d_law_629 rfl rfl ?_
  refine z_iload_n C 0 d_law_630 rfl rfl ?_
  refine z_iconst C (v := (2 : Int32)) d_law_631 (by decide) ?_
  refine z_iadd C d_law_632 ?_
  refine z_sld C S hi.2.1 d_law_633 ?_
  refine z_aload_n C 3 d_law_634 rfl rfl ?_
  refine z_iload_n C 0 d_law_635 rfl rfl ?_
  refine z_iconst C (v := (3 : Int32)) d_law_636 (by decide) ?_
  refine z_iadd C d_law_637 ?_
  refine z_sld C S hi.2.2.1 d_law_638 ?_
  refine z_aload_n C 3 d_law_639 rfl rfl ?_
  refine z_iload_n C 0 d_law_640 rfl rfl ?_
  refine z_iconst C (v := (4 : Int32)) d_law_641 (by decide) ?_
  refine z_iadd C d_law_642 ?_
  refine z_sld C S hi.2.2.2.1 d_law_643 ?_
  refine z_callV C (ci := 0) (c_Model_lorry 4000 C.2.2.1 eG) rfl z2 w_1010 w_66 w_1007 w_1008 w_1009 pd_Model_lorry rfl ⟨(Nat.le_of_ble_eq_true rfl), (Nat.le_of_ble_eq_true rfl)⟩ hR.le0 rfl (Nat.le_of_ble_eq_true rfl) d_law_644 (k' := k) (n' := n) (stk' := [.int r, .int r]) rfl rfl rfl ?_
  exact z_ic_eq (tgt := 744) C d_law_647 (by decide) (A := some ()) (B := none) (r := ()) (if_pos rfl) (fun _ => K k n h2 a' _ hL' hR) (fun q => by cases q)

theorem lw_c15 {X : zX} (C : zB X code 4 R_Law room_1) {b L : Nat} {xs : Nat → Int32} (S : zSc X b L xs) {i : Int32} (hi : zIn i L) {bl k n : Nat} {a : ast} {x : cx} {h : zH} (hL : LawI h bl a x) (hR : Rm k n x) (K : zGo X b bl i) : Zt X 4 k n 652 (lvL b bl i) [] h := by
  obtain ⟨r, h1, h2, a', eF, z1, eG, z2, hL'⟩ := law_lane (N := 4000) (Nat.le_refl _) hL (xs (i + (1 : Int32)).toNatClampNeg) (xs (i + (2 : Int32)).toNatClampNeg)
  refine z_aload_n C 2 d_law_652 rfl rfl ?_
  refine z_aload_n C 3 d_law_653 rfl rfl ?_
  refine z_iload_n C 0 d_law_654 rfl rfl ?_
  refine z_iconst C (v := (1 : Int32)) d_law_655 (by decide) ?_
  refine z_iadd C d_law_656 ?_
  refine z_sld C S hi.1 d_law_657 ?_
  refine z_aload_n C 3 d_law_658 rfl rfl ?_
  refine z_iload_n C 0 d_law_659 rfl rfl ?_
  refine z_iconst C (v := (2 : Int32)) d_law_660 (by decide) ?_
  refine z_iadd C d_law_661 ?_
  refine z_sld C S hi.2.1 d_law_662 ?_
  refine z_callV C (ci := 1) (c_LT_lane 4000 C.2.2.1 eF) rfl z1 w_647 w_57 w_644 w_645 w_646 pd_LT_lane rfl ⟨(Nat.le_of_ble_eq_true rfl), (Nat.le_of_ble_eq_true rfl)⟩ hR.le0 rfl (Nat.le_of_ble_eq_true rfl) d_law_663 (k' := k) (n' := n) (stk' := [.int r]) rfl rfl rfl ?_
  refine z_aload_n C 1 d_law_666 rfl rfl ?_
  refine z_aload_n C 3 d_law_667 rfl rfl ?_
  refine z_iload_n C 0 d_law_668 rfl rfl ?_
  refine z_iconst C (v := (1 : Int32)) d_law_669 (by decide) ?_
  refine z_iadd C d_law_670 ?_
  refine z_sld C S hi.1 d_law_671 ?_
  refine z_aload_n C 3 d_law_672 rfl rfl ?_
  refine z_iload_n C 0 d_law_673 rfl rfl ?_
  refine z_iconst C (v := (2 : Int32)) d_law_674 (by decide) ?_
  refine z_iadd C d_law_675 ?_
  refine z_sld C S hi.2.1 d_law_676 ?_
  refine z_callV C (ci := 0) (c_Model_lane 4000 C.2.2.1 eG) rfl z2 w_1014 w_66 w_1011 w_1012 w_1013 pd_Model_lane rfl ⟨(Nat.le_of_ble_eq_true rfl), (Nat.le_of_ble_eq_true rfl)⟩ hR.le0 rfl (Nat.le_of_ble_eq_true rfl) d_law_677 (k' := k) (n' := n) (stk' := [.int r, .int r]) rfl rfl rfl ?_
  exact z_ic_eq (tgt := 744) C d_law_680 (by decide) (A := some ()) (B := none) (r := ()) (if_pos rfl) (fun _ => K k n h2 a' _ hL' hR) (fun q => by cases q)

theorem lw_c16 {X : zX} (C : zB X code 4 R_Law room_1) {b L : Nat} {xs : Nat → Int32} (S : zSc X b L xs) {i : Int32} (hi : zIn i L) {bl k n : Nat} {a : ast} {x : cx} {h : zH} (hL : LawI h bl a x) (hR : Rm k n x) (K : zGo X b bl i) : Zt X 4 k n 685 (lvL b bl i) [] h := by
  obtain ⟨r, h1, h2, a', eF, z1, eG, z2, hL'⟩ := law_order (N := 4000) (Nat.le_refl _) hL (xs (i + (1 : Int32)).toNatClampNeg)
  refine z_aload_n C 2 d_law_685 rfl rfl ?_
  refine z_aload_n C 3 d_law_686 rfl rfl ?_
  refine z_iload_n C 0 d_law_687 rfl rfl ?_
  refine z_iconst C (v := (1 : Int32)) d_law_688 (by decide) ?_
  refine z_iadd C d_law_689 ?_
  refine z_sld C S hi.1 d_law_690 ?_
  refine z_callV C (ci := 1) (c_LT_order 4000 C.2.2.1 eF) rfl z1 w_662 w_57 w_659 w_660 w_661 pd_LT_order rfl ⟨(Nat.le_of_ble_eq_true rfl), (Nat.le_of_ble_eq_true rfl)⟩ hR.le0 rfl (Nat.le_of_ble_eq_true rfl) d_law_691 (k' := k) (n' := n) (stk' := [.int r]) rfl rfl rfl ?_
  refine z_aload_n C 1 d_law_694 rfl rfl ?_
  refine z_aload_n C 3 d_law_695 rfl rfl ?_
  refine z_iload_n C 0 d_law_696 rfl rfl ?_
  refine z_iconst C (v := (1 : Int32)) d_law_697 (by decide) ?_
  refine z_iadd C d_law_698 ?_
  refine z_sld C S hi.1 d_law_699 ?_
  refine z_callV C (ci := 0) (c_Model_order 4000 C.2.2.1 eG) rfl z2 w_1018 w_66 w_1015 w_1016 w_1017 pd_Model_order rfl ⟨(Nat.le_of_ble_eq_true rfl), (Nat.le_of_ble_eq_true rfl)⟩ hR.le0 rfl (Nat.le_of_ble_eq_true rfl) d_law_700 (k' := k) (n' := n) (stk' := [.int r, .int r]) rfl rfl rfl ?_
  exact z_ic_eq (tgt := 744) C d_law_703 (by decide) (A := some ()) (B := none) (r := ()) (if_pos rfl) (fun _ => K k n h2 a' _ hL' hR) (fun q => by cases q)

theorem lw_c17 {X : zX} (C : zB X code 4 R_Law room_1) {b L : Nat} {xs : Nat → Int32} (S : zSc X b L xs) {i : Int32} (hi : zIn i L) {bl k n : Nat} {a : ast} {x : cx} {h : zH} (hL : LawI h bl a x) (hR : Rm k n x) (K : zGo X b bl i) : Zt X 4 k n 708 (lvL b bl i) [] h := by
  obtain ⟨r, h1, h2, a', eF, z1, eG, z2, hL'⟩ := law_told (N := 4000) (Nat.le_refl _) hL (xs (i + (1 : Int32)).toNatClampNeg)
  refine z_aload_n C 2 d_law_708 rfl rfl ?_
  refine z_aload_n C 3 d_law_709 rfl rfl ?_
  refine z_iload_n C 0 d_law_710 rfl rfl ?_
  refine z_iconst C (v := (1 : Int32)) d_law_711 (by decide) ?_
  refine z_iadd C d_law_712 ?_
  refine z_sld C S hi.1 d_law_713 ?_
  refine z_callV C (ci := 1) (c_LT_told 4000 C.2.2.1 eF) rfl z1 w_679 w_57 w_676 w_677 w_678 pd_LT_told rfl ⟨(Nat.le_of_ble_eq_true rfl), (Nat.le_of_ble_eq_true rfl)⟩ hR.le0 rfl (Nat.le_of_ble_eq_true rfl) d_law_714 (k' := k) (n' := n) (stk' := [.int r]) rfl rfl rfl ?_
  refine z_aload_n C 1 d_law_717 rfl rfl ?_
  refine z_aload_n C 3 d_law_718 rfl rfl ?_
  refine z_iload_n C 0 d_law_719 rfl rfl ?_
  refine z_iconst C (v := (1 : Int32)) d_law_720 (by decide) ?_
  refine z_iadd C d_law_721 ?_
  refine z_sld C S hi.1 d_law_722 ?_
  refine z_callV C (ci := 0) (c_Model_told 4000 C.2.2.1 eG) rfl z2 w_1034 w_66 w_1031 w_1032 w_1033 pd_Model_told rfl ⟨(Nat.le_of_ble_eq_true rfl), (Nat.le_of_ble_eq_true rfl)⟩ hR.le0 rfl (Nat.le_of_ble_eq_true rfl) d_law_723 (k' := k) (n' := n) (stk' := [.int r, .int r]) rfl rfl rfl ?_
  exact z_ic_eq (tgt := 744) C d_law_726 (by decide) (A := some ()) (B := none) (r := ()) (if_pos rfl) (fun _ => K k n h2 a' _ hL' hR) (fun q => by cases q)

theorem lw_c18 {X : zX} (C : zB X code 4 R_Law room_1) {b L : Nat} {xs : Nat → Int32} (S : zSc X b L xs) {i : Int32} (hi : zIn i L) {bl k n : Nat} {a : ast} {x : cx} {h : zH} (hL : LawI h bl a x) (hR : Rm k n x) (K : zGo X b bl i) : Zt X 4 k n 731 (lvL b bl i) [] h := by
  obtain ⟨r, h1, h2, a', eF, z1, eG, z2, hL'⟩ := law_keeps (N := 4000) (Nat.le_refl _) hL 
  refine z_aload_n C 2 d_law_731 rfl rfl ?_
  refine z_callV C (ci := 1) (c_LT_keeps 4000 C.2.2.1 eF) rfl z1 w_705 w_57 w_702 w_703 w_704 pd_LT_keeps rfl ⟨(Nat.le_of_ble_eq_true rfl), (Nat.le_of_ble_eq_true rfl)⟩ hR.le0 rfl (Nat.le_of_ble_eq_true rfl) d_law_732 (k' := k) (n' := n) (stk' := [.int r]) rfl rfl rfl ?_
  refine z_aload_n C 1 d_law_735 rfl rfl ?_
  refine z_callV C (ci := 0) (c_Model_keeps 4000 C.2.2.1 eG) rfl z2 w_1038 w_66 w_1035 w_1036 w_1037 pd_Model_keeps rfl ⟨(Nat.le_of_ble_eq_true rfl), (Nat.le_of_ble_eq_true rfl)⟩ hR.le0 rfl (Nat.le_of_ble_eq_true rfl) d_law_736 (k' := k) (n' := n) (stk' := [.int r, .int r]) rfl rfl rfl ?_
  exact z_ic_eq (tgt := 744) C d_law_739 (by decide) (A := some ()) (B := none) (r := ()) (if_pos rfl) (fun _ => K k n h2 a' _ hL' hR) (fun q => by cases q)
