set_option maxHeartbeats 4000000 in
theorem lc_type {V : Vx} {X : Xx} {Q : State → Prop} {B L i : Nat} {ys : Nat → Int32} {Rel : Sg → Prop} (hE : E_type Rel) (hB : Scr V X B L ys) (hi : i + 6 ≤ L) (hL : L ≤ 3072) {σ : Sg} (hR : Rel σ) (kk : ∀ σ2, Rel σ2 → JL V X Q σ2 1296 (lawlv V B i) []) : JL V X Q σ 188 (lawlv V B i) [] := by
  obtain ⟨r, σ1, σ2, hx, hm, hR2⟩ := hE σ (ys (nI i + 1).toNatClampNeg) (ys (nI i + 2).toNatClampNeg) hR
  refine J_aload_n (pc' := 189) d_law_188 rfl 1 rfl ?_
  refine J_aload_n (pc' := 190) d_law_189 rfl 0 rfl ?_
  refine J_iload_n (pc' := 191) d_law_190 rfl 3 rfl ?_
  refine J_iconst (pc' := 192) (v := 1) d_law_191 rfl ic_1 ?_
  refine J_iadd (pc' := 193) d_law_192 rfl ?_
  refine J_sld (pc' := 194) hB d_law_193 rfl (vin_k (k := 1) hi hL (by decide) rfl) ?_
  refine J_aload_n (pc' := 195) d_law_194 rfl 0 rfl ?_
  refine J_iload_n (pc' := 196) d_law_195 rfl 3 rfl ?_
  refine J_iconst (pc' := 197) (v := 2) d_law_196 rfl ic_2 ?_
  refine J_iadd (pc' := 198) d_law_197 rfl ?_
  refine J_sld (pc' := 199) hB d_law_198 rfl (vin_k (k := 2) hi hL (by decide) rfl) ?_
  refine J_V (pc' := 202) (as := [.int (ys (nI i + 1).toNatClampNeg), .int (ys (nI i + 2).toNatClampNeg)]) (rest := []) (st' := [.int r]) d_law_199 rfl sh_0 rfl mv_law_13 (ct_GR_type V _ σ (ys (nI i + 1).toNatClampNeg) (ys (nI i + 2).toNatClampNeg) hx) rfl rfl ⟨Nat.le_of_ble_eq_true rfl, Nat.le_of_ble_eq_true rfl⟩ ⟨rfl, rfl⟩ (Nat.le_of_ble_eq_true rfl) rfl ?_
  refine J_aload_n (pc' := 203) d_law_202 rfl 2 rfl ?_
  refine J_aload_n (pc' := 204) d_law_203 rfl 0 rfl ?_
  refine J_iload_n (pc' := 205) d_law_204 rfl 3 rfl ?_
  refine J_iconst (pc' := 206) (v := 1) d_law_205 rfl ic_1 ?_
  refine J_iadd (pc' := 207) d_law_206 rfl ?_
  refine J_sld (pc' := 208) hB d_law_207 rfl (vin_k (k := 1) hi hL (by decide) rfl) ?_
  refine J_aload_n (pc' := 209) d_law_208 rfl 0 rfl ?_
  refine J_iload_n (pc' := 210) d_law_209 rfl 3 rfl ?_
  refine J_iconst (pc' := 211) (v := 2) d_law_210 rfl ic_2 ?_
  refine J_iadd (pc' := 212) d_law_211 rfl ?_
  refine J_sld (pc' := 213) hB d_law_212 rfl (vin_k (k := 2) hi hL (by decide) rfl) ?_
  refine J_V (pc' := 216) (as := [.int (ys (nI i + 1).toNatClampNeg), .int (ys (nI i + 2).toNatClampNeg)]) (rest := [.int r]) (st' := [.int r, .int r]) d_law_213 rfl sh_66 rfl mv_law_17 (ct_Md_type V _ σ1 (ys (nI i + 1).toNatClampNeg) (ys (nI i + 2).toNatClampNeg) hm) rfl rfl ⟨Nat.le_of_ble_eq_true rfl, Nat.le_of_ble_eq_true rfl⟩ ⟨rfl, rfl⟩ (Nat.le_of_ble_eq_true rfl) rfl ?_
  refine J_icmp_eq (pc' := 219) (tgt := 1296) d_law_216 rfl (by decide) (fun _ => kk _ hR2) (fun h => absurd rfl h)
set_option maxHeartbeats 4000000 in
theorem lc_wipe {V : Vx} {X : Xx} {Q : State → Prop} {B L i : Nat} {ys : Nat → Int32} {Rel : Sg → Prop} (hE : E_wipe Rel) (hB : Scr V X B L ys) (hi : i + 6 ≤ L) (hL : L ≤ 3072) {σ : Sg} (hR : Rel σ) (kk : ∀ σ2, Rel σ2 → JL V X Q σ2 1296 (lawlv V B i) []) : JL V X Q σ 221 (lawlv V B i) [] := by
  obtain ⟨r, σ1, σ2, hx, hm, hR2⟩ := hE σ (ys (nI i + 1).toNatClampNeg) hR
  refine J_aload_n (pc' := 222) d_law_221 rfl 1 rfl ?_
  refine J_aload_n (pc' := 223) d_law_222 rfl 0 rfl ?_
  refine J_iload_n (pc' := 224) d_law_223 rfl 3 rfl ?_
  refine J_iconst (pc' := 225) (v := 1) d_law_224 rfl ic_1 ?_
  refine J_iadd (pc' := 226) d_law_225 rfl ?_
  refine J_sld (pc' := 227) hB d_law_226 rfl (vin_k (k := 1) hi hL (by decide) rfl) ?_
  refine J_V (pc' := 230) (as := [.int (ys (nI i + 1).toNatClampNeg)]) (rest := []) (st' := [.int r]) d_law_227 rfl sh_0 rfl mv_law_18 (ct_GR_wipe V _ σ (ys (nI i + 1).toNatClampNeg) hx) rfl rfl ⟨Nat.le_of_ble_eq_true rfl, Nat.le_of_ble_eq_true rfl⟩ ⟨rfl, rfl⟩ (Nat.le_of_ble_eq_true rfl) rfl ?_
  refine J_aload_n (pc' := 231) d_law_230 rfl 2 rfl ?_
  refine J_aload_n (pc' := 232) d_law_231 rfl 0 rfl ?_
  refine J_iload_n (pc' := 233) d_law_232 rfl 3 rfl ?_
  refine J_iconst (pc' := 234) (v := 1) d_law_233 rfl ic_1 ?_
  refine J_iadd (pc' := 235) d_law_234 rfl ?_
  refine J_sld (pc' := 236) hB d_law_235 rfl (vin_k (k := 1) hi hL (by decide) rfl) ?_
  refine J_V (pc' := 239) (as := [.int (ys (nI i + 1).toNatClampNeg)]) (rest := [.int r]) (st' := [.int r, .int r]) d_law_236 rfl sh_66 rfl mv_law_22 (ct_Md_wipe V _ σ1 (ys (nI i + 1).toNatClampNeg) hm) rfl rfl ⟨Nat.le_of_ble_eq_true rfl, Nat.le_of_ble_eq_true rfl⟩ ⟨rfl, rfl⟩ (Nat.le_of_ble_eq_true rfl) rfl ?_
  refine J_icmp_eq (pc' := 242) (tgt := 1296) d_law_239 rfl (by decide) (fun _ => kk _ hR2) (fun h => absurd rfl h)
set_option maxHeartbeats 4000000 in
theorem lc_fault {V : Vx} {X : Xx} {Q : State → Prop} {B L i : Nat} {ys : Nat → Int32} {Rel : Sg → Prop} (hE : E_fault Rel) (hB : Scr V X B L ys) (hi : i + 6 ≤ L) (hL : L ≤ 3072) {σ : Sg} (hR : Rel σ) (kk : ∀ σ2, Rel σ2 → JL V X Q σ2 1296 (lawlv V B i) []) : JL V X Q σ 244 (lawlv V B i) [] := by
  obtain ⟨r, σ2, hx, hm, hR2⟩ := hE σ (ys (nI i + 1).toNatClampNeg) hR
  refine J_aload_n (pc' := 245) d_law_244 rfl 1 rfl ?_
  refine J_aload_n (pc' := 246) d_law_245 rfl 0 rfl ?_
  refine J_iload_n (pc' := 247) d_law_246 rfl 3 rfl ?_
  refine J_iconst (pc' := 248) (v := 1) d_law_247 rfl ic_1 ?_
  refine J_iadd (pc' := 249) d_law_248 rfl ?_
  refine J_sld (pc' := 250) hB d_law_249 rfl (vin_k (k := 1) hi hL (by decide) rfl) ?_
  have qhx := ct_GR_fault V (xl X) σ (ys (nI i + 1).toNatClampNeg)
  rw [hx] at qhx
  refine J_V (pc' := 253) (as := [.int (ys (nI i + 1).toNatClampNeg)]) (rest := []) (st' := [.int r]) d_law_250 rfl sh_0 rfl mv_law_23 qhx rfl rfl ⟨Nat.le_of_ble_eq_true rfl, Nat.le_of_ble_eq_true rfl⟩ ⟨rfl, rfl⟩ (Nat.le_of_ble_eq_true rfl) rfl ?_
  refine J_aload_n (pc' := 254) d_law_253 rfl 2 rfl ?_
  refine J_aload_n (pc' := 255) d_law_254 rfl 0 rfl ?_
  refine J_iload_n (pc' := 256) d_law_255 rfl 3 rfl ?_
  refine J_iconst (pc' := 257) (v := 1) d_law_256 rfl ic_1 ?_
  refine J_iadd (pc' := 258) d_law_257 rfl ?_
  refine J_sld (pc' := 259) hB d_law_258 rfl (vin_k (k := 1) hi hL (by decide) rfl) ?_
  refine J_V (pc' := 262) (as := [.int (ys (nI i + 1).toNatClampNeg)]) (rest := [.int r]) (st' := [.int r, .int r]) d_law_259 rfl sh_66 rfl mv_law_26 (ct_Md_fault V _ σ (ys (nI i + 1).toNatClampNeg) hm) rfl rfl ⟨Nat.le_of_ble_eq_true rfl, Nat.le_of_ble_eq_true rfl⟩ ⟨rfl, rfl⟩ (Nat.le_of_ble_eq_true rfl) rfl ?_
  refine J_icmp_eq (pc' := 265) (tgt := 1296) d_law_262 rfl (by decide) (fun _ => kk _ hR2) (fun h => absurd rfl h)
set_option maxHeartbeats 4000000 in
theorem lc_rope {V : Vx} {X : Xx} {Q : State → Prop} {B L i : Nat} {ys : Nat → Int32} {Rel : Sg → Prop} (hE : E_rope Rel) (hB : Scr V X B L ys) (hi : i + 6 ≤ L) (hL : L ≤ 3072) {σ : Sg} (hR : Rel σ) (kk : ∀ σ2, Rel σ2 → JL V X Q σ2 1296 (lawlv V B i) []) : JL V X Q σ 267 (lawlv V B i) [] := by
  obtain ⟨r, σ2, hx, hm, hR2⟩ := hE σ (ys (nI i + 1).toNatClampNeg) (ys (nI i + 2).toNatClampNeg) hR
  refine J_aload_n (pc' := 268) d_law_267 rfl 1 rfl ?_
  refine J_aload_n (pc' := 269) d_law_268 rfl 0 rfl ?_
  refine J_iload_n (pc' := 270) d_law_269 rfl 3 rfl ?_
  refine J_iconst (pc' := 271) (v := 1) d_law_270 rfl ic_1 ?_
  refine J_iadd (pc' := 272) d_law_271 rfl ?_
  refine J_sld (pc' := 273) hB d_law_272 rfl (vin_k (k := 1) hi hL (by decide) rfl) ?_
  refine J_aload_n (pc' := 274) d_law_273 rfl 0 rfl ?_
  refine J_iload_n (pc' := 275) d_law_274 rfl 3 rfl ?_
  refine J_iconst (pc' := 276) (v := 2) d_law_275 rfl ic_2 ?_
  refine J_iadd (pc' := 277) d_law_276 rfl ?_
  refine J_sld (pc' := 278) hB d_law_277 rfl (vin_k (k := 2) hi hL (by decide) rfl) ?_
  have qhx := ct_GR_rope V (xl X) σ (ys (nI i + 1).toNatClampNeg) (ys (nI i + 2).toNatClampNeg)
  rw [hx] at qhx
  refine J_V (pc' := 281) (as := [.int (ys (nI i + 1).toNatClampNeg), .int (ys (nI i + 2).toNatClampNeg)]) (rest := []) (st' := [.int r]) d_law_278 rfl sh_0 rfl mv_law_27 qhx rfl rfl ⟨Nat.le_of_ble_eq_true rfl, Nat.le_of_ble_eq_true rfl⟩ ⟨rfl, rfl⟩ (Nat.le_of_ble_eq_true rfl) rfl ?_
  refine J_aload_n (pc' := 282) d_law_281 rfl 2 rfl ?_
  refine J_aload_n (pc' := 283) d_law_282 rfl 0 rfl ?_
  refine J_iload_n (pc' := 284) d_law_283 rfl 3 rfl ?_
  refine J_iconst (pc' := 285) (v := 1) d_law_284 rfl ic_1 ?_
  refine J_iadd (pc' := 286) d_law_285 rfl ?_
  refine J_sld (pc' := 287) hB d_law_286 rfl (vin_k (k := 1) hi hL (by decide) rfl) ?_
  refine J_aload_n (pc' := 288) d_law_287 rfl 0 rfl ?_
  refine J_iload_n (pc' := 289) d_law_288 rfl 3 rfl ?_
  refine J_iconst (pc' := 290) (v := 2) d_law_289 rfl ic_2 ?_
  refine J_iadd (pc' := 291) d_law_290 rfl ?_
  refine J_sld (pc' := 292) hB d_law_291 rfl (vin_k (k := 2) hi hL (by decide) rfl) ?_
  refine J_V (pc' := 295) (as := [.int (ys (nI i + 1).toNatClampNeg), .int (ys (nI i + 2).toNatClampNeg)]) (rest := [.int r]) (st' := [.int r, .int r]) d_law_292 rfl sh_66 rfl mv_law_30 (ct_Md_rope V _ σ (ys (nI i + 1).toNatClampNeg) (ys (nI i + 2).toNatClampNeg) hm) rfl rfl ⟨Nat.le_of_ble_eq_true rfl, Nat.le_of_ble_eq_true rfl⟩ ⟨rfl, rfl⟩ (Nat.le_of_ble_eq_true rfl) rfl ?_
  refine J_icmp_eq (pc' := 298) (tgt := 1296) d_law_295 rfl (by decide) (fun _ => kk _ hR2) (fun h => absurd rfl h)
set_option maxHeartbeats 4000000 in
theorem lc_crosses {V : Vx} {X : Xx} {Q : State → Prop} {B L i : Nat} {ys : Nat → Int32} {Rel : Sg → Prop} (hE : E_crosses Rel) (hB : Scr V X B L ys) (hi : i + 6 ≤ L) (hL : L ≤ 3072) {σ : Sg} (hR : Rel σ) (kk : ∀ σ2, Rel σ2 → JL V X Q σ2 1296 (lawlv V B i) []) : JL V X Q σ 300 (lawlv V B i) [] := by
  obtain ⟨r, σ2, hx, hm, hR2⟩ := hE σ (ys (nI i + 1).toNatClampNeg) (ys (nI i + 2).toNatClampNeg) (ys (nI i + 3).toNatClampNeg) hR
  refine J_aload_n (pc' := 301) d_law_300 rfl 1 rfl ?_
  refine J_aload_n (pc' := 302) d_law_301 rfl 0 rfl ?_
  refine J_iload_n (pc' := 303) d_law_302 rfl 3 rfl ?_
  refine J_iconst (pc' := 304) (v := 1) d_law_303 rfl ic_1 ?_
  refine J_iadd (pc' := 305) d_law_304 rfl ?_
  refine J_sld (pc' := 306) hB d_law_305 rfl (vin_k (k := 1) hi hL (by decide) rfl) ?_
  refine J_aload_n (pc' := 307) d_law_306 rfl 0 rfl ?_
  refine J_iload_n (pc' := 308) d_law_307 rfl 3 rfl ?_
  refine J_iconst (pc' := 309) (v := 2) d_law_308 rfl ic_2 ?_
  refine J_iadd (pc' := 310) d_law_309 rfl ?_
  refine J_sld (pc' := 311) hB d_law_310 rfl (vin_k (k := 2) hi hL (by decide) rfl) ?_
  refine J_aload_n (pc' := 312) d_law_311 rfl 0 rfl ?_
  refine J_iload_n (pc' := 313) d_law_312 rfl 3 rfl ?_
  refine J_iconst (pc' := 314) (v := 3) d_law_313 rfl ic_3 ?_
  refine J_iadd (pc' := 315) d_law_314 rfl ?_
  refine J_sld (pc' := 316) hB d_law_315 rfl (vin_k (k := 3) hi hL (by decide) rfl) ?_
  refine J_V (pc' := 319) (as := [.int (ys (nI i + 1).toNatClampNeg), .int (ys (nI i + 2).toNatClampNeg), .int (ys (nI i + 3).toNatClampNeg)]) (rest := []) (st' := [.int r]) d_law_316 rfl sh_0 rfl mv_law_31 (ct_GR_crosses V _ σ (ys (nI i + 1).toNatClampNeg) (ys (nI i + 2).toNatClampNeg) (ys (nI i + 3).toNatClampNeg) hx) rfl rfl ⟨Nat.le_of_ble_eq_true rfl, Nat.le_of_ble_eq_true rfl⟩ ⟨rfl, rfl⟩ (Nat.le_of_ble_eq_true rfl) rfl ?_
  refine J_aload_n (pc' := 320) d_law_319 rfl 2 rfl ?_
  refine J_aload_n (pc' := 321) d_law_320 rfl 0 rfl ?_
  refine J_iload_n (pc' := 322) d_law_321 rfl 3 rfl ?_
  refine J_iconst (pc' := 323) (v := 1) d_law_322 rfl ic_1 ?_
  refine J_iadd (pc' := 324) d_law_323 rfl ?_
  refine J_sld (pc' := 325) hB d_law_324 rfl (vin_k (k := 1) hi hL (by decide) rfl) ?_
  refine J_aload_n (pc' := 326) d_law_325 rfl 0 rfl ?_
  refine J_iload_n (pc' := 327) d_law_326 rfl 3 rfl ?_
  refine J_iconst (pc' := 328) (v := 2) d_law_327 rfl ic_2 ?_
  refine J_iadd (pc' := 329) d_law_328 rfl ?_
  refine J_sld (pc' := 330) hB d_law_329 rfl (vin_k (k := 2) hi hL (by decide) rfl) ?_
  refine J_aload_n (pc' := 331) d_law_330 rfl 0 rfl ?_
  refine J_iload_n (pc' := 332) d_law_331 rfl 3 rfl ?_
  refine J_iconst (pc' := 333) (v := 3) d_law_332 rfl ic_3 ?_
  refine J_iadd (pc' := 334) d_law_333 rfl ?_
  refine J_sld (pc' := 335) hB d_law_334 rfl (vin_k (k := 3) hi hL (by decide) rfl) ?_
  refine J_V (pc' := 338) (as := [.int (ys (nI i + 1).toNatClampNeg), .int (ys (nI i + 2).toNatClampNeg), .int (ys (nI i + 3).toNatClampNeg)]) (rest := [.int r]) (st' := [.int r, .int r]) d_law_335 rfl sh_66 rfl mv_law_35 (ct_Md_crosses V _ σ (ys (nI i + 1).toNatClampNeg) (ys (nI i + 2).toNatClampNeg) (ys (nI i + 3).toNatClampNeg) hm) rfl rfl ⟨Nat.le_of_ble_eq_true rfl, Nat.le_of_ble_eq_true rfl⟩ ⟨rfl, rfl⟩ (Nat.le_of_ble_eq_true rfl) rfl ?_
  refine J_icmp_eq (pc' := 341) (tgt := 1296) d_law_338 rfl (by decide) (fun _ => kk _ hR2) (fun h => absurd rfl h)
set_option maxHeartbeats 4000000 in
theorem lc_crossing {V : Vx} {X : Xx} {Q : State → Prop} {B L i : Nat} {ys : Nat → Int32} {Rel : Sg → Prop} (hE : E_crossing Rel) (hB : Scr V X B L ys) (hi : i + 6 ≤ L) (hL : L ≤ 3072) {σ : Sg} (hR : Rel σ) (kk : ∀ σ2, Rel σ2 → JL V X Q σ2 1296 (lawlv V B i) []) : JL V X Q σ 343 (lawlv V B i) [] := by
  obtain ⟨r, σ2, hx, hm, hR2⟩ := hE σ (ys (nI i + 1).toNatClampNeg) (ys (nI i + 2).toNatClampNeg) (ys (nI i + 3).toNatClampNeg) (ys (nI i + 4).toNatClampNeg) hR
  refine J_aload_n (pc' := 344) d_law_343 rfl 1 rfl ?_
  refine J_aload_n (pc' := 345) d_law_344 rfl 0 rfl ?_
  refine J_iload_n (pc' := 346) d_law_345 rfl 3 rfl ?_
  refine J_iconst (pc' := 347) (v := 1) d_law_346 rfl ic_1 ?_
  refine J_iadd (pc' := 348) d_law_347 rfl ?_
  refine J_sld (pc' := 349) hB d_law_348 rfl (vin_k (k := 1) hi hL (by decide) rfl) ?_
  refine J_aload_n (pc' := 350) d_law_349 rfl 0 rfl ?_
  refine J_iload_n (pc' := 351) d_law_350 rfl 3 rfl ?_
  refine J_iconst (pc' := 352) (v := 2) d_law_351 rfl ic_2 ?_
  refine J_iadd (pc' := 353) d_law_352 rfl ?_
  refine J_sld (pc' := 354) hB d_law_353 rfl (vin_k (k := 2) hi hL (by decide) rfl) ?_
  refine J_aload_n (pc' := 355) d_law_354 rfl 0 rfl ?_
  refine J_iload_n (pc' := 356) d_law_355 rfl 3 rfl ?_
  refine J_iconst (pc' := 357) (v := 3) d_law_356 rfl ic_3 ?_
  refine J_iadd (pc' := 358) d_law_357 rfl ?_
  refine J_sld (pc' := 359) hB d_law_358 rfl (vin_k (k := 3) hi hL (by decide) rfl) ?_
  refine J_aload_n (pc' := 360) d_law_359 rfl 0 rfl ?_
  refine J_iload_n (pc' := 361) d_law_360 rfl 3 rfl ?_
  refine J_iconst (pc' := 362) (v := 4) d_law_361 rfl ic_4 ?_
  refine J_iadd (pc' := 363) d_law_362 rfl ?_
  refine J_sld (pc' := 364) hB d_law_363 rfl (vin_k (k := 4) hi hL (by decide) rfl) ?_
  refine J_V (pc' := 367) (as := [.int (ys (nI i + 1).toNatClampNeg), .int (ys (nI i + 2).toNatClampNeg), .int (ys (nI i + 3).toNatClampNeg), .int (ys (nI i + 4).toNatClampNeg)]) (rest := []) (st' := [.long r]) d_law_364 rfl sh_0 rfl mv_law_36 (ct_GR_crossing V _ σ (ys (nI i + 1).toNatClampNeg) (ys (nI i + 2).toNatClampNeg) (ys (nI i + 3).toNatClampNeg) (ys (nI i + 4).toNatClampNeg) hx) rfl rfl ⟨Nat.le_of_ble_eq_true rfl, Nat.le_of_ble_eq_true rfl⟩ ⟨rfl, rfl⟩ (Nat.le_of_ble_eq_true rfl) rfl ?_
  refine J_aload_n (pc' := 368) d_law_367 rfl 2 rfl ?_
  refine J_aload_n (pc' := 369) d_law_368 rfl 0 rfl ?_
  refine J_iload_n (pc' := 370) d_law_369 rfl 3 rfl ?_
  refine J_iconst (pc' := 371) (v := 1) d_law_370 rfl ic_1 ?_
  refine J_iadd (pc' := 372) d_law_371 rfl ?_
  refine J_sld (pc' := 373) hB d_law_372 rfl (vin_k (k := 1) hi hL (by decide) rfl) ?_
  refine J_aload_n (pc' := 374) d_law_373 rfl 0 rfl ?_
  refine J_iload_n (pc' := 375) d_law_374 rfl 3 rfl ?_
  refine J_iconst (pc' := 376) (v := 2) d_law_375 rfl ic_2 ?_
  refine J_iadd (pc' := 377) d_law_376 rfl ?_
  refine J_sld (pc' := 378) hB d_law_377 rfl (vin_k (k := 2) hi hL (by decide) rfl) ?_
  refine J_aload_n (pc' := 379) d_law_378 rfl 0 rfl ?_
  refine J_iload_n (pc' := 380) d_law_379 rfl 3 rfl ?_
  refine J_iconst (pc' := 381) (v := 3) d_law_380 rfl ic_3 ?_
  refine J_iadd (pc' := 382) d_law_381 rfl ?_
  refine J_sld (pc' := 383) hB d_law_382 rfl (vin_k (k := 3) hi hL (by decide) rfl) ?_
  refine J_aload_n (pc' := 384) d_law_383 rfl 0 rfl ?_
  refine J_iload_n (pc' := 385) d_law_384 rfl 3 rfl ?_
  refine J_iconst (pc' := 386) (v := 4) d_law_385 rfl ic_4 ?_
  refine J_iadd (pc' := 387) d_law_386 rfl ?_
  refine J_sld (pc' := 388) hB d_law_387 rfl (vin_k (k := 4) hi hL (by decide) rfl) ?_
  refine J_V (pc' := 391) (as := [.int (ys (nI i + 1).toNatClampNeg), .int (ys (nI i + 2).toNatClampNeg), .int (ys (nI i + 3).toNatClampNeg), .int (ys (nI i + 4).toNatClampNeg)]) (rest := [.long r]) (st' := [.long r, .long r]) d_law_388 rfl sh_66 rfl mv_law_40 (ct_Md_crossing V _ σ (ys (nI i + 1).toNatClampNeg) (ys (nI i + 2).toNatClampNeg) (ys (nI i + 3).toNatClampNeg) (ys (nI i + 4).toNatClampNeg) hm) rfl rfl ⟨Nat.le_of_ble_eq_true rfl, Nat.le_of_ble_eq_true rfl⟩ ⟨rfl, rfl⟩ (Nat.le_of_ble_eq_true rfl) rfl ?_
  refine J_lcmp (pc' := 392) d_law_391 rfl ?_
  refine J_if_eq (pc' := 395) (tgt := 1296) d_law_392 rfl (by decide) (fun _ => kk _ hR2) (fun h => absurd (lg_cmp_self r) h)
set_option maxHeartbeats 4000000 in
theorem lc_takes {V : Vx} {X : Xx} {Q : State → Prop} {B L i : Nat} {ys : Nat → Int32} {Rel : Sg → Prop} (hE : E_takes Rel) (hB : Scr V X B L ys) (hi : i + 6 ≤ L) (hL : L ≤ 3072) {σ : Sg} (hR : Rel σ) (kk : ∀ σ2, Rel σ2 → JL V X Q σ2 1296 (lawlv V B i) []) : JL V X Q σ 397 (lawlv V B i) [] := by
  obtain ⟨r, σ2, hx, hm, hR2⟩ := hE σ (ys (nI i + 1).toNatClampNeg) (ys (nI i + 2).toNatClampNeg) (ys (nI i + 3).toNatClampNeg) (ys (nI i + 4).toNatClampNeg) hR
  refine J_aload_n (pc' := 398) d_law_397 rfl 1 rfl ?_
  refine J_aload_n (pc' := 399) d_law_398 rfl 0 rfl ?_
  refine J_iload_n (pc' := 400) d_law_399 rfl 3 rfl ?_
  refine J_iconst (pc' := 401) (v := 1) d_law_400 rfl ic_1 ?_
  refine J_iadd (pc' := 402) d_law_401 rfl ?_
  refine J_sld (pc' := 403) hB d_law_402 rfl (vin_k (k := 1) hi hL (by decide) rfl) ?_
  refine J_aload_n (pc' := 404) d_law_403 rfl 0 rfl ?_
  refine J_iload_n (pc' := 405) d_law_404 rfl 3 rfl ?_
  refine J_iconst (pc' := 406) (v := 2) d_law_405 rfl ic_2 ?_
  refine J_iadd (pc' := 407) d_law_406 rfl ?_
  refine J_sld (pc' := 408) hB d_law_407 rfl (vin_k (k := 2) hi hL (by decide) rfl) ?_
  refine J_aload_n (pc' := 409) d_law_408 rfl 0 rfl ?_
  refine J_iload_n (pc' := 410) d_law_409 rfl 3 rfl ?_
  refine J_iconst (pc' := 411) (v := 3) d_law_410 rfl ic_3 ?_
  refine J_iadd (pc' := 412) d_law_411 rfl ?_
  refine J_sld (pc' := 413) hB d_law_412 rfl (vin_k (k := 3) hi hL (by decide) rfl) ?_
  refine J_aload_n (pc' := 414) d_law_413 rfl 0 rfl ?_
  refine J_iload_n (pc' := 415) d_law_414 rfl 3 rfl ?_
  refine J_iconst (pc' := 416) (v := 4) d_law_415 rfl ic_4 ?_
  refine J_iadd (pc' := 417) d_law_416 rfl ?_
  refine J_sld (pc' := 418) hB d_law_417 rfl (vin_k (k := 4) hi hL (by decide) rfl) ?_
  have qhx := ct_GR_takes V (xl X) σ (ys (nI i + 1).toNatClampNeg) (ys (nI i + 2).toNatClampNeg) (ys (nI i + 3).toNatClampNeg) (ys (nI i + 4).toNatClampNeg)
  rw [hx] at qhx
  refine J_V (pc' := 421) (as := [.int (ys (nI i + 1).toNatClampNeg), .int (ys (nI i + 2).toNatClampNeg), .int (ys (nI i + 3).toNatClampNeg), .int (ys (nI i + 4).toNatClampNeg)]) (rest := []) (st' := [.int r]) d_law_418 rfl sh_0 rfl mv_law_41 qhx rfl rfl ⟨Nat.le_of_ble_eq_true rfl, Nat.le_of_ble_eq_true rfl⟩ ⟨rfl, rfl⟩ (Nat.le_of_ble_eq_true rfl) rfl ?_
  refine J_aload_n (pc' := 422) d_law_421 rfl 2 rfl ?_
  refine J_aload_n (pc' := 423) d_law_422 rfl 0 rfl ?_
  refine J_iload_n (pc' := 424) d_law_423 rfl 3 rfl ?_
  refine J_iconst (pc' := 425) (v := 1) d_law_424 rfl ic_1 ?_
  refine J_iadd (pc' := 426) d_law_425 rfl ?_
  refine J_sld (pc' := 427) hB d_law_426 rfl (vin_k (k := 1) hi hL (by decide) rfl) ?_
  refine J_aload_n (pc' := 428) d_law_427 rfl 0 rfl ?_
  refine J_iload_n (pc' := 429) d_law_428 rfl 3 rfl ?_
  refine J_iconst (pc' := 430) (v := 2) d_law_429 rfl ic_2 ?_
  refine J_iadd (pc' := 431) d_law_430 rfl ?_
  refine J_sld (pc' := 432) hB d_law_431 rfl (vin_k (k := 2) hi hL (by decide) rfl) ?_
  refine J_aload_n (pc' := 433) d_law_432 rfl 0 rfl ?_
  refine J_iload_n (pc' := 434) d_law_433 rfl 3 rfl ?_
  refine J_iconst (pc' := 435) (v := 3) d_law_434 rfl ic_3 ?_
  refine J_iadd (pc' := 436) d_law_435 rfl ?_
  refine J_sld (pc' := 437) hB d_law_436 rfl (vin_k (k := 3) hi hL (by decide) rfl) ?_
  refine J_aload_n (pc' := 438) d_law_437 rfl 0 rfl ?_
  refine J_iload_n (pc' := 439) d_law_438 rfl 3 rfl ?_
  refine J_iconst (pc' := 440) (v := 4) d_law_439 rfl ic_4 ?_
  refine J_iadd (pc' := 441) d_law_440 rfl ?_
  refine J_sld (pc' := 442) hB d_law_441 rfl (vin_k (k := 4) hi hL (by decide) rfl) ?_
  refine J_V (pc' := 445) (as := [.int (ys (nI i + 1).toNatClampNeg), .int (ys (nI i + 2).toNatClampNeg), .int (ys (nI i + 3).toNatClampNeg), .int (ys (nI i + 4).toNatClampNeg)]) (rest := [.int r]) (st' := [.int r, .int r]) d_law_442 rfl sh_66 rfl mv_law_45 (ct_Md_takes V _ σ (ys (nI i + 1).toNatClampNeg) (ys (nI i + 2).toNatClampNeg) (ys (nI i + 3).toNatClampNeg) (ys (nI i + 4).toNatClampNeg) hm) rfl rfl ⟨Nat.le_of_ble_eq_true rfl, Nat.le_of_ble_eq_true rfl⟩ ⟨rfl, rfl⟩ (Nat.le_of_ble_eq_true rfl) rfl ?_
  refine J_icmp_eq (pc' := 448) (tgt := 1296) d_law_445 rfl (by decide) (fun _ => kk _ hR2) (fun h => absurd rfl h)
set_option maxHeartbeats 4000000 in
theorem lc_set {V : Vx} {X : Xx} {Q : State → Prop} {B L i : Nat} {ys : Nat → Int32} {Rel : Sg → Prop} (hE : E_set Rel) (hB : Scr V X B L ys) (hi : i + 6 ≤ L) (hL : L ≤ 3072) {σ : Sg} (hR : Rel σ) (kk : ∀ σ2, Rel σ2 → JL V X Q σ2 1296 (lawlv V B i) []) : JL V X Q σ 450 (lawlv V B i) [] := by
  obtain ⟨r, σ1, σ2, hx, hm, hR2⟩ := hE σ (ys (nI i + 1).toNatClampNeg) (ys (nI i + 2).toNatClampNeg) hR
  refine J_aload_n (pc' := 451) d_law_450 rfl 1 rfl ?_
  refine J_aload_n (pc' := 452) d_law_451 rfl 0 rfl ?_
  refine J_iload_n (pc' := 453) d_law_452 rfl 3 rfl ?_
  refine J_iconst (pc' := 454) (v := 1) d_law_453 rfl ic_1 ?_
  refine J_iadd (pc' := 455) d_law_454 rfl ?_
  refine J_sld (pc' := 456) hB d_law_455 rfl (vin_k (k := 1) hi hL (by decide) rfl) ?_
  refine J_aload_n (pc' := 457) d_law_456 rfl 0 rfl ?_
  refine J_iload_n (pc' := 458) d_law_457 rfl 3 rfl ?_
  refine J_iconst (pc' := 459) (v := 2) d_law_458 rfl ic_2 ?_
  refine J_iadd (pc' := 460) d_law_459 rfl ?_
  refine J_sld (pc' := 461) hB d_law_460 rfl (vin_k (k := 2) hi hL (by decide) rfl) ?_
  refine J_V (pc' := 464) (as := [.int (ys (nI i + 1).toNatClampNeg), .int (ys (nI i + 2).toNatClampNeg)]) (rest := []) (st' := [.int r]) d_law_461 rfl sh_0 rfl mv_law_46 (ct_GR_set V _ σ (ys (nI i + 1).toNatClampNeg) (ys (nI i + 2).toNatClampNeg) hx) rfl rfl ⟨Nat.le_of_ble_eq_true rfl, Nat.le_of_ble_eq_true rfl⟩ ⟨rfl, rfl⟩ (Nat.le_of_ble_eq_true rfl) rfl ?_
  refine J_aload_n (pc' := 465) d_law_464 rfl 2 rfl ?_
  refine J_aload_n (pc' := 466) d_law_465 rfl 0 rfl ?_
  refine J_iload_n (pc' := 467) d_law_466 rfl 3 rfl ?_
  refine J_iconst (pc' := 468) (v := 1) d_law_467 rfl ic_1 ?_
  refine J_iadd (pc' := 469) d_law_468 rfl ?_
  refine J_sld (pc' := 470) hB d_law_469 rfl (vin_k (k := 1) hi hL (by decide) rfl) ?_
  refine J_aload_n (pc' := 471) d_law_470 rfl 0 rfl ?_
  refine J_iload_n (pc' := 472) d_law_471 rfl 3 rfl ?_
  refine J_iconst (pc' := 473) (v := 2) d_law_472 rfl ic_2 ?_
  refine J_iadd (pc' := 474) d_law_473 rfl ?_
  refine J_sld (pc' := 475) hB d_law_474 rfl (vin_k (k := 2) hi hL (by decide) rfl) ?_
  refine J_V (pc' := 478) (as := [.int (ys (nI i + 1).toNatClampNeg), .int (ys (nI i + 2).toNatClampNeg)]) (rest := [.int r]) (st' := [.int r, .int r]) d_law_475 rfl sh_66 rfl mv_law_49 (ct_Md_set V _ σ1 (ys (nI i + 1).toNatClampNeg) (ys (nI i + 2).toNatClampNeg) hm) rfl rfl ⟨Nat.le_of_ble_eq_true rfl, Nat.le_of_ble_eq_true rfl⟩ ⟨rfl, rfl⟩ (Nat.le_of_ble_eq_true rfl) rfl ?_
  refine J_icmp_eq (pc' := 481) (tgt := 1296) d_law_478 rfl (by decide) (fun _ => kk _ hR2) (fun h => absurd rfl h)
set_option maxHeartbeats 4000000 in
theorem lc_trip {V : Vx} {X : Xx} {Q : State → Prop} {B L i : Nat} {ys : Nat → Int32} {Rel : Sg → Prop} (hE : E_trip Rel) (hB : Scr V X B L ys) (hi : i + 6 ≤ L) (hL : L ≤ 3072) {σ : Sg} (hR : Rel σ) (kk : ∀ σ2, Rel σ2 → JL V X Q σ2 1296 (lawlv V B i) []) : JL V X Q σ 483 (lawlv V B i) [] := by
  obtain ⟨r, σ1, σ2, hx, hm, hR2⟩ := hE σ (ys (nI i + 1).toNatClampNeg) (ys (nI i + 2).toNatClampNeg) (ys (nI i + 3).toNatClampNeg) (ys (nI i + 4).toNatClampNeg) (ys (nI i + 5).toNatClampNeg) hR
  refine J_aload_n (pc' := 484) d_law_483 rfl 1 rfl ?_
  refine J_aload_n (pc' := 485) d_law_484 rfl 0 rfl ?_
  refine J_iload_n (pc' := 486) d_law_485 rfl 3 rfl ?_
  refine J_iconst (pc' := 487) (v := 1) d_law_486 rfl ic_1 ?_
  refine J_iadd (pc' := 488) d_law_487 rfl ?_
  refine J_sld (pc' := 489) hB d_law_488 rfl (vin_k (k := 1) hi hL (by decide) rfl) ?_
  refine J_aload_n (pc' := 490) d_law_489 rfl 0 rfl ?_
  refine J_iload_n (pc' := 491) d_law_490 rfl 3 rfl ?_
  refine J_iconst (pc' := 492) (v := 2) d_law_491 rfl ic_2 ?_
  refine J_iadd (pc' := 493) d_law_492 rfl ?_
  refine J_sld (pc' := 494) hB d_law_493 rfl (vin_k (k := 2) hi hL (by decide) rfl) ?_
  refine J_aload_n (pc' := 495) d_law_494 rfl 0 rfl ?_
  refine J_iload_n (pc' := 496) d_law_495 rfl 3 rfl ?_
  refine J_iconst (pc' := 497) (v := 3) d_law_496 rfl ic_3 ?_
  refine J_iadd (pc' := 498) d_law_497 rfl ?_
  refine J_sld (pc' := 499) hB d_law_498 rfl (vin_k (k := 3) hi hL (by decide) rfl) ?_
  refine J_aload_n (pc' := 500) d_law_499 rfl 0 rfl ?_
  refine J_iload_n (pc' := 501) d_law_500 rfl 3 rfl ?_
  refine J_iconst (pc' := 502) (v := 4) d_law_501 rfl ic_4 ?_
  refine J_iadd (pc' := 503) d_law_502 rfl ?_
  refine J_sld (pc' := 504) hB d_law_503 rfl (vin_k (k := 4) hi hL (by decide) rfl) ?_
  refine J_aload_n (pc' := 505) d_law_504 rfl 0 rfl ?_
  refine J_iload_n (pc' := 506) d_law_505 rfl 3 rfl ?_
  refine J_iconst (pc' := 507) (v := 5) d_law_506 rfl ic_5 ?_
  refine J_iadd (pc' := 508) d_law_507 rfl ?_
  refine J_sld (pc' := 509) hB d_law_508 rfl (vin_k (k := 5) hi hL (by decide) rfl) ?_
  refine J_V (pc' := 512) (as := [.int (ys (nI i + 1).toNatClampNeg), .int (ys (nI i + 2).toNatClampNeg), .int (ys (nI i + 3).toNatClampNeg), .int (ys (nI i + 4).toNatClampNeg), .int (ys (nI i + 5).toNatClampNeg)]) (rest := []) (st' := [.int r]) d_law_509 rfl sh_0 rfl mv_law_50 (ct_GR_trip V _ σ (ys (nI i + 1).toNatClampNeg) (ys (nI i + 2).toNatClampNeg) (ys (nI i + 3).toNatClampNeg) (ys (nI i + 4).toNatClampNeg) (ys (nI i + 5).toNatClampNeg) hx) rfl rfl ⟨Nat.le_of_ble_eq_true rfl, Nat.le_of_ble_eq_true rfl⟩ ⟨rfl, rfl⟩ (Nat.le_of_ble_eq_true rfl) rfl ?_
  refine J_aload_n (pc' := 513) d_law_512 rfl 2 rfl ?_
  refine J_aload_n (pc' := 514) d_law_513 rfl 0 rfl ?_
  refine J_iload_n (pc' := 515) d_law_514 rfl 3 rfl ?_
  refine J_iconst (pc' := 516) (v := 1) d_law_515 rfl ic_1 ?_
  refine J_iadd (pc' := 517) d_law_516 rfl ?_
  refine J_sld (pc' := 518) hB d_law_517 rfl (vin_k (k := 1) hi hL (by decide) rfl) ?_
  refine J_aload_n (pc' := 519) d_law_518 rfl 0 rfl ?_
  refine J_iload_n (pc' := 520) d_law_519 rfl 3 rfl ?_
  refine J_iconst (pc' := 521) (v := 2) d_law_520 rfl ic_2 ?_
  refine J_iadd (pc' := 522) d_law_521 rfl ?_
  refine J_sld (pc' := 523) hB d_law_522 rfl (vin_k (k := 2) hi hL (by decide) rfl) ?_
  refine J_aload_n (pc' := 524) d_law_523 rfl 0 rfl ?_
  refine J_iload_n (pc' := 525) d_law_524 rfl 3 rfl ?_
  refine J_iconst (pc' := 526) (v := 3) d_law_525 rfl ic_3 ?_
  refine J_iadd (pc' := 527) d_law_526 rfl ?_
  refine J_sld (pc' := 528) hB d_law_527 rfl (vin_k (k := 3) hi hL (by decide) rfl) ?_
  refine J_aload_n (pc' := 529) d_law_528 rfl 0 rfl ?_
  refine J_iload_n (pc' := 530) d_law_529 rfl 3 rfl ?_
  refine J_iconst (pc' := 531) (v := 4) d_law_530 rfl ic_4 ?_
  refine J_iadd (pc' := 532) d_law_531 rfl ?_
  refine J_sld (pc' := 533) hB d_law_532 rfl (vin_k (k := 4) hi hL (by decide) rfl) ?_
  refine J_aload_n (pc' := 534) d_law_533 rfl 0 rfl ?_
  refine J_iload_n (pc' := 535) d_law_534 rfl 3 rfl ?_
  refine J_iconst (pc' := 536) (v := 5) d_law_535 rfl ic_5 ?_
  refine J_iadd (pc' := 537) d_law_536 rfl ?_
  refine J_sld (pc' := 538) hB d_law_537 rfl (vin_k (k := 5) hi hL (by decide) rfl) ?_
  refine J_V (pc' := 541) (as := [.int (ys (nI i + 1).toNatClampNeg), .int (ys (nI i + 2).toNatClampNeg), .int (ys (nI i + 3).toNatClampNeg), .int (ys (nI i + 4).toNatClampNeg), .int (ys (nI i + 5).toNatClampNeg)]) (rest := [.int r]) (st' := [.int r, .int r]) d_law_538 rfl sh_66 rfl mv_law_54 (ct_Md_trip V _ σ1 (ys (nI i + 1).toNatClampNeg) (ys (nI i + 2).toNatClampNeg) (ys (nI i + 3).toNatClampNeg) (ys (nI i + 4).toNatClampNeg) (ys (nI i + 5).toNatClampNeg) hm) rfl rfl ⟨Nat.le_of_ble_eq_true rfl, Nat.le_of_ble_eq_true rfl⟩ ⟨rfl, rfl⟩ (Nat.le_of_ble_eq_true rfl) rfl ?_
  refine J_icmp_eq (pc' := 544) (tgt := 1296) d_law_541 rfl (by decide) (fun _ => kk _ hR2) (fun h => absurd rfl h)
set_option maxHeartbeats 4000000 in
theorem lc_read {V : Vx} {X : Xx} {Q : State → Prop} {B L i : Nat} {ys : Nat → Int32} {Rel : Sg → Prop} (hE : E_read Rel) (hB : Scr V X B L ys) (hi : i + 6 ≤ L) (hL : L ≤ 3072) {σ : Sg} (hR : Rel σ) (kk : ∀ σ2, Rel σ2 → JL V X Q σ2 1296 (lawlv V B i) []) : JL V X Q σ 546 (lawlv V B i) [] := by
  obtain ⟨r, σ1, σ2, hx, hm, hR2⟩ := hE σ (ys (nI i + 1).toNatClampNeg) (ys (nI i + 2).toNatClampNeg) hR
  refine J_aload_n (pc' := 547) d_law_546 rfl 1 rfl ?_
  refine J_aload_n (pc' := 548) d_law_547 rfl 0 rfl ?_
  refine J_iload_n (pc' := 549) d_law_548 rfl 3 rfl ?_
  refine J_iconst (pc' := 550) (v := 1) d_law_549 rfl ic_1 ?_
  refine J_iadd (pc' := 551) d_law_550 rfl ?_
  refine J_sld (pc' := 552) hB d_law_551 rfl (vin_k (k := 1) hi hL (by decide) rfl) ?_
  refine J_aload_n (pc' := 553) d_law_552 rfl 0 rfl ?_
  refine J_iload_n (pc' := 554) d_law_553 rfl 3 rfl ?_
  refine J_iconst (pc' := 555) (v := 2) d_law_554 rfl ic_2 ?_
  refine J_iadd (pc' := 556) d_law_555 rfl ?_
  refine J_sld (pc' := 557) hB d_law_556 rfl (vin_k (k := 2) hi hL (by decide) rfl) ?_
  refine J_V (pc' := 560) (as := [.int (ys (nI i + 1).toNatClampNeg), .int (ys (nI i + 2).toNatClampNeg)]) (rest := []) (st' := [.int r]) d_law_557 rfl sh_0 rfl mv_law_55 (ct_GR_read V _ σ (ys (nI i + 1).toNatClampNeg) (ys (nI i + 2).toNatClampNeg) hx) rfl rfl ⟨Nat.le_of_ble_eq_true rfl, Nat.le_of_ble_eq_true rfl⟩ ⟨rfl, rfl⟩ (Nat.le_of_ble_eq_true rfl) rfl ?_
  refine J_aload_n (pc' := 561) d_law_560 rfl 2 rfl ?_
  refine J_aload_n (pc' := 562) d_law_561 rfl 0 rfl ?_
  refine J_iload_n (pc' := 563) d_law_562 rfl 3 rfl ?_
  refine J_iconst (pc' := 564) (v := 1) d_law_563 rfl ic_1 ?_
  refine J_iadd (pc' := 565) d_law_564 rfl ?_
  refine J_sld (pc' := 566) hB d_law_565 rfl (vin_k (k := 1) hi hL (by decide) rfl) ?_
  refine J_aload_n (pc' := 567) d_law_566 rfl 0 rfl ?_
  refine J_iload_n (pc' := 568) d_law_567 rfl 3 rfl ?_
  refine J_iconst (pc' := 569) (v := 2) d_law_568 rfl ic_2 ?_
  refine J_iadd (pc' := 570) d_law_569 rfl ?_
  refine J_sld (pc' := 571) hB d_law_570 rfl (vin_k (k := 2) hi hL (by decide) rfl) ?_
  refine J_V (pc' := 574) (as := [.int (ys (nI i + 1).toNatClampNeg), .int (ys (nI i + 2).toNatClampNeg)]) (rest := [.int r]) (st' := [.int r, .int r]) d_law_571 rfl sh_66 rfl mv_law_58 (ct_Md_read V _ σ1 (ys (nI i + 1).toNatClampNeg) (ys (nI i + 2).toNatClampNeg) hm) rfl rfl ⟨Nat.le_of_ble_eq_true rfl, Nat.le_of_ble_eq_true rfl⟩ ⟨rfl, rfl⟩ (Nat.le_of_ble_eq_true rfl) rfl ?_
  refine J_icmp_eq (pc' := 577) (tgt := 1296) d_law_574 rfl (by decide) (fun _ => kk _ hR2) (fun h => absurd rfl h)
set_option maxHeartbeats 4000000 in
theorem lc_undo {V : Vx} {X : Xx} {Q : State → Prop} {B L i : Nat} {ys : Nat → Int32} {Rel : Sg → Prop} (hE : E_undo Rel) (hB : Scr V X B L ys) (hi : i + 6 ≤ L) (hL : L ≤ 3072) {σ : Sg} (hR : Rel σ) (kk : ∀ σ2, Rel σ2 → JL V X Q σ2 1296 (lawlv V B i) []) : JL V X Q σ 579 (lawlv V B i) [] := by
  obtain ⟨r, σ1, σ2, hx, hm, hR2⟩ := hE σ  hR
  refine J_aload_n (pc' := 580) d_law_579 rfl 1 rfl ?_
  refine J_V (pc' := 583) (as := []) (rest := []) (st' := [.int r]) d_law_580 rfl sh_0 rfl mv_law_59 (ct_GR_undo V _ σ  hx) rfl rfl ⟨Nat.le_of_ble_eq_true rfl, Nat.le_of_ble_eq_true rfl⟩ ⟨rfl, rfl⟩ (Nat.le_of_ble_eq_true rfl) rfl ?_
  refine J_aload_n (pc' := 584) d_law_583 rfl 2 rfl ?_
  refine J_V (pc' := 587) (as := []) (rest := [.int r]) (st' := [.int r, .int r]) d_law_584 rfl sh_66 rfl mv_law_63 (ct_Md_undo V _ σ1  hm) rfl rfl ⟨Nat.le_of_ble_eq_true rfl, Nat.le_of_ble_eq_true rfl⟩ ⟨rfl, rfl⟩ (Nat.le_of_ble_eq_true rfl) rfl ?_
  refine J_icmp_eq (pc' := 590) (tgt := 1296) d_law_587 rfl (by decide) (fun _ => kk _ hR2) (fun h => absurd rfl h)
set_option maxHeartbeats 4000000 in
theorem lc_clash {V : Vx} {X : Xx} {Q : State → Prop} {B L i : Nat} {ys : Nat → Int32} {Rel : Sg → Prop} (hE : E_clash Rel) (hB : Scr V X B L ys) (hi : i + 6 ≤ L) (hL : L ≤ 3072) {σ : Sg} (hR : Rel σ) (kk : ∀ σ2, Rel σ2 → JL V X Q σ2 1296 (lawlv V B i) []) : JL V X Q σ 592 (lawlv V B i) [] := by
  obtain ⟨r, σ1, σ2, hx, hm, hR2⟩ := hE σ (ys (nI i + 1).toNatClampNeg) (ys (nI i + 2).toNatClampNeg) (ys (nI i + 3).toNatClampNeg) hR
  refine J_aload_n (pc' := 593) d_law_592 rfl 1 rfl ?_
  refine J_aload_n (pc' := 594) d_law_593 rfl 0 rfl ?_
  refine J_iload_n (pc' := 595) d_law_594 rfl 3 rfl ?_
  refine J_iconst (pc' := 596) (v := 1) d_law_595 rfl ic_1 ?_
  refine J_iadd (pc' := 597) d_law_596 rfl ?_
  refine J_sld (pc' := 598) hB d_law_597 rfl (vin_k (k := 1) hi hL (by decide) rfl) ?_
  refine J_aload_n (pc' := 599) d_law_598 rfl 0 rfl ?_
  refine J_iload_n (pc' := 600) d_law_599 rfl 3 rfl ?_
  refine J_iconst (pc' := 601) (v := 2) d_law_600 rfl ic_2 ?_
  refine J_iadd (pc' := 602) d_law_601 rfl ?_
  refine J_sld (pc' := 603) hB d_law_602 rfl (vin_k (k := 2) hi hL (by decide) rfl) ?_
  refine J_aload_n (pc' := 604) d_law_603 rfl 0 rfl ?_
  refine J_iload_n (pc' := 605) d_law_604 rfl 3 rfl ?_
  refine J_iconst (pc' := 606) (v := 3) d_law_605 rfl ic_3 ?_
  refine J_iadd (pc' := 607) d_law_606 rfl ?_
  refine J_sld (pc' := 608) hB d_law_607 rfl (vin_k (k := 3) hi hL (by decide) rfl) ?_
  refine J_V (pc' := 611) (as := [.int (ys (nI i + 1).toNatClampNeg), .int (ys (nI i + 2).toNatClampNeg), .int (ys (nI i + 3).toNatClampNeg)]) (rest := []) (st' := [.int r]) d_law_608 rfl sh_0 rfl mv_law_64 (ct_GR_clash V _ σ (ys (nI i + 1).toNatClampNeg) (ys (nI i + 2).toNatClampNeg) (ys (nI i + 3).toNatClampNeg) hx) rfl rfl ⟨Nat.le_of_ble_eq_true rfl, Nat.le_of_ble_eq_true rfl⟩ ⟨rfl, rfl⟩ (Nat.le_of_ble_eq_true rfl) rfl ?_
  refine J_aload_n (pc' := 612) d_law_611 rfl 2 rfl ?_
  refine J_aload_n (pc' := 613) d_law_612 rfl 0 rfl ?_
  refine J_iload_n (pc' := 614) d_law_613 rfl 3 rfl ?_
  refine J_iconst (pc' := 615) (v := 1) d_law_614 rfl ic_1 ?_
  refine J_iadd (pc' := 616) d_law_615 rfl ?_
  refine J_sld (pc' := 617) hB d_law_616 rfl (vin_k (k := 1) hi hL (by decide) rfl) ?_
  refine J_aload_n (pc' := 618) d_law_617 rfl 0 rfl ?_
  refine J_iload_n (pc' := 619) d_law_618 rfl 3 rfl ?_
  refine J_iconst (pc' := 620) (v := 2) d_law_619 rfl ic_2 ?_
  refine J_iadd (pc' := 621) d_law_620 rfl ?_
  refine J_sld (pc' := 622) hB d_law_621 rfl (vin_k (k := 2) hi hL (by decide) rfl) ?_
  refine J_aload_n (pc' := 623) d_law_622 rfl 0 rfl ?_
  refine J_iload_n (pc' := 624) d_law_623 rfl 3 rfl ?_
  refine J_iconst (pc' := 625) (v := 3) d_law_624 rfl ic_3 ?_
  refine J_iadd (pc' := 626) d_law_625 rfl ?_
  refine J_sld (pc' := 627) hB d_law_626 rfl (vin_k (k := 3) hi hL (by decide) rfl) ?_
  refine J_V (pc' := 630) (as := [.int (ys (nI i + 1).toNatClampNeg), .int (ys (nI i + 2).toNatClampNeg), .int (ys (nI i + 3).toNatClampNeg)]) (rest := [.int r]) (st' := [.int r, .int r]) d_law_627 rfl sh_66 rfl mv_law_67 (ct_Md_clash V _ σ1 (ys (nI i + 1).toNatClampNeg) (ys (nI i + 2).toNatClampNeg) (ys (nI i + 3).toNatClampNeg) hm) rfl rfl ⟨Nat.le_of_ble_eq_true rfl, Nat.le_of_ble_eq_true rfl⟩ ⟨rfl, rfl⟩ (Nat.le_of_ble_eq_true rfl) rfl ?_
  refine J_icmp_eq (pc' := 633) (tgt := 1296) d_law_630 rfl (by decide) (fun _ => kk _ hR2) (fun h => absurd rfl h)
set_option maxHeartbeats 4000000 in
theorem lc_clashes {V : Vx} {X : Xx} {Q : State → Prop} {B L i : Nat} {ys : Nat → Int32} {Rel : Sg → Prop} (hE : E_clashes Rel) (hB : Scr V X B L ys) (hi : i + 6 ≤ L) (hL : L ≤ 3072) {σ : Sg} (hR : Rel σ) (kk : ∀ σ2, Rel σ2 → JL V X Q σ2 1296 (lawlv V B i) []) : JL V X Q σ 635 (lawlv V B i) [] := by
  obtain ⟨r, σ1, σ2, hx, hm, hR2⟩ := hE σ  hR
  refine J_aload_n (pc' := 636) d_law_635 rfl 1 rfl ?_
  refine J_V (pc' := 639) (as := []) (rest := []) (st' := [.int r]) d_law_636 rfl sh_0 rfl mv_law_68 (ct_GR_clashes V _ σ  hx) rfl rfl ⟨Nat.le_of_ble_eq_true rfl, Nat.le_of_ble_eq_true rfl⟩ ⟨rfl, rfl⟩ (Nat.le_of_ble_eq_true rfl) rfl ?_
  refine J_aload_n (pc' := 640) d_law_639 rfl 2 rfl ?_
  refine J_V (pc' := 643) (as := []) (rest := [.int r]) (st' := [.int r, .int r]) d_law_640 rfl sh_66 rfl mv_law_71 (ct_Md_clashes V _ σ1  hm) rfl rfl ⟨Nat.le_of_ble_eq_true rfl, Nat.le_of_ble_eq_true rfl⟩ ⟨rfl, rfl⟩ (Nat.le_of_ble_eq_true rfl) rfl ?_
  refine J_icmp_eq (pc' := 646) (tgt := 1296) d_law_643 rfl (by decide) (fun _ => kk _ hR2) (fun h => absurd rfl h)
set_option maxHeartbeats 4000000 in
theorem lc_putOff {V : Vx} {X : Xx} {Q : State → Prop} {B L i : Nat} {ys : Nat → Int32} {Rel : Sg → Prop} (hE : E_putOff Rel) (hB : Scr V X B L ys) (hi : i + 6 ≤ L) (hL : L ≤ 3072) {σ : Sg} (hR : Rel σ) (kk : ∀ σ2, Rel σ2 → JL V X Q σ2 1296 (lawlv V B i) []) : JL V X Q σ 648 (lawlv V B i) [] := by
  obtain ⟨r, σ1, σ2, hx, hm, hR2⟩ := hE σ (ys (nI i + 1).toNatClampNeg) hR
  refine J_aload_n (pc' := 649) d_law_648 rfl 1 rfl ?_
  refine J_aload_n (pc' := 650) d_law_649 rfl 0 rfl ?_
  refine J_iload_n (pc' := 651) d_law_650 rfl 3 rfl ?_
  refine J_iconst (pc' := 652) (v := 1) d_law_651 rfl ic_1 ?_
  refine J_iadd (pc' := 653) d_law_652 rfl ?_
  refine J_sld (pc' := 654) hB d_law_653 rfl (vin_k (k := 1) hi hL (by decide) rfl) ?_
  refine J_V (pc' := 657) (as := [.int (ys (nI i + 1).toNatClampNeg)]) (rest := []) (st' := [.int r]) d_law_654 rfl sh_0 rfl mv_law_72 (ct_GR_putOff V _ σ (ys (nI i + 1).toNatClampNeg) hx) rfl rfl ⟨Nat.le_of_ble_eq_true rfl, Nat.le_of_ble_eq_true rfl⟩ ⟨rfl, rfl⟩ (Nat.le_of_ble_eq_true rfl) rfl ?_
  refine J_aload_n (pc' := 658) d_law_657 rfl 2 rfl ?_
  refine J_aload_n (pc' := 659) d_law_658 rfl 0 rfl ?_
  refine J_iload_n (pc' := 660) d_law_659 rfl 3 rfl ?_
  refine J_iconst (pc' := 661) (v := 1) d_law_660 rfl ic_1 ?_
  refine J_iadd (pc' := 662) d_law_661 rfl ?_
  refine J_sld (pc' := 663) hB d_law_662 rfl (vin_k (k := 1) hi hL (by decide) rfl) ?_
  refine J_V (pc' := 666) (as := [.int (ys (nI i + 1).toNatClampNeg)]) (rest := [.int r]) (st' := [.int r, .int r]) d_law_663 rfl sh_66 rfl mv_law_75 (ct_Md_putOff V _ σ1 (ys (nI i + 1).toNatClampNeg) hm) rfl rfl ⟨Nat.le_of_ble_eq_true rfl, Nat.le_of_ble_eq_true rfl⟩ ⟨rfl, rfl⟩ (Nat.le_of_ble_eq_true rfl) rfl ?_
  refine J_icmp_eq (pc' := 669) (tgt := 1296) d_law_666 rfl (by decide) (fun _ => kk _ hR2) (fun h => absurd rfl h)
set_option maxHeartbeats 4000000 in
theorem lc_frayed {V : Vx} {X : Xx} {Q : State → Prop} {B L i : Nat} {ys : Nat → Int32} {Rel : Sg → Prop} (hE : E_frayed Rel) (hB : Scr V X B L ys) (hi : i + 6 ≤ L) (hL : L ≤ 3072) {σ : Sg} (hR : Rel σ) (kk : ∀ σ2, Rel σ2 → JL V X Q σ2 1296 (lawlv V B i) []) : JL V X Q σ 671 (lawlv V B i) [] := by
  obtain ⟨r, σ2, hx, hm, hR2⟩ := hE σ (ys (nI i + 1).toNatClampNeg) (ys (nI i + 2).toNatClampNeg) hR
  refine J_aload_n (pc' := 672) d_law_671 rfl 1 rfl ?_
  refine J_aload_n (pc' := 673) d_law_672 rfl 0 rfl ?_
  refine J_iload_n (pc' := 674) d_law_673 rfl 3 rfl ?_
  refine J_iconst (pc' := 675) (v := 1) d_law_674 rfl ic_1 ?_
  refine J_iadd (pc' := 676) d_law_675 rfl ?_
  refine J_sld (pc' := 677) hB d_law_676 rfl (vin_k (k := 1) hi hL (by decide) rfl) ?_
  refine J_aload_n (pc' := 678) d_law_677 rfl 0 rfl ?_
  refine J_iload_n (pc' := 679) d_law_678 rfl 3 rfl ?_
  refine J_iconst (pc' := 680) (v := 2) d_law_679 rfl ic_2 ?_
  refine J_iadd (pc' := 681) d_law_680 rfl ?_
  refine J_sld (pc' := 682) hB d_law_681 rfl (vin_k (k := 2) hi hL (by decide) rfl) ?_
  refine J_V (pc' := 685) (as := [.int (ys (nI i + 1).toNatClampNeg), .int (ys (nI i + 2).toNatClampNeg)]) (rest := []) (st' := [.int r]) d_law_682 rfl sh_0 rfl mv_law_76 (ct_GR_frayed V _ σ (ys (nI i + 1).toNatClampNeg) (ys (nI i + 2).toNatClampNeg) hx) rfl rfl ⟨Nat.le_of_ble_eq_true rfl, Nat.le_of_ble_eq_true rfl⟩ ⟨rfl, rfl⟩ (Nat.le_of_ble_eq_true rfl) rfl ?_
  refine J_aload_n (pc' := 686) d_law_685 rfl 2 rfl ?_
  refine J_aload_n (pc' := 687) d_law_686 rfl 0 rfl ?_
  refine J_iload_n (pc' := 688) d_law_687 rfl 3 rfl ?_
  refine J_iconst (pc' := 689) (v := 1) d_law_688 rfl ic_1 ?_
  refine J_iadd (pc' := 690) d_law_689 rfl ?_
  refine J_sld (pc' := 691) hB d_law_690 rfl (vin_k (k := 1) hi hL (by decide) rfl) ?_
  refine J_aload_n (pc' := 692) d_law_691 rfl 0 rfl ?_
  refine J_iload_n (pc' := 693) d_law_692 rfl 3 rfl ?_
  refine J_iconst (pc' := 694) (v := 2) d_law_693 rfl ic_2 ?_
  refine J_iadd (pc' := 695) d_law_694 rfl ?_
  refine J_sld (pc' := 696) hB d_law_695 rfl (vin_k (k := 2) hi hL (by decide) rfl) ?_
  refine J_V (pc' := 699) (as := [.int (ys (nI i + 1).toNatClampNeg), .int (ys (nI i + 2).toNatClampNeg)]) (rest := [.int r]) (st' := [.int r, .int r]) d_law_696 rfl sh_66 rfl mv_law_79 (ct_Md_frayed V _ σ (ys (nI i + 1).toNatClampNeg) (ys (nI i + 2).toNatClampNeg) hm) rfl rfl ⟨Nat.le_of_ble_eq_true rfl, Nat.le_of_ble_eq_true rfl⟩ ⟨rfl, rfl⟩ (Nat.le_of_ble_eq_true rfl) rfl ?_
  refine J_icmp_eq (pc' := 702) (tgt := 1296) d_law_699 rfl (by decide) (fun _ => kk _ hR2) (fun h => absurd rfl h)
set_option maxHeartbeats 4000000 in
theorem lc_yet {V : Vx} {X : Xx} {Q : State → Prop} {B L i : Nat} {ys : Nat → Int32} {Rel : Sg → Prop} (hE : E_yet Rel) (hB : Scr V X B L ys) (hi : i + 6 ≤ L) (hL : L ≤ 3072) {σ : Sg} (hR : Rel σ) (kk : ∀ σ2, Rel σ2 → JL V X Q σ2 1296 (lawlv V B i) []) : JL V X Q σ 704 (lawlv V B i) [] := by
  obtain ⟨r, σ2, hx, hm, hR2⟩ := hE σ (ys (nI i + 1).toNatClampNeg) (ys (nI i + 2).toNatClampNeg) hR
  refine J_aload_n (pc' := 705) d_law_704 rfl 1 rfl ?_
  refine J_aload_n (pc' := 706) d_law_705 rfl 0 rfl ?_
  refine J_iload_n (pc' := 707) d_law_706 rfl 3 rfl ?_
  refine J_iconst (pc' := 708) (v := 1) d_law_707 rfl ic_1 ?_
  refine J_iadd (pc' := 709) d_law_708 rfl ?_
  refine J_sld (pc' := 710) hB d_law_709 rfl (vin_k (k := 1) hi hL (by decide) rfl) ?_
  refine J_aload_n (pc' := 711) d_law_710 rfl 0 rfl ?_
  refine J_iload_n (pc' := 712) d_law_711 rfl 3 rfl ?_
  refine J_iconst (pc' := 713) (v := 2) d_law_712 rfl ic_2 ?_
  refine J_iadd (pc' := 714) d_law_713 rfl ?_
  refine J_sld (pc' := 715) hB d_law_714 rfl (vin_k (k := 2) hi hL (by decide) rfl) ?_
  refine J_V (pc' := 718) (as := [.int (ys (nI i + 1).toNatClampNeg), .int (ys (nI i + 2).toNatClampNeg)]) (rest := []) (st' := [.int r]) d_law_715 rfl sh_0 rfl mv_law_80 (ct_GR_yet V _ σ (ys (nI i + 1).toNatClampNeg) (ys (nI i + 2).toNatClampNeg) hx) rfl rfl ⟨Nat.le_of_ble_eq_true rfl, Nat.le_of_ble_eq_true rfl⟩ ⟨rfl, rfl⟩ (Nat.le_of_ble_eq_true rfl) rfl ?_
  refine J_aload_n (pc' := 719) d_law_718 rfl 2 rfl ?_
  refine J_aload_n (pc' := 720) d_law_719 rfl 0 rfl ?_
  refine J_iload_n (pc' := 721) d_law_720 rfl 3 rfl ?_
  refine J_iconst (pc' := 722) (v := 1) d_law_721 rfl ic_1 ?_
  refine J_iadd (pc' := 723) d_law_722 rfl ?_
  refine J_sld (pc' := 724) hB d_law_723 rfl (vin_k (k := 1) hi hL (by decide) rfl) ?_
  refine J_aload_n (pc' := 725) d_law_724 rfl 0 rfl ?_
  refine J_iload_n (pc' := 726) d_law_725 rfl 3 rfl ?_
  refine J_iconst (pc' := 727) (v := 2) d_law_726 rfl ic_2 ?_
  refine J_iadd (pc' := 728) d_law_727 rfl ?_
  refine J_sld (pc' := 729) hB d_law_728 rfl (vin_k (k := 2) hi hL (by decide) rfl) ?_
  refine J_V (pc' := 732) (as := [.int (ys (nI i + 1).toNatClampNeg), .int (ys (nI i + 2).toNatClampNeg)]) (rest := [.int r]) (st' := [.int r, .int r]) d_law_729 rfl sh_66 rfl mv_law_83 (ct_Md_yet V _ σ (ys (nI i + 1).toNatClampNeg) (ys (nI i + 2).toNatClampNeg) hm) rfl rfl ⟨Nat.le_of_ble_eq_true rfl, Nat.le_of_ble_eq_true rfl⟩ ⟨rfl, rfl⟩ (Nat.le_of_ble_eq_true rfl) rfl ?_
  refine J_icmp_eq (pc' := 735) (tgt := 1296) d_law_732 rfl (by decide) (fun _ => kk _ hR2) (fun h => absurd rfl h)
set_option maxHeartbeats 4000000 in
theorem lc_heavy {V : Vx} {X : Xx} {Q : State → Prop} {B L i : Nat} {ys : Nat → Int32} {Rel : Sg → Prop} (hE : E_heavy Rel) (hB : Scr V X B L ys) (hi : i + 6 ≤ L) (hL : L ≤ 3072) {σ : Sg} (hR : Rel σ) (kk : ∀ σ2, Rel σ2 → JL V X Q σ2 1296 (lawlv V B i) []) : JL V X Q σ 737 (lawlv V B i) [] := by
  obtain ⟨r, σ2, hx, hm, hR2⟩ := hE σ  hR
  refine J_aload_n (pc' := 738) d_law_737 rfl 1 rfl ?_
  refine J_V (pc' := 741) (as := []) (rest := []) (st' := [.int r]) d_law_738 rfl sh_0 rfl mv_law_84 (ct_GR_heavy V _ σ  hx) rfl rfl ⟨Nat.le_of_ble_eq_true rfl, Nat.le_of_ble_eq_true rfl⟩ ⟨rfl, rfl⟩ (Nat.le_of_ble_eq_true rfl) rfl ?_
  refine J_aload_n (pc' := 742) d_law_741 rfl 2 rfl ?_
  refine J_V (pc' := 745) (as := []) (rest := [.int r]) (st' := [.int r, .int r]) d_law_742 rfl sh_66 rfl mv_law_87 (ct_Md_heavy V _ σ  hm) rfl rfl ⟨Nat.le_of_ble_eq_true rfl, Nat.le_of_ble_eq_true rfl⟩ ⟨rfl, rfl⟩ (Nat.le_of_ble_eq_true rfl) rfl ?_
  refine J_icmp_eq (pc' := 748) (tgt := 1296) d_law_745 rfl (by decide) (fun _ => kk _ hR2) (fun h => absurd rfl h)
set_option maxHeartbeats 4000000 in
theorem lc_wind {V : Vx} {X : Xx} {Q : State → Prop} {B L i : Nat} {ys : Nat → Int32} {Rel : Sg → Prop} (hE : E_wind Rel) (hB : Scr V X B L ys) (hi : i + 6 ≤ L) (hL : L ≤ 3072) {σ : Sg} (hR : Rel σ) (kk : ∀ σ2, Rel σ2 → JL V X Q σ2 1296 (lawlv V B i) []) : JL V X Q σ 750 (lawlv V B i) [] := by
  obtain ⟨r, σ1, σ2, hx, hm, hR2⟩ := hE σ (ys (nI i + 1).toNatClampNeg) hR
  refine J_aload_n (pc' := 751) d_law_750 rfl 1 rfl ?_
  refine J_aload_n (pc' := 752) d_law_751 rfl 0 rfl ?_
  refine J_iload_n (pc' := 753) d_law_752 rfl 3 rfl ?_
  refine J_iconst (pc' := 754) (v := 1) d_law_753 rfl ic_1 ?_
  refine J_iadd (pc' := 755) d_law_754 rfl ?_
  refine J_sld (pc' := 756) hB d_law_755 rfl (vin_k (k := 1) hi hL (by decide) rfl) ?_
  refine J_V (pc' := 759) (as := [.int (ys (nI i + 1).toNatClampNeg)]) (rest := []) (st' := [.int r]) d_law_756 rfl sh_0 rfl mv_law_88 (ct_GR_wind V _ σ (ys (nI i + 1).toNatClampNeg) hx) rfl rfl ⟨Nat.le_of_ble_eq_true rfl, Nat.le_of_ble_eq_true rfl⟩ ⟨rfl, rfl⟩ (Nat.le_of_ble_eq_true rfl) rfl ?_
  refine J_aload_n (pc' := 760) d_law_759 rfl 2 rfl ?_
  refine J_aload_n (pc' := 761) d_law_760 rfl 0 rfl ?_
  refine J_iload_n (pc' := 762) d_law_761 rfl 3 rfl ?_
  refine J_iconst (pc' := 763) (v := 1) d_law_762 rfl ic_1 ?_
  refine J_iadd (pc' := 764) d_law_763 rfl ?_
  refine J_sld (pc' := 765) hB d_law_764 rfl (vin_k (k := 1) hi hL (by decide) rfl) ?_
  refine J_V (pc' := 768) (as := [.int (ys (nI i + 1).toNatClampNeg)]) (rest := [.int r]) (st' := [.int r, .int r]) d_law_765 rfl sh_66 rfl mv_law_91 (ct_Md_wind V _ σ1 (ys (nI i + 1).toNatClampNeg) hm) rfl rfl ⟨Nat.le_of_ble_eq_true rfl, Nat.le_of_ble_eq_true rfl⟩ ⟨rfl, rfl⟩ (Nat.le_of_ble_eq_true rfl) rfl ?_
  refine J_icmp_eq (pc' := 771) (tgt := 1296) d_law_768 rfl (by decide) (fun _ => kk _ hR2) (fun h => absurd rfl h)
set_option maxHeartbeats 4000000 in
theorem lc_part {V : Vx} {X : Xx} {Q : State → Prop} {B L i : Nat} {ys : Nat → Int32} {Rel : Sg → Prop} (hE : E_part Rel) (hB : Scr V X B L ys) (hi : i + 6 ≤ L) (hL : L ≤ 3072) {σ : Sg} (hR : Rel σ) (kk : ∀ σ2, Rel σ2 → JL V X Q σ2 1296 (lawlv V B i) []) : JL V X Q σ 773 (lawlv V B i) [] := by
  obtain ⟨r, σ1, σ2, hx, hm, hR2⟩ := hE σ (ys (nI i + 1).toNatClampNeg) (ys (nI i + 2).toNatClampNeg) hR
  refine J_aload_n (pc' := 774) d_law_773 rfl 1 rfl ?_
  refine J_aload_n (pc' := 775) d_law_774 rfl 0 rfl ?_
  refine J_iload_n (pc' := 776) d_law_775 rfl 3 rfl ?_
  refine J_iconst (pc' := 777) (v := 1) d_law_776 rfl ic_1 ?_
  refine J_iadd (pc' := 778) d_law_777 rfl ?_
  refine J_sld (pc' := 779) hB d_law_778 rfl (vin_k (k := 1) hi hL (by decide) rfl) ?_
  refine J_aload_n (pc' := 780) d_law_779 rfl 0 rfl ?_
  refine J_iload_n (pc' := 781) d_law_780 rfl 3 rfl ?_
  refine J_iconst (pc' := 782) (v := 2) d_law_781 rfl ic_2 ?_
  refine J_iadd (pc' := 783) d_law_782 rfl ?_
  refine J_sld (pc' := 784) hB d_law_783 rfl (vin_k (k := 2) hi hL (by decide) rfl) ?_
  refine J_V (pc' := 787) (as := [.int (ys (nI i + 1).toNatClampNeg), .int (ys (nI i + 2).toNatClampNeg)]) (rest := []) (st' := [.int r]) d_law_784 rfl sh_0 rfl mv_law_92 (ct_GR_part V _ σ (ys (nI i + 1).toNatClampNeg) (ys (nI i + 2).toNatClampNeg) hx) rfl rfl ⟨Nat.le_of_ble_eq_true rfl, Nat.le_of_ble_eq_true rfl⟩ ⟨rfl, rfl⟩ (Nat.le_of_ble_eq_true rfl) rfl ?_
  refine J_aload_n (pc' := 788) d_law_787 rfl 2 rfl ?_
  refine J_aload_n (pc' := 789) d_law_788 rfl 0 rfl ?_
  refine J_iload_n (pc' := 790) d_law_789 rfl 3 rfl ?_
  refine J_iconst (pc' := 791) (v := 1) d_law_790 rfl ic_1 ?_
  refine J_iadd (pc' := 792) d_law_791 rfl ?_
  refine J_sld (pc' := 793) hB d_law_792 rfl (vin_k (k := 1) hi hL (by decide) rfl) ?_
  refine J_aload_n (pc' := 794) d_law_793 rfl 0 rfl ?_
  refine J_iload_n (pc' := 795) d_law_794 rfl 3 rfl ?_
  refine J_iconst (pc' := 796) (v := 2) d_law_795 rfl ic_2 ?_
  refine J_iadd (pc' := 797) d_law_796 rfl ?_
  refine J_sld (pc' := 798) hB d_law_797 rfl (vin_k (k := 2) hi hL (by decide) rfl) ?_
  refine J_V (pc' := 801) (as := [.int (ys (nI i + 1).toNatClampNeg), .int (ys (nI i + 2).toNatClampNeg)]) (rest := [.int r]) (st' := [.int r, .int r]) d_law_798 rfl sh_66 rfl mv_law_95 (ct_Md_part V _ σ1 (ys (nI i + 1).toNatClampNeg) (ys (nI i + 2).toNatClampNeg) hm) rfl rfl ⟨Nat.le_of_ble_eq_true rfl, Nat.le_of_ble_eq_true rfl⟩ ⟨rfl, rfl⟩ (Nat.le_of_ble_eq_true rfl) rfl ?_
  refine J_icmp_eq (pc' := 804) (tgt := 1296) d_law_801 rfl (by decide) (fun _ => kk _ hR2) (fun h => absurd rfl h)
set_option maxHeartbeats 4000000 in
theorem lc_gone {V : Vx} {X : Xx} {Q : State → Prop} {B L i : Nat} {ys : Nat → Int32} {Rel : Sg → Prop} (hE : E_gone Rel) (hB : Scr V X B L ys) (hi : i + 6 ≤ L) (hL : L ≤ 3072) {σ : Sg} (hR : Rel σ) (kk : ∀ σ2, Rel σ2 → JL V X Q σ2 1296 (lawlv V B i) []) : JL V X Q σ 806 (lawlv V B i) [] := by
  obtain ⟨r, σ1, σ2, hx, hm, hR2⟩ := hE σ  hR
  refine J_aload_n (pc' := 807) d_law_806 rfl 1 rfl ?_
  refine J_V (pc' := 810) (as := []) (rest := []) (st' := [.int r]) d_law_807 rfl sh_0 rfl mv_law_96 (ct_GR_gone V _ σ  hx) rfl rfl ⟨Nat.le_of_ble_eq_true rfl, Nat.le_of_ble_eq_true rfl⟩ ⟨rfl, rfl⟩ (Nat.le_of_ble_eq_true rfl) rfl ?_
  refine J_aload_n (pc' := 811) d_law_810 rfl 2 rfl ?_
  refine J_V (pc' := 814) (as := []) (rest := [.int r]) (st' := [.int r, .int r]) d_law_811 rfl sh_66 rfl mv_law_99 (ct_Md_gone V _ σ1  hm) rfl rfl ⟨Nat.le_of_ble_eq_true rfl, Nat.le_of_ble_eq_true rfl⟩ ⟨rfl, rfl⟩ (Nat.le_of_ble_eq_true rfl) rfl ?_
  refine J_icmp_eq (pc' := 817) (tgt := 1296) d_law_814 rfl (by decide) (fun _ => kk _ hR2) (fun h => absurd rfl h)
set_option maxHeartbeats 4000000 in
theorem lc_sent {V : Vx} {X : Xx} {Q : State → Prop} {B L i : Nat} {ys : Nat → Int32} {Rel : Sg → Prop} (hE : E_sent Rel) (hB : Scr V X B L ys) (hi : i + 6 ≤ L) (hL : L ≤ 3072) {σ : Sg} (hR : Rel σ) (kk : ∀ σ2, Rel σ2 → JL V X Q σ2 1296 (lawlv V B i) []) : JL V X Q σ 819 (lawlv V B i) [] := by
  obtain ⟨r, σ1, σ2, hx, hm, hR2⟩ := hE σ (ys (nI i + 1).toNatClampNeg) hR
  refine J_aload_n (pc' := 820) d_law_819 rfl 1 rfl ?_
  refine J_aload_n (pc' := 821) d_law_820 rfl 0 rfl ?_
  refine J_iload_n (pc' := 822) d_law_821 rfl 3 rfl ?_
  refine J_iconst (pc' := 823) (v := 1) d_law_822 rfl ic_1 ?_
  refine J_iadd (pc' := 824) d_law_823 rfl ?_
  refine J_sld (pc' := 825) hB d_law_824 rfl (vin_k (k := 1) hi hL (by decide) rfl) ?_
  refine J_V (pc' := 828) (as := [.int (ys (nI i + 1).toNatClampNeg)]) (rest := []) (st' := [.int r]) d_law_825 rfl sh_0 rfl mv_law_100 (ct_GR_sent V _ σ (ys (nI i + 1).toNatClampNeg) hx) rfl rfl ⟨Nat.le_of_ble_eq_true rfl, Nat.le_of_ble_eq_true rfl⟩ ⟨rfl, rfl⟩ (Nat.le_of_ble_eq_true rfl) rfl ?_
  refine J_aload_n (pc' := 829) d_law_828 rfl 2 rfl ?_
  refine J_aload_n (pc' := 830) d_law_829 rfl 0 rfl ?_
  refine J_iload_n (pc' := 831) d_law_830 rfl 3 rfl ?_
  refine J_iconst (pc' := 832) (v := 1) d_law_831 rfl ic_1 ?_
  refine J_iadd (pc' := 833) d_law_832 rfl ?_
  refine J_sld (pc' := 834) hB d_law_833 rfl (vin_k (k := 1) hi hL (by decide) rfl) ?_
  refine J_V (pc' := 837) (as := [.int (ys (nI i + 1).toNatClampNeg)]) (rest := [.int r]) (st' := [.int r, .int r]) d_law_834 rfl sh_66 rfl mv_law_103 (ct_Md_sent V _ σ1 (ys (nI i + 1).toNatClampNeg) hm) rfl rfl ⟨Nat.le_of_ble_eq_true rfl, Nat.le_of_ble_eq_true rfl⟩ ⟨rfl, rfl⟩ (Nat.le_of_ble_eq_true rfl) rfl ?_
  refine J_icmp_eq (pc' := 840) (tgt := 1296) d_law_837 rfl (by decide) (fun _ => kk _ hR2) (fun h => absurd rfl h)
set_option maxHeartbeats 4000000 in
theorem lc_cut {V : Vx} {X : Xx} {Q : State → Prop} {B L i : Nat} {ys : Nat → Int32} {Rel : Sg → Prop} (hE : E_cut Rel) (hB : Scr V X B L ys) (hi : i + 6 ≤ L) (hL : L ≤ 3072) {σ : Sg} (hR : Rel σ) (kk : ∀ σ2, Rel σ2 → JL V X Q σ2 1296 (lawlv V B i) []) : JL V X Q σ 842 (lawlv V B i) [] := by
  obtain ⟨r, σ1, σ2, hx, hm, hR2⟩ := hE σ (ys (nI i + 1).toNatClampNeg) hR
  refine J_aload_n (pc' := 843) d_law_842 rfl 1 rfl ?_
  refine J_aload_n (pc' := 844) d_law_843 rfl 0 rfl ?_
  refine J_iload_n (pc' := 845) d_law_844 rfl 3 rfl ?_
  refine J_iconst (pc' := 846) (v := 1) d_law_845 rfl ic_1 ?_
  refine J_iadd (pc' := 847) d_law_846 rfl ?_
  refine J_sld (pc' := 848) hB d_law_847 rfl (vin_k (k := 1) hi hL (by decide) rfl) ?_
  refine J_V (pc' := 851) (as := [.int (ys (nI i + 1).toNatClampNeg)]) (rest := []) (st' := [.int r]) d_law_848 rfl sh_0 rfl mv_law_104 (ct_GR_cut V _ σ (ys (nI i + 1).toNatClampNeg) hx) rfl rfl ⟨Nat.le_of_ble_eq_true rfl, Nat.le_of_ble_eq_true rfl⟩ ⟨rfl, rfl⟩ (Nat.le_of_ble_eq_true rfl) rfl ?_
  refine J_aload_n (pc' := 852) d_law_851 rfl 2 rfl ?_
  refine J_aload_n (pc' := 853) d_law_852 rfl 0 rfl ?_
  refine J_iload_n (pc' := 854) d_law_853 rfl 3 rfl ?_
  refine J_iconst (pc' := 855) (v := 1) d_law_854 rfl ic_1 ?_
  refine J_iadd (pc' := 856) d_law_855 rfl ?_
  refine J_sld (pc' := 857) hB d_law_856 rfl (vin_k (k := 1) hi hL (by decide) rfl) ?_
  refine J_V (pc' := 860) (as := [.int (ys (nI i + 1).toNatClampNeg)]) (rest := [.int r]) (st' := [.int r, .int r]) d_law_857 rfl sh_66 rfl mv_law_107 (ct_Md_cut V _ σ1 (ys (nI i + 1).toNatClampNeg) hm) rfl rfl ⟨Nat.le_of_ble_eq_true rfl, Nat.le_of_ble_eq_true rfl⟩ ⟨rfl, rfl⟩ (Nat.le_of_ble_eq_true rfl) rfl ?_
  refine J_icmp_eq (pc' := 863) (tgt := 1296) d_law_860 rfl (by decide) (fun _ => kk _ hR2) (fun h => absurd rfl h)
set_option maxHeartbeats 4000000 in
theorem lc_needed {V : Vx} {X : Xx} {Q : State → Prop} {B L i : Nat} {ys : Nat → Int32} {Rel : Sg → Prop} (hE : E_needed Rel) (hB : Scr V X B L ys) (hi : i + 6 ≤ L) (hL : L ≤ 3072) {σ : Sg} (hR : Rel σ) (kk : ∀ σ2, Rel σ2 → JL V X Q σ2 1296 (lawlv V B i) []) : JL V X Q σ 865 (lawlv V B i) [] := by
  obtain ⟨r, σ1, σ2, hx, hm, hR2⟩ := hE σ  hR
  refine J_aload_n (pc' := 866) d_law_865 rfl 1 rfl ?_
  refine J_V (pc' := 869) (as := []) (rest := []) (st' := [.int r]) d_law_866 rfl sh_0 rfl mv_law_108 (ct_GR_needed V _ σ  hx) rfl rfl ⟨Nat.le_of_ble_eq_true rfl, Nat.le_of_ble_eq_true rfl⟩ ⟨rfl, rfl⟩ (Nat.le_of_ble_eq_true rfl) rfl ?_
  refine J_aload_n (pc' := 870) d_law_869 rfl 2 rfl ?_
  refine J_V (pc' := 873) (as := []) (rest := [.int r]) (st' := [.int r, .int r]) d_law_870 rfl sh_66 rfl mv_law_111 (ct_Md_needed V _ σ1  hm) rfl rfl ⟨Nat.le_of_ble_eq_true rfl, Nat.le_of_ble_eq_true rfl⟩ ⟨rfl, rfl⟩ (Nat.le_of_ble_eq_true rfl) rfl ?_
  refine J_icmp_eq (pc' := 876) (tgt := 1296) d_law_873 rfl (by decide) (fun _ => kk _ hR2) (fun h => absurd rfl h)
set_option maxHeartbeats 4000000 in
theorem lc_pegs {V : Vx} {X : Xx} {Q : State → Prop} {B L i : Nat} {ys : Nat → Int32} {Rel : Sg → Prop} (hE : E_pegs Rel) (hB : Scr V X B L ys) (hi : i + 6 ≤ L) (hL : L ≤ 3072) {σ : Sg} (hR : Rel σ) (kk : ∀ σ2, Rel σ2 → JL V X Q σ2 1296 (lawlv V B i) []) : JL V X Q σ 878 (lawlv V B i) [] := by
  obtain ⟨r, σ1, σ2, hx, hm, hR2⟩ := hE σ (ys (nI i + 1).toNatClampNeg) (ys (nI i + 2).toNatClampNeg) (ys (nI i + 3).toNatClampNeg) (ys (nI i + 4).toNatClampNeg) hR
  refine J_aload_n (pc' := 879) d_law_878 rfl 1 rfl ?_
  refine J_aload_n (pc' := 880) d_law_879 rfl 0 rfl ?_
  refine J_iload_n (pc' := 881) d_law_880 rfl 3 rfl ?_
  refine J_iconst (pc' := 882) (v := 1) d_law_881 rfl ic_1 ?_
  refine J_iadd (pc' := 883) d_law_882 rfl ?_
  refine J_sld (pc' := 884) hB d_law_883 rfl (vin_k (k := 1) hi hL (by decide) rfl) ?_
  refine J_aload_n (pc' := 885) d_law_884 rfl 0 rfl ?_
  refine J_iload_n (pc' := 886) d_law_885 rfl 3 rfl ?_
  refine J_iconst (pc' := 887) (v := 2) d_law_886 rfl ic_2 ?_
  refine J_iadd (pc' := 888) d_law_887 rfl ?_
  refine J_sld (pc' := 889) hB d_law_888 rfl (vin_k (k := 2) hi hL (by decide) rfl) ?_
  refine J_aload_n (pc' := 890) d_law_889 rfl 0 rfl ?_
  refine J_iload_n (pc' := 891) d_law_890 rfl 3 rfl ?_
  refine J_iconst (pc' := 892) (v := 3) d_law_891 rfl ic_3 ?_
  refine J_iadd (pc' := 893) d_law_892 rfl ?_
  refine J_sld (pc' := 894) hB d_law_893 rfl (vin_k (k := 3) hi hL (by decide) rfl) ?_
  refine J_aload_n (pc' := 895) d_law_894 rfl 0 rfl ?_
  refine J_iload_n (pc' := 896) d_law_895 rfl 3 rfl ?_
  refine J_iconst (pc' := 897) (v := 4) d_law_896 rfl ic_4 ?_
  refine J_iadd (pc' := 898) d_law_897 rfl ?_
  refine J_sld (pc' := 899) hB d_law_898 rfl (vin_k (k := 4) hi hL (by decide) rfl) ?_
  refine J_V (pc' := 902) (as := [.int (ys (nI i + 1).toNatClampNeg), .int (ys (nI i + 2).toNatClampNeg), .int (ys (nI i + 3).toNatClampNeg), .int (ys (nI i + 4).toNatClampNeg)]) (rest := []) (st' := [.int r]) d_law_899 rfl sh_0 rfl mv_law_112 (ct_GR_pegs V _ σ (ys (nI i + 1).toNatClampNeg) (ys (nI i + 2).toNatClampNeg) (ys (nI i + 3).toNatClampNeg) (ys (nI i + 4).toNatClampNeg) hx) rfl rfl ⟨Nat.le_of_ble_eq_true rfl, Nat.le_of_ble_eq_true rfl⟩ ⟨rfl, rfl⟩ (Nat.le_of_ble_eq_true rfl) rfl ?_
  refine J_aload_n (pc' := 903) d_law_902 rfl 2 rfl ?_
  refine J_aload_n (pc' := 904) d_law_903 rfl 0 rfl ?_
  refine J_iload_n (pc' := 905) d_law_904 rfl 3 rfl ?_
  refine J_iconst (pc' := 906) (v := 1) d_law_905 rfl ic_1 ?_
  refine J_iadd (pc' := 907) d_law_906 rfl ?_
  refine J_sld (pc' := 908) hB d_law_907 rfl (vin_k (k := 1) hi hL (by decide) rfl) ?_
  refine J_aload_n (pc' := 909) d_law_908 rfl 0 rfl ?_
  refine J_iload_n (pc' := 910) d_law_909 rfl 3 rfl ?_
  refine J_iconst (pc' := 911) (v := 2) d_law_910 rfl ic_2 ?_
  refine J_iadd (pc' := 912) d_law_911 rfl ?_
  refine J_sld (pc' := 913) hB d_law_912 rfl (vin_k (k := 2) hi hL (by decide) rfl) ?_
  refine J_aload_n (pc' := 914) d_law_913 rfl 0 rfl ?_
  refine J_iload_n (pc' := 915) d_law_914 rfl 3 rfl ?_
  refine J_iconst (pc' := 916) (v := 3) d_law_915 rfl ic_3 ?_
  refine J_iadd (pc' := 917) d_law_916 rfl ?_
  refine J_sld (pc' := 918) hB d_law_917 rfl (vin_k (k := 3) hi hL (by decide) rfl) ?_
  refine J_aload_n (pc' := 919) d_law_918 rfl 0 rfl ?_
  refine J_iload_n (pc' := 920) d_law_919 rfl 3 rfl ?_
  refine J_iconst (pc' := 921) (v := 4) d_law_920 rfl ic_4 ?_
  refine J_iadd (pc' := 922) d_law_921 rfl ?_
  refine J_sld (pc' := 923) hB d_law_922 rfl (vin_k (k := 4) hi hL (by decide) rfl) ?_
  refine J_V (pc' := 926) (as := [.int (ys (nI i + 1).toNatClampNeg), .int (ys (nI i + 2).toNatClampNeg), .int (ys (nI i + 3).toNatClampNeg), .int (ys (nI i + 4).toNatClampNeg)]) (rest := [.int r]) (st' := [.int r, .int r]) d_law_923 rfl sh_66 rfl mv_law_115 (ct_Md_pegs V _ σ1 (ys (nI i + 1).toNatClampNeg) (ys (nI i + 2).toNatClampNeg) (ys (nI i + 3).toNatClampNeg) (ys (nI i + 4).toNatClampNeg) hm) rfl rfl ⟨Nat.le_of_ble_eq_true rfl, Nat.le_of_ble_eq_true rfl⟩ ⟨rfl, rfl⟩ (Nat.le_of_ble_eq_true rfl) rfl ?_
  refine J_icmp_eq (pc' := 929) (tgt := 1296) d_law_926 rfl (by decide) (fun _ => kk _ hR2) (fun h => absurd rfl h)
set_option maxHeartbeats 4000000 in
theorem lc_balance {V : Vx} {X : Xx} {Q : State → Prop} {B L i : Nat} {ys : Nat → Int32} {Rel : Sg → Prop} (hE : E_balance Rel) (hB : Scr V X B L ys) (hi : i + 6 ≤ L) (hL : L ≤ 3072) {σ : Sg} (hR : Rel σ) (kk : ∀ σ2, Rel σ2 → JL V X Q σ2 1296 (lawlv V B i) []) : JL V X Q σ 931 (lawlv V B i) [] := by
  obtain ⟨r, σ2, hx, hm, hR2⟩ := hE σ (ys (nI i + 1).toNatClampNeg) hR
  refine J_aload_n (pc' := 932) d_law_931 rfl 1 rfl ?_
  refine J_aload_n (pc' := 933) d_law_932 rfl 0 rfl ?_
  refine J_iload_n (pc' := 934) d_law_933 rfl 3 rfl ?_
  refine J_iconst (pc' := 935) (v := 1) d_law_934 rfl ic_1 ?_
  refine J_iadd (pc' := 936) d_law_935 rfl ?_
  refine J_sld (pc' := 937) hB d_law_936 rfl (vin_k (k := 1) hi hL (by decide) rfl) ?_
  refine J_V (pc' := 940) (as := [.int (ys (nI i + 1).toNatClampNeg)]) (rest := []) (st' := [.int r]) d_law_937 rfl sh_0 rfl mv_law_116 (ct_GR_balance V _ σ (ys (nI i + 1).toNatClampNeg) hx) rfl rfl ⟨Nat.le_of_ble_eq_true rfl, Nat.le_of_ble_eq_true rfl⟩ ⟨rfl, rfl⟩ (Nat.le_of_ble_eq_true rfl) rfl ?_
  refine J_aload_n (pc' := 941) d_law_940 rfl 2 rfl ?_
  refine J_aload_n (pc' := 942) d_law_941 rfl 0 rfl ?_
  refine J_iload_n (pc' := 943) d_law_942 rfl 3 rfl ?_
  refine J_iconst (pc' := 944) (v := 1) d_law_943 rfl ic_1 ?_
  refine J_iadd (pc' := 945) d_law_944 rfl ?_
  refine J_sld (pc' := 946) hB d_law_945 rfl (vin_k (k := 1) hi hL (by decide) rfl) ?_
  refine J_V (pc' := 949) (as := [.int (ys (nI i + 1).toNatClampNeg)]) (rest := [.int r]) (st' := [.int r, .int r]) d_law_946 rfl sh_66 rfl mv_law_119 (ct_Md_balance V _ σ (ys (nI i + 1).toNatClampNeg) hm) rfl rfl ⟨Nat.le_of_ble_eq_true rfl, Nat.le_of_ble_eq_true rfl⟩ ⟨rfl, rfl⟩ (Nat.le_of_ble_eq_true rfl) rfl ?_
  refine J_icmp_eq (pc' := 952) (tgt := 1296) d_law_949 rfl (by decide) (fun _ => kk _ hR2) (fun h => absurd rfl h)
set_option maxHeartbeats 4000000 in
theorem lc_settled {V : Vx} {X : Xx} {Q : State → Prop} {B L i : Nat} {ys : Nat → Int32} {Rel : Sg → Prop} (hE : E_settled Rel) (hB : Scr V X B L ys) (hi : i + 6 ≤ L) (hL : L ≤ 3072) {σ : Sg} (hR : Rel σ) (kk : ∀ σ2, Rel σ2 → JL V X Q σ2 1296 (lawlv V B i) []) : JL V X Q σ 954 (lawlv V B i) [] := by
  obtain ⟨r, σ1, σ2, hx, hm, hR2⟩ := hE σ  hR
  refine J_aload_n (pc' := 955) d_law_954 rfl 1 rfl ?_
  refine J_V (pc' := 958) (as := []) (rest := []) (st' := [.int r]) d_law_955 rfl sh_0 rfl mv_law_120 (ct_GR_settled V _ σ  hx) rfl rfl ⟨Nat.le_of_ble_eq_true rfl, Nat.le_of_ble_eq_true rfl⟩ ⟨rfl, rfl⟩ (Nat.le_of_ble_eq_true rfl) rfl ?_
  refine J_aload_n (pc' := 959) d_law_958 rfl 2 rfl ?_
  refine J_V (pc' := 962) (as := []) (rest := [.int r]) (st' := [.int r, .int r]) d_law_959 rfl sh_66 rfl mv_law_123 (ct_Md_settled V _ σ1  hm) rfl rfl ⟨Nat.le_of_ble_eq_true rfl, Nat.le_of_ble_eq_true rfl⟩ ⟨rfl, rfl⟩ (Nat.le_of_ble_eq_true rfl) rfl ?_
  refine J_icmp_eq (pc' := 965) (tgt := 1296) d_law_962 rfl (by decide) (fun _ => kk _ hR2) (fun h => absurd rfl h)
set_option maxHeartbeats 4000000 in
theorem lc_knots {V : Vx} {X : Xx} {Q : State → Prop} {B L i : Nat} {ys : Nat → Int32} {Rel : Sg → Prop} (hE : E_knots Rel) (hB : Scr V X B L ys) (hi : i + 6 ≤ L) (hL : L ≤ 3072) {σ : Sg} (hR : Rel σ) (kk : ∀ σ2, Rel σ2 → JL V X Q σ2 1296 (lawlv V B i) []) : JL V X Q σ 967 (lawlv V B i) [] := by
  obtain ⟨r, σ1, σ2, hx, hm, hR2⟩ := hE σ (ys (nI i + 1).toNatClampNeg) (ys (nI i + 2).toNatClampNeg) (ys (nI i + 3).toNatClampNeg) hR
  refine J_aload_n (pc' := 968) d_law_967 rfl 1 rfl ?_
  refine J_aload_n (pc' := 969) d_law_968 rfl 0 rfl ?_
  refine J_iload_n (pc' := 970) d_law_969 rfl 3 rfl ?_
  refine J_iconst (pc' := 971) (v := 1) d_law_970 rfl ic_1 ?_
  refine J_iadd (pc' := 972) d_law_971 rfl ?_
  refine J_sld (pc' := 973) hB d_law_972 rfl (vin_k (k := 1) hi hL (by decide) rfl) ?_
  refine J_aload_n (pc' := 974) d_law_973 rfl 0 rfl ?_
  refine J_iload_n (pc' := 975) d_law_974 rfl 3 rfl ?_
  refine J_iconst (pc' := 976) (v := 2) d_law_975 rfl ic_2 ?_
  refine J_iadd (pc' := 977) d_law_976 rfl ?_
  refine J_sld (pc' := 978) hB d_law_977 rfl (vin_k (k := 2) hi hL (by decide) rfl) ?_
  refine J_aload_n (pc' := 979) d_law_978 rfl 0 rfl ?_
  refine J_iload_n (pc' := 980) d_law_979 rfl 3 rfl ?_
  refine J_iconst (pc' := 981) (v := 3) d_law_980 rfl ic_3 ?_
  refine J_iadd (pc' := 982) d_law_981 rfl ?_
  refine J_sld (pc' := 983) hB d_law_982 rfl (vin_k (k := 3) hi hL (by decide) rfl) ?_
  refine J_V (pc' := 986) (as := [.int (ys (nI i + 1).toNatClampNeg), .int (ys (nI i + 2).toNatClampNeg), .int (ys (nI i + 3).toNatClampNeg)]) (rest := []) (st' := [.long r]) d_law_983 rfl sh_0 rfl mv_law_124 (ct_GR_knots V _ σ (ys (nI i + 1).toNatClampNeg) (ys (nI i + 2).toNatClampNeg) (ys (nI i + 3).toNatClampNeg) hx) rfl rfl ⟨Nat.le_of_ble_eq_true rfl, Nat.le_of_ble_eq_true rfl⟩ ⟨rfl, rfl⟩ (Nat.le_of_ble_eq_true rfl) rfl ?_
  refine J_aload_n (pc' := 987) d_law_986 rfl 2 rfl ?_
  refine J_aload_n (pc' := 988) d_law_987 rfl 0 rfl ?_
  refine J_iload_n (pc' := 989) d_law_988 rfl 3 rfl ?_
  refine J_iconst (pc' := 990) (v := 1) d_law_989 rfl ic_1 ?_
  refine J_iadd (pc' := 991) d_law_990 rfl ?_
  refine J_sld (pc' := 992) hB d_law_991 rfl (vin_k (k := 1) hi hL (by decide) rfl) ?_
  refine J_aload_n (pc' := 993) d_law_992 rfl 0 rfl ?_
  refine J_iload_n (pc' := 994) d_law_993 rfl 3 rfl ?_
  refine J_iconst (pc' := 995) (v := 2) d_law_994 rfl ic_2 ?_
  refine J_iadd (pc' := 996) d_law_995 rfl ?_
  refine J_sld (pc' := 997) hB d_law_996 rfl (vin_k (k := 2) hi hL (by decide) rfl) ?_
  refine J_aload_n (pc' := 998) d_law_997 rfl 0 rfl ?_
  refine J_iload_n (pc' := 999) d_law_998 rfl 3 rfl ?_
  refine J_iconst (pc' := 1000) (v := 3) d_law_999 rfl ic_3 ?_
  refine J_iadd (pc' := 1001) d_law_1000 rfl ?_
  refine J_sld (pc' := 1002) hB d_law_1001 rfl (vin_k (k := 3) hi hL (by decide) rfl) ?_
  refine J_V (pc' := 1005) (as := [.int (ys (nI i + 1).toNatClampNeg), .int (ys (nI i + 2).toNatClampNeg), .int (ys (nI i + 3).toNatClampNeg)]) (rest := [.long r]) (st' := [.long r, .long r]) d_law_1002 rfl sh_66 rfl mv_law_128 (ct_Md_knots V _ σ1 (ys (nI i + 1).toNatClampNeg) (ys (nI i + 2).toNatClampNeg) (ys (nI i + 3).toNatClampNeg) hm) rfl rfl ⟨Nat.le_of_ble_eq_true rfl, Nat.le_of_ble_eq_true rfl⟩ ⟨rfl, rfl⟩ (Nat.le_of_ble_eq_true rfl) rfl ?_
  refine J_lcmp (pc' := 1006) d_law_1005 rfl ?_
  refine J_if_eq (pc' := 1009) (tgt := 1296) d_law_1006 rfl (by decide) (fun _ => kk _ hR2) (fun h => absurd (lg_cmp_self r) h)
set_option maxHeartbeats 4000000 in
theorem lc_sheet {V : Vx} {X : Xx} {Q : State → Prop} {B L i : Nat} {ys : Nat → Int32} {Rel : Sg → Prop} (hE : E_sheet Rel) (hB : Scr V X B L ys) (hi : i + 6 ≤ L) (hL : L ≤ 3072) {σ : Sg} (hR : Rel σ) (kk : ∀ σ2, Rel σ2 → JL V X Q σ2 1296 (lawlv V B i) []) : JL V X Q σ 1011 (lawlv V B i) [] := by
  obtain ⟨r, σ1, σ2, hx, hm, hR2⟩ := hE σ (ys (nI i + 1).toNatClampNeg) (ys (nI i + 2).toNatClampNeg) (ys (nI i + 3).toNatClampNeg) hR
  refine J_aload_n (pc' := 1012) d_law_1011 rfl 1 rfl ?_
  refine J_aload_n (pc' := 1013) d_law_1012 rfl 0 rfl ?_
  refine J_iload_n (pc' := 1014) d_law_1013 rfl 3 rfl ?_
  refine J_iconst (pc' := 1015) (v := 1) d_law_1014 rfl ic_1 ?_
  refine J_iadd (pc' := 1016) d_law_1015 rfl ?_
  refine J_sld (pc' := 1017) hB d_law_1016 rfl (vin_k (k := 1) hi hL (by decide) rfl) ?_
  refine J_aload_n (pc' := 1018) d_law_1017 rfl 0 rfl ?_
  refine J_iload_n (pc' := 1019) d_law_1018 rfl 3 rfl ?_
  refine J_iconst (pc' := 1020) (v := 2) d_law_1019 rfl ic_2 ?_
  refine J_iadd (pc' := 1021) d_law_1020 rfl ?_
  refine J_sld (pc' := 1022) hB d_law_1021 rfl (vin_k (k := 2) hi hL (by decide) rfl) ?_
  refine J_aload_n (pc' := 1023) d_law_1022 rfl 0 rfl ?_
  refine J_iload_n (pc' := 1024) d_law_1023 rfl 3 rfl ?_
  refine J_iconst (pc' := 1025) (v := 3) d_law_1024 rfl ic_3 ?_
  refine J_iadd (pc' := 1026) d_law_1025 rfl ?_
  refine J_sld (pc' := 1027) hB d_law_1026 rfl (vin_k (k := 3) hi hL (by decide) rfl) ?_
  refine J_V (pc' := 1030) (as := [.int (ys (nI i + 1).toNatClampNeg), .int (ys (nI i + 2).toNatClampNeg), .int (ys (nI i + 3).toNatClampNeg)]) (rest := []) (st' := [.int r]) d_law_1027 rfl sh_0 rfl mv_law_129 (ct_GR_sheet V _ σ (ys (nI i + 1).toNatClampNeg) (ys (nI i + 2).toNatClampNeg) (ys (nI i + 3).toNatClampNeg) hx) rfl rfl ⟨Nat.le_of_ble_eq_true rfl, Nat.le_of_ble_eq_true rfl⟩ ⟨rfl, rfl⟩ (Nat.le_of_ble_eq_true rfl) rfl ?_
  refine J_aload_n (pc' := 1031) d_law_1030 rfl 2 rfl ?_
  refine J_aload_n (pc' := 1032) d_law_1031 rfl 0 rfl ?_
  refine J_iload_n (pc' := 1033) d_law_1032 rfl 3 rfl ?_
  refine J_iconst (pc' := 1034) (v := 1) d_law_1033 rfl ic_1 ?_
  refine J_iadd (pc' := 1035) d_law_1034 rfl ?_
  refine J_sld (pc' := 1036) hB d_law_1035 rfl (vin_k (k := 1) hi hL (by decide) rfl) ?_
  refine J_aload_n (pc' := 1037) d_law_1036 rfl 0 rfl ?_
  refine J_iload_n (pc' := 1038) d_law_1037 rfl 3 rfl ?_
  refine J_iconst (pc' := 1039) (v := 2) d_law_1038 rfl ic_2 ?_
  refine J_iadd (pc' := 1040) d_law_1039 rfl ?_
  refine J_sld (pc' := 1041) hB d_law_1040 rfl (vin_k (k := 2) hi hL (by decide) rfl) ?_
  refine J_aload_n (pc' := 1042) d_law_1041 rfl 0 rfl ?_
  refine J_iload_n (pc' := 1043) d_law_1042 rfl 3 rfl ?_
  refine J_iconst (pc' := 1044) (v := 3) d_law_1043 rfl ic_3 ?_
  refine J_iadd (pc' := 1045) d_law_1044 rfl ?_
  refine J_sld (pc' := 1046) hB d_law_1045 rfl (vin_k (k := 3) hi hL (by decide) rfl) ?_
  refine J_V (pc' := 1049) (as := [.int (ys (nI i + 1).toNatClampNeg), .int (ys (nI i + 2).toNatClampNeg), .int (ys (nI i + 3).toNatClampNeg)]) (rest := [.int r]) (st' := [.int r, .int r]) d_law_1046 rfl sh_66 rfl mv_law_132 (ct_Md_sheet V _ σ1 (ys (nI i + 1).toNatClampNeg) (ys (nI i + 2).toNatClampNeg) (ys (nI i + 3).toNatClampNeg) hm) rfl rfl ⟨Nat.le_of_ble_eq_true rfl, Nat.le_of_ble_eq_true rfl⟩ ⟨rfl, rfl⟩ (Nat.le_of_ble_eq_true rfl) rfl ?_
  refine J_icmp_eq (pc' := 1052) (tgt := 1296) d_law_1049 rfl (by decide) (fun _ => kk _ hR2) (fun h => absurd rfl h)
set_option maxHeartbeats 4000000 in
theorem lc_lose {V : Vx} {X : Xx} {Q : State → Prop} {B L i : Nat} {ys : Nat → Int32} {Rel : Sg → Prop} (hE : E_lose Rel) (hB : Scr V X B L ys) (hi : i + 6 ≤ L) (hL : L ≤ 3072) {σ : Sg} (hR : Rel σ) (kk : ∀ σ2, Rel σ2 → JL V X Q σ2 1296 (lawlv V B i) []) : JL V X Q σ 1054 (lawlv V B i) [] := by
  obtain ⟨r, σ1, σ2, hx, hm, hR2⟩ := hE σ (ys (nI i + 1).toNatClampNeg) hR
  refine J_aload_n (pc' := 1055) d_law_1054 rfl 1 rfl ?_
  refine J_aload_n (pc' := 1056) d_law_1055 rfl 0 rfl ?_
  refine J_iload_n (pc' := 1057) d_law_1056 rfl 3 rfl ?_
  refine J_iconst (pc' := 1058) (v := 1) d_law_1057 rfl ic_1 ?_
  refine J_iadd (pc' := 1059) d_law_1058 rfl ?_
  refine J_sld (pc' := 1060) hB d_law_1059 rfl (vin_k (k := 1) hi hL (by decide) rfl) ?_
  refine J_V (pc' := 1063) (as := [.int (ys (nI i + 1).toNatClampNeg)]) (rest := []) (st' := [.int r]) d_law_1060 rfl sh_0 rfl mv_law_133 (ct_GR_lose V _ σ (ys (nI i + 1).toNatClampNeg) hx) rfl rfl ⟨Nat.le_of_ble_eq_true rfl, Nat.le_of_ble_eq_true rfl⟩ ⟨rfl, rfl⟩ (Nat.le_of_ble_eq_true rfl) rfl ?_
  refine J_aload_n (pc' := 1064) d_law_1063 rfl 2 rfl ?_
  refine J_aload_n (pc' := 1065) d_law_1064 rfl 0 rfl ?_
  refine J_iload_n (pc' := 1066) d_law_1065 rfl 3 rfl ?_
  refine J_iconst (pc' := 1067) (v := 1) d_law_1066 rfl ic_1 ?_
  refine J_iadd (pc' := 1068) d_law_1067 rfl ?_
  refine J_sld (pc' := 1069) hB d_law_1068 rfl (vin_k (k := 1) hi hL (by decide) rfl) ?_
  refine J_V (pc' := 1072) (as := [.int (ys (nI i + 1).toNatClampNeg)]) (rest := [.int r]) (st' := [.int r, .int r]) d_law_1069 rfl sh_66 rfl mv_law_136 (ct_Md_lose V _ σ1 (ys (nI i + 1).toNatClampNeg) hm) rfl rfl ⟨Nat.le_of_ble_eq_true rfl, Nat.le_of_ble_eq_true rfl⟩ ⟨rfl, rfl⟩ (Nat.le_of_ble_eq_true rfl) rfl ?_
  refine J_icmp_eq (pc' := 1075) (tgt := 1296) d_law_1072 rfl (by decide) (fun _ => kk _ hR2) (fun h => absurd rfl h)
set_option maxHeartbeats 4000000 in
theorem lc_lay {V : Vx} {X : Xx} {Q : State → Prop} {B L i : Nat} {ys : Nat → Int32} {Rel : Sg → Prop} (hE : E_lay Rel) (hB : Scr V X B L ys) (hi : i + 6 ≤ L) (hL : L ≤ 3072) {σ : Sg} (hR : Rel σ) (kk : ∀ σ2, Rel σ2 → JL V X Q σ2 1296 (lawlv V B i) []) : JL V X Q σ 1077 (lawlv V B i) [] := by
  obtain ⟨r, σ1, σ2, hx, hm, hR2⟩ := hE σ (ys (nI i + 1).toNatClampNeg) (ys (nI i + 2).toNatClampNeg) (ys (nI i + 3).toNatClampNeg) (ys (nI i + 4).toNatClampNeg) hR
  refine J_aload_n (pc' := 1078) d_law_1077 rfl 1 rfl ?_
  refine J_aload_n (pc' := 1079) d_law_1078 rfl 0 rfl ?_
  refine J_iload_n (pc' := 1080) d_law_1079 rfl 3 rfl ?_
  refine J_iconst (pc' := 1081) (v := 1) d_law_1080 rfl ic_1 ?_
  refine J_iadd (pc' := 1082) d_law_1081 rfl ?_
  refine J_sld (pc' := 1083) hB d_law_1082 rfl (vin_k (k := 1) hi hL (by decide) rfl) ?_
  refine J_aload_n (pc' := 1084) d_law_1083 rfl 0 rfl ?_
  refine J_iload_n (pc' := 1085) d_law_1084 rfl 3 rfl ?_
  refine J_iconst (pc' := 1086) (v := 2) d_law_1085 rfl ic_2 ?_
  refine J_iadd (pc' := 1087) d_law_1086 rfl ?_
  refine J_sld (pc' := 1088) hB d_law_1087 rfl (vin_k (k := 2) hi hL (by decide) rfl) ?_
  refine J_aload_n (pc' := 1089) d_law_1088 rfl 0 rfl ?_
  refine J_iload_n (pc' := 1090) d_law_1089 rfl 3 rfl ?_
  refine J_iconst (pc' := 1091) (v := 3) d_law_1090 rfl ic_3 ?_
  refine J_iadd (pc' := 1092) d_law_1091 rfl ?_
  refine J_sld (pc' := 1093) hB d_law_1092 rfl (vin_k (k := 3) hi hL (by decide) rfl) ?_
  refine J_aload_n (pc' := 1094) d_law_1093 rfl 0 rfl ?_
  refine J_iload_n (pc' := 1095) d_law_1094 rfl 3 rfl ?_
  refine J_iconst (pc' := 1096) (v := 4) d_law_1095 rfl ic_4 ?_
  refine J_iadd (pc' := 1097) d_law_1096 rfl ?_
  refine J_sld (pc' := 1098) hB d_law_1097 rfl (vin_k (k := 4) hi hL (by decide) rfl) ?_
  refine J_V (pc' := 1101) (as := [.int (ys (nI i + 1).toNatClampNeg), .int (ys (nI i + 2).toNatClampNeg), .int (ys (nI i + 3).toNatClampNeg), .int (ys (nI i + 4).toNatClampNeg)]) (rest := []) (st' := [.int r]) d_law_1098 rfl sh_0 rfl mv_law_137 (ct_GR_lay V _ σ (ys (nI i + 1).toNatClampNeg) (ys (nI i + 2).toNatClampNeg) (ys (nI i + 3).toNatClampNeg) (ys (nI i + 4).toNatClampNeg) hx) rfl rfl ⟨Nat.le_of_ble_eq_true rfl, Nat.le_of_ble_eq_true rfl⟩ ⟨rfl, rfl⟩ (Nat.le_of_ble_eq_true rfl) rfl ?_
  refine J_aload_n (pc' := 1102) d_law_1101 rfl 2 rfl ?_
  refine J_aload_n (pc' := 1103) d_law_1102 rfl 0 rfl ?_
  refine J_iload_n (pc' := 1104) d_law_1103 rfl 3 rfl ?_
  refine J_iconst (pc' := 1105) (v := 1) d_law_1104 rfl ic_1 ?_
  refine J_iadd (pc' := 1106) d_law_1105 rfl ?_
  refine J_sld (pc' := 1107) hB d_law_1106 rfl (vin_k (k := 1) hi hL (by decide) rfl) ?_
  refine J_aload_n (pc' := 1108) d_law_1107 rfl 0 rfl ?_
  refine J_iload_n (pc' := 1109) d_law_1108 rfl 3 rfl ?_
  refine J_iconst (pc' := 1110) (v := 2) d_law_1109 rfl ic_2 ?_
  refine J_iadd (pc' := 1111) d_law_1110 rfl ?_
  refine J_sld (pc' := 1112) hB d_law_1111 rfl (vin_k (k := 2) hi hL (by decide) rfl) ?_
  refine J_aload_n (pc' := 1113) d_law_1112 rfl 0 rfl ?_
  refine J_iload_n (pc' := 1114) d_law_1113 rfl 3 rfl ?_
  refine J_iconst (pc' := 1115) (v := 3) d_law_1114 rfl ic_3 ?_
  refine J_iadd (pc' := 1116) d_law_1115 rfl ?_
  refine J_sld (pc' := 1117) hB d_law_1116 rfl (vin_k (k := 3) hi hL (by decide) rfl) ?_
  refine J_aload_n (pc' := 1118) d_law_1117 rfl 0 rfl ?_
  refine J_iload_n (pc' := 1119) d_law_1118 rfl 3 rfl ?_
  refine J_iconst (pc' := 1120) (v := 4) d_law_1119 rfl ic_4 ?_
  refine J_iadd (pc' := 1121) d_law_1120 rfl ?_
  refine J_sld (pc' := 1122) hB d_law_1121 rfl (vin_k (k := 4) hi hL (by decide) rfl) ?_
  refine J_V (pc' := 1125) (as := [.int (ys (nI i + 1).toNatClampNeg), .int (ys (nI i + 2).toNatClampNeg), .int (ys (nI i + 3).toNatClampNeg), .int (ys (nI i + 4).toNatClampNeg)]) (rest := [.int r]) (st' := [.int r, .int r]) d_law_1122 rfl sh_66 rfl mv_law_140 (ct_Md_lay V _ σ1 (ys (nI i + 1).toNatClampNeg) (ys (nI i + 2).toNatClampNeg) (ys (nI i + 3).toNatClampNeg) (ys (nI i + 4).toNatClampNeg) hm) rfl rfl ⟨Nat.le_of_ble_eq_true rfl, Nat.le_of_ble_eq_true rfl⟩ ⟨rfl, rfl⟩ (Nat.le_of_ble_eq_true rfl) rfl ?_
  refine J_icmp_eq (pc' := 1128) (tgt := 1296) d_law_1125 rfl (by decide) (fun _ => kk _ hR2) (fun h => absurd rfl h)
set_option maxHeartbeats 4000000 in
theorem lc_get {V : Vx} {X : Xx} {Q : State → Prop} {B L i : Nat} {ys : Nat → Int32} {Rel : Sg → Prop} (hE : E_get Rel) (hB : Scr V X B L ys) (hi : i + 6 ≤ L) (hL : L ≤ 3072) {σ : Sg} (hR : Rel σ) (kk : ∀ σ2, Rel σ2 → JL V X Q σ2 1296 (lawlv V B i) []) : JL V X Q σ 1130 (lawlv V B i) [] := by
  obtain ⟨r, σ1, σ2, hx, hm, hR2⟩ := hE σ (ys (nI i + 1).toNatClampNeg) (ys (nI i + 2).toNatClampNeg) (ys (nI i + 3).toNatClampNeg) hR
  refine J_aload_n (pc' := 1131) d_law_1130 rfl 1 rfl ?_
  refine J_aload_n (pc' := 1132) d_law_1131 rfl 0 rfl ?_
  refine J_iload_n (pc' := 1133) d_law_1132 rfl 3 rfl ?_
  refine J_iconst (pc' := 1134) (v := 1) d_law_1133 rfl ic_1 ?_
  refine J_iadd (pc' := 1135) d_law_1134 rfl ?_
  refine J_sld (pc' := 1136) hB d_law_1135 rfl (vin_k (k := 1) hi hL (by decide) rfl) ?_
  refine J_aload_n (pc' := 1137) d_law_1136 rfl 0 rfl ?_
  refine J_iload_n (pc' := 1138) d_law_1137 rfl 3 rfl ?_
  refine J_iconst (pc' := 1139) (v := 2) d_law_1138 rfl ic_2 ?_
  refine J_iadd (pc' := 1140) d_law_1139 rfl ?_
  refine J_sld (pc' := 1141) hB d_law_1140 rfl (vin_k (k := 2) hi hL (by decide) rfl) ?_
  refine J_aload_n (pc' := 1142) d_law_1141 rfl 0 rfl ?_
  refine J_iload_n (pc' := 1143) d_law_1142 rfl 3 rfl ?_
  refine J_iconst (pc' := 1144) (v := 3) d_law_1143 rfl ic_3 ?_
  refine J_iadd (pc' := 1145) d_law_1144 rfl ?_
  refine J_sld (pc' := 1146) hB d_law_1145 rfl (vin_k (k := 3) hi hL (by decide) rfl) ?_
  refine J_V (pc' := 1149) (as := [.int (ys (nI i + 1).toNatClampNeg), .int (ys (nI i + 2).toNatClampNeg), .int (ys (nI i + 3).toNatClampNeg)]) (rest := []) (st' := [.int r]) d_law_1146 rfl sh_0 rfl mv_law_141 (ct_GR_get V _ σ (ys (nI i + 1).toNatClampNeg) (ys (nI i + 2).toNatClampNeg) (ys (nI i + 3).toNatClampNeg) hx) rfl rfl ⟨Nat.le_of_ble_eq_true rfl, Nat.le_of_ble_eq_true rfl⟩ ⟨rfl, rfl⟩ (Nat.le_of_ble_eq_true rfl) rfl ?_
  refine J_aload_n (pc' := 1150) d_law_1149 rfl 2 rfl ?_
  refine J_aload_n (pc' := 1151) d_law_1150 rfl 0 rfl ?_
  refine J_iload_n (pc' := 1152) d_law_1151 rfl 3 rfl ?_
  refine J_iconst (pc' := 1153) (v := 1) d_law_1152 rfl ic_1 ?_
  refine J_iadd (pc' := 1154) d_law_1153 rfl ?_
  refine J_sld (pc' := 1155) hB d_law_1154 rfl (vin_k (k := 1) hi hL (by decide) rfl) ?_
  refine J_aload_n (pc' := 1156) d_law_1155 rfl 0 rfl ?_
  refine J_iload_n (pc' := 1157) d_law_1156 rfl 3 rfl ?_
  refine J_iconst (pc' := 1158) (v := 2) d_law_1157 rfl ic_2 ?_
  refine J_iadd (pc' := 1159) d_law_1158 rfl ?_
  refine J_sld (pc' := 1160) hB d_law_1159 rfl (vin_k (k := 2) hi hL (by decide) rfl) ?_
  refine J_aload_n (pc' := 1161) d_law_1160 rfl 0 rfl ?_
  refine J_iload_n (pc' := 1162) d_law_1161 rfl 3 rfl ?_
  refine J_iconst (pc' := 1163) (v := 3) d_law_1162 rfl ic_3 ?_
  refine J_iadd (pc' := 1164) d_law_1163 rfl ?_
  refine J_sld (pc' := 1165) hB d_law_1164 rfl (vin_k (k := 3) hi hL (by decide) rfl) ?_
  refine J_V (pc' := 1168) (as := [.int (ys (nI i + 1).toNatClampNeg), .int (ys (nI i + 2).toNatClampNeg), .int (ys (nI i + 3).toNatClampNeg)]) (rest := [.int r]) (st' := [.int r, .int r]) d_law_1165 rfl sh_66 rfl mv_law_144 (ct_Md_get V _ σ1 (ys (nI i + 1).toNatClampNeg) (ys (nI i + 2).toNatClampNeg) (ys (nI i + 3).toNatClampNeg) hm) rfl rfl ⟨Nat.le_of_ble_eq_true rfl, Nat.le_of_ble_eq_true rfl⟩ ⟨rfl, rfl⟩ (Nat.le_of_ble_eq_true rfl) rfl ?_
  refine J_icmp_eq (pc' := 1171) (tgt := 1296) d_law_1168 rfl (by decide) (fun _ => kk _ hR2) (fun h => absurd rfl h)
set_option maxHeartbeats 4000000 in
theorem lc_copy {V : Vx} {X : Xx} {Q : State → Prop} {B L i : Nat} {ys : Nat → Int32} {Rel : Sg → Prop} (hE : E_copy Rel) (hB : Scr V X B L ys) (hi : i + 6 ≤ L) (hL : L ≤ 3072) {σ : Sg} (hR : Rel σ) (kk : ∀ σ2, Rel σ2 → JL V X Q σ2 1296 (lawlv V B i) []) : JL V X Q σ 1173 (lawlv V B i) [] := by
  obtain ⟨r, σ1, σ2, hx, hm, hR2⟩ := hE σ (ys (nI i + 1).toNatClampNeg) (ys (nI i + 2).toNatClampNeg) (ys (nI i + 3).toNatClampNeg) (ys (nI i + 4).toNatClampNeg) (ys (nI i + 5).toNatClampNeg) hR
  refine J_aload_n (pc' := 1174) d_law_1173 rfl 1 rfl ?_
  refine J_aload_n (pc' := 1175) d_law_1174 rfl 0 rfl ?_
  refine J_iload_n (pc' := 1176) d_law_1175 rfl 3 rfl ?_
  refine J_iconst (pc' := 1177) (v := 1) d_law_1176 rfl ic_1 ?_
  refine J_iadd (pc' := 1178) d_law_1177 rfl ?_
  refine J_sld (pc' := 1179) hB d_law_1178 rfl (vin_k (k := 1) hi hL (by decide) rfl) ?_
  refine J_aload_n (pc' := 1180) d_law_1179 rfl 0 rfl ?_
  refine J_iload_n (pc' := 1181) d_law_1180 rfl 3 rfl ?_
  refine J_iconst (pc' := 1182) (v := 2) d_law_1181 rfl ic_2 ?_
  refine J_iadd (pc' := 1183) d_law_1182 rfl ?_
  refine J_sld (pc' := 1184) hB d_law_1183 rfl (vin_k (k := 2) hi hL (by decide) rfl) ?_
  refine J_aload_n (pc' := 1185) d_law_1184 rfl 0 rfl ?_
  refine J_iload_n (pc' := 1186) d_law_1185 rfl 3 rfl ?_
  refine J_iconst (pc' := 1187) (v := 3) d_law_1186 rfl ic_3 ?_
  refine J_iadd (pc' := 1188) d_law_1187 rfl ?_
  refine J_sld (pc' := 1189) hB d_law_1188 rfl (vin_k (k := 3) hi hL (by decide) rfl) ?_
  refine J_aload_n (pc' := 1190) d_law_1189 rfl 0 rfl ?_
  refine J_iload_n (pc' := 1191) d_law_1190 rfl 3 rfl ?_
  refine J_iconst (pc' := 1192) (v := 4) d_law_1191 rfl ic_4 ?_
  refine J_iadd (pc' := 1193) d_law_1192 rfl ?_
  refine J_sld (pc' := 1194) hB d_law_1193 rfl (vin_k (k := 4) hi hL (by decide) rfl) ?_
  refine J_aload_n (pc' := 1195) d_law_1194 rfl 0 rfl ?_
  refine J_iload_n (pc' := 1196) d_law_1195 rfl 3 rfl ?_
  refine J_iconst (pc' := 1197) (v := 5) d_law_1196 rfl ic_5 ?_
  refine J_iadd (pc' := 1198) d_law_1197 rfl ?_
  refine J_sld (pc' := 1199) hB d_law_1198 rfl (vin_k (k := 5) hi hL (by decide) rfl) ?_
  refine J_V (pc' := 1202) (as := [.int (ys (nI i + 1).toNatClampNeg), .int (ys (nI i + 2).toNatClampNeg), .int (ys (nI i + 3).toNatClampNeg), .int (ys (nI i + 4).toNatClampNeg), .int (ys (nI i + 5).toNatClampNeg)]) (rest := []) (st' := [.int r]) d_law_1199 rfl sh_0 rfl mv_law_145 (ct_GR_copy V _ σ (ys (nI i + 1).toNatClampNeg) (ys (nI i + 2).toNatClampNeg) (ys (nI i + 3).toNatClampNeg) (ys (nI i + 4).toNatClampNeg) (ys (nI i + 5).toNatClampNeg) hx) rfl rfl ⟨Nat.le_of_ble_eq_true rfl, Nat.le_of_ble_eq_true rfl⟩ ⟨rfl, rfl⟩ (Nat.le_of_ble_eq_true rfl) rfl ?_
  refine J_aload_n (pc' := 1203) d_law_1202 rfl 2 rfl ?_
  refine J_aload_n (pc' := 1204) d_law_1203 rfl 0 rfl ?_
  refine J_iload_n (pc' := 1205) d_law_1204 rfl 3 rfl ?_
  refine J_iconst (pc' := 1206) (v := 1) d_law_1205 rfl ic_1 ?_
  refine J_iadd (pc' := 1207) d_law_1206 rfl ?_
  refine J_sld (pc' := 1208) hB d_law_1207 rfl (vin_k (k := 1) hi hL (by decide) rfl) ?_
  refine J_aload_n (pc' := 1209) d_law_1208 rfl 0 rfl ?_
  refine J_iload_n (pc' := 1210) d_law_1209 rfl 3 rfl ?_
  refine J_iconst (pc' := 1211) (v := 2) d_law_1210 rfl ic_2 ?_
  refine J_iadd (pc' := 1212) d_law_1211 rfl ?_
  refine J_sld (pc' := 1213) hB d_law_1212 rfl (vin_k (k := 2) hi hL (by decide) rfl) ?_
  refine J_aload_n (pc' := 1214) d_law_1213 rfl 0 rfl ?_
  refine J_iload_n (pc' := 1215) d_law_1214 rfl 3 rfl ?_
  refine J_iconst (pc' := 1216) (v := 3) d_law_1215 rfl ic_3 ?_
  refine J_iadd (pc' := 1217) d_law_1216 rfl ?_
  refine J_sld (pc' := 1218) hB d_law_1217 rfl (vin_k (k := 3) hi hL (by decide) rfl) ?_
  refine J_aload_n (pc' := 1219) d_law_1218 rfl 0 rfl ?_
  refine J_iload_n (pc' := 1220) d_law_1219 rfl 3 rfl ?_
  refine J_iconst (pc' := 1221) (v := 4) d_law_1220 rfl ic_4 ?_
  refine J_iadd (pc' := 1222) d_law_1221 rfl ?_
  refine J_sld (pc' := 1223) hB d_law_1222 rfl (vin_k (k := 4) hi hL (by decide) rfl) ?_
  refine J_aload_n (pc' := 1224) d_law_1223 rfl 0 rfl ?_
  refine J_iload_n (pc' := 1225) d_law_1224 rfl 3 rfl ?_
  refine J_iconst (pc' := 1226) (v := 5) d_law_1225 rfl ic_5 ?_
  refine J_iadd (pc' := 1227) d_law_1226 rfl ?_
  refine J_sld (pc' := 1228) hB d_law_1227 rfl (vin_k (k := 5) hi hL (by decide) rfl) ?_
  refine J_V (pc' := 1231) (as := [.int (ys (nI i + 1).toNatClampNeg), .int (ys (nI i + 2).toNatClampNeg), .int (ys (nI i + 3).toNatClampNeg), .int (ys (nI i + 4).toNatClampNeg), .int (ys (nI i + 5).toNatClampNeg)]) (rest := [.int r]) (st' := [.int r, .int r]) d_law_1228 rfl sh_66 rfl mv_law_148 (ct_Md_copy V _ σ1 (ys (nI i + 1).toNatClampNeg) (ys (nI i + 2).toNatClampNeg) (ys (nI i + 3).toNatClampNeg) (ys (nI i + 4).toNatClampNeg) (ys (nI i + 5).toNatClampNeg) hm) rfl rfl ⟨Nat.le_of_ble_eq_true rfl, Nat.le_of_ble_eq_true rfl⟩ ⟨rfl, rfl⟩ (Nat.le_of_ble_eq_true rfl) rfl ?_
  refine J_icmp_eq (pc' := 1234) (tgt := 1296) d_law_1231 rfl (by decide) (fun _ => kk _ hR2) (fun h => absurd rfl h)
set_option maxHeartbeats 4000000 in
theorem lc_write {V : Vx} {X : Xx} {Q : State → Prop} {B L i : Nat} {ys : Nat → Int32} {Rel : Sg → Prop} (hE : E_write Rel) (hB : Scr V X B L ys) (hi : i + 6 ≤ L) (hL : L ≤ 3072) {σ : Sg} (hR : Rel σ) (kk : ∀ σ2, Rel σ2 → JL V X Q σ2 1296 (lawlv V B i) []) : JL V X Q σ 1236 (lawlv V B i) [] := by
  obtain ⟨r, σ1, σ2, hx, hm, hR2⟩ := hE σ (ys (nI i + 1).toNatClampNeg) hR
  refine J_aload_n (pc' := 1237) d_law_1236 rfl 1 rfl ?_
  refine J_aload_n (pc' := 1238) d_law_1237 rfl 0 rfl ?_
  refine J_iload_n (pc' := 1239) d_law_1238 rfl 3 rfl ?_
  refine J_iconst (pc' := 1240) (v := 1) d_law_1239 rfl ic_1 ?_
  refine J_iadd (pc' := 1241) d_law_1240 rfl ?_
  refine J_sld (pc' := 1242) hB d_law_1241 rfl (vin_k (k := 1) hi hL (by decide) rfl) ?_
  refine J_V (pc' := 1245) (as := [.int (ys (nI i + 1).toNatClampNeg)]) (rest := []) (st' := [.int r]) d_law_1242 rfl sh_0 rfl mv_law_149 (ct_GR_write V _ σ (ys (nI i + 1).toNatClampNeg) hx) rfl rfl ⟨Nat.le_of_ble_eq_true rfl, Nat.le_of_ble_eq_true rfl⟩ ⟨rfl, rfl⟩ (Nat.le_of_ble_eq_true rfl) rfl ?_
  refine J_aload_n (pc' := 1246) d_law_1245 rfl 2 rfl ?_
  refine J_aload_n (pc' := 1247) d_law_1246 rfl 0 rfl ?_
  refine J_iload_n (pc' := 1248) d_law_1247 rfl 3 rfl ?_
  refine J_iconst (pc' := 1249) (v := 1) d_law_1248 rfl ic_1 ?_
  refine J_iadd (pc' := 1250) d_law_1249 rfl ?_
  refine J_sld (pc' := 1251) hB d_law_1250 rfl (vin_k (k := 1) hi hL (by decide) rfl) ?_
  refine J_V (pc' := 1254) (as := [.int (ys (nI i + 1).toNatClampNeg)]) (rest := [.int r]) (st' := [.int r, .int r]) d_law_1251 rfl sh_66 rfl mv_law_152 (ct_Md_write V _ σ1 (ys (nI i + 1).toNatClampNeg) hm) rfl rfl ⟨Nat.le_of_ble_eq_true rfl, Nat.le_of_ble_eq_true rfl⟩ ⟨rfl, rfl⟩ (Nat.le_of_ble_eq_true rfl) rfl ?_
  refine J_icmp_eq (pc' := 1257) (tgt := 1296) d_law_1254 rfl (by decide) (fun _ => kk _ hR2) (fun h => absurd rfl h)
set_option maxHeartbeats 4000000 in
theorem lc_count {V : Vx} {X : Xx} {Q : State → Prop} {B L i : Nat} {ys : Nat → Int32} {Rel : Sg → Prop} (hE : E_count Rel) (hB : Scr V X B L ys) (hi : i + 6 ≤ L) (hL : L ≤ 3072) {σ : Sg} (hR : Rel σ) (kk : ∀ σ2, Rel σ2 → JL V X Q σ2 1296 (lawlv V B i) []) : JL V X Q σ 1259 (lawlv V B i) [] := by
  obtain ⟨r, σ2, hx, hm, hR2⟩ := hE σ (ys (nI i + 1).toNatClampNeg) hR
  refine J_aload_n (pc' := 1260) d_law_1259 rfl 1 rfl ?_
  refine J_aload_n (pc' := 1261) d_law_1260 rfl 0 rfl ?_
  refine J_iload_n (pc' := 1262) d_law_1261 rfl 3 rfl ?_
  refine J_iconst (pc' := 1263) (v := 1) d_law_1262 rfl ic_1 ?_
  refine J_iadd (pc' := 1264) d_law_1263 rfl ?_
  refine J_sld (pc' := 1265) hB d_law_1264 rfl (vin_k (k := 1) hi hL (by decide) rfl) ?_
  refine J_V (pc' := 1268) (as := [.int (ys (nI i + 1).toNatClampNeg)]) (rest := []) (st' := [.int r]) d_law_1265 rfl sh_0 rfl mv_law_153 (ct_GR_count V _ σ (ys (nI i + 1).toNatClampNeg) hx) rfl rfl ⟨Nat.le_of_ble_eq_true rfl, Nat.le_of_ble_eq_true rfl⟩ ⟨rfl, rfl⟩ (Nat.le_of_ble_eq_true rfl) rfl ?_
  refine J_aload_n (pc' := 1269) d_law_1268 rfl 2 rfl ?_
  refine J_aload_n (pc' := 1270) d_law_1269 rfl 0 rfl ?_
  refine J_iload_n (pc' := 1271) d_law_1270 rfl 3 rfl ?_
  refine J_iconst (pc' := 1272) (v := 1) d_law_1271 rfl ic_1 ?_
  refine J_iadd (pc' := 1273) d_law_1272 rfl ?_
  refine J_sld (pc' := 1274) hB d_law_1273 rfl (vin_k (k := 1) hi hL (by decide) rfl) ?_
  refine J_V (pc' := 1277) (as := [.int (ys (nI i + 1).toNatClampNeg)]) (rest := [.int r]) (st' := [.int r, .int r]) d_law_1274 rfl sh_66 rfl mv_law_156 (ct_Md_count V _ σ (ys (nI i + 1).toNatClampNeg) hm) rfl rfl ⟨Nat.le_of_ble_eq_true rfl, Nat.le_of_ble_eq_true rfl⟩ ⟨rfl, rfl⟩ (Nat.le_of_ble_eq_true rfl) rfl ?_
  refine J_icmp_eq (pc' := 1280) (tgt := 1296) d_law_1277 rfl (by decide) (fun _ => kk _ hR2) (fun h => absurd rfl h)
set_option maxHeartbeats 4000000 in
theorem lc_digest {V : Vx} {X : Xx} {Q : State → Prop} {B L i : Nat} {ys : Nat → Int32} {Rel : Sg → Prop} (hE : E_digest Rel) (hB : Scr V X B L ys) (hi : i + 6 ≤ L) (hL : L ≤ 3072) {σ : Sg} (hR : Rel σ) (kk : ∀ σ2, Rel σ2 → JL V X Q σ2 1296 (lawlv V B i) []) : JL V X Q σ 1282 (lawlv V B i) [] := by
  obtain ⟨r, σ1, σ2, hx, hm, hR2⟩ := hE σ  hR
  refine J_aload_n (pc' := 1283) d_law_1282 rfl 1 rfl ?_
  refine J_V (pc' := 1286) (as := []) (rest := []) (st' := [.long r]) d_law_1283 rfl sh_0 rfl mv_law_157 (ct_GR_digest V _ σ  hx) rfl rfl ⟨Nat.le_of_ble_eq_true rfl, Nat.le_of_ble_eq_true rfl⟩ ⟨rfl, rfl⟩ (Nat.le_of_ble_eq_true rfl) rfl ?_
  refine J_aload_n (pc' := 1287) d_law_1286 rfl 2 rfl ?_
  refine J_V (pc' := 1290) (as := []) (rest := [.long r]) (st' := [.long r, .long r]) d_law_1287 rfl sh_66 rfl mv_law_161 (ct_Md_digest V _ σ1  hm) rfl rfl ⟨Nat.le_of_ble_eq_true rfl, Nat.le_of_ble_eq_true rfl⟩ ⟨rfl, rfl⟩ (Nat.le_of_ble_eq_true rfl) rfl ?_
  refine J_lcmp (pc' := 1291) d_law_1290 rfl ?_
  refine J_if_eq (pc' := 1294) (tgt := 1296) d_law_1291 rfl (by decide) (fun _ => kk _ hR2) (fun h => absurd (lg_cmp_self r) h)
