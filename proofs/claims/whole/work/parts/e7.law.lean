/-! ===== the law: one call of either object ===== -/
def mLw (nm : String) : MM := (⟨"TableCatalogLaw", nm, "([I)Z"⟩, code, 4, ret)
set_option maxRecDepth 100000 in
set_option maxHeartbeats 4000000 in
theorem law_c0 {G : GG} {p : Program} {l : Launch} {e : Env} {s : State} {m : MethodId} {b : Nat} {below : List Frame} {meth : Method} {c : Code} (hX : XC (mLw meth.name) 100 G p room_1 s m #[Value.ref b] meth c) (hl : gL G < 2147483648) {i : Int} (hi : 0 ≤ i ∧ i + 5 < gL G) {G0 : GT} {cC : Int → Nat} {E : Int} {X : XX} {v : VV} {mc ms : Nat} (h : I2 G0 cC E X v (mp v)) (hE : E ≤ 1600000000) (hm : 13 ≤ mc) (hs : 1246 ≤ ms) (go : ∀ (Y : XX) (w : VV) (G2 : GT) (cC2 : Int → Nat), I2 G2 cC2 (E + 10000) Y w (mp w) → Wg G (mLw meth.name) p l e room_1 s m #[Value.ref b] below meth c (lw_Z below #[Value.ref b] s) 856 [(2, -2), (2, 0), (2, 47), (0, i)] [] Y w (mc - 13) (ms - 1246)) : Wg G (mLw meth.name) p l e room_1 s m #[Value.ref b] below meth c (lw_Z below #[Value.ref b] s) 144 [(2, -2), (2, 0), (2, 47), (0, i)] [] X v mc ms := by
  obtain ⟨c1, s1, hc1, hs1, P, hC, hP⟩ := s_feed h (sx G (i + 1)) (sx G (i + 2)) (sx G (i + 3)) (sx G (i + 4)) (sx G (i + 5))
  refine w_aload_n hX dL_law_144 rfl ?_
  refine w_arg hX hl 1 hi (by decide) dL_law_145 dL_law_146 dL_law_147 dL_law_148 dL_law_149 rfl rfl ?_
  refine w_arg hX hl 2 hi (by decide) dL_law_150 dL_law_151 dL_law_152 dL_law_153 dL_law_154 rfl rfl ?_
  refine w_arg hX hl 3 hi (by decide) dL_law_155 dL_law_156 dL_law_157 dL_law_158 dL_law_159 rfl rfl ?_
  refine w_arg hX hl 4 hi (by decide) dL_law_160 dL_law_161 dL_law_162 dL_law_163 dL_law_164 rfl rfl ?_
  refine w_arg hX hl 5 hi (by decide) dL_law_165 dL_law_166 dL_law_167 dL_law_168 dL_law_169 rfl rfl ?_
  refine w_inv hX dL_law_170 mlL_13 hC (sW0 h.1.1) (Nat.le_of_ble_eq_true rfl) (gW0 h.1.1) (st := _) rfl rfl (by decide) (by omega) (by omega) (Nat.le_of_ble_eq_true rfl) (fun o Y w ht hp => ?_)
  obtain ⟨r, rfl, hSW, hC2⟩ := hP o Y w hp
  refine w_aload_n hX dL_law_173 rfl ?_
  refine w_arg hX hl 1 hi (by decide) dL_law_174 dL_law_175 dL_law_176 dL_law_177 dL_law_178 rfl rfl ?_
  refine w_arg hX hl 2 hi (by decide) dL_law_179 dL_law_180 dL_law_181 dL_law_182 dL_law_183 rfl rfl ?_
  refine w_arg hX hl 3 hi (by decide) dL_law_184 dL_law_185 dL_law_186 dL_law_187 dL_law_188 rfl rfl ?_
  refine w_arg hX hl 4 hi (by decide) dL_law_189 dL_law_190 dL_law_191 dL_law_192 dL_law_193 rfl rfl ?_
  refine w_arg hX hl 5 hi (by decide) dL_law_194 dL_law_195 dL_law_196 dL_law_197 dL_law_198 rfl rfl ?_
  refine w_inv hX dL_law_199 mlL_17 hC2 (sW47 hSW) (Nat.le_of_ble_eq_true rfl) (gW47 hSW) (st := _) rfl rfl (by decide) (Nat.zero_le _) (Nat.zero_le _) (Nat.le_of_ble_eq_true rfl) (fun o2 Y2 w2 ht2 hp2 => ?_)
  obtain ⟨eY, e2, G2, cC2, hI⟩ := hp2
  subst eY
  subst e2
  refine w_icmp_eq (tgt := 856) hX dL_law_202 rfl (fun _ => ?_) (fun q => absurd rfl q)
  exact w_widen (by omega) (by omega) (go _ _ _ _ hI)
set_option maxRecDepth 100000 in
set_option maxHeartbeats 4000000 in
theorem law_c1 {G : GG} {p : Program} {l : Launch} {e : Env} {s : State} {m : MethodId} {b : Nat} {below : List Frame} {meth : Method} {c : Code} (hX : XC (mLw meth.name) 100 G p room_1 s m #[Value.ref b] meth c) (hl : gL G < 2147483648) {i : Int} (hi : 0 ≤ i ∧ i + 5 < gL G) {G0 : GT} {cC : Int → Nat} {E : Int} {X : XX} {v : VV} {mc ms : Nat} (h : I2 G0 cC E X v (mp v)) (hE : E ≤ 1600000000) (hm : 13 ≤ mc) (hs : 1246 ≤ ms) (go : ∀ (Y : XX) (w : VV) (G2 : GT) (cC2 : Int → Nat), I2 G2 cC2 (E + 10000) Y w (mp w) → Wg G (mLw meth.name) p l e room_1 s m #[Value.ref b] below meth c (lw_Z below #[Value.ref b] s) 856 [(2, -2), (2, 0), (2, 47), (0, i)] [] Y w (mc - 13) (ms - 1246)) : Wg G (mLw meth.name) p l e room_1 s m #[Value.ref b] below meth c (lw_Z below #[Value.ref b] s) 207 [(2, -2), (2, 0), (2, 47), (0, i)] [] X v mc ms := by
  obtain ⟨c1, s1, hc1, hs1, P, hC, hP⟩ := s_end h (sx G (i + 1))
  refine w_aload_n hX dL_law_207 rfl ?_
  refine w_arg hX hl 1 hi (by decide) dL_law_208 dL_law_209 dL_law_210 dL_law_211 dL_law_212 rfl rfl ?_
  refine w_inv hX dL_law_213 mlL_18 hC (sW0 h.1.1) (Nat.le_of_ble_eq_true rfl) (gW0 h.1.1) (st := _) rfl rfl (by decide) (by omega) (by omega) (Nat.le_of_ble_eq_true rfl) (fun o Y w ht hp => ?_)
  obtain ⟨r, rfl, hSW, hC2⟩ := hP o Y w hp
  refine w_aload_n hX dL_law_216 rfl ?_
  refine w_arg hX hl 1 hi (by decide) dL_law_217 dL_law_218 dL_law_219 dL_law_220 dL_law_221 rfl rfl ?_
  refine w_inv hX dL_law_222 mlL_22 hC2 (sW47 hSW) (Nat.le_of_ble_eq_true rfl) (gW47 hSW) (st := _) rfl rfl (by decide) (Nat.zero_le _) (Nat.zero_le _) (Nat.le_of_ble_eq_true rfl) (fun o2 Y2 w2 ht2 hp2 => ?_)
  obtain ⟨eY, e2, G2, cC2, hI⟩ := hp2
  subst eY
  subst e2
  refine w_icmp_eq (tgt := 856) hX dL_law_225 rfl (fun _ => ?_) (fun q => absurd rfl q)
  exact w_widen (by omega) (by omega) (go _ _ _ _ hI)
set_option maxRecDepth 100000 in
set_option maxHeartbeats 4000000 in
theorem law_c2 {G : GG} {p : Program} {l : Launch} {e : Env} {s : State} {m : MethodId} {b : Nat} {below : List Frame} {meth : Method} {c : Code} (hX : XC (mLw meth.name) 100 G p room_1 s m #[Value.ref b] meth c) (hl : gL G < 2147483648) {i : Int} (hi : 0 ≤ i ∧ i + 5 < gL G) {G0 : GT} {cC : Int → Nat} {E : Int} {X : XX} {v : VV} {mc ms : Nat} (h : I2 G0 cC E X v (mp v)) (hE : E ≤ 1600000000) (hm : 13 ≤ mc) (hs : 1246 ≤ ms) (go : ∀ (Y : XX) (w : VV) (G2 : GT) (cC2 : Int → Nat), I2 G2 cC2 (E + 10000) Y w (mp w) → Wg G (mLw meth.name) p l e room_1 s m #[Value.ref b] below meth c (lw_Z below #[Value.ref b] s) 856 [(2, -2), (2, 0), (2, 47), (0, i)] [] Y w (mc - 13) (ms - 1246)) : Wg G (mLw meth.name) p l e room_1 s m #[Value.ref b] below meth c (lw_Z below #[Value.ref b] s) 230 [(2, -2), (2, 0), (2, 47), (0, i)] [] X v mc ms := by
  obtain ⟨c1, s1, hc1, hs1, P, hC, hP⟩ := s_act h hE
  refine w_aload_n hX dL_law_230 rfl ?_
  refine w_inv hX dL_law_231 mlL_23 hC (sW0 h.1.1) (Nat.le_of_ble_eq_true rfl) (gW0 h.1.1) (st := _) rfl rfl (by decide) (by omega) (by omega) (Nat.le_of_ble_eq_true rfl) (fun o Y w ht hp => ?_)
  obtain ⟨r, rfl, hSW, hC2⟩ := hP o Y w hp
  refine w_aload_n hX dL_law_234 rfl ?_
  refine w_inv hX dL_law_235 mlL_27 hC2 (sW47 hSW) (Nat.le_of_ble_eq_true rfl) (gW47 hSW) (st := _) rfl rfl (by decide) (Nat.zero_le _) (Nat.zero_le _) (Nat.le_of_ble_eq_true rfl) (fun o2 Y2 w2 ht2 hp2 => ?_)
  obtain ⟨eY, e2, G2, cC2, hI⟩ := hp2
  subst eY
  subst e2
  refine w_icmp_eq (tgt := 856) hX dL_law_238 rfl (fun _ => ?_) (fun q => absurd rfl q)
  exact w_widen (by omega) (by omega) (go _ _ _ _ hI)
set_option maxRecDepth 100000 in
set_option maxHeartbeats 4000000 in
theorem law_c3 {G : GG} {p : Program} {l : Launch} {e : Env} {s : State} {m : MethodId} {b : Nat} {below : List Frame} {meth : Method} {c : Code} (hX : XC (mLw meth.name) 100 G p room_1 s m #[Value.ref b] meth c) (hl : gL G < 2147483648) {i : Int} (hi : 0 ≤ i ∧ i + 5 < gL G) {G0 : GT} {cC : Int → Nat} {E : Int} {X : XX} {v : VV} {mc ms : Nat} (h : I2 G0 cC E X v (mp v)) (hE : E ≤ 1600000000) (hm : 13 ≤ mc) (hs : 1246 ≤ ms) (go : ∀ (Y : XX) (w : VV) (G2 : GT) (cC2 : Int → Nat), I2 G2 cC2 (E + 10000) Y w (mp w) → Wg G (mLw meth.name) p l e room_1 s m #[Value.ref b] below meth c (lw_Z below #[Value.ref b] s) 856 [(2, -2), (2, 0), (2, 47), (0, i)] [] Y w (mc - 13) (ms - 1246)) : Wg G (mLw meth.name) p l e room_1 s m #[Value.ref b] below meth c (lw_Z below #[Value.ref b] s) 243 [(2, -2), (2, 0), (2, 47), (0, i)] [] X v mc ms := by
  obtain ⟨c1, s1, hc1, hs1, P, hC, hP⟩ := s_fault h (sx G (i + 1))
  refine w_aload_n hX dL_law_243 rfl ?_
  refine w_arg hX hl 1 hi (by decide) dL_law_244 dL_law_245 dL_law_246 dL_law_247 dL_law_248 rfl rfl ?_
  refine w_inv hX dL_law_249 mlL_28 hC (sW0 h.1.1) (Nat.le_of_ble_eq_true rfl) (gW0 h.1.1) (st := _) rfl rfl (by decide) (by omega) (by omega) (Nat.le_of_ble_eq_true rfl) (fun o Y w ht hp => ?_)
  obtain ⟨r, rfl, hSW, hC2⟩ := hP o Y w hp
  refine w_aload_n hX dL_law_252 rfl ?_
  refine w_arg hX hl 1 hi (by decide) dL_law_253 dL_law_254 dL_law_255 dL_law_256 dL_law_257 rfl rfl ?_
  refine w_inv hX dL_law_258 mlL_32 hC2 (sW47 hSW) (Nat.le_of_ble_eq_true rfl) (gW47 hSW) (st := _) rfl rfl (by decide) (Nat.zero_le _) (Nat.zero_le _) (Nat.le_of_ble_eq_true rfl) (fun o2 Y2 w2 ht2 hp2 => ?_)
  obtain ⟨eY, e2, G2, cC2, hI⟩ := hp2
  subst eY
  subst e2
  refine w_icmp_eq (tgt := 856) hX dL_law_261 rfl (fun _ => ?_) (fun q => absurd rfl q)
  exact w_widen (by omega) (by omega) (go _ _ _ _ hI)
set_option maxRecDepth 100000 in
set_option maxHeartbeats 4000000 in
theorem law_c4 {G : GG} {p : Program} {l : Launch} {e : Env} {s : State} {m : MethodId} {b : Nat} {below : List Frame} {meth : Method} {c : Code} (hX : XC (mLw meth.name) 100 G p room_1 s m #[Value.ref b] meth c) (hl : gL G < 2147483648) {i : Int} (hi : 0 ≤ i ∧ i + 5 < gL G) {G0 : GT} {cC : Int → Nat} {E : Int} {X : XX} {v : VV} {mc ms : Nat} (h : I2 G0 cC E X v (mp v)) (hE : E ≤ 1600000000) (hm : 13 ≤ mc) (hs : 1246 ≤ ms) (go : ∀ (Y : XX) (w : VV) (G2 : GT) (cC2 : Int → Nat), I2 G2 cC2 (E + 10000) Y w (mp w) → Wg G (mLw meth.name) p l e room_1 s m #[Value.ref b] below meth c (lw_Z below #[Value.ref b] s) 856 [(2, -2), (2, 0), (2, 47), (0, i)] [] Y w (mc - 13) (ms - 1246)) : Wg G (mLw meth.name) p l e room_1 s m #[Value.ref b] below meth c (lw_Z below #[Value.ref b] s) 266 [(2, -2), (2, 0), (2, 47), (0, i)] [] X v mc ms := by
  obtain ⟨c1, s1, hc1, hs1, P, hC, hP⟩ := s_named h
  refine w_aload_n hX dL_law_266 rfl ?_
  refine w_inv hX dL_law_267 mlL_33 hC (sW0 h.1.1) (Nat.le_of_ble_eq_true rfl) (gW0 h.1.1) (st := _) rfl rfl (by decide) (by omega) (by omega) (Nat.le_of_ble_eq_true rfl) (fun o Y w ht hp => ?_)
  obtain ⟨r, rfl, hSW, hC2⟩ := hP o Y w hp
  refine w_aload_n hX dL_law_270 rfl ?_
  refine w_inv hX dL_law_271 mlL_36 hC2 (sW47 hSW) (Nat.le_of_ble_eq_true rfl) (gW47 hSW) (st := _) rfl rfl (by decide) (Nat.zero_le _) (Nat.zero_le _) (Nat.le_of_ble_eq_true rfl) (fun o2 Y2 w2 ht2 hp2 => ?_)
  obtain ⟨eY, e2, G2, cC2, hI⟩ := hp2
  subst eY
  subst e2
  refine w_icmp_eq (tgt := 856) hX dL_law_274 rfl (fun _ => ?_) (fun q => absurd rfl q)
  exact w_widen (by omega) (by omega) (go _ _ _ _ hI)
set_option maxRecDepth 100000 in
set_option maxHeartbeats 4000000 in
theorem law_c5 {G : GG} {p : Program} {l : Launch} {e : Env} {s : State} {m : MethodId} {b : Nat} {below : List Frame} {meth : Method} {c : Code} (hX : XC (mLw meth.name) 100 G p room_1 s m #[Value.ref b] meth c) (hl : gL G < 2147483648) {i : Int} (hi : 0 ≤ i ∧ i + 5 < gL G) {G0 : GT} {cC : Int → Nat} {E : Int} {X : XX} {v : VV} {mc ms : Nat} (h : I2 G0 cC E X v (mp v)) (hE : E ≤ 1600000000) (hm : 13 ≤ mc) (hs : 1246 ≤ ms) (go : ∀ (Y : XX) (w : VV) (G2 : GT) (cC2 : Int → Nat), I2 G2 cC2 (E + 10000) Y w (mp w) → Wg G (mLw meth.name) p l e room_1 s m #[Value.ref b] below meth c (lw_Z below #[Value.ref b] s) 856 [(2, -2), (2, 0), (2, 47), (0, i)] [] Y w (mc - 13) (ms - 1246)) : Wg G (mLw meth.name) p l e room_1 s m #[Value.ref b] below meth c (lw_Z below #[Value.ref b] s) 279 [(2, -2), (2, 0), (2, 47), (0, i)] [] X v mc ms := by
  obtain ⟨c1, s1, hc1, hs1, P, hC, hP⟩ := s_table h (sx G (i + 1)) (sx G (i + 2))
  refine w_aload_n hX dL_law_279 rfl ?_
  refine w_arg hX hl 1 hi (by decide) dL_law_280 dL_law_281 dL_law_282 dL_law_283 dL_law_284 rfl rfl ?_
  refine w_arg hX hl 2 hi (by decide) dL_law_285 dL_law_286 dL_law_287 dL_law_288 dL_law_289 rfl rfl ?_
  refine w_inv hX dL_law_290 mlL_37 hC (sW0 h.1.1) (Nat.le_of_ble_eq_true rfl) (gW0 h.1.1) (st := _) rfl rfl (by decide) (by omega) (by omega) (Nat.le_of_ble_eq_true rfl) (fun o Y w ht hp => ?_)
  obtain ⟨r, rfl, hSW, hC2⟩ := hP o Y w hp
  refine w_aload_n hX dL_law_293 rfl ?_
  refine w_arg hX hl 1 hi (by decide) dL_law_294 dL_law_295 dL_law_296 dL_law_297 dL_law_298 rfl rfl ?_
  refine w_arg hX hl 2 hi (by decide) dL_law_299 dL_law_300 dL_law_301 dL_law_302 dL_law_303 rfl rfl ?_
  refine w_inv hX dL_law_304 mlL_41 hC2 (sW47 hSW) (Nat.le_of_ble_eq_true rfl) (gW47 hSW) (st := _) rfl rfl (by decide) (Nat.zero_le _) (Nat.zero_le _) (Nat.le_of_ble_eq_true rfl) (fun o2 Y2 w2 ht2 hp2 => ?_)
  obtain ⟨eY, e2, G2, cC2, hI⟩ := hp2
  subst eY
  subst e2
  refine w_icmp_eq (tgt := 856) hX dL_law_307 rfl (fun _ => ?_) (fun q => absurd rfl q)
  exact w_widen (by omega) (by omega) (go _ _ _ _ hI)
set_option maxRecDepth 100000 in
set_option maxHeartbeats 4000000 in
theorem law_c6 {G : GG} {p : Program} {l : Launch} {e : Env} {s : State} {m : MethodId} {b : Nat} {below : List Frame} {meth : Method} {c : Code} (hX : XC (mLw meth.name) 100 G p room_1 s m #[Value.ref b] meth c) (hl : gL G < 2147483648) {i : Int} (hi : 0 ≤ i ∧ i + 5 < gL G) {G0 : GT} {cC : Int → Nat} {E : Int} {X : XX} {v : VV} {mc ms : Nat} (h : I2 G0 cC E X v (mp v)) (hE : E ≤ 1600000000) (hm : 13 ≤ mc) (hs : 1246 ≤ ms) (go : ∀ (Y : XX) (w : VV) (G2 : GT) (cC2 : Int → Nat), I2 G2 cC2 (E + 10000) Y w (mp w) → Wg G (mLw meth.name) p l e room_1 s m #[Value.ref b] below meth c (lw_Z below #[Value.ref b] s) 856 [(2, -2), (2, 0), (2, 47), (0, i)] [] Y w (mc - 13) (ms - 1246)) : Wg G (mLw meth.name) p l e room_1 s m #[Value.ref b] below meth c (lw_Z below #[Value.ref b] s) 312 [(2, -2), (2, 0), (2, 47), (0, i)] [] X v mc ms := by
  obtain ⟨c1, s1, hc1, hs1, P, hC, hP⟩ := s_type h (sx G (i + 1)) (sx G (i + 2))
  refine w_aload_n hX dL_law_312 rfl ?_
  refine w_arg hX hl 1 hi (by decide) dL_law_313 dL_law_314 dL_law_315 dL_law_316 dL_law_317 rfl rfl ?_
  refine w_arg hX hl 2 hi (by decide) dL_law_318 dL_law_319 dL_law_320 dL_law_321 dL_law_322 rfl rfl ?_
  refine w_inv hX dL_law_323 mlL_42 hC (sW0 h.1.1) (Nat.le_of_ble_eq_true rfl) (gW0 h.1.1) (st := _) rfl rfl (by decide) (by omega) (by omega) (Nat.le_of_ble_eq_true rfl) (fun o Y w ht hp => ?_)
  obtain ⟨r, rfl, hSW, hC2⟩ := hP o Y w hp
  refine w_aload_n hX dL_law_326 rfl ?_
  refine w_arg hX hl 1 hi (by decide) dL_law_327 dL_law_328 dL_law_329 dL_law_330 dL_law_331 rfl rfl ?_
  refine w_arg hX hl 2 hi (by decide) dL_law_332 dL_law_333 dL_law_334 dL_law_335 dL_law_336 rfl rfl ?_
  refine w_inv hX dL_law_337 mlL_45 hC2 (sW47 hSW) (Nat.le_of_ble_eq_true rfl) (gW47 hSW) (st := _) rfl rfl (by decide) (Nat.zero_le _) (Nat.zero_le _) (Nat.le_of_ble_eq_true rfl) (fun o2 Y2 w2 ht2 hp2 => ?_)
  obtain ⟨eY, e2, G2, cC2, hI⟩ := hp2
  subst eY
  subst e2
  refine w_icmp_eq (tgt := 856) hX dL_law_340 rfl (fun _ => ?_) (fun q => absurd rfl q)
  exact w_widen (by omega) (by omega) (go _ _ _ _ hI)
set_option maxRecDepth 100000 in
set_option maxHeartbeats 4000000 in
theorem law_c7 {G : GG} {p : Program} {l : Launch} {e : Env} {s : State} {m : MethodId} {b : Nat} {below : List Frame} {meth : Method} {c : Code} (hX : XC (mLw meth.name) 100 G p room_1 s m #[Value.ref b] meth c) (hl : gL G < 2147483648) {i : Int} (hi : 0 ≤ i ∧ i + 5 < gL G) {G0 : GT} {cC : Int → Nat} {E : Int} {X : XX} {v : VV} {mc ms : Nat} (h : I2 G0 cC E X v (mp v)) (hE : E ≤ 1600000000) (hm : 13 ≤ mc) (hs : 1246 ≤ ms) (go : ∀ (Y : XX) (w : VV) (G2 : GT) (cC2 : Int → Nat), I2 G2 cC2 (E + 10000) Y w (mp w) → Wg G (mLw meth.name) p l e room_1 s m #[Value.ref b] below meth c (lw_Z below #[Value.ref b] s) 856 [(2, -2), (2, 0), (2, 47), (0, i)] [] Y w (mc - 13) (ms - 1246)) : Wg G (mLw meth.name) p l e room_1 s m #[Value.ref b] below meth c (lw_Z below #[Value.ref b] s) 345 [(2, -2), (2, 0), (2, 47), (0, i)] [] X v mc ms := by
  obtain ⟨c1, s1, hc1, hs1, P, hC, hP⟩ := s_from h (sx G (i + 1)) (sx G (i + 2)) (sx G (i + 3))
  refine w_aload_n hX dL_law_345 rfl ?_
  refine w_arg hX hl 1 hi (by decide) dL_law_346 dL_law_347 dL_law_348 dL_law_349 dL_law_350 rfl rfl ?_
  refine w_arg hX hl 2 hi (by decide) dL_law_351 dL_law_352 dL_law_353 dL_law_354 dL_law_355 rfl rfl ?_
  refine w_arg hX hl 3 hi (by decide) dL_law_356 dL_law_357 dL_law_358 dL_law_359 dL_law_360 rfl rfl ?_
  refine w_inv hX dL_law_361 mlL_46 hC (sW0 h.1.1) (Nat.le_of_ble_eq_true rfl) (gW0 h.1.1) (st := _) rfl rfl (by decide) (by omega) (by omega) (Nat.le_of_ble_eq_true rfl) (fun o Y w ht hp => ?_)
  obtain ⟨r, rfl, hSW, hC2⟩ := hP o Y w hp
  refine w_aload_n hX dL_law_364 rfl ?_
  refine w_arg hX hl 1 hi (by decide) dL_law_365 dL_law_366 dL_law_367 dL_law_368 dL_law_369 rfl rfl ?_
  refine w_arg hX hl 2 hi (by decide) dL_law_370 dL_law_371 dL_law_372 dL_law_373 dL_law_374 rfl rfl ?_
  refine w_arg hX hl 3 hi (by decide) dL_law_375 dL_law_376 dL_law_377 dL_law_378 dL_law_379 rfl rfl ?_
  refine w_inv hX dL_law_380 mlL_50 hC2 (sW47 hSW) (Nat.le_of_ble_eq_true rfl) (gW47 hSW) (st := _) rfl rfl (by decide) (Nat.zero_le _) (Nat.zero_le _) (Nat.le_of_ble_eq_true rfl) (fun o2 Y2 w2 ht2 hp2 => ?_)
  obtain ⟨eY, e2, G2, cC2, hI⟩ := hp2
  subst eY
  subst e2
  refine w_icmp_eq (tgt := 856) hX dL_law_383 rfl (fun _ => ?_) (fun q => absurd rfl q)
  exact w_widen (by omega) (by omega) (go _ _ _ _ hI)
set_option maxRecDepth 100000 in
set_option maxHeartbeats 4000000 in
theorem law_c8 {G : GG} {p : Program} {l : Launch} {e : Env} {s : State} {m : MethodId} {b : Nat} {below : List Frame} {meth : Method} {c : Code} (hX : XC (mLw meth.name) 100 G p room_1 s m #[Value.ref b] meth c) (hl : gL G < 2147483648) {i : Int} (hi : 0 ≤ i ∧ i + 5 < gL G) {G0 : GT} {cC : Int → Nat} {E : Int} {X : XX} {v : VV} {mc ms : Nat} (h : I2 G0 cC E X v (mp v)) (hE : E ≤ 1600000000) (hm : 13 ≤ mc) (hs : 1246 ≤ ms) (go : ∀ (Y : XX) (w : VV) (G2 : GT) (cC2 : Int → Nat), I2 G2 cC2 (E + 10000) Y w (mp w) → Wg G (mLw meth.name) p l e room_1 s m #[Value.ref b] below meth c (lw_Z below #[Value.ref b] s) 856 [(2, -2), (2, 0), (2, 47), (0, i)] [] Y w (mc - 13) (ms - 1246)) : Wg G (mLw meth.name) p l e room_1 s m #[Value.ref b] below meth c (lw_Z below #[Value.ref b] s) 388 [(2, -2), (2, 0), (2, 47), (0, i)] [] X v mc ms := by
  obtain ⟨c1, s1, hc1, hs1, P, hC, hP⟩ := s_touch h (sx G (i + 1)) (sx G (i + 2))
  refine w_aload_n hX dL_law_388 rfl ?_
  refine w_arg hX hl 1 hi (by decide) dL_law_389 dL_law_390 dL_law_391 dL_law_392 dL_law_393 rfl rfl ?_
  refine w_arg hX hl 2 hi (by decide) dL_law_394 dL_law_395 dL_law_396 dL_law_397 dL_law_398 rfl rfl ?_
  refine w_inv hX dL_law_399 mlL_51 hC (sW0 h.1.1) (Nat.le_of_ble_eq_true rfl) (gW0 h.1.1) (st := _) rfl rfl (by decide) (by omega) (by omega) (Nat.le_of_ble_eq_true rfl) (fun o Y w ht hp => ?_)
  obtain ⟨r, rfl, hSW, hC2⟩ := hP o Y w hp
  refine w_aload_n hX dL_law_402 rfl ?_
  refine w_arg hX hl 1 hi (by decide) dL_law_403 dL_law_404 dL_law_405 dL_law_406 dL_law_407 rfl rfl ?_
  refine w_arg hX hl 2 hi (by decide) dL_law_408 dL_law_409 dL_law_410 dL_law_411 dL_law_412 rfl rfl ?_
  refine w_inv hX dL_law_413 mlL_54 hC2 (sW47 hSW) (Nat.le_of_ble_eq_true rfl) (gW47 hSW) (st := _) rfl rfl (by decide) (Nat.zero_le _) (Nat.zero_le _) (Nat.le_of_ble_eq_true rfl) (fun o2 Y2 w2 ht2 hp2 => ?_)
  obtain ⟨eY, e2, G2, cC2, hI⟩ := hp2
  subst eY
  subst e2
  refine w_icmp_eq (tgt := 856) hX dL_law_416 rfl (fun _ => ?_) (fun q => absurd rfl q)
  exact w_widen (by omega) (by omega) (go _ _ _ _ hI)
set_option maxRecDepth 100000 in
set_option maxHeartbeats 4000000 in
theorem law_c9 {G : GG} {p : Program} {l : Launch} {e : Env} {s : State} {m : MethodId} {b : Nat} {below : List Frame} {meth : Method} {c : Code} (hX : XC (mLw meth.name) 100 G p room_1 s m #[Value.ref b] meth c) (hl : gL G < 2147483648) {i : Int} (hi : 0 ≤ i ∧ i + 5 < gL G) {G0 : GT} {cC : Int → Nat} {E : Int} {X : XX} {v : VV} {mc ms : Nat} (h : I2 G0 cC E X v (mp v)) (hE : E ≤ 1600000000) (hm : 13 ≤ mc) (hs : 1246 ≤ ms) (go : ∀ (Y : XX) (w : VV) (G2 : GT) (cC2 : Int → Nat), I2 G2 cC2 (E + 10000) Y w (mp w) → Wg G (mLw meth.name) p l e room_1 s m #[Value.ref b] below meth c (lw_Z below #[Value.ref b] s) 856 [(2, -2), (2, 0), (2, 47), (0, i)] [] Y w (mc - 13) (ms - 1246)) : Wg G (mLw meth.name) p l e room_1 s m #[Value.ref b] below meth c (lw_Z below #[Value.ref b] s) 421 [(2, -2), (2, 0), (2, 47), (0, i)] [] X v mc ms := by
  obtain ⟨c1, s1, hc1, hs1, P, hC, hP⟩ := s_asked h (sx G (i + 1)) (sx G (i + 2))
  refine w_aload_n hX dL_law_421 rfl ?_
  refine w_arg hX hl 1 hi (by decide) dL_law_422 dL_law_423 dL_law_424 dL_law_425 dL_law_426 rfl rfl ?_
  refine w_arg hX hl 2 hi (by decide) dL_law_427 dL_law_428 dL_law_429 dL_law_430 dL_law_431 rfl rfl ?_
  refine w_inv hX dL_law_432 mlL_55 hC (sW0 h.1.1) (Nat.le_of_ble_eq_true rfl) (gW0 h.1.1) (st := _) rfl rfl (by decide) (by omega) (by omega) (Nat.le_of_ble_eq_true rfl) (fun o Y w ht hp => ?_)
  obtain ⟨r, rfl, hSW, hC2⟩ := hP o Y w hp
  refine w_aload_n hX dL_law_435 rfl ?_
  refine w_arg hX hl 1 hi (by decide) dL_law_436 dL_law_437 dL_law_438 dL_law_439 dL_law_440 rfl rfl ?_
  refine w_arg hX hl 2 hi (by decide) dL_law_441 dL_law_442 dL_law_443 dL_law_444 dL_law_445 rfl rfl ?_
  refine w_inv hX dL_law_446 mlL_58 hC2 (sW47 hSW) (Nat.le_of_ble_eq_true rfl) (gW47 hSW) (st := _) rfl rfl (by decide) (Nat.zero_le _) (Nat.zero_le _) (Nat.le_of_ble_eq_true rfl) (fun o2 Y2 w2 ht2 hp2 => ?_)
  obtain ⟨eY, e2, G2, cC2, hI⟩ := hp2
  subst eY
  subst e2
  refine w_icmp_eq (tgt := 856) hX dL_law_449 rfl (fun _ => ?_) (fun q => absurd rfl q)
  exact w_widen (by omega) (by omega) (go _ _ _ _ hI)
set_option maxRecDepth 100000 in
set_option maxHeartbeats 4000000 in
theorem law_c10 {G : GG} {p : Program} {l : Launch} {e : Env} {s : State} {m : MethodId} {b : Nat} {below : List Frame} {meth : Method} {c : Code} (hX : XC (mLw meth.name) 100 G p room_1 s m #[Value.ref b] meth c) (hl : gL G < 2147483648) {i : Int} (hi : 0 ≤ i ∧ i + 5 < gL G) {G0 : GT} {cC : Int → Nat} {E : Int} {X : XX} {v : VV} {mc ms : Nat} (h : I2 G0 cC E X v (mp v)) (hE : E ≤ 1600000000) (hm : 13 ≤ mc) (hs : 1246 ≤ ms) (go : ∀ (Y : XX) (w : VV) (G2 : GT) (cC2 : Int → Nat), I2 G2 cC2 (E + 10000) Y w (mp w) → Wg G (mLw meth.name) p l e room_1 s m #[Value.ref b] below meth c (lw_Z below #[Value.ref b] s) 856 [(2, -2), (2, 0), (2, 47), (0, i)] [] Y w (mc - 13) (ms - 1246)) : Wg G (mLw meth.name) p l e room_1 s m #[Value.ref b] below meth c (lw_Z below #[Value.ref b] s) 454 [(2, -2), (2, 0), (2, 47), (0, i)] [] X v mc ms := by
  obtain ⟨c1, s1, hc1, hs1, P, hC, hP⟩ := s_found h (sx G (i + 1))
  refine w_aload_n hX dL_law_454 rfl ?_
  refine w_arg hX hl 1 hi (by decide) dL_law_455 dL_law_456 dL_law_457 dL_law_458 dL_law_459 rfl rfl ?_
  refine w_inv hX dL_law_460 mlL_59 hC (sW0 h.1.1) (Nat.le_of_ble_eq_true rfl) (gW0 h.1.1) (st := _) rfl rfl (by decide) (by omega) (by omega) (Nat.le_of_ble_eq_true rfl) (fun o Y w ht hp => ?_)
  obtain ⟨r, rfl, hSW, hC2⟩ := hP o Y w hp
  refine w_aload_n hX dL_law_463 rfl ?_
  refine w_arg hX hl 1 hi (by decide) dL_law_464 dL_law_465 dL_law_466 dL_law_467 dL_law_468 rfl rfl ?_
  refine w_inv hX dL_law_469 mlL_62 hC2 (sW47 hSW) (Nat.le_of_ble_eq_true rfl) (gW47 hSW) (st := _) rfl rfl (by decide) (Nat.zero_le _) (Nat.zero_le _) (Nat.le_of_ble_eq_true rfl) (fun o2 Y2 w2 ht2 hp2 => ?_)
  obtain ⟨eY, e2, G2, cC2, hI⟩ := hp2
  subst eY
  subst e2
  refine w_icmp_eq (tgt := 856) hX dL_law_472 rfl (fun _ => ?_) (fun q => absurd rfl q)
  exact w_widen (by omega) (by omega) (go _ _ _ _ hI)
set_option maxRecDepth 100000 in
set_option maxHeartbeats 4000000 in
theorem law_c11 {G : GG} {p : Program} {l : Launch} {e : Env} {s : State} {m : MethodId} {b : Nat} {below : List Frame} {meth : Method} {c : Code} (hX : XC (mLw meth.name) 100 G p room_1 s m #[Value.ref b] meth c) (hl : gL G < 2147483648) {i : Int} (hi : 0 ≤ i ∧ i + 5 < gL G) {G0 : GT} {cC : Int → Nat} {E : Int} {X : XX} {v : VV} {mc ms : Nat} (h : I2 G0 cC E X v (mp v)) (hE : E ≤ 1600000000) (hm : 13 ≤ mc) (hs : 1246 ≤ ms) (go : ∀ (Y : XX) (w : VV) (G2 : GT) (cC2 : Int → Nat), I2 G2 cC2 (E + 10000) Y w (mp w) → Wg G (mLw meth.name) p l e room_1 s m #[Value.ref b] below meth c (lw_Z below #[Value.ref b] s) 856 [(2, -2), (2, 0), (2, 47), (0, i)] [] Y w (mc - 13) (ms - 1246)) : Wg G (mLw meth.name) p l e room_1 s m #[Value.ref b] below meth c (lw_Z below #[Value.ref b] s) 477 [(2, -2), (2, 0), (2, 47), (0, i)] [] X v mc ms := by
  obtain ⟨c1, s1, hc1, hs1, P, hC, hP⟩ := s_retype h (sx G (i + 1)) (sx G (i + 2)) (sx G (i + 3))
  refine w_aload_n hX dL_law_477 rfl ?_
  refine w_arg hX hl 1 hi (by decide) dL_law_478 dL_law_479 dL_law_480 dL_law_481 dL_law_482 rfl rfl ?_
  refine w_arg hX hl 2 hi (by decide) dL_law_483 dL_law_484 dL_law_485 dL_law_486 dL_law_487 rfl rfl ?_
  refine w_arg hX hl 3 hi (by decide) dL_law_488 dL_law_489 dL_law_490 dL_law_491 dL_law_492 rfl rfl ?_
  refine w_inv hX dL_law_493 mlL_63 hC (sW0 h.1.1) (Nat.le_of_ble_eq_true rfl) (gW0 h.1.1) (st := _) rfl rfl (by decide) (by omega) (by omega) (Nat.le_of_ble_eq_true rfl) (fun o Y w ht hp => ?_)
  obtain ⟨r, rfl, hSW, hC2⟩ := hP o Y w hp
  refine w_aload_n hX dL_law_496 rfl ?_
  refine w_arg hX hl 1 hi (by decide) dL_law_497 dL_law_498 dL_law_499 dL_law_500 dL_law_501 rfl rfl ?_
  refine w_arg hX hl 2 hi (by decide) dL_law_502 dL_law_503 dL_law_504 dL_law_505 dL_law_506 rfl rfl ?_
  refine w_arg hX hl 3 hi (by decide) dL_law_507 dL_law_508 dL_law_509 dL_law_510 dL_law_511 rfl rfl ?_
  refine w_inv hX dL_law_512 mlL_66 hC2 (sW47 hSW) (Nat.le_of_ble_eq_true rfl) (gW47 hSW) (st := _) rfl rfl (by decide) (Nat.zero_le _) (Nat.zero_le _) (Nat.le_of_ble_eq_true rfl) (fun o2 Y2 w2 ht2 hp2 => ?_)
  obtain ⟨eY, e2, G2, cC2, hI⟩ := hp2
  subst eY
  subst e2
  refine w_icmp_eq (tgt := 856) hX dL_law_515 rfl (fun _ => ?_) (fun q => absurd rfl q)
  exact w_widen (by omega) (by omega) (go _ _ _ _ hI)
set_option maxRecDepth 100000 in
set_option maxHeartbeats 4000000 in
theorem law_c12 {G : GG} {p : Program} {l : Launch} {e : Env} {s : State} {m : MethodId} {b : Nat} {below : List Frame} {meth : Method} {c : Code} (hX : XC (mLw meth.name) 100 G p room_1 s m #[Value.ref b] meth c) (hl : gL G < 2147483648) {i : Int} (hi : 0 ≤ i ∧ i + 5 < gL G) {G0 : GT} {cC : Int → Nat} {E : Int} {X : XX} {v : VV} {mc ms : Nat} (h : I2 G0 cC E X v (mp v)) (hE : E ≤ 1600000000) (hm : 13 ≤ mc) (hs : 1246 ≤ ms) (go : ∀ (Y : XX) (w : VV) (G2 : GT) (cC2 : Int → Nat), I2 G2 cC2 (E + 10000) Y w (mp w) → Wg G (mLw meth.name) p l e room_1 s m #[Value.ref b] below meth c (lw_Z below #[Value.ref b] s) 856 [(2, -2), (2, 0), (2, 47), (0, i)] [] Y w (mc - 13) (ms - 1246)) : Wg G (mLw meth.name) p l e room_1 s m #[Value.ref b] below meth c (lw_Z below #[Value.ref b] s) 520 [(2, -2), (2, 0), (2, 47), (0, i)] [] X v mc ms := by
  obtain ⟨c1, s1, hc1, hs1, P, hC, hP⟩ := s_drop h (sx G (i + 1))
  refine w_aload_n hX dL_law_520 rfl ?_
  refine w_arg hX hl 1 hi (by decide) dL_law_521 dL_law_522 dL_law_523 dL_law_524 dL_law_525 rfl rfl ?_
  refine w_inv hX dL_law_526 mlL_67 hC (sW0 h.1.1) (Nat.le_of_ble_eq_true rfl) (gW0 h.1.1) (st := _) rfl rfl (by decide) (by omega) (by omega) (Nat.le_of_ble_eq_true rfl) (fun o Y w ht hp => ?_)
  obtain ⟨r, rfl, hSW, hC2⟩ := hP o Y w hp
  refine w_aload_n hX dL_law_529 rfl ?_
  refine w_arg hX hl 1 hi (by decide) dL_law_530 dL_law_531 dL_law_532 dL_law_533 dL_law_534 rfl rfl ?_
  refine w_inv hX dL_law_535 mlL_70 hC2 (sW47 hSW) (Nat.le_of_ble_eq_true rfl) (gW47 hSW) (st := _) rfl rfl (by decide) (Nat.zero_le _) (Nat.zero_le _) (Nat.le_of_ble_eq_true rfl) (fun o2 Y2 w2 ht2 hp2 => ?_)
  obtain ⟨eY, e2, G2, cC2, hI⟩ := hp2
  subst eY
  subst e2
  refine w_icmp_eq (tgt := 856) hX dL_law_538 rfl (fun _ => ?_) (fun q => absurd rfl q)
  exact w_widen (by omega) (by omega) (go _ _ _ _ hI)
set_option maxRecDepth 100000 in
set_option maxHeartbeats 4000000 in
theorem law_c13 {G : GG} {p : Program} {l : Launch} {e : Env} {s : State} {m : MethodId} {b : Nat} {below : List Frame} {meth : Method} {c : Code} (hX : XC (mLw meth.name) 100 G p room_1 s m #[Value.ref b] meth c) (hl : gL G < 2147483648) {i : Int} (hi : 0 ≤ i ∧ i + 5 < gL G) {G0 : GT} {cC : Int → Nat} {E : Int} {X : XX} {v : VV} {mc ms : Nat} (h : I2 G0 cC E X v (mp v)) (hE : E ≤ 1600000000) (hm : 13 ≤ mc) (hs : 1246 ≤ ms) (go : ∀ (Y : XX) (w : VV) (G2 : GT) (cC2 : Int → Nat), I2 G2 cC2 (E + 10000) Y w (mp w) → Wg G (mLw meth.name) p l e room_1 s m #[Value.ref b] below meth c (lw_Z below #[Value.ref b] s) 856 [(2, -2), (2, 0), (2, 47), (0, i)] [] Y w (mc - 13) (ms - 1246)) : Wg G (mLw meth.name) p l e room_1 s m #[Value.ref b] below meth c (lw_Z below #[Value.ref b] s) 543 [(2, -2), (2, 0), (2, 47), (0, i)] [] X v mc ms := by
  obtain ⟨c1, s1, hc1, hs1, P, hC, hP⟩ := s_freeze h (sx G (i + 1))
  refine w_aload_n hX dL_law_543 rfl ?_
  refine w_arg hX hl 1 hi (by decide) dL_law_544 dL_law_545 dL_law_546 dL_law_547 dL_law_548 rfl rfl ?_
  refine w_inv hX dL_law_549 mlL_71 hC (sW0 h.1.1) (Nat.le_of_ble_eq_true rfl) (gW0 h.1.1) (st := _) rfl rfl (by decide) (by omega) (by omega) (Nat.le_of_ble_eq_true rfl) (fun o Y w ht hp => ?_)
  obtain ⟨r, rfl, hSW, hC2⟩ := hP o Y w hp
  refine w_aload_n hX dL_law_552 rfl ?_
  refine w_arg hX hl 1 hi (by decide) dL_law_553 dL_law_554 dL_law_555 dL_law_556 dL_law_557 rfl rfl ?_
  refine w_inv hX dL_law_558 mlL_74 hC2 (sW47 hSW) (Nat.le_of_ble_eq_true rfl) (gW47 hSW) (st := _) rfl rfl (by decide) (Nat.zero_le _) (Nat.zero_le _) (Nat.le_of_ble_eq_true rfl) (fun o2 Y2 w2 ht2 hp2 => ?_)
  obtain ⟨eY, e2, G2, cC2, hI⟩ := hp2
  subst eY
  subst e2
  refine w_icmp_eq (tgt := 856) hX dL_law_561 rfl (fun _ => ?_) (fun q => absurd rfl q)
  exact w_widen (by omega) (by omega) (go _ _ _ _ hI)
set_option maxRecDepth 100000 in
set_option maxHeartbeats 4000000 in
theorem law_c14 {G : GG} {p : Program} {l : Launch} {e : Env} {s : State} {m : MethodId} {b : Nat} {below : List Frame} {meth : Method} {c : Code} (hX : XC (mLw meth.name) 100 G p room_1 s m #[Value.ref b] meth c) (hl : gL G < 2147483648) {i : Int} (hi : 0 ≤ i ∧ i + 5 < gL G) {G0 : GT} {cC : Int → Nat} {E : Int} {X : XX} {v : VV} {mc ms : Nat} (h : I2 G0 cC E X v (mp v)) (hE : E ≤ 1600000000) (hm : 13 ≤ mc) (hs : 1246 ≤ ms) (go : ∀ (Y : XX) (w : VV) (G2 : GT) (cC2 : Int → Nat), I2 G2 cC2 (E + 10000) Y w (mp w) → Wg G (mLw meth.name) p l e room_1 s m #[Value.ref b] below meth c (lw_Z below #[Value.ref b] s) 856 [(2, -2), (2, 0), (2, 47), (0, i)] [] Y w (mc - 13) (ms - 1246)) : Wg G (mLw meth.name) p l e room_1 s m #[Value.ref b] below meth c (lw_Z below #[Value.ref b] s) 566 [(2, -2), (2, 0), (2, 47), (0, i)] [] X v mc ms := by
  obtain ⟨c1, s1, hc1, hs1, P, hC, hP⟩ := s_today h (sx G (i + 1))
  refine w_aload_n hX dL_law_566 rfl ?_
  refine w_arg hX hl 1 hi (by decide) dL_law_567 dL_law_568 dL_law_569 dL_law_570 dL_law_571 rfl rfl ?_
  refine w_inv hX dL_law_572 mlL_75 hC (sW0 h.1.1) (Nat.le_of_ble_eq_true rfl) (gW0 h.1.1) (st := _) rfl rfl (by decide) (by omega) (by omega) (Nat.le_of_ble_eq_true rfl) (fun o Y w ht hp => ?_)
  obtain ⟨r, rfl, hSW, hC2⟩ := hP o Y w hp
  refine w_aload_n hX dL_law_575 rfl ?_
  refine w_arg hX hl 1 hi (by decide) dL_law_576 dL_law_577 dL_law_578 dL_law_579 dL_law_580 rfl rfl ?_
  refine w_inv hX dL_law_581 mlL_78 hC2 (sW47 hSW) (Nat.le_of_ble_eq_true rfl) (gW47 hSW) (st := _) rfl rfl (by decide) (Nat.zero_le _) (Nat.zero_le _) (Nat.le_of_ble_eq_true rfl) (fun o2 Y2 w2 ht2 hp2 => ?_)
  obtain ⟨eY, e2, G2, cC2, hI⟩ := hp2
  subst eY
  subst e2
  refine w_icmp_eq (tgt := 856) hX dL_law_584 rfl (fun _ => ?_) (fun q => absurd rfl q)
  exact w_widen (by omega) (by omega) (go _ _ _ _ hI)
set_option maxRecDepth 100000 in
set_option maxHeartbeats 4000000 in
theorem law_c15 {G : GG} {p : Program} {l : Launch} {e : Env} {s : State} {m : MethodId} {b : Nat} {below : List Frame} {meth : Method} {c : Code} (hX : XC (mLw meth.name) 100 G p room_1 s m #[Value.ref b] meth c) (hl : gL G < 2147483648) {i : Int} (hi : 0 ≤ i ∧ i + 5 < gL G) {G0 : GT} {cC : Int → Nat} {E : Int} {X : XX} {v : VV} {mc ms : Nat} (h : I2 G0 cC E X v (mp v)) (hE : E ≤ 1600000000) (hm : 13 ≤ mc) (hs : 1246 ≤ ms) (go : ∀ (Y : XX) (w : VV) (G2 : GT) (cC2 : Int → Nat), I2 G2 cC2 (E + 10000) Y w (mp w) → Wg G (mLw meth.name) p l e room_1 s m #[Value.ref b] below meth c (lw_Z below #[Value.ref b] s) 856 [(2, -2), (2, 0), (2, 47), (0, i)] [] Y w (mc - 13) (ms - 1246)) : Wg G (mLw meth.name) p l e room_1 s m #[Value.ref b] below meth c (lw_Z below #[Value.ref b] s) 589 [(2, -2), (2, 0), (2, 47), (0, i)] [] X v mc ms := by
  obtain ⟨c1, s1, hc1, hs1, P, hC, hP⟩ := s_fed h (sx G (i + 1)) (sx G (i + 2)) (sx G (i + 3))
  refine w_aload_n hX dL_law_589 rfl ?_
  refine w_arg hX hl 1 hi (by decide) dL_law_590 dL_law_591 dL_law_592 dL_law_593 dL_law_594 rfl rfl ?_
  refine w_arg hX hl 2 hi (by decide) dL_law_595 dL_law_596 dL_law_597 dL_law_598 dL_law_599 rfl rfl ?_
  refine w_arg hX hl 3 hi (by decide) dL_law_600 dL_law_601 dL_law_602 dL_law_603 dL_law_604 rfl rfl ?_
  refine w_inv hX dL_law_605 mlL_79 hC (sW0 h.1.1) (Nat.le_of_ble_eq_true rfl) (gW0 h.1.1) (st := _) rfl rfl (by decide) (by omega) (by omega) (Nat.le_of_ble_eq_true rfl) (fun o Y w ht hp => ?_)
  obtain ⟨r, rfl, hSW, hC2⟩ := hP o Y w hp
  refine w_aload_n hX dL_law_608 rfl ?_
  refine w_arg hX hl 1 hi (by decide) dL_law_609 dL_law_610 dL_law_611 dL_law_612 dL_law_613 rfl rfl ?_
  refine w_arg hX hl 2 hi (by decide) dL_law_614 dL_law_615 dL_law_616 dL_law_617 dL_law_618 rfl rfl ?_
  refine w_arg hX hl 3 hi (by decide) dL_law_619 dL_law_620 dL_law_621 dL_law_622 dL_law_623 rfl rfl ?_
  refine w_inv hX dL_law_624 mlL_83 hC2 (sW47 hSW) (Nat.le_of_ble_eq_true rfl) (gW47 hSW) (st := _) rfl rfl (by decide) (Nat.zero_le _) (Nat.zero_le _) (Nat.le_of_ble_eq_true rfl) (fun o2 Y2 w2 ht2 hp2 => ?_)
  obtain ⟨eY, e2, G2, cC2, hI⟩ := hp2
  subst eY
  subst e2
  refine w_icmp_eq (tgt := 856) hX dL_law_627 rfl (fun _ => ?_) (fun q => absurd rfl q)
  exact w_widen (by omega) (by omega) (go _ _ _ _ hI)
set_option maxRecDepth 100000 in
set_option maxHeartbeats 4000000 in
theorem law_c16 {G : GG} {p : Program} {l : Launch} {e : Env} {s : State} {m : MethodId} {b : Nat} {below : List Frame} {meth : Method} {c : Code} (hX : XC (mLw meth.name) 100 G p room_1 s m #[Value.ref b] meth c) (hl : gL G < 2147483648) {i : Int} (hi : 0 ≤ i ∧ i + 5 < gL G) {G0 : GT} {cC : Int → Nat} {E : Int} {X : XX} {v : VV} {mc ms : Nat} (h : I2 G0 cC E X v (mp v)) (hE : E ≤ 1600000000) (hm : 13 ≤ mc) (hs : 1246 ≤ ms) (go : ∀ (Y : XX) (w : VV) (G2 : GT) (cC2 : Int → Nat), I2 G2 cC2 (E + 10000) Y w (mp w) → Wg G (mLw meth.name) p l e room_1 s m #[Value.ref b] below meth c (lw_Z below #[Value.ref b] s) 856 [(2, -2), (2, 0), (2, 47), (0, i)] [] Y w (mc - 13) (ms - 1246)) : Wg G (mLw meth.name) p l e room_1 s m #[Value.ref b] below meth c (lw_Z below #[Value.ref b] s) 632 [(2, -2), (2, 0), (2, 47), (0, i)] [] X v mc ms := by
  obtain ⟨c1, s1, hc1, hs1, P, hC, hP⟩ := s_run h (sx G (i + 1))
  refine w_aload_n hX dL_law_632 rfl ?_
  refine w_arg hX hl 1 hi (by decide) dL_law_633 dL_law_634 dL_law_635 dL_law_636 dL_law_637 rfl rfl ?_
  refine w_inv hX dL_law_638 mlL_84 hC (sW0 h.1.1) (Nat.le_of_ble_eq_true rfl) (gW0 h.1.1) (st := _) rfl rfl (by decide) (by omega) (by omega) (Nat.le_of_ble_eq_true rfl) (fun o Y w ht hp => ?_)
  obtain ⟨r, rfl, hSW, hC2⟩ := hP o Y w hp
  refine w_aload_n hX dL_law_641 rfl ?_
  refine w_arg hX hl 1 hi (by decide) dL_law_642 dL_law_643 dL_law_644 dL_law_645 dL_law_646 rfl rfl ?_
  refine w_inv hX dL_law_647 mlL_87 hC2 (sW47 hSW) (Nat.le_of_ble_eq_true rfl) (gW47 hSW) (st := _) rfl rfl (by decide) (Nat.zero_le _) (Nat.zero_le _) (Nat.le_of_ble_eq_true rfl) (fun o2 Y2 w2 ht2 hp2 => ?_)
  obtain ⟨eY, e2, G2, cC2, hI⟩ := hp2
  subst eY
  subst e2
  refine w_icmp_eq (tgt := 856) hX dL_law_650 rfl (fun _ => ?_) (fun q => absurd rfl q)
  exact w_widen (by omega) (by omega) (go _ _ _ _ hI)
set_option maxRecDepth 100000 in
set_option maxHeartbeats 4000000 in
theorem law_c17 {G : GG} {p : Program} {l : Launch} {e : Env} {s : State} {m : MethodId} {b : Nat} {below : List Frame} {meth : Method} {c : Code} (hX : XC (mLw meth.name) 100 G p room_1 s m #[Value.ref b] meth c) (hl : gL G < 2147483648) {i : Int} (hi : 0 ≤ i ∧ i + 5 < gL G) {G0 : GT} {cC : Int → Nat} {E : Int} {X : XX} {v : VV} {mc ms : Nat} (h : I2 G0 cC E X v (mp v)) (hE : E ≤ 1600000000) (hm : 13 ≤ mc) (hs : 1246 ≤ ms) (go : ∀ (Y : XX) (w : VV) (G2 : GT) (cC2 : Int → Nat), I2 G2 cC2 (E + 10000) Y w (mp w) → Wg G (mLw meth.name) p l e room_1 s m #[Value.ref b] below meth c (lw_Z below #[Value.ref b] s) 856 [(2, -2), (2, 0), (2, 47), (0, i)] [] Y w (mc - 13) (ms - 1246)) : Wg G (mLw meth.name) p l e room_1 s m #[Value.ref b] below meth c (lw_Z below #[Value.ref b] s) 655 [(2, -2), (2, 0), (2, 47), (0, i)] [] X v mc ms := by
  obtain ⟨c1, s1, hc1, hs1, P, hC, hP⟩ := s_promise h (sx G (i + 1)) (sx G (i + 2))
  refine w_aload_n hX dL_law_655 rfl ?_
  refine w_arg hX hl 1 hi (by decide) dL_law_656 dL_law_657 dL_law_658 dL_law_659 dL_law_660 rfl rfl ?_
  refine w_arg hX hl 2 hi (by decide) dL_law_661 dL_law_662 dL_law_663 dL_law_664 dL_law_665 rfl rfl ?_
  refine w_inv hX dL_law_666 mlL_88 hC (sW0 h.1.1) (Nat.le_of_ble_eq_true rfl) (gW0 h.1.1) (st := _) rfl rfl (by decide) (by omega) (by omega) (Nat.le_of_ble_eq_true rfl) (fun o Y w ht hp => ?_)
  obtain ⟨r, rfl, hSW, hC2⟩ := hP o Y w hp
  refine w_aload_n hX dL_law_669 rfl ?_
  refine w_arg hX hl 1 hi (by decide) dL_law_670 dL_law_671 dL_law_672 dL_law_673 dL_law_674 rfl rfl ?_
  refine w_arg hX hl 2 hi (by decide) dL_law_675 dL_law_676 dL_law_677 dL_law_678 dL_law_679 rfl rfl ?_
  refine w_inv hX dL_law_680 mlL_92 hC2 (sW47 hSW) (Nat.le_of_ble_eq_true rfl) (gW47 hSW) (st := _) rfl rfl (by decide) (Nat.zero_le _) (Nat.zero_le _) (Nat.le_of_ble_eq_true rfl) (fun o2 Y2 w2 ht2 hp2 => ?_)
  obtain ⟨eY, e2, G2, cC2, hI⟩ := hp2
  subst eY
  subst e2
  refine w_icmp_eq (tgt := 856) hX dL_law_683 rfl (fun _ => ?_) (fun q => absurd rfl q)
  exact w_widen (by omega) (by omega) (go _ _ _ _ hI)
set_option maxRecDepth 100000 in
set_option maxHeartbeats 4000000 in
theorem law_c18 {G : GG} {p : Program} {l : Launch} {e : Env} {s : State} {m : MethodId} {b : Nat} {below : List Frame} {meth : Method} {c : Code} (hX : XC (mLw meth.name) 100 G p room_1 s m #[Value.ref b] meth c) (hl : gL G < 2147483648) {i : Int} (hi : 0 ≤ i ∧ i + 5 < gL G) {G0 : GT} {cC : Int → Nat} {E : Int} {X : XX} {v : VV} {mc ms : Nat} (h : I2 G0 cC E X v (mp v)) (hE : E ≤ 1600000000) (hm : 13 ≤ mc) (hs : 1246 ≤ ms) (go : ∀ (Y : XX) (w : VV) (G2 : GT) (cC2 : Int → Nat), I2 G2 cC2 (E + 10000) Y w (mp w) → Wg G (mLw meth.name) p l e room_1 s m #[Value.ref b] below meth c (lw_Z below #[Value.ref b] s) 856 [(2, -2), (2, 0), (2, 47), (0, i)] [] Y w (mc - 13) (ms - 1246)) : Wg G (mLw meth.name) p l e room_1 s m #[Value.ref b] below meth c (lw_Z below #[Value.ref b] s) 688 [(2, -2), (2, 0), (2, 47), (0, i)] [] X v mc ms := by
  obtain ⟨c1, s1, hc1, hs1, P, hC, hP⟩ := s_broken h
  refine w_aload_n hX dL_law_688 rfl ?_
  refine w_inv hX dL_law_689 mlL_93 hC (sW0 h.1.1) (Nat.le_of_ble_eq_true rfl) (gW0 h.1.1) (st := _) rfl rfl (by decide) (by omega) (by omega) (Nat.le_of_ble_eq_true rfl) (fun o Y w ht hp => ?_)
  obtain ⟨r, rfl, hSW, hC2⟩ := hP o Y w hp
  refine w_aload_n hX dL_law_692 rfl ?_
  refine w_inv hX dL_law_693 mlL_96 hC2 (sW47 hSW) (Nat.le_of_ble_eq_true rfl) (gW47 hSW) (st := _) rfl rfl (by decide) (Nat.zero_le _) (Nat.zero_le _) (Nat.le_of_ble_eq_true rfl) (fun o2 Y2 w2 ht2 hp2 => ?_)
  obtain ⟨eY, e2, G2, cC2, hI⟩ := hp2
  subst eY
  subst e2
  refine w_icmp_eq (tgt := 856) hX dL_law_696 rfl (fun _ => ?_) (fun q => absurd rfl q)
  exact w_widen (by omega) (by omega) (go _ _ _ _ hI)
set_option maxRecDepth 100000 in
set_option maxHeartbeats 4000000 in
theorem law_c19 {G : GG} {p : Program} {l : Launch} {e : Env} {s : State} {m : MethodId} {b : Nat} {below : List Frame} {meth : Method} {c : Code} (hX : XC (mLw meth.name) 100 G p room_1 s m #[Value.ref b] meth c) (hl : gL G < 2147483648) {i : Int} (hi : 0 ≤ i ∧ i + 5 < gL G) {G0 : GT} {cC : Int → Nat} {E : Int} {X : XX} {v : VV} {mc ms : Nat} (h : I2 G0 cC E X v (mp v)) (hE : E ≤ 1600000000) (hm : 13 ≤ mc) (hs : 1246 ≤ ms) (go : ∀ (Y : XX) (w : VV) (G2 : GT) (cC2 : Int → Nat), I2 G2 cC2 (E + 10000) Y w (mp w) → Wg G (mLw meth.name) p l e room_1 s m #[Value.ref b] below meth c (lw_Z below #[Value.ref b] s) 856 [(2, -2), (2, 0), (2, 47), (0, i)] [] Y w (mc - 13) (ms - 1246)) : Wg G (mLw meth.name) p l e room_1 s m #[Value.ref b] below meth c (lw_Z below #[Value.ref b] s) 701 [(2, -2), (2, 0), (2, 47), (0, i)] [] X v mc ms := by
  obtain ⟨c1, s1, hc1, hs1, P, hC, hP⟩ := s_late h (sx G (i + 1))
  refine w_aload_n hX dL_law_701 rfl ?_
  refine w_arg hX hl 1 hi (by decide) dL_law_702 dL_law_703 dL_law_704 dL_law_705 dL_law_706 rfl rfl ?_
  refine w_inv hX dL_law_707 mlL_97 hC (sW0 h.1.1) (Nat.le_of_ble_eq_true rfl) (gW0 h.1.1) (st := _) rfl rfl (by decide) (by omega) (by omega) (Nat.le_of_ble_eq_true rfl) (fun o Y w ht hp => ?_)
  obtain ⟨r, rfl, hSW, hC2⟩ := hP o Y w hp
  refine w_aload_n hX dL_law_710 rfl ?_
  refine w_arg hX hl 1 hi (by decide) dL_law_711 dL_law_712 dL_law_713 dL_law_714 dL_law_715 rfl rfl ?_
  refine w_inv hX dL_law_716 mlL_100 hC2 (sW47 hSW) (Nat.le_of_ble_eq_true rfl) (gW47 hSW) (st := _) rfl rfl (by decide) (Nat.zero_le _) (Nat.zero_le _) (Nat.le_of_ble_eq_true rfl) (fun o2 Y2 w2 ht2 hp2 => ?_)
  obtain ⟨eY, e2, G2, cC2, hI⟩ := hp2
  subst eY
  subst e2
  refine w_icmp_eq (tgt := 856) hX dL_law_719 rfl (fun _ => ?_) (fun q => absurd rfl q)
  exact w_widen (by omega) (by omega) (go _ _ _ _ hI)
set_option maxRecDepth 100000 in
set_option maxHeartbeats 4000000 in
theorem law_c20 {G : GG} {p : Program} {l : Launch} {e : Env} {s : State} {m : MethodId} {b : Nat} {below : List Frame} {meth : Method} {c : Code} (hX : XC (mLw meth.name) 100 G p room_1 s m #[Value.ref b] meth c) (hl : gL G < 2147483648) {i : Int} (hi : 0 ≤ i ∧ i + 5 < gL G) {G0 : GT} {cC : Int → Nat} {E : Int} {X : XX} {v : VV} {mc ms : Nat} (h : I2 G0 cC E X v (mp v)) (hE : E ≤ 1600000000) (hm : 13 ≤ mc) (hs : 1246 ≤ ms) (go : ∀ (Y : XX) (w : VV) (G2 : GT) (cC2 : Int → Nat), I2 G2 cC2 (E + 10000) Y w (mp w) → Wg G (mLw meth.name) p l e room_1 s m #[Value.ref b] below meth c (lw_Z below #[Value.ref b] s) 856 [(2, -2), (2, 0), (2, 47), (0, i)] [] Y w (mc - 13) (ms - 1246)) : Wg G (mLw meth.name) p l e room_1 s m #[Value.ref b] below meth c (lw_Z below #[Value.ref b] s) 724 [(2, -2), (2, 0), (2, 47), (0, i)] [] X v mc ms := by
  obtain ⟨c1, s1, hc1, hs1, P, hC, hP⟩ := s_own h (sx G (i + 1)) (sx G (i + 2))
  refine w_aload_n hX dL_law_724 rfl ?_
  refine w_arg hX hl 1 hi (by decide) dL_law_725 dL_law_726 dL_law_727 dL_law_728 dL_law_729 rfl rfl ?_
  refine w_arg hX hl 2 hi (by decide) dL_law_730 dL_law_731 dL_law_732 dL_law_733 dL_law_734 rfl rfl ?_
  refine w_inv hX dL_law_735 mlL_101 hC (sW0 h.1.1) (Nat.le_of_ble_eq_true rfl) (gW0 h.1.1) (st := _) rfl rfl (by decide) (by omega) (by omega) (Nat.le_of_ble_eq_true rfl) (fun o Y w ht hp => ?_)
  obtain ⟨r, rfl, hSW, hC2⟩ := hP o Y w hp
  refine w_aload_n hX dL_law_738 rfl ?_
  refine w_arg hX hl 1 hi (by decide) dL_law_739 dL_law_740 dL_law_741 dL_law_742 dL_law_743 rfl rfl ?_
  refine w_arg hX hl 2 hi (by decide) dL_law_744 dL_law_745 dL_law_746 dL_law_747 dL_law_748 rfl rfl ?_
  refine w_inv hX dL_law_749 mlL_104 hC2 (sW47 hSW) (Nat.le_of_ble_eq_true rfl) (gW47 hSW) (st := _) rfl rfl (by decide) (Nat.zero_le _) (Nat.zero_le _) (Nat.le_of_ble_eq_true rfl) (fun o2 Y2 w2 ht2 hp2 => ?_)
  obtain ⟨eY, e2, G2, cC2, hI⟩ := hp2
  subst eY
  subst e2
  refine w_icmp_eq (tgt := 856) hX dL_law_752 rfl (fun _ => ?_) (fun q => absurd rfl q)
  exact w_widen (by omega) (by omega) (go _ _ _ _ hI)
set_option maxRecDepth 100000 in
set_option maxHeartbeats 4000000 in
theorem law_c21 {G : GG} {p : Program} {l : Launch} {e : Env} {s : State} {m : MethodId} {b : Nat} {below : List Frame} {meth : Method} {c : Code} (hX : XC (mLw meth.name) 100 G p room_1 s m #[Value.ref b] meth c) (hl : gL G < 2147483648) {i : Int} (hi : 0 ≤ i ∧ i + 5 < gL G) {G0 : GT} {cC : Int → Nat} {E : Int} {X : XX} {v : VV} {mc ms : Nat} (h : I2 G0 cC E X v (mp v)) (hE : E ≤ 1600000000) (hm : 13 ≤ mc) (hs : 1246 ≤ ms) (go : ∀ (Y : XX) (w : VV) (G2 : GT) (cC2 : Int → Nat), I2 G2 cC2 (E + 10000) Y w (mp w) → Wg G (mLw meth.name) p l e room_1 s m #[Value.ref b] below meth c (lw_Z below #[Value.ref b] s) 856 [(2, -2), (2, 0), (2, 47), (0, i)] [] Y w (mc - 13) (ms - 1246)) : Wg G (mLw meth.name) p l e room_1 s m #[Value.ref b] below meth c (lw_Z below #[Value.ref b] s) 757 [(2, -2), (2, 0), (2, 47), (0, i)] [] X v mc ms := by
  obtain ⟨c1, s1, hc1, hs1, P, hC, hP⟩ := s_ask h (sx G (i + 1)) (sx G (i + 2)) (sx G (i + 3))
  refine w_aload_n hX dL_law_757 rfl ?_
  refine w_arg hX hl 1 hi (by decide) dL_law_758 dL_law_759 dL_law_760 dL_law_761 dL_law_762 rfl rfl ?_
  refine w_arg hX hl 2 hi (by decide) dL_law_763 dL_law_764 dL_law_765 dL_law_766 dL_law_767 rfl rfl ?_
  refine w_arg hX hl 3 hi (by decide) dL_law_768 dL_law_769 dL_law_770 dL_law_771 dL_law_772 rfl rfl ?_
  refine w_inv hX dL_law_773 mlL_105 hC (sW0 h.1.1) (Nat.le_of_ble_eq_true rfl) (gW0 h.1.1) (st := _) rfl rfl (by decide) (by omega) (by omega) (Nat.le_of_ble_eq_true rfl) (fun o Y w ht hp => ?_)
  obtain ⟨r, rfl, hSW, hC2⟩ := hP o Y w hp
  refine w_aload_n hX dL_law_776 rfl ?_
  refine w_arg hX hl 1 hi (by decide) dL_law_777 dL_law_778 dL_law_779 dL_law_780 dL_law_781 rfl rfl ?_
  refine w_arg hX hl 2 hi (by decide) dL_law_782 dL_law_783 dL_law_784 dL_law_785 dL_law_786 rfl rfl ?_
  refine w_arg hX hl 3 hi (by decide) dL_law_787 dL_law_788 dL_law_789 dL_law_790 dL_law_791 rfl rfl ?_
  refine w_inv hX dL_law_792 mlL_108 hC2 (sW47 hSW) (Nat.le_of_ble_eq_true rfl) (gW47 hSW) (st := _) rfl rfl (by decide) (Nat.zero_le _) (Nat.zero_le _) (Nat.le_of_ble_eq_true rfl) (fun o2 Y2 w2 ht2 hp2 => ?_)
  obtain ⟨eY, e2, G2, cC2, hI⟩ := hp2
  subst eY
  subst e2
  refine w_icmp_eq (tgt := 856) hX dL_law_795 rfl (fun _ => ?_) (fun q => absurd rfl q)
  exact w_widen (by omega) (by omega) (go _ _ _ _ hI)
set_option maxRecDepth 100000 in
set_option maxHeartbeats 4000000 in
theorem law_c22 {G : GG} {p : Program} {l : Launch} {e : Env} {s : State} {m : MethodId} {b : Nat} {below : List Frame} {meth : Method} {c : Code} (hX : XC (mLw meth.name) 100 G p room_1 s m #[Value.ref b] meth c) (hl : gL G < 2147483648) {i : Int} (hi : 0 ≤ i ∧ i + 5 < gL G) {G0 : GT} {cC : Int → Nat} {E : Int} {X : XX} {v : VV} {mc ms : Nat} (h : I2 G0 cC E X v (mp v)) (hE : E ≤ 1600000000) (hm : 13 ≤ mc) (hs : 1246 ≤ ms) (go : ∀ (Y : XX) (w : VV) (G2 : GT) (cC2 : Int → Nat), I2 G2 cC2 (E + 10000) Y w (mp w) → Wg G (mLw meth.name) p l e room_1 s m #[Value.ref b] below meth c (lw_Z below #[Value.ref b] s) 856 [(2, -2), (2, 0), (2, 47), (0, i)] [] Y w (mc - 13) (ms - 1246)) : Wg G (mLw meth.name) p l e room_1 s m #[Value.ref b] below meth c (lw_Z below #[Value.ref b] s) 800 [(2, -2), (2, 0), (2, 47), (0, i)] [] X v mc ms := by
  obtain ⟨c1, s1, hc1, hs1, P, hC, hP⟩ := s_unused h (sx G (i + 1))
  refine w_aload_n hX dL_law_800 rfl ?_
  refine w_arg hX hl 1 hi (by decide) dL_law_801 dL_law_802 dL_law_803 dL_law_804 dL_law_805 rfl rfl ?_
  refine w_inv hX dL_law_806 mlL_109 hC (sW0 h.1.1) (Nat.le_of_ble_eq_true rfl) (gW0 h.1.1) (st := _) rfl rfl (by decide) (by omega) (by omega) (Nat.le_of_ble_eq_true rfl) (fun o Y w ht hp => ?_)
  obtain ⟨r, rfl, hSW, hC2⟩ := hP o Y w hp
  refine w_aload_n hX dL_law_809 rfl ?_
  refine w_arg hX hl 1 hi (by decide) dL_law_810 dL_law_811 dL_law_812 dL_law_813 dL_law_814 rfl rfl ?_
  refine w_inv hX dL_law_815 mlL_112 hC2 (sW47 hSW) (Nat.le_of_ble_eq_true rfl) (gW47 hSW) (st := _) rfl rfl (by decide) (Nat.zero_le _) (Nat.zero_le _) (Nat.le_of_ble_eq_true rfl) (fun o2 Y2 w2 ht2 hp2 => ?_)
  obtain ⟨eY, e2, G2, cC2, hI⟩ := hp2
  subst eY
  subst e2
  refine w_icmp_eq (tgt := 856) hX dL_law_818 rfl (fun _ => ?_) (fun q => absurd rfl q)
  exact w_widen (by omega) (by omega) (go _ _ _ _ hI)
set_option maxRecDepth 100000 in
set_option maxHeartbeats 4000000 in
theorem law_c23 {G : GG} {p : Program} {l : Launch} {e : Env} {s : State} {m : MethodId} {b : Nat} {below : List Frame} {meth : Method} {c : Code} (hX : XC (mLw meth.name) 100 G p room_1 s m #[Value.ref b] meth c) (hl : gL G < 2147483648) {i : Int} (hi : 0 ≤ i ∧ i + 5 < gL G) {G0 : GT} {cC : Int → Nat} {E : Int} {X : XX} {v : VV} {mc ms : Nat} (h : I2 G0 cC E X v (mp v)) (hE : E ≤ 1600000000) (hm : 13 ≤ mc) (hs : 1246 ≤ ms) (go : ∀ (Y : XX) (w : VV) (G2 : GT) (cC2 : Int → Nat), I2 G2 cC2 (E + 10000) Y w (mp w) → Wg G (mLw meth.name) p l e room_1 s m #[Value.ref b] below meth c (lw_Z below #[Value.ref b] s) 856 [(2, -2), (2, 0), (2, 47), (0, i)] [] Y w (mc - 13) (ms - 1246)) : Wg G (mLw meth.name) p l e room_1 s m #[Value.ref b] below meth c (lw_Z below #[Value.ref b] s) 823 [(2, -2), (2, 0), (2, 47), (0, i)] [] X v mc ms := by
  obtain ⟨c1, s1, hc1, hs1, P, hC, hP⟩ := s_alike h (sx G (i + 1)) (sx G (i + 2))
  refine w_aload_n hX dL_law_823 rfl ?_
  refine w_arg hX hl 1 hi (by decide) dL_law_824 dL_law_825 dL_law_826 dL_law_827 dL_law_828 rfl rfl ?_
  refine w_arg hX hl 2 hi (by decide) dL_law_829 dL_law_830 dL_law_831 dL_law_832 dL_law_833 rfl rfl ?_
  refine w_inv hX dL_law_834 mlL_113 hC (sW0 h.1.1) (Nat.le_of_ble_eq_true rfl) (gW0 h.1.1) (st := _) rfl rfl (by decide) (by omega) (by omega) (Nat.le_of_ble_eq_true rfl) (fun o Y w ht hp => ?_)
  obtain ⟨r, rfl, hSW, hC2⟩ := hP o Y w hp
  refine w_aload_n hX dL_law_837 rfl ?_
  refine w_arg hX hl 1 hi (by decide) dL_law_838 dL_law_839 dL_law_840 dL_law_841 dL_law_842 rfl rfl ?_
  refine w_arg hX hl 2 hi (by decide) dL_law_843 dL_law_844 dL_law_845 dL_law_846 dL_law_847 rfl rfl ?_
  refine w_inv hX dL_law_848 mlL_116 hC2 (sW47 hSW) (Nat.le_of_ble_eq_true rfl) (gW47 hSW) (st := _) rfl rfl (by decide) (Nat.zero_le _) (Nat.zero_le _) (Nat.le_of_ble_eq_true rfl) (fun o2 Y2 w2 ht2 hp2 => ?_)
  obtain ⟨eY, e2, G2, cC2, hI⟩ := hp2
  subst eY
  subst e2
  refine w_icmp_eq (tgt := 856) hX dL_law_851 rfl (fun _ => ?_) (fun q => absurd rfl q)
  exact w_widen (by omega) (by omega) (go _ _ _ _ hI)
