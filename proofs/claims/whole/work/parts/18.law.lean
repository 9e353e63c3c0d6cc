theorem iL_law_X11 : ∀ w ∈ u_ws RX11 TX11 9, w ∈ TsLaw := ti_wsX110
theorem iL_law_X12 : ∀ w ∈ u_ws RX12 TX12 32, w ∈ TsLaw := ti_wsX120
def wpL_law_b184 (xs : Nat → Int32) (L : Nat) (K : PS → Nat → Nat → Nat → Nat → Int32 → Prop) (S : PS) (x1 : Nat) (x2 : Nat) (x3 : Nat) (x4 : Nat) (x5 : Int32) : Prop := (vp_in (x5 + (1 : Int32)) L ∧ (vp_in (x5 + (2 : Int32)) L ∧ (vp_in (x5 + (3 : Int32)) L ∧ (vp_in (x5 + (4 : Int32)) L ∧ (vp_in (x5 + (5 : Int32)) L ∧ (wpL_append S x1 (xs ((x5 + (1 : Int32))).toNatClampNeg) (xs ((x5 + (2 : Int32))).toNatClampNeg) (xs ((x5 + (3 : Int32))).toNatClampNeg) (xs ((x5 + (4 : Int32))).toNatClampNeg) (xs ((x5 + (5 : Int32))).toNatClampNeg) x3 (fun r6 S7 => (vp_in (x5 + (1 : Int32)) L ∧ (vp_in (x5 + (2 : Int32)) L ∧ (vp_in (x5 + (3 : Int32)) L ∧ (vp_in (x5 + (4 : Int32)) L ∧ (vp_in (x5 + (5 : Int32)) L ∧ (pK S7 x2 = 11 ∧ (wpX12_append S7 x2 (xs ((x5 + (1 : Int32))).toNatClampNeg) (xs ((x5 + (2 : Int32))).toNatClampNeg) (xs ((x5 + (3 : Int32))).toNatClampNeg) (xs ((x5 + (4 : Int32))).toNatClampNeg) (xs ((x5 + (5 : Int32))).toNatClampNeg) (fun r14 S15 => (pK S15 x2 = 11 ∧ (wpX12_thrown S15 x2 (fun r17 S18 => ((r17 = r6 → ((¬ r6 = 0 → (K S18 x1 x2 x3 x4 (x5 + 6))) ∧ (r6 = 0 → (pK S18 x3 = 14 ∧ (vp_in (0 : Int32) (pL S18 x3) ∧ (((lg_cmp (pJ S18 x3 ((0 : Int32)).toNatClampNeg) (r14.toInt64)) = 0 → (K S18 x1 x2 x3 x4 (x5 + 6))) ∧ (¬ (lg_cmp (pJ S18 x3 ((0 : Int32)).toNatClampNeg) (r14.toInt64)) = 0 → False))))))) ∧ (¬ r17 = r6 → False))))))))))))))))))))
set_option maxRecDepth 100000 in
set_option maxHeartbeats 8000000 in
theorem cbL_law_b184 {p : Program} {l : Launch} {e : Env} {s : State} {m : MethodId} {args : Array Value} {below : List Frame} {meth : Method} {c : Code} {Q : State → Prop} {G : PG} {b L : Nat} {xs : Nat → Int32} (C : pCx p s m args meth c G cL_law 9 RL TsLaw) (hZ : pZa G) (hl : l.stackTraces = false) (hX : va_X b L xs s s.heap) (hb : b < s.heap.size) (hbG : b < G.2.2) {kc kn : Nat} {K : PS → Nat → Nat → Nat → Nat → Int32 → Prop} (hK : ∀ (S : PS) (x1 : Nat) (x2 : Nat) (x3 : Nat) (x4 : Nat) (x5 : Int32), K S x1 x2 x3 x4 x5 → PW p l e room_1 s m args below meth c Q G 9 S (kc + 22) (kn + 170) [(0, .ref b), (1, .ref (G.2.2 + x1)), (2, .ref (G.2.2 + x2)), (3, .ref (G.2.2 + x3)), (4, .ref (G.2.2 + x4)), (5, .int x5)] 28 []) (hkc : kc + 22 ≤ 601024) (hkn : kn + 170 ≤ 7293034) : ∀ (S : PS) (x1 : Nat) (x2 : Nat) (x3 : Nat) (x4 : Nat) (x5 : Int32), wpL_law_b184 xs L K S x1 x2 x3 x4 x5 → PW p l e room_1 s m args below meth c Q G 9 S kc kn [(0, .ref b), (1, .ref (G.2.2 + x1)), (2, .ref (G.2.2 + x2)), (3, .ref (G.2.2 + x3)), (4, .ref (G.2.2 + x4)), (5, .int x5)] 184 [] := by
  intro S x1 x2 x3 x4 x5 h
  unfold wpL_law_b184 at h
  refine pw_aload_n (pc := 184) C 1 dL_law_184 rfl rfl ?_
  refine pw_aload_n (pc := 185) C 0 dL_law_185 rfl rfl ?_
  refine pw_iload (pc := 186) C 5 dL_law_186 rfl ?_
  refine pw_iconst (pc := 188) (v := 1 ) C dL_law_188 (by decide) ?_
  refine pw_iadd (pc := 189) C dL_law_189 ?_
  obtain ⟨hi1, h⟩ := h
  refine pw_sld (pc := 190) C hX hb hbG hi1 dL_law_190 ?_
  refine pw_aload_n (pc := 191) C 0 dL_law_191 rfl rfl ?_
  refine pw_iload (pc := 192) C 5 dL_law_192 rfl ?_
  refine pw_iconst (pc := 194) (v := 2 ) C dL_law_194 (by decide) ?_
  refine pw_iadd (pc := 195) C dL_law_195 ?_
  obtain ⟨hi2, h⟩ := h
  refine pw_sld (pc := 196) C hX hb hbG hi2 dL_law_196 ?_
  refine pw_aload_n (pc := 197) C 0 dL_law_197 rfl rfl ?_
  refine pw_iload (pc := 198) C 5 dL_law_198 rfl ?_
  refine pw_iconst (pc := 200) (v := 3 ) C dL_law_200 (by decide) ?_
  refine pw_iadd (pc := 201) C dL_law_201 ?_
  obtain ⟨hi3, h⟩ := h
  refine pw_sld (pc := 202) C hX hb hbG hi3 dL_law_202 ?_
  refine pw_aload_n (pc := 203) C 0 dL_law_203 rfl rfl ?_
  refine pw_iload (pc := 204) C 5 dL_law_204 rfl ?_
  refine pw_iconst (pc := 206) (v := 4 ) C dL_law_206 (by decide) ?_
  refine pw_iadd (pc := 207) C dL_law_207 ?_
  obtain ⟨hi4, h⟩ := h
  refine pw_sld (pc := 208) C hX hb hbG hi4 dL_law_208 ?_
  refine pw_aload_n (pc := 209) C 0 dL_law_209 rfl rfl ?_
  refine pw_iload (pc := 210) C 5 dL_law_210 rfl ?_
  refine pw_iconst (pc := 212) (v := 5 ) C dL_law_212 (by decide) ?_
  refine pw_iadd (pc := 213) C dL_law_213 ?_
  obtain ⟨hi5, h⟩ := h
  refine pw_sld (pc := 214) C hX hb hbG hi5 dL_law_214 ?_
  refine pw_aload_n (pc := 215) C 3 dL_law_215 rfl rfl ?_
  refine pw_calli (pc := 216) (kc2 := (kc + 1)) (kn2 := (kn + 6)) (pRunSW (pc := 216) C (ctL_append l G hZ hl  _ x1 (xs ((x5 + (1 : Int32))).toNatClampNeg) (xs ((x5 + (2 : Int32))).toNatClampNeg) (xs ((x5 + (3 : Int32))).toNatClampNeg) (xs ((x5 + (4 : Int32))).toNatClampNeg) (xs ((x5 + (5 : Int32))).toNatClampNeg) x3 _ h) (vx_cwSW 7 C.2.2.2.2.1 qgL_law_L_append rfl rfl rfl (by decide +kernel) ⟨Nat.le_of_ble_eq_true rfl, Nat.le_of_ble_eq_true rfl⟩) rfl rfl (Nat.le_of_ble_eq_true rfl) dL_law_216 ⟨by show (kc + 0) + 1 ≤ 601024; omega, by show (kn + 0) + 6 ≤ 7293034; omega⟩) rfl rfl (fun r6 S7 h => ?_)
  refine pw_istore (pc := 219) C [(6, .int r6), (0, .ref b), (1, .ref (G.2.2 + x1)), (2, .ref (G.2.2 + x2)), (3, .ref (G.2.2 + x3)), (4, .ref (G.2.2 + x4)), (5, .int x5)] dL_law_219 (by decide) rfl ?_
  refine pw_aload_n (pc := 221) C 3 dL_law_221 rfl rfl ?_
  refine pw_aload_n (pc := 222) C 1 dL_law_222 rfl rfl ?_
  refine pw_iload (pc := 223) C 6 dL_law_223 rfl ?_
  refine pw_iconst (pc := 225) (v := 1 ) C dL_law_225 (by decide) ?_
  refine pw_iadd (pc := 226) C dL_law_226 ?_
  obtain ⟨hi8, h⟩ := h
  refine pw_sld (pc := 227) C hX hb hbG hi8 dL_law_227 ?_
  refine pw_aload_n (pc := 228) C 1 dL_law_228 rfl rfl ?_
  refine pw_iload (pc := 229) C 6 dL_law_229 rfl ?_
  refine pw_iconst (pc := 231) (v := 2 ) C dL_law_231 (by decide) ?_
  refine pw_iadd (pc := 232) C dL_law_232 ?_
  obtain ⟨hi9, h⟩ := h
  refine pw_sld (pc := 233) C hX hb hbG hi9 dL_law_233 ?_
  refine pw_aload_n (pc := 234) C 1 dL_law_234 rfl rfl ?_
  refine pw_iload (pc := 235) C 6 dL_law_235 rfl ?_
  refine pw_iconst (pc := 237) (v := 3 ) C dL_law_237 (by decide) ?_
  refine pw_iadd (pc := 238) C dL_law_238 ?_
  obtain ⟨hi10, h⟩ := h
  refine pw_sld (pc := 239) C hX hb hbG hi10 dL_law_239 ?_
  refine pw_aload_n (pc := 240) C 1 dL_law_240 rfl rfl ?_
  refine pw_iload (pc := 241) C 6 dL_law_241 rfl ?_
  refine pw_iconst (pc := 243) (v := 4 ) C dL_law_243 (by decide) ?_
  refine pw_iadd (pc := 244) C dL_law_244 ?_
  obtain ⟨hi11, h⟩ := h
  refine pw_sld (pc := 245) C hX hb hbG hi11 dL_law_245 ?_
  refine pw_aload_n (pc := 246) C 1 dL_law_246 rfl rfl ?_
  refine pw_iload (pc := 247) C 6 dL_law_247 rfl ?_
  refine pw_iconst (pc := 249) (v := 5 ) C dL_law_249 (by decide) ?_
  refine pw_iadd (pc := 250) C dL_law_250 ?_
  obtain ⟨hi12, h⟩ := h
  refine pw_sld (pc := 251) C hX hb hbG hi12 dL_law_251 ?_
  obtain ⟨hk13, h⟩ := h
  refine pw_calli (pc := 252) (kc2 := (kc + 1)) (kn2 := (kn + 6)) (pRunV (pc := 252) C (ctX12_append l G  _ x2 (xs ((x5 + (1 : Int32))).toNatClampNeg) (xs ((x5 + (2 : Int32))).toNatClampNeg) (xs ((x5 + (3 : Int32))).toNatClampNeg) (xs ((x5 + (4 : Int32))).toNatClampNeg) (xs ((x5 + (5 : Int32))).toNatClampNeg) _ h) (cwV 5 C.2.2.2.2.1 qgL_law_X12_append rfl rfl rfl (by decide +kernel) ⟨Nat.le_of_ble_eq_true rfl, Nat.le_of_ble_eq_true rfl⟩) pCl10 hk13 rfl rfl (Nat.le_of_ble_eq_true rfl) dL_law_252 ⟨by show (kc + 1) + 0 ≤ 601024; omega, by show (kn + 6) + 0 ≤ 7293034; omega⟩) rfl rfl (fun r14 S15 h => ?_)
  refine pw_istore (pc := 255) C [(7, .int r14), (6, .int r6), (0, .ref b), (1, .ref (G.2.2 + x1)), (2, .ref (G.2.2 + x2)), (3, .ref (G.2.2 + x3)), (4, .ref (G.2.2 + x4)), (5, .int x5)] dL_law_255 (by decide) rfl ?_
  refine pw_aload_n (pc := 257) C 4 dL_law_257 rfl rfl ?_
  obtain ⟨hk16, h⟩ := h
  refine pw_calli (pc := 258) (kc2 := (kc + 1)) (kn2 := (kn + 6)) (pRunV (pc := 258) C (ctX12_thrown l G  _ x2 _ h) (cwV 0 C.2.2.2.2.1 qgL_law_X12_thrown rfl rfl rfl (by decide +kernel) ⟨Nat.le_of_ble_eq_true rfl, Nat.le_of_ble_eq_true rfl⟩) pCl10 hk16 rfl rfl (Nat.le_of_ble_eq_true rfl) dL_law_258 ⟨by show (kc + 1) + 0 ≤ 601024; omega, by show (kn + 6) + 0 ≤ 7293034; omega⟩) rfl rfl (fun r17 S18 h => ?_)
  refine pw_iload (pc := 261) C 1 dL_law_261 rfl ?_
  refine pw_icmp_eq (pc := 263) (tgt := 268) C dL_law_263 rfl ⟨fun hc => ?_, fun hc => ?_⟩
  · replace h := h.1 hc
    refine pw_iload (pc := 268) C 1 dL_law_268 rfl ?_
    refine pw_if_ne (pc := 270) (tgt := 285) C dL_law_270 rfl ⟨fun hc => ?_, fun hc => ?_⟩
    · replace h := h.1 hc
      refine pw_goto (pc := 285) (tgt := 1913) C dL_law_285 rfl ?_
      refine pw_iincK (pc := 1913) (w := 6) C [(5, .int (x5 + 6)), (7, .int r14), (6, .int r6), (0, .ref b), (1, .ref (G.2.2 + x1)), (2, .ref (G.2.2 + x2)), (3, .ref (G.2.2 + x3)), (4, .ref (G.2.2 + x4))] 7 dL_law_1913 (by decide) rfl (by decide) rfl ?_
      refine pw_goto (pc := 1916) (tgt := 28) C dL_law_1916 rfl ?_
      refine pw_sub [3, 4, 5, 6, 7, 0] (LV2 := [(0, .ref b), (1, .ref (G.2.2 + x1)), (2, .ref (G.2.2 + x2)), (3, .ref (G.2.2 + x3)), (4, .ref (G.2.2 + x4)), (5, .int (x5 + 6))]) rfl ?_
      refine pw_widen (k2 := (kc + 22)) (n2 := (kn + 170)) (by omega) (by omega) ?_
      exact hK _ _ _ _ _ _ h
    · replace h := h.2 hc
      refine pw_aload_n (pc := 273) C 5 dL_law_273 rfl rfl ?_
      refine pw_iconst (pc := 274) (v := 0 ) C dL_law_274 (by decide) ?_
      obtain ⟨hk19, h⟩ := h
      obtain ⟨hi20, h⟩ := h
      refine pw_lald (pc := 275) C hk19 hi20 dL_law_275 ?_
      refine pw_iload (pc := 276) C 0 dL_law_276 rfl ?_
      refine pw_i2l (pc := 278) C dL_law_278 ?_
      refine pw_lcmp (pc := 279) C dL_law_279 ?_
      refine pw_if_eq (pc := 280) (tgt := 285) C dL_law_280 rfl ⟨fun hc => ?_, fun hc => ?_⟩
      · replace h := h.1 hc
        refine pw_goto (pc := 285) (tgt := 1913) C dL_law_285 rfl ?_
        refine pw_iincK (pc := 1913) (w := 6) C [(5, .int (x5 + 6)), (7, .int r14), (6, .int r6), (0, .ref b), (1, .ref (G.2.2 + x1)), (2, .ref (G.2.2 + x2)), (3, .ref (G.2.2 + x3)), (4, .ref (G.2.2 + x4))] 7 dL_law_1913 (by decide) rfl (by decide) rfl ?_
        refine pw_goto (pc := 1916) (tgt := 28) C dL_law_1916 rfl ?_
        refine pw_sub [3, 4, 5, 6, 7, 0] (LV2 := [(0, .ref b), (1, .ref (G.2.2 + x1)), (2, .ref (G.2.2 + x2)), (3, .ref (G.2.2 + x3)), (4, .ref (G.2.2 + x4)), (5, .int (x5 + 6))]) rfl ?_
        refine pw_widen (k2 := (kc + 22)) (n2 := (kn + 170)) (by omega) (by omega) ?_
        exact hK _ _ _ _ _ _ h
      · replace h := h.2 hc
        refine pw_iconst (pc := 283) (v := 0 ) C dL_law_283 (by decide) ?_
        exact h.elim
  · replace h := h.2 hc
    refine pw_iconst (pc := 266) (v := 0 ) C dL_law_266 (by decide) ?_
    exact h.elim
def wpL_law_b288 (xs : Nat → Int32) (L : Nat) (K : PS → Nat → Nat → Nat → Nat → Int32 → Prop) (S : PS) (x1 : Nat) (x2 : Nat) (x3 : Nat) (x4 : Nat) (x5 : Int32) : Prop := (vp_in (x5 + (1 : Int32)) L ∧ (wpL_truncate S x1 (xs ((x5 + (1 : Int32))).toNatClampNeg) x3 (fun r2 S3 => (vp_in (x5 + (1 : Int32)) L ∧ (pK S3 x2 = 11 ∧ (wpX12_truncate S3 x2 (xs ((x5 + (1 : Int32))).toNatClampNeg) (fun r6 S7 => (pK S7 x2 = 11 ∧ (wpX12_thrown S7 x2 (fun r9 S10 => ((r9 = r2 → ((¬ r2 = 0 → (K S10 x1 x2 x3 x4 (x5 + 6))) ∧ (r2 = 0 → (pK S10 x3 = 14 ∧ (vp_in (0 : Int32) (pL S10 x3) ∧ (((lg_cmp (pJ S10 x3 ((0 : Int32)).toNatClampNeg) (r6.toInt64)) = 0 → (K S10 x1 x2 x3 x4 (x5 + 6))) ∧ (¬ (lg_cmp (pJ S10 x3 ((0 : Int32)).toNatClampNeg) (r6.toInt64)) = 0 → False))))))) ∧ (¬ r9 = r2 → False))))))))))))
set_option maxRecDepth 100000 in
set_option maxHeartbeats 8000000 in
theorem cbL_law_b288 {p : Program} {l : Launch} {e : Env} {s : State} {m : MethodId} {args : Array Value} {below : List Frame} {meth : Method} {c : Code} {Q : State → Prop} {G : PG} {b L : Nat} {xs : Nat → Int32} (C : pCx p s m args meth c G cL_law 9 RL TsLaw) (hZ : pZa G) (hl : l.stackTraces = false) (hX : va_X b L xs s s.heap) (hb : b < s.heap.size) (hbG : b < G.2.2) {kc kn : Nat} {K : PS → Nat → Nat → Nat → Nat → Int32 → Prop} (hK : ∀ (S : PS) (x1 : Nat) (x2 : Nat) (x3 : Nat) (x4 : Nat) (x5 : Int32), K S x1 x2 x3 x4 x5 → PW p l e room_1 s m args below meth c Q G 9 S (kc + 22) (kn + 170) [(0, .ref b), (1, .ref (G.2.2 + x1)), (2, .ref (G.2.2 + x2)), (3, .ref (G.2.2 + x3)), (4, .ref (G.2.2 + x4)), (5, .int x5)] 28 []) (hkc : kc + 22 ≤ 601024) (hkn : kn + 170 ≤ 7293034) : ∀ (S : PS) (x1 : Nat) (x2 : Nat) (x3 : Nat) (x4 : Nat) (x5 : Int32), wpL_law_b288 xs L K S x1 x2 x3 x4 x5 → PW p l e room_1 s m args below meth c Q G 9 S kc kn [(0, .ref b), (1, .ref (G.2.2 + x1)), (2, .ref (G.2.2 + x2)), (3, .ref (G.2.2 + x3)), (4, .ref (G.2.2 + x4)), (5, .int x5)] 288 [] := by
  intro S x1 x2 x3 x4 x5 h
  unfold wpL_law_b288 at h
  refine pw_aload_n (pc := 288) C 1 dL_law_288 rfl rfl ?_
  refine pw_aload_n (pc := 289) C 0 dL_law_289 rfl rfl ?_
  refine pw_iload (pc := 290) C 5 dL_law_290 rfl ?_
  refine pw_iconst (pc := 292) (v := 1 ) C dL_law_292 (by decide) ?_
  refine pw_iadd (pc := 293) C dL_law_293 ?_
  obtain ⟨hi1, h⟩ := h
  refine pw_sld (pc := 294) C hX hb hbG hi1 dL_law_294 ?_
  refine pw_aload_n (pc := 295) C 3 dL_law_295 rfl rfl ?_
  refine pw_calli (pc := 296) (kc2 := (kc + 1)) (kn2 := (kn + 6)) (pRunSW (pc := 296) C (ctL_truncate l G hZ hl  _ x1 (xs ((x5 + (1 : Int32))).toNatClampNeg) x3 _ h) (vx_cwSW 3 C.2.2.2.2.1 qgL_law_L_truncate rfl rfl rfl (by decide +kernel) ⟨Nat.le_of_ble_eq_true rfl, Nat.le_of_ble_eq_true rfl⟩) rfl rfl (Nat.le_of_ble_eq_true rfl) dL_law_296 ⟨by show (kc + 0) + 1 ≤ 601024; omega, by show (kn + 0) + 6 ≤ 7293034; omega⟩) rfl rfl (fun r2 S3 h => ?_)
  refine pw_istore (pc := 299) C [(6, .int r2), (0, .ref b), (1, .ref (G.2.2 + x1)), (2, .ref (G.2.2 + x2)), (3, .ref (G.2.2 + x3)), (4, .ref (G.2.2 + x4)), (5, .int x5)] dL_law_299 (by decide) rfl ?_
  refine pw_aload_n (pc := 301) C 3 dL_law_301 rfl rfl ?_
  refine pw_aload_n (pc := 302) C 1 dL_law_302 rfl rfl ?_
  refine pw_iload (pc := 303) C 6 dL_law_303 rfl ?_
  refine pw_iconst (pc := 305) (v := 1 ) C dL_law_305 (by decide) ?_
  refine pw_iadd (pc := 306) C dL_law_306 ?_
  obtain ⟨hi4, h⟩ := h
  refine pw_sld (pc := 307) C hX hb hbG hi4 dL_law_307 ?_
  obtain ⟨hk5, h⟩ := h
  refine pw_calli (pc := 308) (kc2 := (kc + 1)) (kn2 := (kn + 6)) (pRunV (pc := 308) C (ctX12_truncate l G  _ x2 (xs ((x5 + (1 : Int32))).toNatClampNeg) _ h) (cwV 1 C.2.2.2.2.1 qgL_law_X12_truncate rfl rfl rfl (by decide +kernel) ⟨Nat.le_of_ble_eq_true rfl, Nat.le_of_ble_eq_true rfl⟩) pCl10 hk5 rfl rfl (Nat.le_of_ble_eq_true rfl) dL_law_308 ⟨by show (kc + 1) + 0 ≤ 601024; omega, by show (kn + 6) + 0 ≤ 7293034; omega⟩) rfl rfl (fun r6 S7 h => ?_)
  refine pw_istore (pc := 311) C [(7, .int r6), (6, .int r2), (0, .ref b), (1, .ref (G.2.2 + x1)), (2, .ref (G.2.2 + x2)), (3, .ref (G.2.2 + x3)), (4, .ref (G.2.2 + x4)), (5, .int x5)] dL_law_311 (by decide) rfl ?_
  refine pw_aload_n (pc := 313) C 4 dL_law_313 rfl rfl ?_
  obtain ⟨hk8, h⟩ := h
  refine pw_calli (pc := 314) (kc2 := (kc + 1)) (kn2 := (kn + 6)) (pRunV (pc := 314) C (ctX12_thrown l G  _ x2 _ h) (cwV 0 C.2.2.2.2.1 qgL_law_X12_thrown rfl rfl rfl (by decide +kernel) ⟨Nat.le_of_ble_eq_true rfl, Nat.le_of_ble_eq_true rfl⟩) pCl10 hk8 rfl rfl (Nat.le_of_ble_eq_true rfl) dL_law_314 ⟨by show (kc + 1) + 0 ≤ 601024; omega, by show (kn + 6) + 0 ≤ 7293034; omega⟩) rfl rfl (fun r9 S10 h => ?_)
  refine pw_iload (pc := 317) C 1 dL_law_317 rfl ?_
  refine pw_icmp_eq (pc := 319) (tgt := 324) C dL_law_319 rfl ⟨fun hc => ?_, fun hc => ?_⟩
  · replace h := h.1 hc
    refine pw_iload (pc := 324) C 1 dL_law_324 rfl ?_
    refine pw_if_ne (pc := 326) (tgt := 341) C dL_law_326 rfl ⟨fun hc => ?_, fun hc => ?_⟩
    · replace h := h.1 hc
      refine pw_goto (pc := 341) (tgt := 1913) C dL_law_341 rfl ?_
      refine pw_iincK (pc := 1913) (w := 6) C [(5, .int (x5 + 6)), (7, .int r6), (6, .int r2), (0, .ref b), (1, .ref (G.2.2 + x1)), (2, .ref (G.2.2 + x2)), (3, .ref (G.2.2 + x3)), (4, .ref (G.2.2 + x4))] 7 dL_law_1913 (by decide) rfl (by decide) rfl ?_
      refine pw_goto (pc := 1916) (tgt := 28) C dL_law_1916 rfl ?_
      refine pw_sub [3, 4, 5, 6, 7, 0] (LV2 := [(0, .ref b), (1, .ref (G.2.2 + x1)), (2, .ref (G.2.2 + x2)), (3, .ref (G.2.2 + x3)), (4, .ref (G.2.2 + x4)), (5, .int (x5 + 6))]) rfl ?_
      refine pw_widen (k2 := (kc + 22)) (n2 := (kn + 170)) (by omega) (by omega) ?_
      exact hK _ _ _ _ _ _ h
    · replace h := h.2 hc
      refine pw_aload_n (pc := 329) C 5 dL_law_329 rfl rfl ?_
      refine pw_iconst (pc := 330) (v := 0 ) C dL_law_330 (by decide) ?_
      obtain ⟨hk11, h⟩ := h
      obtain ⟨hi12, h⟩ := h
      refine pw_lald (pc := 331) C hk11 hi12 dL_law_331 ?_
      refine pw_iload (pc := 332) C 0 dL_law_332 rfl ?_
      refine pw_i2l (pc := 334) C dL_law_334 ?_
      refine pw_lcmp (pc := 335) C dL_law_335 ?_
      refine pw_if_eq (pc := 336) (tgt := 341) C dL_law_336 rfl ⟨fun hc => ?_, fun hc => ?_⟩
      · replace h := h.1 hc
        refine pw_goto (pc := 341) (tgt := 1913) C dL_law_341 rfl ?_
        refine pw_iincK (pc := 1913) (w := 6) C [(5, .int (x5 + 6)), (7, .int r6), (6, .int r2), (0, .ref b), (1, .ref (G.2.2 + x1)), (2, .ref (G.2.2 + x2)), (3, .ref (G.2.2 + x3)), (4, .ref (G.2.2 + x4))] 7 dL_law_1913 (by decide) rfl (by decide) rfl ?_
        refine pw_goto (pc := 1916) (tgt := 28) C dL_law_1916 rfl ?_
        refine pw_sub [3, 4, 5, 6, 7, 0] (LV2 := [(0, .ref b), (1, .ref (G.2.2 + x1)), (2, .ref (G.2.2 + x2)), (3, .ref (G.2.2 + x3)), (4, .ref (G.2.2 + x4)), (5, .int (x5 + 6))]) rfl ?_
        refine pw_widen (k2 := (kc + 22)) (n2 := (kn + 170)) (by omega) (by omega) ?_
        exact hK _ _ _ _ _ _ h
      · replace h := h.2 hc
        refine pw_iconst (pc := 339) (v := 0 ) C dL_law_339 (by decide) ?_
        exact h.elim
  · replace h := h.2 hc
    refine pw_iconst (pc := 322) (v := 0 ) C dL_law_322 (by decide) ?_
    exact h.elim
def wpL_law_b344 (xs : Nat → Int32) (L : Nat) (K : PS → Nat → Nat → Nat → Nat → Int32 → Prop) (S : PS) (x1 : Nat) (x2 : Nat) (x3 : Nat) (x4 : Nat) (x5 : Int32) : Prop := (wpL_load S x1 x3 (fun r1 S2 => (pK S2 x2 = 11 ∧ (wpX12_load S2 x2 (fun r4 S5 => (pK S5 x2 = 11 ∧ (wpX12_thrown S5 x2 (fun r7 S8 => ((r7 = r1 → ((¬ r1 = 0 → (K S8 x1 x2 x3 x4 (x5 + 6))) ∧ (r1 = 0 → (pK S8 x3 = 14 ∧ (vp_in (0 : Int32) (pL S8 x3) ∧ (((lg_cmp (pJ S8 x3 ((0 : Int32)).toNatClampNeg) (r4.toInt64)) = 0 → (K S8 x1 x2 x3 x4 (x5 + 6))) ∧ (¬ (lg_cmp (pJ S8 x3 ((0 : Int32)).toNatClampNeg) (r4.toInt64)) = 0 → False))))))) ∧ (¬ r7 = r1 → False))))))))))
set_option maxRecDepth 100000 in
set_option maxHeartbeats 8000000 in
theorem cbL_law_b344 {p : Program} {l : Launch} {e : Env} {s : State} {m : MethodId} {args : Array Value} {below : List Frame} {meth : Method} {c : Code} {Q : State → Prop} {G : PG} {b L : Nat} {xs : Nat → Int32} (C : pCx p s m args meth c G cL_law 9 RL TsLaw) (hZ : pZa G) (hl : l.stackTraces = false) (hX : va_X b L xs s s.heap) (hb : b < s.heap.size) (hbG : b < G.2.2) {kc kn : Nat} {K : PS → Nat → Nat → Nat → Nat → Int32 → Prop} (hK : ∀ (S : PS) (x1 : Nat) (x2 : Nat) (x3 : Nat) (x4 : Nat) (x5 : Int32), K S x1 x2 x3 x4 x5 → PW p l e room_1 s m args below meth c Q G 9 S (kc + 22) (kn + 170) [(0, .ref b), (1, .ref (G.2.2 + x1)), (2, .ref (G.2.2 + x2)), (3, .ref (G.2.2 + x3)), (4, .ref (G.2.2 + x4)), (5, .int x5)] 28 []) (hkc : kc + 22 ≤ 601024) (hkn : kn + 170 ≤ 7293034) : ∀ (S : PS) (x1 : Nat) (x2 : Nat) (x3 : Nat) (x4 : Nat) (x5 : Int32), wpL_law_b344 xs L K S x1 x2 x3 x4 x5 → PW p l e room_1 s m args below meth c Q G 9 S kc kn [(0, .ref b), (1, .ref (G.2.2 + x1)), (2, .ref (G.2.2 + x2)), (3, .ref (G.2.2 + x3)), (4, .ref (G.2.2 + x4)), (5, .int x5)] 344 [] := by
  intro S x1 x2 x3 x4 x5 h
  unfold wpL_law_b344 at h
  refine pw_aload_n (pc := 344) C 1 dL_law_344 rfl rfl ?_
  refine pw_aload_n (pc := 345) C 3 dL_law_345 rfl rfl ?_
  refine pw_calli (pc := 346) (kc2 := (kc + 22)) (kn2 := (kn + 170)) (pRunSW (pc := 346) C (ctL_load l G hZ hl  _ x1 x3 _ h) (vx_cwSW 2 C.2.2.2.2.1 qgL_law_L_load rfl rfl rfl (by decide +kernel) ⟨Nat.le_of_ble_eq_true rfl, Nat.le_of_ble_eq_true rfl⟩) rfl rfl (Nat.le_of_ble_eq_true rfl) dL_law_346 ⟨by show (kc + 0) + 22 ≤ 601024; omega, by show (kn + 0) + 170 ≤ 7293034; omega⟩) rfl rfl (fun r1 S2 h => ?_)
  refine pw_istore (pc := 349) C [(6, .int r1), (0, .ref b), (1, .ref (G.2.2 + x1)), (2, .ref (G.2.2 + x2)), (3, .ref (G.2.2 + x3)), (4, .ref (G.2.2 + x4)), (5, .int x5)] dL_law_349 (by decide) rfl ?_
  refine pw_aload_n (pc := 351) C 3 dL_law_351 rfl rfl ?_
  obtain ⟨hk3, h⟩ := h
  refine pw_calli (pc := 352) (kc2 := (kc + 22)) (kn2 := (kn + 170)) (pRunV (pc := 352) C (ctX12_load l G hZ  _ x2 _ h) (cwV 0 C.2.2.2.2.1 qgL_law_X12_load rfl rfl rfl (by decide +kernel) ⟨Nat.le_of_ble_eq_true rfl, Nat.le_of_ble_eq_true rfl⟩) pCl10 hk3 rfl rfl (Nat.le_of_ble_eq_true rfl) dL_law_352 ⟨by show (kc + 22) + 0 ≤ 601024; omega, by show (kn + 170) + 0 ≤ 7293034; omega⟩) rfl rfl (fun r4 S5 h => ?_)
  refine pw_istore (pc := 355) C [(7, .int r4), (6, .int r1), (0, .ref b), (1, .ref (G.2.2 + x1)), (2, .ref (G.2.2 + x2)), (3, .ref (G.2.2 + x3)), (4, .ref (G.2.2 + x4)), (5, .int x5)] dL_law_355 (by decide) rfl ?_
  refine pw_aload_n (pc := 357) C 4 dL_law_357 rfl rfl ?_
  obtain ⟨hk6, h⟩ := h
  refine pw_calli (pc := 358) (kc2 := (kc + 22)) (kn2 := (kn + 170)) (pRunV (pc := 358) C (ctX12_thrown l G  _ x2 _ h) (cwV 0 C.2.2.2.2.1 qgL_law_X12_thrown rfl rfl rfl (by decide +kernel) ⟨Nat.le_of_ble_eq_true rfl, Nat.le_of_ble_eq_true rfl⟩) pCl10 hk6 rfl rfl (Nat.le_of_ble_eq_true rfl) dL_law_358 ⟨by show (kc + 22) + 0 ≤ 601024; omega, by show (kn + 170) + 0 ≤ 7293034; omega⟩) rfl rfl (fun r7 S8 h => ?_)
  refine pw_iload (pc := 361) C 1 dL_law_361 rfl ?_
  refine pw_icmp_eq (pc := 363) (tgt := 368) C dL_law_363 rfl ⟨fun hc => ?_, fun hc => ?_⟩
  · replace h := h.1 hc
    refine pw_iload (pc := 368) C 1 dL_law_368 rfl ?_
    refine pw_if_ne (pc := 370) (tgt := 385) C dL_law_370 rfl ⟨fun hc => ?_, fun hc => ?_⟩
    · replace h := h.1 hc
      refine pw_goto (pc := 385) (tgt := 1913) C dL_law_385 rfl ?_
      refine pw_iincK (pc := 1913) (w := 6) C [(5, .int (x5 + 6)), (7, .int r4), (6, .int r1), (0, .ref b), (1, .ref (G.2.2 + x1)), (2, .ref (G.2.2 + x2)), (3, .ref (G.2.2 + x3)), (4, .ref (G.2.2 + x4))] 7 dL_law_1913 (by decide) rfl (by decide) rfl ?_
      refine pw_goto (pc := 1916) (tgt := 28) C dL_law_1916 rfl ?_
      refine pw_sub [3, 4, 5, 6, 7, 0] (LV2 := [(0, .ref b), (1, .ref (G.2.2 + x1)), (2, .ref (G.2.2 + x2)), (3, .ref (G.2.2 + x3)), (4, .ref (G.2.2 + x4)), (5, .int (x5 + 6))]) rfl ?_
      exact hK _ _ _ _ _ _ h
    · replace h := h.2 hc
      refine pw_aload_n (pc := 373) C 5 dL_law_373 rfl rfl ?_
      refine pw_iconst (pc := 374) (v := 0 ) C dL_law_374 (by decide) ?_
      obtain ⟨hk9, h⟩ := h
      obtain ⟨hi10, h⟩ := h
      refine pw_lald (pc := 375) C hk9 hi10 dL_law_375 ?_
      refine pw_iload (pc := 376) C 0 dL_law_376 rfl ?_
      refine pw_i2l (pc := 378) C dL_law_378 ?_
      refine pw_lcmp (pc := 379) C dL_law_379 ?_
      refine pw_if_eq (pc := 380) (tgt := 385) C dL_law_380 rfl ⟨fun hc => ?_, fun hc => ?_⟩
      · replace h := h.1 hc
        refine pw_goto (pc := 385) (tgt := 1913) C dL_law_385 rfl ?_
        refine pw_iincK (pc := 1913) (w := 6) C [(5, .int (x5 + 6)), (7, .int r4), (6, .int r1), (0, .ref b), (1, .ref (G.2.2 + x1)), (2, .ref (G.2.2 + x2)), (3, .ref (G.2.2 + x3)), (4, .ref (G.2.2 + x4))] 7 dL_law_1913 (by decide) rfl (by decide) rfl ?_
        refine pw_goto (pc := 1916) (tgt := 28) C dL_law_1916 rfl ?_
        refine pw_sub [3, 4, 5, 6, 7, 0] (LV2 := [(0, .ref b), (1, .ref (G.2.2 + x1)), (2, .ref (G.2.2 + x2)), (3, .ref (G.2.2 + x3)), (4, .ref (G.2.2 + x4)), (5, .int (x5 + 6))]) rfl ?_
        exact hK _ _ _ _ _ _ h
      · replace h := h.2 hc
        refine pw_iconst (pc := 383) (v := 0 ) C dL_law_383 (by decide) ?_
        exact h.elim
  · replace h := h.2 hc
    refine pw_iconst (pc := 366) (v := 0 ) C dL_law_366 (by decide) ?_
    exact h.elim
def wpL_law_b388 (xs : Nat → Int32) (L : Nat) (K : PS → Nat → Nat → Nat → Nat → Int32 → Prop) (S : PS) (x1 : Nat) (x2 : Nat) (x3 : Nat) (x4 : Nat) (x5 : Int32) : Prop := (pK S x1 = 10 ∧ (wpX11_errorCode S x1 (fun r2 S3 => (pK S3 x2 = 11 ∧ (wpX12_errorCode S3 x2 (fun r5 S6 => ((r2 = r5 → (K S6 x1 x2 x3 x4 (x5 + 6))) ∧ (¬ r2 = r5 → False))))))))
set_option maxRecDepth 100000 in
set_option maxHeartbeats 8000000 in
theorem cbL_law_b388 {p : Program} {l : Launch} {e : Env} {s : State} {m : MethodId} {args : Array Value} {below : List Frame} {meth : Method} {c : Code} {Q : State → Prop} {G : PG} {b L : Nat} {xs : Nat → Int32} (C : pCx p s m args meth c G cL_law 9 RL TsLaw) (hZ : pZa G) (hl : l.stackTraces = false) (hX : va_X b L xs s s.heap) (hb : b < s.heap.size) (hbG : b < G.2.2) {kc kn : Nat} {K : PS → Nat → Nat → Nat → Nat → Int32 → Prop} (hK : ∀ (S : PS) (x1 : Nat) (x2 : Nat) (x3 : Nat) (x4 : Nat) (x5 : Int32), K S x1 x2 x3 x4 x5 → PW p l e room_1 s m args below meth c Q G 9 S (kc + 22) (kn + 170) [(0, .ref b), (1, .ref (G.2.2 + x1)), (2, .ref (G.2.2 + x2)), (3, .ref (G.2.2 + x3)), (4, .ref (G.2.2 + x4)), (5, .int x5)] 28 []) (hkc : kc + 22 ≤ 601024) (hkn : kn + 170 ≤ 7293034) : ∀ (S : PS) (x1 : Nat) (x2 : Nat) (x3 : Nat) (x4 : Nat) (x5 : Int32), wpL_law_b388 xs L K S x1 x2 x3 x4 x5 → PW p l e room_1 s m args below meth c Q G 9 S kc kn [(0, .ref b), (1, .ref (G.2.2 + x1)), (2, .ref (G.2.2 + x2)), (3, .ref (G.2.2 + x3)), (4, .ref (G.2.2 + x4)), (5, .int x5)] 388 [] := by
  intro S x1 x2 x3 x4 x5 h
  unfold wpL_law_b388 at h
  refine pw_aload_n (pc := 388) C 1 dL_law_388 rfl rfl ?_
  obtain ⟨hk1, h⟩ := h
  refine pw_calli (pc := 389) (kc2 := (kc + 0)) (kn2 := (kn + 0)) (pRunV (pc := 389) C (ctX11_errorCode l G hZ  _ x1 _ h) (cwV 0 C.2.2.2.2.1 qgL_law_X11_errorCode rfl rfl rfl (by decide +kernel) ⟨Nat.le_of_ble_eq_true rfl, Nat.le_of_ble_eq_true rfl⟩) pCl9 hk1 rfl rfl (Nat.le_of_ble_eq_true rfl) dL_law_389 ⟨by show (kc + 0) + 0 ≤ 601024; omega, by show (kn + 0) + 0 ≤ 7293034; omega⟩) rfl rfl (fun r2 S3 h => ?_)
  refine pw_aload_n (pc := 392) C 2 dL_law_392 rfl rfl ?_
  obtain ⟨hk4, h⟩ := h
  refine pw_calli (pc := 393) (kc2 := (kc + 0)) (kn2 := (kn + 0)) (pRunV (pc := 393) C (ctX12_errorCode l G  _ x2 _ h) (cwV 0 C.2.2.2.2.1 qgL_law_X12_errorCode rfl rfl rfl (by decide +kernel) ⟨Nat.le_of_ble_eq_true rfl, Nat.le_of_ble_eq_true rfl⟩) pCl10 hk4 rfl rfl (Nat.le_of_ble_eq_true rfl) dL_law_393 ⟨by show (kc + 0) + 0 ≤ 601024; omega, by show (kn + 0) + 0 ≤ 7293034; omega⟩) rfl rfl (fun r5 S6 h => ?_)
  refine pw_icmp_eq (pc := 396) (tgt := 1913) C dL_law_396 rfl ⟨fun hc => ?_, fun hc => ?_⟩
  · replace h := h.1 hc
    refine pw_iincK (pc := 1913) (w := 6) C [(5, .int (x5 + 6)), (0, .ref b), (1, .ref (G.2.2 + x1)), (2, .ref (G.2.2 + x2)), (3, .ref (G.2.2 + x3)), (4, .ref (G.2.2 + x4))] 5 dL_law_1913 (by decide) rfl (by decide) rfl ?_
    refine pw_goto (pc := 1916) (tgt := 28) C dL_law_1916 rfl ?_
    refine pw_sub [1, 2, 3, 4, 5, 0] (LV2 := [(0, .ref b), (1, .ref (G.2.2 + x1)), (2, .ref (G.2.2 + x2)), (3, .ref (G.2.2 + x3)), (4, .ref (G.2.2 + x4)), (5, .int (x5 + 6))]) rfl ?_
    refine pw_widen (k2 := (kc + 22)) (n2 := (kn + 170)) (by omega) (by omega) ?_
    exact hK _ _ _ _ _ _ h
  · replace h := h.2 hc
    refine pw_iconst (pc := 399) (v := 0 ) C dL_law_399 (by decide) ?_
    exact h.elim
def wpL_law_b401 (xs : Nat → Int32) (L : Nat) (K : PS → Nat → Nat → Nat → Nat → Int32 → Prop) (S : PS) (x1 : Nat) (x2 : Nat) (x3 : Nat) (x4 : Nat) (x5 : Int32) : Prop := (pK S x1 = 10 ∧ (wpX11_errorPosition S x1 (fun r2 S3 => (pK S3 x2 = 11 ∧ (wpX12_errorPosition S3 x2 (fun r5 S6 => ((r2 = r5 → (K S6 x1 x2 x3 x4 (x5 + 6))) ∧ (¬ r2 = r5 → False))))))))
set_option maxRecDepth 100000 in
set_option maxHeartbeats 8000000 in
theorem cbL_law_b401 {p : Program} {l : Launch} {e : Env} {s : State} {m : MethodId} {args : Array Value} {below : List Frame} {meth : Method} {c : Code} {Q : State → Prop} {G : PG} {b L : Nat} {xs : Nat → Int32} (C : pCx p s m args meth c G cL_law 9 RL TsLaw) (hZ : pZa G) (hl : l.stackTraces = false) (hX : va_X b L xs s s.heap) (hb : b < s.heap.size) (hbG : b < G.2.2) {kc kn : Nat} {K : PS → Nat → Nat → Nat → Nat → Int32 → Prop} (hK : ∀ (S : PS) (x1 : Nat) (x2 : Nat) (x3 : Nat) (x4 : Nat) (x5 : Int32), K S x1 x2 x3 x4 x5 → PW p l e room_1 s m args below meth c Q G 9 S (kc + 22) (kn + 170) [(0, .ref b), (1, .ref (G.2.2 + x1)), (2, .ref (G.2.2 + x2)), (3, .ref (G.2.2 + x3)), (4, .ref (G.2.2 + x4)), (5, .int x5)] 28 []) (hkc : kc + 22 ≤ 601024) (hkn : kn + 170 ≤ 7293034) : ∀ (S : PS) (x1 : Nat) (x2 : Nat) (x3 : Nat) (x4 : Nat) (x5 : Int32), wpL_law_b401 xs L K S x1 x2 x3 x4 x5 → PW p l e room_1 s m args below meth c Q G 9 S kc kn [(0, .ref b), (1, .ref (G.2.2 + x1)), (2, .ref (G.2.2 + x2)), (3, .ref (G.2.2 + x3)), (4, .ref (G.2.2 + x4)), (5, .int x5)] 401 [] := by
  intro S x1 x2 x3 x4 x5 h
  unfold wpL_law_b401 at h
  refine pw_aload_n (pc := 401) C 1 dL_law_401 rfl rfl ?_
  obtain ⟨hk1, h⟩ := h
  refine pw_calli (pc := 402) (kc2 := (kc + 0)) (kn2 := (kn + 0)) (pRunV (pc := 402) C (ctX11_errorPosition l G hZ  _ x1 _ h) (cwV 0 C.2.2.2.2.1 qgL_law_X11_errorPosition rfl rfl rfl (by decide +kernel) ⟨Nat.le_of_ble_eq_true rfl, Nat.le_of_ble_eq_true rfl⟩) pCl9 hk1 rfl rfl (Nat.le_of_ble_eq_true rfl) dL_law_402 ⟨by show (kc + 0) + 0 ≤ 601024; omega, by show (kn + 0) + 0 ≤ 7293034; omega⟩) rfl rfl (fun r2 S3 h => ?_)
  refine pw_aload_n (pc := 405) C 2 dL_law_405 rfl rfl ?_
  obtain ⟨hk4, h⟩ := h
  refine pw_calli (pc := 406) (kc2 := (kc + 0)) (kn2 := (kn + 0)) (pRunV (pc := 406) C (ctX12_errorPosition l G  _ x2 _ h) (cwV 0 C.2.2.2.2.1 qgL_law_X12_errorPosition rfl rfl rfl (by decide +kernel) ⟨Nat.le_of_ble_eq_true rfl, Nat.le_of_ble_eq_true rfl⟩) pCl10 hk4 rfl rfl (Nat.le_of_ble_eq_true rfl) dL_law_406 ⟨by show (kc + 0) + 0 ≤ 601024; omega, by show (kn + 0) + 0 ≤ 7293034; omega⟩) rfl rfl (fun r5 S6 h => ?_)
  refine pw_icmp_eq (pc := 409) (tgt := 1913) C dL_law_409 rfl ⟨fun hc => ?_, fun hc => ?_⟩
  · replace h := h.1 hc
    refine pw_iincK (pc := 1913) (w := 6) C [(5, .int (x5 + 6)), (0, .ref b), (1, .ref (G.2.2 + x1)), (2, .ref (G.2.2 + x2)), (3, .ref (G.2.2 + x3)), (4, .ref (G.2.2 + x4))] 5 dL_law_1913 (by decide) rfl (by decide) rfl ?_
    refine pw_goto (pc := 1916) (tgt := 28) C dL_law_1916 rfl ?_
    refine pw_sub [1, 2, 3, 4, 5, 0] (LV2 := [(0, .ref b), (1, .ref (G.2.2 + x1)), (2, .ref (G.2.2 + x2)), (3, .ref (G.2.2 + x3)), (4, .ref (G.2.2 + x4)), (5, .int (x5 + 6))]) rfl ?_
    refine pw_widen (k2 := (kc + 22)) (n2 := (kn + 170)) (by omega) (by omega) ?_
    exact hK _ _ _ _ _ _ h
  · replace h := h.2 hc
    refine pw_iconst (pc := 412) (v := 0 ) C dL_law_412 (by decide) ?_
    exact h.elim
def wpL_law_b414 (xs : Nat → Int32) (L : Nat) (K : PS → Nat → Nat → Nat → Nat → Int32 → Prop) (S : PS) (x1 : Nat) (x2 : Nat) (x3 : Nat) (x4 : Nat) (x5 : Int32) : Prop := (vp_in (x5 + (1 : Int32)) L ∧ (wpL_report S x1 (xs ((x5 + (1 : Int32))).toNatClampNeg) x3 (fun r2 S3 => (vp_in (x5 + (1 : Int32)) L ∧ (pK S3 x2 = 11 ∧ (wpX12_report S3 x2 (xs ((x5 + (1 : Int32))).toNatClampNeg) (fun r6 S7 => (pK S7 x2 = 11 ∧ (wpX12_thrown S7 x2 (fun r9 S10 => ((r9 = r2 → ((¬ r2 = 0 → (K S10 x1 x2 x3 x4 (x5 + 6))) ∧ (r2 = 0 → (pK S10 x3 = 14 ∧ (vp_in (0 : Int32) (pL S10 x3) ∧ (((lg_cmp (pJ S10 x3 ((0 : Int32)).toNatClampNeg) (r6.toInt64)) = 0 → (K S10 x1 x2 x3 x4 (x5 + 6))) ∧ (¬ (lg_cmp (pJ S10 x3 ((0 : Int32)).toNatClampNeg) (r6.toInt64)) = 0 → False))))))) ∧ (¬ r9 = r2 → False))))))))))))
set_option maxRecDepth 100000 in
set_option maxHeartbeats 8000000 in
theorem cbL_law_b414 {p : Program} {l : Launch} {e : Env} {s : State} {m : MethodId} {args : Array Value} {below : List Frame} {meth : Method} {c : Code} {Q : State → Prop} {G : PG} {b L : Nat} {xs : Nat → Int32} (C : pCx p s m args meth c G cL_law 9 RL TsLaw) (hZ : pZa G) (hl : l.stackTraces = false) (hX : va_X b L xs s s.heap) (hb : b < s.heap.size) (hbG : b < G.2.2) {kc kn : Nat} {K : PS → Nat → Nat → Nat → Nat → Int32 → Prop} (hK : ∀ (S : PS) (x1 : Nat) (x2 : Nat) (x3 : Nat) (x4 : Nat) (x5 : Int32), K S x1 x2 x3 x4 x5 → PW p l e room_1 s m args below meth c Q G 9 S (kc + 22) (kn + 170) [(0, .ref b), (1, .ref (G.2.2 + x1)), (2, .ref (G.2.2 + x2)), (3, .ref (G.2.2 + x3)), (4, .ref (G.2.2 + x4)), (5, .int x5)] 28 []) (hkc : kc + 22 ≤ 601024) (hkn : kn + 170 ≤ 7293034) : ∀ (S : PS) (x1 : Nat) (x2 : Nat) (x3 : Nat) (x4 : Nat) (x5 : Int32), wpL_law_b414 xs L K S x1 x2 x3 x4 x5 → PW p l e room_1 s m args below meth c Q G 9 S kc kn [(0, .ref b), (1, .ref (G.2.2 + x1)), (2, .ref (G.2.2 + x2)), (3, .ref (G.2.2 + x3)), (4, .ref (G.2.2 + x4)), (5, .int x5)] 414 [] := by
  intro S x1 x2 x3 x4 x5 h
  unfold wpL_law_b414 at h
  refine pw_aload_n (pc := 414) C 1 dL_law_414 rfl rfl ?_
  refine pw_aload_n (pc := 415) C 0 dL_law_415 rfl rfl ?_
  refine pw_iload (pc := 416) C 5 dL_law_416 rfl ?_
  refine pw_iconst (pc := 418) (v := 1 ) C dL_law_418 (by decide) ?_
  refine pw_iadd (pc := 419) C dL_law_419 ?_
  obtain ⟨hi1, h⟩ := h
  refine pw_sld (pc := 420) C hX hb hbG hi1 dL_law_420 ?_
  refine pw_aload_n (pc := 421) C 3 dL_law_421 rfl rfl ?_
  refine pw_calli (pc := 422) (kc2 := (kc + 1)) (kn2 := (kn + 6)) (pRunSW (pc := 422) C (ctL_report l G hZ hl  _ x1 (xs ((x5 + (1 : Int32))).toNatClampNeg) x3 _ h) (vx_cwSW 3 C.2.2.2.2.1 qgL_law_L_report rfl rfl rfl (by decide +kernel) ⟨Nat.le_of_ble_eq_true rfl, Nat.le_of_ble_eq_true rfl⟩) rfl rfl (Nat.le_of_ble_eq_true rfl) dL_law_422 ⟨by show (kc + 0) + 1 ≤ 601024; omega, by show (kn + 0) + 6 ≤ 7293034; omega⟩) rfl rfl (fun r2 S3 h => ?_)
  refine pw_istore (pc := 425) C [(6, .int r2), (0, .ref b), (1, .ref (G.2.2 + x1)), (2, .ref (G.2.2 + x2)), (3, .ref (G.2.2 + x3)), (4, .ref (G.2.2 + x4)), (5, .int x5)] dL_law_425 (by decide) rfl ?_
  refine pw_aload_n (pc := 427) C 3 dL_law_427 rfl rfl ?_
  refine pw_aload_n (pc := 428) C 1 dL_law_428 rfl rfl ?_
  refine pw_iload (pc := 429) C 6 dL_law_429 rfl ?_
  refine pw_iconst (pc := 431) (v := 1 ) C dL_law_431 (by decide) ?_
  refine pw_iadd (pc := 432) C dL_law_432 ?_
  obtain ⟨hi4, h⟩ := h
  refine pw_sld (pc := 433) C hX hb hbG hi4 dL_law_433 ?_
  obtain ⟨hk5, h⟩ := h
  refine pw_calli (pc := 434) (kc2 := (kc + 1)) (kn2 := (kn + 6)) (pRunV (pc := 434) C (ctX12_report l G  _ x2 (xs ((x5 + (1 : Int32))).toNatClampNeg) _ h) (cwV 1 C.2.2.2.2.1 qgL_law_X12_report rfl rfl rfl (by decide +kernel) ⟨Nat.le_of_ble_eq_true rfl, Nat.le_of_ble_eq_true rfl⟩) pCl10 hk5 rfl rfl (Nat.le_of_ble_eq_true rfl) dL_law_434 ⟨by show (kc + 1) + 0 ≤ 601024; omega, by show (kn + 6) + 0 ≤ 7293034; omega⟩) rfl rfl (fun r6 S7 h => ?_)
  refine pw_istore (pc := 437) C [(7, .int r6), (6, .int r2), (0, .ref b), (1, .ref (G.2.2 + x1)), (2, .ref (G.2.2 + x2)), (3, .ref (G.2.2 + x3)), (4, .ref (G.2.2 + x4)), (5, .int x5)] dL_law_437 (by decide) rfl ?_
  refine pw_aload_n (pc := 439) C 4 dL_law_439 rfl rfl ?_
  obtain ⟨hk8, h⟩ := h
  refine pw_calli (pc := 440) (kc2 := (kc + 1)) (kn2 := (kn + 6)) (pRunV (pc := 440) C (ctX12_thrown l G  _ x2 _ h) (cwV 0 C.2.2.2.2.1 qgL_law_X12_thrown rfl rfl rfl (by decide +kernel) ⟨Nat.le_of_ble_eq_true rfl, Nat.le_of_ble_eq_true rfl⟩) pCl10 hk8 rfl rfl (Nat.le_of_ble_eq_true rfl) dL_law_440 ⟨by show (kc + 1) + 0 ≤ 601024; omega, by show (kn + 6) + 0 ≤ 7293034; omega⟩) rfl rfl (fun r9 S10 h => ?_)
  refine pw_iload (pc := 443) C 1 dL_law_443 rfl ?_
  refine pw_icmp_eq (pc := 445) (tgt := 450) C dL_law_445 rfl ⟨fun hc => ?_, fun hc => ?_⟩
  · replace h := h.1 hc
    refine pw_iload (pc := 450) C 1 dL_law_450 rfl ?_
    refine pw_if_ne (pc := 452) (tgt := 467) C dL_law_452 rfl ⟨fun hc => ?_, fun hc => ?_⟩
    · replace h := h.1 hc
      refine pw_goto (pc := 467) (tgt := 1913) C dL_law_467 rfl ?_
      refine pw_iincK (pc := 1913) (w := 6) C [(5, .int (x5 + 6)), (7, .int r6), (6, .int r2), (0, .ref b), (1, .ref (G.2.2 + x1)), (2, .ref (G.2.2 + x2)), (3, .ref (G.2.2 + x3)), (4, .ref (G.2.2 + x4))] 7 dL_law_1913 (by decide) rfl (by decide) rfl ?_
      refine pw_goto (pc := 1916) (tgt := 28) C dL_law_1916 rfl ?_
      refine pw_sub [3, 4, 5, 6, 7, 0] (LV2 := [(0, .ref b), (1, .ref (G.2.2 + x1)), (2, .ref (G.2.2 + x2)), (3, .ref (G.2.2 + x3)), (4, .ref (G.2.2 + x4)), (5, .int (x5 + 6))]) rfl ?_
      refine pw_widen (k2 := (kc + 22)) (n2 := (kn + 170)) (by omega) (by omega) ?_
      exact hK _ _ _ _ _ _ h
    · replace h := h.2 hc
      refine pw_aload_n (pc := 455) C 5 dL_law_455 rfl rfl ?_
      refine pw_iconst (pc := 456) (v := 0 ) C dL_law_456 (by decide) ?_
      obtain ⟨hk11, h⟩ := h
      obtain ⟨hi12, h⟩ := h
      refine pw_lald (pc := 457) C hk11 hi12 dL_law_457 ?_
      refine pw_iload (pc := 458) C 0 dL_law_458 rfl ?_
      refine pw_i2l (pc := 460) C dL_law_460 ?_
      refine pw_lcmp (pc := 461) C dL_law_461 ?_
      refine pw_if_eq (pc := 462) (tgt := 467) C dL_law_462 rfl ⟨fun hc => ?_, fun hc => ?_⟩
      · replace h := h.1 hc
        refine pw_goto (pc := 467) (tgt := 1913) C dL_law_467 rfl ?_
        refine pw_iincK (pc := 1913) (w := 6) C [(5, .int (x5 + 6)), (7, .int r6), (6, .int r2), (0, .ref b), (1, .ref (G.2.2 + x1)), (2, .ref (G.2.2 + x2)), (3, .ref (G.2.2 + x3)), (4, .ref (G.2.2 + x4))] 7 dL_law_1913 (by decide) rfl (by decide) rfl ?_
        refine pw_goto (pc := 1916) (tgt := 28) C dL_law_1916 rfl ?_
        refine pw_sub [3, 4, 5, 6, 7, 0] (LV2 := [(0, .ref b), (1, .ref (G.2.2 + x1)), (2, .ref (G.2.2 + x2)), (3, .ref (G.2.2 + x3)), (4, .ref (G.2.2 + x4)), (5, .int (x5 + 6))]) rfl ?_
        refine pw_widen (k2 := (kc + 22)) (n2 := (kn + 170)) (by omega) (by omega) ?_
        exact hK _ _ _ _ _ _ h
      · replace h := h.2 hc
        refine pw_iconst (pc := 465) (v := 0 ) C dL_law_465 (by decide) ?_
        exact h.elim
  · replace h := h.2 hc
    refine pw_iconst (pc := 448) (v := 0 ) C dL_law_448 (by decide) ?_
    exact h.elim
def wpL_law_b470 (xs : Nat → Int32) (L : Nat) (K : PS → Nat → Nat → Nat → Nat → Int32 → Prop) (S : PS) (x1 : Nat) (x2 : Nat) (x3 : Nat) (x4 : Nat) (x5 : Int32) : Prop := (vp_in (x5 + (1 : Int32)) L ∧ (wpL_domain S x1 (xs ((x5 + (1 : Int32))).toNatClampNeg) x3 (fun r2 S3 => (vp_in (x5 + (1 : Int32)) L ∧ (pK S3 x2 = 11 ∧ (wpX12_domain S3 x2 (xs ((x5 + (1 : Int32))).toNatClampNeg) (fun r6 S7 => (pK S7 x2 = 11 ∧ (wpX12_thrown S7 x2 (fun r9 S10 => ((r9 = r2 → ((¬ r2 = 0 → (K S10 x1 x2 x3 x4 (x5 + 6))) ∧ (r2 = 0 → (pK S10 x3 = 14 ∧ (vp_in (0 : Int32) (pL S10 x3) ∧ (((lg_cmp (pJ S10 x3 ((0 : Int32)).toNatClampNeg) (r6.toInt64)) = 0 → (K S10 x1 x2 x3 x4 (x5 + 6))) ∧ (¬ (lg_cmp (pJ S10 x3 ((0 : Int32)).toNatClampNeg) (r6.toInt64)) = 0 → False))))))) ∧ (¬ r9 = r2 → False))))))))))))
set_option maxRecDepth 100000 in
set_option maxHeartbeats 8000000 in
theorem cbL_law_b470 {p : Program} {l : Launch} {e : Env} {s : State} {m : MethodId} {args : Array Value} {below : List Frame} {meth : Method} {c : Code} {Q : State → Prop} {G : PG} {b L : Nat} {xs : Nat → Int32} (C : pCx p s m args meth c G cL_law 9 RL TsLaw) (hZ : pZa G) (hl : l.stackTraces = false) (hX : va_X b L xs s s.heap) (hb : b < s.heap.size) (hbG : b < G.2.2) {kc kn : Nat} {K : PS → Nat → Nat → Nat → Nat → Int32 → Prop} (hK : ∀ (S : PS) (x1 : Nat) (x2 : Nat) (x3 : Nat) (x4 : Nat) (x5 : Int32), K S x1 x2 x3 x4 x5 → PW p l e room_1 s m args below meth c Q G 9 S (kc + 22) (kn + 170) [(0, .ref b), (1, .ref (G.2.2 + x1)), (2, .ref (G.2.2 + x2)), (3, .ref (G.2.2 + x3)), (4, .ref (G.2.2 + x4)), (5, .int x5)] 28 []) (hkc : kc + 22 ≤ 601024) (hkn : kn + 170 ≤ 7293034) : ∀ (S : PS) (x1 : Nat) (x2 : Nat) (x3 : Nat) (x4 : Nat) (x5 : Int32), wpL_law_b470 xs L K S x1 x2 x3 x4 x5 → PW p l e room_1 s m args below meth c Q G 9 S kc kn [(0, .ref b), (1, .ref (G.2.2 + x1)), (2, .ref (G.2.2 + x2)), (3, .ref (G.2.2 + x3)), (4, .ref (G.2.2 + x4)), (5, .int x5)] 470 [] := by
  intro S x1 x2 x3 x4 x5 h
  unfold wpL_law_b470 at h
  refine pw_aload_n (pc := 470) C 1 dL_law_470 rfl rfl ?_
  refine pw_aload_n (pc := 471) C 0 dL_law_471 rfl rfl ?_
  refine pw_iload (pc := 472) C 5 dL_law_472 rfl ?_
  refine pw_iconst (pc := 474) (v := 1 ) C dL_law_474 (by decide) ?_
  refine pw_iadd (pc := 475) C dL_law_475 ?_
  obtain ⟨hi1, h⟩ := h
  refine pw_sld (pc := 476) C hX hb hbG hi1 dL_law_476 ?_
  refine pw_aload_n (pc := 477) C 3 dL_law_477 rfl rfl ?_
  refine pw_calli (pc := 478) (kc2 := (kc + 1)) (kn2 := (kn + 6)) (pRunSW (pc := 478) C (ctL_domain l G hZ hl  _ x1 (xs ((x5 + (1 : Int32))).toNatClampNeg) x3 _ h) (vx_cwSW 3 C.2.2.2.2.1 qgL_law_L_domain rfl rfl rfl (by decide +kernel) ⟨Nat.le_of_ble_eq_true rfl, Nat.le_of_ble_eq_true rfl⟩) rfl rfl (Nat.le_of_ble_eq_true rfl) dL_law_478 ⟨by show (kc + 0) + 1 ≤ 601024; omega, by show (kn + 0) + 6 ≤ 7293034; omega⟩) rfl rfl (fun r2 S3 h => ?_)
  refine pw_istore (pc := 481) C [(6, .int r2), (0, .ref b), (1, .ref (G.2.2 + x1)), (2, .ref (G.2.2 + x2)), (3, .ref (G.2.2 + x3)), (4, .ref (G.2.2 + x4)), (5, .int x5)] dL_law_481 (by decide) rfl ?_
  refine pw_aload_n (pc := 483) C 3 dL_law_483 rfl rfl ?_
  refine pw_aload_n (pc := 484) C 1 dL_law_484 rfl rfl ?_
  refine pw_iload (pc := 485) C 6 dL_law_485 rfl ?_
  refine pw_iconst (pc := 487) (v := 1 ) C dL_law_487 (by decide) ?_
  refine pw_iadd (pc := 488) C dL_law_488 ?_
  obtain ⟨hi4, h⟩ := h
  refine pw_sld (pc := 489) C hX hb hbG hi4 dL_law_489 ?_
  obtain ⟨hk5, h⟩ := h
  refine pw_calli (pc := 490) (kc2 := (kc + 1)) (kn2 := (kn + 6)) (pRunV (pc := 490) C (ctX12_domain l G  _ x2 (xs ((x5 + (1 : Int32))).toNatClampNeg) _ h) (cwV 1 C.2.2.2.2.1 qgL_law_X12_domain rfl rfl rfl (by decide +kernel) ⟨Nat.le_of_ble_eq_true rfl, Nat.le_of_ble_eq_true rfl⟩) pCl10 hk5 rfl rfl (Nat.le_of_ble_eq_true rfl) dL_law_490 ⟨by show (kc + 1) + 0 ≤ 601024; omega, by show (kn + 6) + 0 ≤ 7293034; omega⟩) rfl rfl (fun r6 S7 h => ?_)
  refine pw_istore (pc := 493) C [(7, .int r6), (6, .int r2), (0, .ref b), (1, .ref (G.2.2 + x1)), (2, .ref (G.2.2 + x2)), (3, .ref (G.2.2 + x3)), (4, .ref (G.2.2 + x4)), (5, .int x5)] dL_law_493 (by decide) rfl ?_
  refine pw_aload_n (pc := 495) C 4 dL_law_495 rfl rfl ?_
  obtain ⟨hk8, h⟩ := h
  refine pw_calli (pc := 496) (kc2 := (kc + 1)) (kn2 := (kn + 6)) (pRunV (pc := 496) C (ctX12_thrown l G  _ x2 _ h) (cwV 0 C.2.2.2.2.1 qgL_law_X12_thrown rfl rfl rfl (by decide +kernel) ⟨Nat.le_of_ble_eq_true rfl, Nat.le_of_ble_eq_true rfl⟩) pCl10 hk8 rfl rfl (Nat.le_of_ble_eq_true rfl) dL_law_496 ⟨by show (kc + 1) + 0 ≤ 601024; omega, by show (kn + 6) + 0 ≤ 7293034; omega⟩) rfl rfl (fun r9 S10 h => ?_)
  refine pw_iload (pc := 499) C 1 dL_law_499 rfl ?_
  refine pw_icmp_eq (pc := 501) (tgt := 506) C dL_law_501 rfl ⟨fun hc => ?_, fun hc => ?_⟩
  · replace h := h.1 hc
    refine pw_iload (pc := 506) C 1 dL_law_506 rfl ?_
    refine pw_if_ne (pc := 508) (tgt := 523) C dL_law_508 rfl ⟨fun hc => ?_, fun hc => ?_⟩
    · replace h := h.1 hc
      refine pw_goto (pc := 523) (tgt := 1913) C dL_law_523 rfl ?_
      refine pw_iincK (pc := 1913) (w := 6) C [(5, .int (x5 + 6)), (7, .int r6), (6, .int r2), (0, .ref b), (1, .ref (G.2.2 + x1)), (2, .ref (G.2.2 + x2)), (3, .ref (G.2.2 + x3)), (4, .ref (G.2.2 + x4))] 7 dL_law_1913 (by decide) rfl (by decide) rfl ?_
      refine pw_goto (pc := 1916) (tgt := 28) C dL_law_1916 rfl ?_
      refine pw_sub [3, 4, 5, 6, 7, 0] (LV2 := [(0, .ref b), (1, .ref (G.2.2 + x1)), (2, .ref (G.2.2 + x2)), (3, .ref (G.2.2 + x3)), (4, .ref (G.2.2 + x4)), (5, .int (x5 + 6))]) rfl ?_
      refine pw_widen (k2 := (kc + 22)) (n2 := (kn + 170)) (by omega) (by omega) ?_
      exact hK _ _ _ _ _ _ h
    · replace h := h.2 hc
      refine pw_aload_n (pc := 511) C 5 dL_law_511 rfl rfl ?_
      refine pw_iconst (pc := 512) (v := 0 ) C dL_law_512 (by decide) ?_
      obtain ⟨hk11, h⟩ := h
      obtain ⟨hi12, h⟩ := h
      refine pw_lald (pc := 513) C hk11 hi12 dL_law_513 ?_
      refine pw_iload (pc := 514) C 0 dL_law_514 rfl ?_
      refine pw_i2l (pc := 516) C dL_law_516 ?_
      refine pw_lcmp (pc := 517) C dL_law_517 ?_
      refine pw_if_eq (pc := 518) (tgt := 523) C dL_law_518 rfl ⟨fun hc => ?_, fun hc => ?_⟩
      · replace h := h.1 hc
        refine pw_goto (pc := 523) (tgt := 1913) C dL_law_523 rfl ?_
        refine pw_iincK (pc := 1913) (w := 6) C [(5, .int (x5 + 6)), (7, .int r6), (6, .int r2), (0, .ref b), (1, .ref (G.2.2 + x1)), (2, .ref (G.2.2 + x2)), (3, .ref (G.2.2 + x3)), (4, .ref (G.2.2 + x4))] 7 dL_law_1913 (by decide) rfl (by decide) rfl ?_
        refine pw_goto (pc := 1916) (tgt := 28) C dL_law_1916 rfl ?_
        refine pw_sub [3, 4, 5, 6, 7, 0] (LV2 := [(0, .ref b), (1, .ref (G.2.2 + x1)), (2, .ref (G.2.2 + x2)), (3, .ref (G.2.2 + x3)), (4, .ref (G.2.2 + x4)), (5, .int (x5 + 6))]) rfl ?_
        refine pw_widen (k2 := (kc + 22)) (n2 := (kn + 170)) (by omega) (by omega) ?_
        exact hK _ _ _ _ _ _ h
      · replace h := h.2 hc
        refine pw_iconst (pc := 521) (v := 0 ) C dL_law_521 (by decide) ?_
        exact h.elim
  · replace h := h.2 hc
    refine pw_iconst (pc := 504) (v := 0 ) C dL_law_504 (by decide) ?_
    exact h.elim
def wpL_law_b526 (xs : Nat → Int32) (L : Nat) (K : PS → Nat → Nat → Nat → Nat → Int32 → Prop) (S : PS) (x1 : Nat) (x2 : Nat) (x3 : Nat) (x4 : Nat) (x5 : Int32) : Prop := (vp_in (x5 + (1 : Int32)) L ∧ (vp_in (x5 + (2 : Int32)) L ∧ (wpL_constraint S x1 (xs ((x5 + (1 : Int32))).toNatClampNeg) (xs ((x5 + (2 : Int32))).toNatClampNeg) x3 (fun r3 S4 => (vp_in (x5 + (1 : Int32)) L ∧ (vp_in (x5 + (2 : Int32)) L ∧ (pK S4 x2 = 11 ∧ (wpX12_constraint_ S4 x2 (xs ((x5 + (1 : Int32))).toNatClampNeg) (xs ((x5 + (2 : Int32))).toNatClampNeg) (fun r8 S9 => (pK S9 x2 = 11 ∧ (wpX12_thrown S9 x2 (fun r11 S12 => ((r11 = r3 → ((¬ r3 = 0 → (K S12 x1 x2 x3 x4 (x5 + 6))) ∧ (r3 = 0 → (pK S12 x3 = 14 ∧ (vp_in (0 : Int32) (pL S12 x3) ∧ (((lg_cmp (pJ S12 x3 ((0 : Int32)).toNatClampNeg) (r8.toInt64)) = 0 → (K S12 x1 x2 x3 x4 (x5 + 6))) ∧ (¬ (lg_cmp (pJ S12 x3 ((0 : Int32)).toNatClampNeg) (r8.toInt64)) = 0 → False))))))) ∧ (¬ r11 = r3 → False))))))))))))))
set_option maxRecDepth 100000 in
set_option maxHeartbeats 8000000 in
theorem cbL_law_b526 {p : Program} {l : Launch} {e : Env} {s : State} {m : MethodId} {args : Array Value} {below : List Frame} {meth : Method} {c : Code} {Q : State → Prop} {G : PG} {b L : Nat} {xs : Nat → Int32} (C : pCx p s m args meth c G cL_law 9 RL TsLaw) (hZ : pZa G) (hl : l.stackTraces = false) (hX : va_X b L xs s s.heap) (hb : b < s.heap.size) (hbG : b < G.2.2) {kc kn : Nat} {K : PS → Nat → Nat → Nat → Nat → Int32 → Prop} (hK : ∀ (S : PS) (x1 : Nat) (x2 : Nat) (x3 : Nat) (x4 : Nat) (x5 : Int32), K S x1 x2 x3 x4 x5 → PW p l e room_1 s m args below meth c Q G 9 S (kc + 22) (kn + 170) [(0, .ref b), (1, .ref (G.2.2 + x1)), (2, .ref (G.2.2 + x2)), (3, .ref (G.2.2 + x3)), (4, .ref (G.2.2 + x4)), (5, .int x5)] 28 []) (hkc : kc + 22 ≤ 601024) (hkn : kn + 170 ≤ 7293034) : ∀ (S : PS) (x1 : Nat) (x2 : Nat) (x3 : Nat) (x4 : Nat) (x5 : Int32), wpL_law_b526 xs L K S x1 x2 x3 x4 x5 → PW p l e room_1 s m args below meth c Q G 9 S kc kn [(0, .ref b), (1, .ref (G.2.2 + x1)), (2, .ref (G.2.2 + x2)), (3, .ref (G.2.2 + x3)), (4, .ref (G.2.2 + x4)), (5, .int x5)] 526 [] := by
  intro S x1 x2 x3 x4 x5 h
  unfold wpL_law_b526 at h
  refine pw_aload_n (pc := 526) C 1 dL_law_526 rfl rfl ?_
  refine pw_aload_n (pc := 527) C 0 dL_law_527 rfl rfl ?_
  refine pw_iload (pc := 528) C 5 dL_law_528 rfl ?_
  refine pw_iconst (pc := 530) (v := 1 ) C dL_law_530 (by decide) ?_
  refine pw_iadd (pc := 531) C dL_law_531 ?_
  obtain ⟨hi1, h⟩ := h
  refine pw_sld (pc := 532) C hX hb hbG hi1 dL_law_532 ?_
  refine pw_aload_n (pc := 533) C 0 dL_law_533 rfl rfl ?_
  refine pw_iload (pc := 534) C 5 dL_law_534 rfl ?_
  refine pw_iconst (pc := 536) (v := 2 ) C dL_law_536 (by decide) ?_
  refine pw_iadd (pc := 537) C dL_law_537 ?_
  obtain ⟨hi2, h⟩ := h
  refine pw_sld (pc := 538) C hX hb hbG hi2 dL_law_538 ?_
  refine pw_aload_n (pc := 539) C 3 dL_law_539 rfl rfl ?_
  refine pw_calli (pc := 540) (kc2 := (kc + 1)) (kn2 := (kn + 6)) (pRunSW (pc := 540) C (ctL_constraint l G hZ hl  _ x1 (xs ((x5 + (1 : Int32))).toNatClampNeg) (xs ((x5 + (2 : Int32))).toNatClampNeg) x3 _ h) (vx_cwSW 4 C.2.2.2.2.1 qgL_law_L_constraint rfl rfl rfl (by decide +kernel) ⟨Nat.le_of_ble_eq_true rfl, Nat.le_of_ble_eq_true rfl⟩) rfl rfl (Nat.le_of_ble_eq_true rfl) dL_law_540 ⟨by show (kc + 0) + 1 ≤ 601024; omega, by show (kn + 0) + 6 ≤ 7293034; omega⟩) rfl rfl (fun r3 S4 h => ?_)
  refine pw_istore (pc := 543) C [(6, .int r3), (0, .ref b), (1, .ref (G.2.2 + x1)), (2, .ref (G.2.2 + x2)), (3, .ref (G.2.2 + x3)), (4, .ref (G.2.2 + x4)), (5, .int x5)] dL_law_543 (by decide) rfl ?_
  refine pw_aload_n (pc := 545) C 3 dL_law_545 rfl rfl ?_
  refine pw_aload_n (pc := 546) C 1 dL_law_546 rfl rfl ?_
  refine pw_iload (pc := 547) C 6 dL_law_547 rfl ?_
  refine pw_iconst (pc := 549) (v := 1 ) C dL_law_549 (by decide) ?_
  refine pw_iadd (pc := 550) C dL_law_550 ?_
  obtain ⟨hi5, h⟩ := h
  refine pw_sld (pc := 551) C hX hb hbG hi5 dL_law_551 ?_
  refine pw_aload_n (pc := 552) C 1 dL_law_552 rfl rfl ?_
  refine pw_iload (pc := 553) C 6 dL_law_553 rfl ?_
  refine pw_iconst (pc := 555) (v := 2 ) C dL_law_555 (by decide) ?_
  refine pw_iadd (pc := 556) C dL_law_556 ?_
  obtain ⟨hi6, h⟩ := h
  refine pw_sld (pc := 557) C hX hb hbG hi6 dL_law_557 ?_
  obtain ⟨hk7, h⟩ := h
  refine pw_calli (pc := 558) (kc2 := (kc + 1)) (kn2 := (kn + 6)) (pRunV (pc := 558) C (ctX12_constraint_ l G  _ x2 (xs ((x5 + (1 : Int32))).toNatClampNeg) (xs ((x5 + (2 : Int32))).toNatClampNeg) _ h) (cwV 2 C.2.2.2.2.1 qgL_law_X12_constraint_ rfl rfl rfl (by decide +kernel) ⟨Nat.le_of_ble_eq_true rfl, Nat.le_of_ble_eq_true rfl⟩) pCl10 hk7 rfl rfl (Nat.le_of_ble_eq_true rfl) dL_law_558 ⟨by show (kc + 1) + 0 ≤ 601024; omega, by show (kn + 6) + 0 ≤ 7293034; omega⟩) rfl rfl (fun r8 S9 h => ?_)
  refine pw_istore (pc := 561) C [(7, .int r8), (6, .int r3), (0, .ref b), (1, .ref (G.2.2 + x1)), (2, .ref (G.2.2 + x2)), (3, .ref (G.2.2 + x3)), (4, .ref (G.2.2 + x4)), (5, .int x5)] dL_law_561 (by decide) rfl ?_
  refine pw_aload_n (pc := 563) C 4 dL_law_563 rfl rfl ?_
  obtain ⟨hk10, h⟩ := h
  refine pw_calli (pc := 564) (kc2 := (kc + 1)) (kn2 := (kn + 6)) (pRunV (pc := 564) C (ctX12_thrown l G  _ x2 _ h) (cwV 0 C.2.2.2.2.1 qgL_law_X12_thrown rfl rfl rfl (by decide +kernel) ⟨Nat.le_of_ble_eq_true rfl, Nat.le_of_ble_eq_true rfl⟩) pCl10 hk10 rfl rfl (Nat.le_of_ble_eq_true rfl) dL_law_564 ⟨by show (kc + 1) + 0 ≤ 601024; omega, by show (kn + 6) + 0 ≤ 7293034; omega⟩) rfl rfl (fun r11 S12 h => ?_)
  refine pw_iload (pc := 567) C 1 dL_law_567 rfl ?_
  refine pw_icmp_eq (pc := 569) (tgt := 574) C dL_law_569 rfl ⟨fun hc => ?_, fun hc => ?_⟩
  · replace h := h.1 hc
    refine pw_iload (pc := 574) C 1 dL_law_574 rfl ?_
    refine pw_if_ne (pc := 576) (tgt := 591) C dL_law_576 rfl ⟨fun hc => ?_, fun hc => ?_⟩
    · replace h := h.1 hc
      refine pw_goto (pc := 591) (tgt := 1913) C dL_law_591 rfl ?_
      refine pw_iincK (pc := 1913) (w := 6) C [(5, .int (x5 + 6)), (7, .int r8), (6, .int r3), (0, .ref b), (1, .ref (G.2.2 + x1)), (2, .ref (G.2.2 + x2)), (3, .ref (G.2.2 + x3)), (4, .ref (G.2.2 + x4))] 7 dL_law_1913 (by decide) rfl (by decide) rfl ?_
      refine pw_goto (pc := 1916) (tgt := 28) C dL_law_1916 rfl ?_
      refine pw_sub [3, 4, 5, 6, 7, 0] (LV2 := [(0, .ref b), (1, .ref (G.2.2 + x1)), (2, .ref (G.2.2 + x2)), (3, .ref (G.2.2 + x3)), (4, .ref (G.2.2 + x4)), (5, .int (x5 + 6))]) rfl ?_
      refine pw_widen (k2 := (kc + 22)) (n2 := (kn + 170)) (by omega) (by omega) ?_
      exact hK _ _ _ _ _ _ h
    · replace h := h.2 hc
      refine pw_aload_n (pc := 579) C 5 dL_law_579 rfl rfl ?_
      refine pw_iconst (pc := 580) (v := 0 ) C dL_law_580 (by decide) ?_
      obtain ⟨hk13, h⟩ := h
      obtain ⟨hi14, h⟩ := h
      refine pw_lald (pc := 581) C hk13 hi14 dL_law_581 ?_
      refine pw_iload (pc := 582) C 0 dL_law_582 rfl ?_
      refine pw_i2l (pc := 584) C dL_law_584 ?_
      refine pw_lcmp (pc := 585) C dL_law_585 ?_
      refine pw_if_eq (pc := 586) (tgt := 591) C dL_law_586 rfl ⟨fun hc => ?_, fun hc => ?_⟩
      · replace h := h.1 hc
        refine pw_goto (pc := 591) (tgt := 1913) C dL_law_591 rfl ?_
        refine pw_iincK (pc := 1913) (w := 6) C [(5, .int (x5 + 6)), (7, .int r8), (6, .int r3), (0, .ref b), (1, .ref (G.2.2 + x1)), (2, .ref (G.2.2 + x2)), (3, .ref (G.2.2 + x3)), (4, .ref (G.2.2 + x4))] 7 dL_law_1913 (by decide) rfl (by decide) rfl ?_
        refine pw_goto (pc := 1916) (tgt := 28) C dL_law_1916 rfl ?_
        refine pw_sub [3, 4, 5, 6, 7, 0] (LV2 := [(0, .ref b), (1, .ref (G.2.2 + x1)), (2, .ref (G.2.2 + x2)), (3, .ref (G.2.2 + x3)), (4, .ref (G.2.2 + x4)), (5, .int (x5 + 6))]) rfl ?_
        refine pw_widen (k2 := (kc + 22)) (n2 := (kn + 170)) (by omega) (by omega) ?_
        exact hK _ _ _ _ _ _ h
      · replace h := h.2 hc
        refine pw_iconst (pc := 589) (v := 0 ) C dL_law_589 (by decide) ?_
        exact h.elim
  · replace h := h.2 hc
    refine pw_iconst (pc := 572) (v := 0 ) C dL_law_572 (by decide) ?_
    exact h.elim
def wpL_law_b594 (xs : Nat → Int32) (L : Nat) (K : PS → Nat → Nat → Nat → Nat → Int32 → Prop) (S : PS) (x1 : Nat) (x2 : Nat) (x3 : Nat) (x4 : Nat) (x5 : Int32) : Prop := (vp_in (x5 + (1 : Int32)) L ∧ (vp_in (x5 + (2 : Int32)) L ∧ (wpL_fact S x1 (xs ((x5 + (1 : Int32))).toNatClampNeg) (xs ((x5 + (2 : Int32))).toNatClampNeg) x3 (fun r3 S4 => (vp_in (x5 + (1 : Int32)) L ∧ (vp_in (x5 + (2 : Int32)) L ∧ (pK S4 x2 = 11 ∧ (wpX12_fact S4 x2 (xs ((x5 + (1 : Int32))).toNatClampNeg) (xs ((x5 + (2 : Int32))).toNatClampNeg) (fun r8 S9 => (pK S9 x2 = 11 ∧ (wpX12_thrown S9 x2 (fun r11 S12 => ((r11 = r3 → ((¬ r3 = 0 → (K S12 x1 x2 x3 x4 (x5 + 6))) ∧ (r3 = 0 → (pK S12 x3 = 14 ∧ (vp_in (0 : Int32) (pL S12 x3) ∧ (((lg_cmp (pJ S12 x3 ((0 : Int32)).toNatClampNeg) (r8.toInt64)) = 0 → (K S12 x1 x2 x3 x4 (x5 + 6))) ∧ (¬ (lg_cmp (pJ S12 x3 ((0 : Int32)).toNatClampNeg) (r8.toInt64)) = 0 → False))))))) ∧ (¬ r11 = r3 → False))))))))))))))
set_option maxRecDepth 100000 in
set_option maxHeartbeats 8000000 in
theorem cbL_law_b594 {p : Program} {l : Launch} {e : Env} {s : State} {m : MethodId} {args : Array Value} {below : List Frame} {meth : Method} {c : Code} {Q : State → Prop} {G : PG} {b L : Nat} {xs : Nat → Int32} (C : pCx p s m args meth c G cL_law 9 RL TsLaw) (hZ : pZa G) (hl : l.stackTraces = false) (hX : va_X b L xs s s.heap) (hb : b < s.heap.size) (hbG : b < G.2.2) {kc kn : Nat} {K : PS → Nat → Nat → Nat → Nat → Int32 → Prop} (hK : ∀ (S : PS) (x1 : Nat) (x2 : Nat) (x3 : Nat) (x4 : Nat) (x5 : Int32), K S x1 x2 x3 x4 x5 → PW p l e room_1 s m args below meth c Q G 9 S (kc + 22) (kn + 170) [(0, .ref b), (1, .ref (G.2.2 + x1)), (2, .ref (G.2.2 + x2)), (3, .ref (G.2.2 + x3)), (4, .ref (G.2.2 + x4)), (5, .int x5)] 28 []) (hkc : kc + 22 ≤ 601024) (hkn : kn + 170 ≤ 7293034) : ∀ (S : PS) (x1 : Nat) (x2 : Nat) (x3 : Nat) (x4 : Nat) (x5 : Int32), wpL_law_b594 xs L K S x1 x2 x3 x4 x5 → PW p l e room_1 s m args below meth c Q G 9 S kc kn [(0, .ref b), (1, .ref (G.2.2 + x1)), (2, .ref (G.2.2 + x2)), (3, .ref (G.2.2 + x3)), (4, .ref (G.2.2 + x4)), (5, .int x5)] 594 [] := by
  intro S x1 x2 x3 x4 x5 h
  unfold wpL_law_b594 at h
  refine pw_aload_n (pc := 594) C 1 dL_law_594 rfl rfl ?_
  refine pw_aload_n (pc := 595) C 0 dL_law_595 rfl rfl ?_
  refine pw_iload (pc := 596) C 5 dL_law_596 rfl ?_
  refine pw_iconst (pc := 598) (v := 1 ) C dL_law_598 (by decide) ?_
  refine pw_iadd (pc := 599) C dL_law_599 ?_
  obtain ⟨hi1, h⟩ := h
  refine pw_sld (pc := 600) C hX hb hbG hi1 dL_law_600 ?_
  refine pw_aload_n (pc := 601) C 0 dL_law_601 rfl rfl ?_
  refine pw_iload (pc := 602) C 5 dL_law_602 rfl ?_
  refine pw_iconst (pc := 604) (v := 2 ) C dL_law_604 (by decide) ?_
  refine pw_iadd (pc := 605) C dL_law_605 ?_
  obtain ⟨hi2, h⟩ := h
  refine pw_sld (pc := 606) C hX hb hbG hi2 dL_law_606 ?_
  refine pw_aload_n (pc := 607) C 3 dL_law_607 rfl rfl ?_
  refine pw_calli (pc := 608) (kc2 := (kc + 1)) (kn2 := (kn + 6)) (pRunSW (pc := 608) C (ctL_fact l G hZ hl  _ x1 (xs ((x5 + (1 : Int32))).toNatClampNeg) (xs ((x5 + (2 : Int32))).toNatClampNeg) x3 _ h) (vx_cwSW 4 C.2.2.2.2.1 qgL_law_L_fact rfl rfl rfl (by decide +kernel) ⟨Nat.le_of_ble_eq_true rfl, Nat.le_of_ble_eq_true rfl⟩) rfl rfl (Nat.le_of_ble_eq_true rfl) dL_law_608 ⟨by show (kc + 0) + 1 ≤ 601024; omega, by show (kn + 0) + 6 ≤ 7293034; omega⟩) rfl rfl (fun r3 S4 h => ?_)
  refine pw_istore (pc := 611) C [(6, .int r3), (0, .ref b), (1, .ref (G.2.2 + x1)), (2, .ref (G.2.2 + x2)), (3, .ref (G.2.2 + x3)), (4, .ref (G.2.2 + x4)), (5, .int x5)] dL_law_611 (by decide) rfl ?_
  refine pw_aload_n (pc := 613) C 3 dL_law_613 rfl rfl ?_
  refine pw_aload_n (pc := 614) C 1 dL_law_614 rfl rfl ?_
  refine pw_iload (pc := 615) C 6 dL_law_615 rfl ?_
  refine pw_iconst (pc := 617) (v := 1 ) C dL_law_617 (by decide) ?_
  refine pw_iadd (pc := 618) C dL_law_618 ?_
  obtain ⟨hi5, h⟩ := h
  refine pw_sld (pc := 619) C hX hb hbG hi5 dL_law_619 ?_
  refine pw_aload_n (pc := 620) C 1 dL_law_620 rfl rfl ?_
  refine pw_iload (pc := 621) C 6 dL_law_621 rfl ?_
  refine pw_iconst (pc := 623) (v := 2 ) C dL_law_623 (by decide) ?_
  refine pw_iadd (pc := 624) C dL_law_624 ?_
  obtain ⟨hi6, h⟩ := h
  refine pw_sld (pc := 625) C hX hb hbG hi6 dL_law_625 ?_
  obtain ⟨hk7, h⟩ := h
  refine pw_calli (pc := 626) (kc2 := (kc + 1)) (kn2 := (kn + 6)) (pRunV (pc := 626) C (ctX12_fact l G  _ x2 (xs ((x5 + (1 : Int32))).toNatClampNeg) (xs ((x5 + (2 : Int32))).toNatClampNeg) _ h) (cwV 2 C.2.2.2.2.1 qgL_law_X12_fact rfl rfl rfl (by decide +kernel) ⟨Nat.le_of_ble_eq_true rfl, Nat.le_of_ble_eq_true rfl⟩) pCl10 hk7 rfl rfl (Nat.le_of_ble_eq_true rfl) dL_law_626 ⟨by show (kc + 1) + 0 ≤ 601024; omega, by show (kn + 6) + 0 ≤ 7293034; omega⟩) rfl rfl (fun r8 S9 h => ?_)
  refine pw_istore (pc := 629) C [(7, .int r8), (6, .int r3), (0, .ref b), (1, .ref (G.2.2 + x1)), (2, .ref (G.2.2 + x2)), (3, .ref (G.2.2 + x3)), (4, .ref (G.2.2 + x4)), (5, .int x5)] dL_law_629 (by decide) rfl ?_
  refine pw_aload_n (pc := 631) C 4 dL_law_631 rfl rfl ?_
  obtain ⟨hk10, h⟩ := h
  refine pw_calli (pc := 632) (kc2 := (kc + 1)) (kn2 := (kn + 6)) (pRunV (pc := 632) C (ctX12_thrown l G  _ x2 _ h) (cwV 0 C.2.2.2.2.1 qgL_law_X12_thrown rfl rfl rfl (by decide +kernel) ⟨Nat.le_of_ble_eq_true rfl, Nat.le_of_ble_eq_true rfl⟩) pCl10 hk10 rfl rfl (Nat.le_of_ble_eq_true rfl) dL_law_632 ⟨by show (kc + 1) + 0 ≤ 601024; omega, by show (kn + 6) + 0 ≤ 7293034; omega⟩) rfl rfl (fun r11 S12 h => ?_)
  refine pw_iload (pc := 635) C 1 dL_law_635 rfl ?_
  refine pw_icmp_eq (pc := 637) (tgt := 642) C dL_law_637 rfl ⟨fun hc => ?_, fun hc => ?_⟩
  · replace h := h.1 hc
    refine pw_iload (pc := 642) C 1 dL_law_642 rfl ?_
    refine pw_if_ne (pc := 644) (tgt := 659) C dL_law_644 rfl ⟨fun hc => ?_, fun hc => ?_⟩
    · replace h := h.1 hc
      refine pw_goto (pc := 659) (tgt := 1913) C dL_law_659 rfl ?_
      refine pw_iincK (pc := 1913) (w := 6) C [(5, .int (x5 + 6)), (7, .int r8), (6, .int r3), (0, .ref b), (1, .ref (G.2.2 + x1)), (2, .ref (G.2.2 + x2)), (3, .ref (G.2.2 + x3)), (4, .ref (G.2.2 + x4))] 7 dL_law_1913 (by decide) rfl (by decide) rfl ?_
      refine pw_goto (pc := 1916) (tgt := 28) C dL_law_1916 rfl ?_
      refine pw_sub [3, 4, 5, 6, 7, 0] (LV2 := [(0, .ref b), (1, .ref (G.2.2 + x1)), (2, .ref (G.2.2 + x2)), (3, .ref (G.2.2 + x3)), (4, .ref (G.2.2 + x4)), (5, .int (x5 + 6))]) rfl ?_
      refine pw_widen (k2 := (kc + 22)) (n2 := (kn + 170)) (by omega) (by omega) ?_
      exact hK _ _ _ _ _ _ h
    · replace h := h.2 hc
      refine pw_aload_n (pc := 647) C 5 dL_law_647 rfl rfl ?_
      refine pw_iconst (pc := 648) (v := 0 ) C dL_law_648 (by decide) ?_
      obtain ⟨hk13, h⟩ := h
      obtain ⟨hi14, h⟩ := h
      refine pw_lald (pc := 649) C hk13 hi14 dL_law_649 ?_
      refine pw_iload (pc := 650) C 0 dL_law_650 rfl ?_
      refine pw_i2l (pc := 652) C dL_law_652 ?_
      refine pw_lcmp (pc := 653) C dL_law_653 ?_
      refine pw_if_eq (pc := 654) (tgt := 659) C dL_law_654 rfl ⟨fun hc => ?_, fun hc => ?_⟩
      · replace h := h.1 hc
        refine pw_goto (pc := 659) (tgt := 1913) C dL_law_659 rfl ?_
        refine pw_iincK (pc := 1913) (w := 6) C [(5, .int (x5 + 6)), (7, .int r8), (6, .int r3), (0, .ref b), (1, .ref (G.2.2 + x1)), (2, .ref (G.2.2 + x2)), (3, .ref (G.2.2 + x3)), (4, .ref (G.2.2 + x4))] 7 dL_law_1913 (by decide) rfl (by decide) rfl ?_
        refine pw_goto (pc := 1916) (tgt := 28) C dL_law_1916 rfl ?_
        refine pw_sub [3, 4, 5, 6, 7, 0] (LV2 := [(0, .ref b), (1, .ref (G.2.2 + x1)), (2, .ref (G.2.2 + x2)), (3, .ref (G.2.2 + x3)), (4, .ref (G.2.2 + x4)), (5, .int (x5 + 6))]) rfl ?_
        refine pw_widen (k2 := (kc + 22)) (n2 := (kn + 170)) (by omega) (by omega) ?_
        exact hK _ _ _ _ _ _ h
      · replace h := h.2 hc
        refine pw_iconst (pc := 657) (v := 0 ) C dL_law_657 (by decide) ?_
        exact h.elim
  · replace h := h.2 hc
    refine pw_iconst (pc := 640) (v := 0 ) C dL_law_640 (by decide) ?_
    exact h.elim
def wpL_law_b662 (xs : Nat → Int32) (L : Nat) (K : PS → Nat → Nat → Nat → Nat → Int32 → Prop) (S : PS) (x1 : Nat) (x2 : Nat) (x3 : Nat) (x4 : Nat) (x5 : Int32) : Prop := (vp_in (x5 + (1 : Int32)) L ∧ (vp_in (x5 + (2 : Int32)) L ∧ (wpL_factOf S x1 (xs ((x5 + (1 : Int32))).toNatClampNeg) (xs ((x5 + (2 : Int32))).toNatClampNeg) x3 (fun r3 S4 => (vp_in (x5 + (1 : Int32)) L ∧ (vp_in (x5 + (2 : Int32)) L ∧ (pK S4 x2 = 11 ∧ (wpX12_factOf S4 x2 (xs ((x5 + (1 : Int32))).toNatClampNeg) (xs ((x5 + (2 : Int32))).toNatClampNeg) (fun r8 S9 => (pK S9 x2 = 11 ∧ (wpX12_thrown S9 x2 (fun r11 S12 => ((r11 = r3 → ((¬ r3 = 0 → (K S12 x1 x2 x3 x4 (x5 + 6))) ∧ (r3 = 0 → (pK S12 x3 = 14 ∧ (vp_in (0 : Int32) (pL S12 x3) ∧ (((lg_cmp (pJ S12 x3 ((0 : Int32)).toNatClampNeg) (r8.toInt64)) = 0 → (K S12 x1 x2 x3 x4 (x5 + 6))) ∧ (¬ (lg_cmp (pJ S12 x3 ((0 : Int32)).toNatClampNeg) (r8.toInt64)) = 0 → False))))))) ∧ (¬ r11 = r3 → False))))))))))))))
set_option maxRecDepth 100000 in
set_option maxHeartbeats 8000000 in
theorem cbL_law_b662 {p : Program} {l : Launch} {e : Env} {s : State} {m : MethodId} {args : Array Value} {below : List Frame} {meth : Method} {c : Code} {Q : State → Prop} {G : PG} {b L : Nat} {xs : Nat → Int32} (C : pCx p s m args meth c G cL_law 9 RL TsLaw) (hZ : pZa G) (hl : l.stackTraces = false) (hX : va_X b L xs s s.heap) (hb : b < s.heap.size) (hbG : b < G.2.2) {kc kn : Nat} {K : PS → Nat → Nat → Nat → Nat → Int32 → Prop} (hK : ∀ (S : PS) (x1 : Nat) (x2 : Nat) (x3 : Nat) (x4 : Nat) (x5 : Int32), K S x1 x2 x3 x4 x5 → PW p l e room_1 s m args below meth c Q G 9 S (kc + 22) (kn + 170) [(0, .ref b), (1, .ref (G.2.2 + x1)), (2, .ref (G.2.2 + x2)), (3, .ref (G.2.2 + x3)), (4, .ref (G.2.2 + x4)), (5, .int x5)] 28 []) (hkc : kc + 22 ≤ 601024) (hkn : kn + 170 ≤ 7293034) : ∀ (S : PS) (x1 : Nat) (x2 : Nat) (x3 : Nat) (x4 : Nat) (x5 : Int32), wpL_law_b662 xs L K S x1 x2 x3 x4 x5 → PW p l e room_1 s m args below meth c Q G 9 S kc kn [(0, .ref b), (1, .ref (G.2.2 + x1)), (2, .ref (G.2.2 + x2)), (3, .ref (G.2.2 + x3)), (4, .ref (G.2.2 + x4)), (5, .int x5)] 662 [] := by
  intro S x1 x2 x3 x4 x5 h
  unfold wpL_law_b662 at h
  refine pw_aload_n (pc := 662) C 1 dL_law_662 rfl rfl ?_
  refine pw_aload_n (pc := 663) C 0 dL_law_663 rfl rfl ?_
  refine pw_iload (pc := 664) C 5 dL_law_664 rfl ?_
  refine pw_iconst (pc := 666) (v := 1 ) C dL_law_666 (by decide) ?_
  refine pw_iadd (pc := 667) C dL_law_667 ?_
  obtain ⟨hi1, h⟩ := h
  refine pw_sld (pc := 668) C hX hb hbG hi1 dL_law_668 ?_
  refine pw_aload_n (pc := 669) C 0 dL_law_669 rfl rfl ?_
  refine pw_iload (pc := 670) C 5 dL_law_670 rfl ?_
  refine pw_iconst (pc := 672) (v := 2 ) C dL_law_672 (by decide) ?_
  refine pw_iadd (pc := 673) C dL_law_673 ?_
  obtain ⟨hi2, h⟩ := h
  refine pw_sld (pc := 674) C hX hb hbG hi2 dL_law_674 ?_
  refine pw_aload_n (pc := 675) C 3 dL_law_675 rfl rfl ?_
  refine pw_calli (pc := 676) (kc2 := (kc + 1)) (kn2 := (kn + 6)) (pRunSW (pc := 676) C (ctL_factOf l G hZ hl  _ x1 (xs ((x5 + (1 : Int32))).toNatClampNeg) (xs ((x5 + (2 : Int32))).toNatClampNeg) x3 _ h) (vx_cwSW 4 C.2.2.2.2.1 qgL_law_L_factOf rfl rfl rfl (by decide +kernel) ⟨Nat.le_of_ble_eq_true rfl, Nat.le_of_ble_eq_true rfl⟩) rfl rfl (Nat.le_of_ble_eq_true rfl) dL_law_676 ⟨by show (kc + 0) + 1 ≤ 601024; omega, by show (kn + 0) + 6 ≤ 7293034; omega⟩) rfl rfl (fun r3 S4 h => ?_)
  refine pw_istore (pc := 679) C [(6, .int r3), (0, .ref b), (1, .ref (G.2.2 + x1)), (2, .ref (G.2.2 + x2)), (3, .ref (G.2.2 + x3)), (4, .ref (G.2.2 + x4)), (5, .int x5)] dL_law_679 (by decide) rfl ?_
  refine pw_aload_n (pc := 681) C 3 dL_law_681 rfl rfl ?_
  refine pw_aload_n (pc := 682) C 1 dL_law_682 rfl rfl ?_
  refine pw_iload (pc := 683) C 6 dL_law_683 rfl ?_
  refine pw_iconst (pc := 685) (v := 1 ) C dL_law_685 (by decide) ?_
  refine pw_iadd (pc := 686) C dL_law_686 ?_
  obtain ⟨hi5, h⟩ := h
  refine pw_sld (pc := 687) C hX hb hbG hi5 dL_law_687 ?_
  refine pw_aload_n (pc := 688) C 1 dL_law_688 rfl rfl ?_
  refine pw_iload (pc := 689) C 6 dL_law_689 rfl ?_
  refine pw_iconst (pc := 691) (v := 2 ) C dL_law_691 (by decide) ?_
  refine pw_iadd (pc := 692) C dL_law_692 ?_
  obtain ⟨hi6, h⟩ := h
  refine pw_sld (pc := 693) C hX hb hbG hi6 dL_law_693 ?_
  obtain ⟨hk7, h⟩ := h
  refine pw_calli (pc := 694) (kc2 := (kc + 1)) (kn2 := (kn + 6)) (pRunV (pc := 694) C (ctX12_factOf l G  _ x2 (xs ((x5 + (1 : Int32))).toNatClampNeg) (xs ((x5 + (2 : Int32))).toNatClampNeg) _ h) (cwV 2 C.2.2.2.2.1 qgL_law_X12_factOf rfl rfl rfl (by decide +kernel) ⟨Nat.le_of_ble_eq_true rfl, Nat.le_of_ble_eq_true rfl⟩) pCl10 hk7 rfl rfl (Nat.le_of_ble_eq_true rfl) dL_law_694 ⟨by show (kc + 1) + 0 ≤ 601024; omega, by show (kn + 6) + 0 ≤ 7293034; omega⟩) rfl rfl (fun r8 S9 h => ?_)
  refine pw_istore (pc := 697) C [(7, .int r8), (6, .int r3), (0, .ref b), (1, .ref (G.2.2 + x1)), (2, .ref (G.2.2 + x2)), (3, .ref (G.2.2 + x3)), (4, .ref (G.2.2 + x4)), (5, .int x5)] dL_law_697 (by decide) rfl ?_
  refine pw_aload_n (pc := 699) C 4 dL_law_699 rfl rfl ?_
  obtain ⟨hk10, h⟩ := h
  refine pw_calli (pc := 700) (kc2 := (kc + 1)) (kn2 := (kn + 6)) (pRunV (pc := 700) C (ctX12_thrown l G  _ x2 _ h) (cwV 0 C.2.2.2.2.1 qgL_law_X12_thrown rfl rfl rfl (by decide +kernel) ⟨Nat.le_of_ble_eq_true rfl, Nat.le_of_ble_eq_true rfl⟩) pCl10 hk10 rfl rfl (Nat.le_of_ble_eq_true rfl) dL_law_700 ⟨by show (kc + 1) + 0 ≤ 601024; omega, by show (kn + 6) + 0 ≤ 7293034; omega⟩) rfl rfl (fun r11 S12 h => ?_)
  refine pw_iload (pc := 703) C 1 dL_law_703 rfl ?_
  refine pw_icmp_eq (pc := 705) (tgt := 710) C dL_law_705 rfl ⟨fun hc => ?_, fun hc => ?_⟩
  · replace h := h.1 hc
    refine pw_iload (pc := 710) C 1 dL_law_710 rfl ?_
    refine pw_if_ne (pc := 712) (tgt := 727) C dL_law_712 rfl ⟨fun hc => ?_, fun hc => ?_⟩
    · replace h := h.1 hc
      refine pw_goto (pc := 727) (tgt := 1913) C dL_law_727 rfl ?_
      refine pw_iincK (pc := 1913) (w := 6) C [(5, .int (x5 + 6)), (7, .int r8), (6, .int r3), (0, .ref b), (1, .ref (G.2.2 + x1)), (2, .ref (G.2.2 + x2)), (3, .ref (G.2.2 + x3)), (4, .ref (G.2.2 + x4))] 7 dL_law_1913 (by decide) rfl (by decide) rfl ?_
      refine pw_goto (pc := 1916) (tgt := 28) C dL_law_1916 rfl ?_
      refine pw_sub [3, 4, 5, 6, 7, 0] (LV2 := [(0, .ref b), (1, .ref (G.2.2 + x1)), (2, .ref (G.2.2 + x2)), (3, .ref (G.2.2 + x3)), (4, .ref (G.2.2 + x4)), (5, .int (x5 + 6))]) rfl ?_
      refine pw_widen (k2 := (kc + 22)) (n2 := (kn + 170)) (by omega) (by omega) ?_
      exact hK _ _ _ _ _ _ h
    · replace h := h.2 hc
      refine pw_aload_n (pc := 715) C 5 dL_law_715 rfl rfl ?_
      refine pw_iconst (pc := 716) (v := 0 ) C dL_law_716 (by decide) ?_
      obtain ⟨hk13, h⟩ := h
      obtain ⟨hi14, h⟩ := h
      refine pw_lald (pc := 717) C hk13 hi14 dL_law_717 ?_
      refine pw_iload (pc := 718) C 0 dL_law_718 rfl ?_
      refine pw_i2l (pc := 720) C dL_law_720 ?_
      refine pw_lcmp (pc := 721) C dL_law_721 ?_
      refine pw_if_eq (pc := 722) (tgt := 727) C dL_law_722 rfl ⟨fun hc => ?_, fun hc => ?_⟩
      · replace h := h.1 hc
        refine pw_goto (pc := 727) (tgt := 1913) C dL_law_727 rfl ?_
        refine pw_iincK (pc := 1913) (w := 6) C [(5, .int (x5 + 6)), (7, .int r8), (6, .int r3), (0, .ref b), (1, .ref (G.2.2 + x1)), (2, .ref (G.2.2 + x2)), (3, .ref (G.2.2 + x3)), (4, .ref (G.2.2 + x4))] 7 dL_law_1913 (by decide) rfl (by decide) rfl ?_
        refine pw_goto (pc := 1916) (tgt := 28) C dL_law_1916 rfl ?_
        refine pw_sub [3, 4, 5, 6, 7, 0] (LV2 := [(0, .ref b), (1, .ref (G.2.2 + x1)), (2, .ref (G.2.2 + x2)), (3, .ref (G.2.2 + x3)), (4, .ref (G.2.2 + x4)), (5, .int (x5 + 6))]) rfl ?_
        refine pw_widen (k2 := (kc + 22)) (n2 := (kn + 170)) (by omega) (by omega) ?_
        exact hK _ _ _ _ _ _ h
      · replace h := h.2 hc
        refine pw_iconst (pc := 725) (v := 0 ) C dL_law_725 (by decide) ?_
        exact h.elim
  · replace h := h.2 hc
    refine pw_iconst (pc := 708) (v := 0 ) C dL_law_708 (by decide) ?_
    exact h.elim
def wpL_law_b730 (xs : Nat → Int32) (L : Nat) (K : PS → Nat → Nat → Nat → Nat → Int32 → Prop) (S : PS) (x1 : Nat) (x2 : Nat) (x3 : Nat) (x4 : Nat) (x5 : Int32) : Prop := (vp_in (x5 + (1 : Int32)) L ∧ (wpL_explanationSize S x1 (xs ((x5 + (1 : Int32))).toNatClampNeg) x3 (fun r2 S3 => (vp_in (x5 + (1 : Int32)) L ∧ (pK S3 x2 = 11 ∧ (wpX12_explanationSize S3 x2 (xs ((x5 + (1 : Int32))).toNatClampNeg) (fun r6 S7 => (pK S7 x2 = 11 ∧ (wpX12_thrown S7 x2 (fun r9 S10 => ((r9 = r2 → ((¬ r2 = 0 → (K S10 x1 x2 x3 x4 (x5 + 6))) ∧ (r2 = 0 → (pK S10 x3 = 14 ∧ (vp_in (0 : Int32) (pL S10 x3) ∧ (((lg_cmp (pJ S10 x3 ((0 : Int32)).toNatClampNeg) (r6.toInt64)) = 0 → (K S10 x1 x2 x3 x4 (x5 + 6))) ∧ (¬ (lg_cmp (pJ S10 x3 ((0 : Int32)).toNatClampNeg) (r6.toInt64)) = 0 → False))))))) ∧ (¬ r9 = r2 → False))))))))))))
set_option maxRecDepth 100000 in
set_option maxHeartbeats 8000000 in
theorem cbL_law_b730 {p : Program} {l : Launch} {e : Env} {s : State} {m : MethodId} {args : Array Value} {below : List Frame} {meth : Method} {c : Code} {Q : State → Prop} {G : PG} {b L : Nat} {xs : Nat → Int32} (C : pCx p s m args meth c G cL_law 9 RL TsLaw) (hZ : pZa G) (hl : l.stackTraces = false) (hX : va_X b L xs s s.heap) (hb : b < s.heap.size) (hbG : b < G.2.2) {kc kn : Nat} {K : PS → Nat → Nat → Nat → Nat → Int32 → Prop} (hK : ∀ (S : PS) (x1 : Nat) (x2 : Nat) (x3 : Nat) (x4 : Nat) (x5 : Int32), K S x1 x2 x3 x4 x5 → PW p l e room_1 s m args below meth c Q G 9 S (kc + 22) (kn + 170) [(0, .ref b), (1, .ref (G.2.2 + x1)), (2, .ref (G.2.2 + x2)), (3, .ref (G.2.2 + x3)), (4, .ref (G.2.2 + x4)), (5, .int x5)] 28 []) (hkc : kc + 22 ≤ 601024) (hkn : kn + 170 ≤ 7293034) : ∀ (S : PS) (x1 : Nat) (x2 : Nat) (x3 : Nat) (x4 : Nat) (x5 : Int32), wpL_law_b730 xs L K S x1 x2 x3 x4 x5 → PW p l e room_1 s m args below meth c Q G 9 S kc kn [(0, .ref b), (1, .ref (G.2.2 + x1)), (2, .ref (G.2.2 + x2)), (3, .ref (G.2.2 + x3)), (4, .ref (G.2.2 + x4)), (5, .int x5)] 730 [] := by
  intro S x1 x2 x3 x4 x5 h
  unfold wpL_law_b730 at h
  refine pw_aload_n (pc := 730) C 1 dL_law_730 rfl rfl ?_
  refine pw_aload_n (pc := 731) C 0 dL_law_731 rfl rfl ?_
  refine pw_iload (pc := 732) C 5 dL_law_732 rfl ?_
  refine pw_iconst (pc := 734) (v := 1 ) C dL_law_734 (by decide) ?_
  refine pw_iadd (pc := 735) C dL_law_735 ?_
  obtain ⟨hi1, h⟩ := h
  refine pw_sld (pc := 736) C hX hb hbG hi1 dL_law_736 ?_
  refine pw_aload_n (pc := 737) C 3 dL_law_737 rfl rfl ?_
  refine pw_calli (pc := 738) (kc2 := (kc + 1)) (kn2 := (kn + 6)) (pRunSW (pc := 738) C (ctL_explanationSize l G hZ hl  _ x1 (xs ((x5 + (1 : Int32))).toNatClampNeg) x3 _ h) (vx_cwSW 3 C.2.2.2.2.1 qgL_law_L_explanationSize rfl rfl rfl (by decide +kernel) ⟨Nat.le_of_ble_eq_true rfl, Nat.le_of_ble_eq_true rfl⟩) rfl rfl (Nat.le_of_ble_eq_true rfl) dL_law_738 ⟨by show (kc + 0) + 1 ≤ 601024; omega, by show (kn + 0) + 6 ≤ 7293034; omega⟩) rfl rfl (fun r2 S3 h => ?_)
  refine pw_istore (pc := 741) C [(6, .int r2), (0, .ref b), (1, .ref (G.2.2 + x1)), (2, .ref (G.2.2 + x2)), (3, .ref (G.2.2 + x3)), (4, .ref (G.2.2 + x4)), (5, .int x5)] dL_law_741 (by decide) rfl ?_
  refine pw_aload_n (pc := 743) C 3 dL_law_743 rfl rfl ?_
  refine pw_aload_n (pc := 744) C 1 dL_law_744 rfl rfl ?_
  refine pw_iload (pc := 745) C 6 dL_law_745 rfl ?_
  refine pw_iconst (pc := 747) (v := 1 ) C dL_law_747 (by decide) ?_
  refine pw_iadd (pc := 748) C dL_law_748 ?_
  obtain ⟨hi4, h⟩ := h
  refine pw_sld (pc := 749) C hX hb hbG hi4 dL_law_749 ?_
  obtain ⟨hk5, h⟩ := h
  refine pw_calli (pc := 750) (kc2 := (kc + 1)) (kn2 := (kn + 6)) (pRunV (pc := 750) C (ctX12_explanationSize l G  _ x2 (xs ((x5 + (1 : Int32))).toNatClampNeg) _ h) (cwV 1 C.2.2.2.2.1 qgL_law_X12_explanationSize rfl rfl rfl (by decide +kernel) ⟨Nat.le_of_ble_eq_true rfl, Nat.le_of_ble_eq_true rfl⟩) pCl10 hk5 rfl rfl (Nat.le_of_ble_eq_true rfl) dL_law_750 ⟨by show (kc + 1) + 0 ≤ 601024; omega, by show (kn + 6) + 0 ≤ 7293034; omega⟩) rfl rfl (fun r6 S7 h => ?_)
  refine pw_istore (pc := 753) C [(7, .int r6), (6, .int r2), (0, .ref b), (1, .ref (G.2.2 + x1)), (2, .ref (G.2.2 + x2)), (3, .ref (G.2.2 + x3)), (4, .ref (G.2.2 + x4)), (5, .int x5)] dL_law_753 (by decide) rfl ?_
  refine pw_aload_n (pc := 755) C 4 dL_law_755 rfl rfl ?_
  obtain ⟨hk8, h⟩ := h
  refine pw_calli (pc := 756) (kc2 := (kc + 1)) (kn2 := (kn + 6)) (pRunV (pc := 756) C (ctX12_thrown l G  _ x2 _ h) (cwV 0 C.2.2.2.2.1 qgL_law_X12_thrown rfl rfl rfl (by decide +kernel) ⟨Nat.le_of_ble_eq_true rfl, Nat.le_of_ble_eq_true rfl⟩) pCl10 hk8 rfl rfl (Nat.le_of_ble_eq_true rfl) dL_law_756 ⟨by show (kc + 1) + 0 ≤ 601024; omega, by show (kn + 6) + 0 ≤ 7293034; omega⟩) rfl rfl (fun r9 S10 h => ?_)
  refine pw_iload (pc := 759) C 1 dL_law_759 rfl ?_
  refine pw_icmp_eq (pc := 761) (tgt := 766) C dL_law_761 rfl ⟨fun hc => ?_, fun hc => ?_⟩
  · replace h := h.1 hc
    refine pw_iload (pc := 766) C 1 dL_law_766 rfl ?_
    refine pw_if_ne (pc := 768) (tgt := 783) C dL_law_768 rfl ⟨fun hc => ?_, fun hc => ?_⟩
    · replace h := h.1 hc
      refine pw_goto (pc := 783) (tgt := 1913) C dL_law_783 rfl ?_
      refine pw_iincK (pc := 1913) (w := 6) C [(5, .int (x5 + 6)), (7, .int r6), (6, .int r2), (0, .ref b), (1, .ref (G.2.2 + x1)), (2, .ref (G.2.2 + x2)), (3, .ref (G.2.2 + x3)), (4, .ref (G.2.2 + x4))] 7 dL_law_1913 (by decide) rfl (by decide) rfl ?_
      refine pw_goto (pc := 1916) (tgt := 28) C dL_law_1916 rfl ?_
      refine pw_sub [3, 4, 5, 6, 7, 0] (LV2 := [(0, .ref b), (1, .ref (G.2.2 + x1)), (2, .ref (G.2.2 + x2)), (3, .ref (G.2.2 + x3)), (4, .ref (G.2.2 + x4)), (5, .int (x5 + 6))]) rfl ?_
      refine pw_widen (k2 := (kc + 22)) (n2 := (kn + 170)) (by omega) (by omega) ?_
      exact hK _ _ _ _ _ _ h
    · replace h := h.2 hc
      refine pw_aload_n (pc := 771) C 5 dL_law_771 rfl rfl ?_
      refine pw_iconst (pc := 772) (v := 0 ) C dL_law_772 (by decide) ?_
      obtain ⟨hk11, h⟩ := h
      obtain ⟨hi12, h⟩ := h
      refine pw_lald (pc := 773) C hk11 hi12 dL_law_773 ?_
      refine pw_iload (pc := 774) C 0 dL_law_774 rfl ?_
      refine pw_i2l (pc := 776) C dL_law_776 ?_
      refine pw_lcmp (pc := 777) C dL_law_777 ?_
      refine pw_if_eq (pc := 778) (tgt := 783) C dL_law_778 rfl ⟨fun hc => ?_, fun hc => ?_⟩
      · replace h := h.1 hc
        refine pw_goto (pc := 783) (tgt := 1913) C dL_law_783 rfl ?_
        refine pw_iincK (pc := 1913) (w := 6) C [(5, .int (x5 + 6)), (7, .int r6), (6, .int r2), (0, .ref b), (1, .ref (G.2.2 + x1)), (2, .ref (G.2.2 + x2)), (3, .ref (G.2.2 + x3)), (4, .ref (G.2.2 + x4))] 7 dL_law_1913 (by decide) rfl (by decide) rfl ?_
        refine pw_goto (pc := 1916) (tgt := 28) C dL_law_1916 rfl ?_
        refine pw_sub [3, 4, 5, 6, 7, 0] (LV2 := [(0, .ref b), (1, .ref (G.2.2 + x1)), (2, .ref (G.2.2 + x2)), (3, .ref (G.2.2 + x3)), (4, .ref (G.2.2 + x4)), (5, .int (x5 + 6))]) rfl ?_
        refine pw_widen (k2 := (kc + 22)) (n2 := (kn + 170)) (by omega) (by omega) ?_
        exact hK _ _ _ _ _ _ h
      · replace h := h.2 hc
        refine pw_iconst (pc := 781) (v := 0 ) C dL_law_781 (by decide) ?_
        exact h.elim
  · replace h := h.2 hc
    refine pw_iconst (pc := 764) (v := 0 ) C dL_law_764 (by decide) ?_
    exact h.elim
def wpL_law_b786 (xs : Nat → Int32) (L : Nat) (K : PS → Nat → Nat → Nat → Nat → Int32 → Prop) (S : PS) (x1 : Nat) (x2 : Nat) (x3 : Nat) (x4 : Nat) (x5 : Int32) : Prop := (vp_in (x5 + (1 : Int32)) L ∧ (vp_in (x5 + (2 : Int32)) L ∧ (wpL_explained S x1 (xs ((x5 + (1 : Int32))).toNatClampNeg) (xs ((x5 + (2 : Int32))).toNatClampNeg) x3 (fun r3 S4 => (vp_in (x5 + (1 : Int32)) L ∧ (vp_in (x5 + (2 : Int32)) L ∧ (pK S4 x2 = 11 ∧ (wpX12_explained S4 x2 (xs ((x5 + (1 : Int32))).toNatClampNeg) (xs ((x5 + (2 : Int32))).toNatClampNeg) (fun r8 S9 => (pK S9 x2 = 11 ∧ (wpX12_thrown S9 x2 (fun r11 S12 => ((r11 = r3 → ((¬ r3 = 0 → (K S12 x1 x2 x3 x4 (x5 + 6))) ∧ (r3 = 0 → (pK S12 x3 = 14 ∧ (vp_in (0 : Int32) (pL S12 x3) ∧ (((lg_cmp (pJ S12 x3 ((0 : Int32)).toNatClampNeg) (r8.toInt64)) = 0 → (K S12 x1 x2 x3 x4 (x5 + 6))) ∧ (¬ (lg_cmp (pJ S12 x3 ((0 : Int32)).toNatClampNeg) (r8.toInt64)) = 0 → False))))))) ∧ (¬ r11 = r3 → False))))))))))))))
set_option maxRecDepth 100000 in
set_option maxHeartbeats 8000000 in
theorem cbL_law_b786 {p : Program} {l : Launch} {e : Env} {s : State} {m : MethodId} {args : Array Value} {below : List Frame} {meth : Method} {c : Code} {Q : State → Prop} {G : PG} {b L : Nat} {xs : Nat → Int32} (C : pCx p s m args meth c G cL_law 9 RL TsLaw) (hZ : pZa G) (hl : l.stackTraces = false) (hX : va_X b L xs s s.heap) (hb : b < s.heap.size) (hbG : b < G.2.2) {kc kn : Nat} {K : PS → Nat → Nat → Nat → Nat → Int32 → Prop} (hK : ∀ (S : PS) (x1 : Nat) (x2 : Nat) (x3 : Nat) (x4 : Nat) (x5 : Int32), K S x1 x2 x3 x4 x5 → PW p l e room_1 s m args below meth c Q G 9 S (kc + 22) (kn + 170) [(0, .ref b), (1, .ref (G.2.2 + x1)), (2, .ref (G.2.2 + x2)), (3, .ref (G.2.2 + x3)), (4, .ref (G.2.2 + x4)), (5, .int x5)] 28 []) (hkc : kc + 22 ≤ 601024) (hkn : kn + 170 ≤ 7293034) : ∀ (S : PS) (x1 : Nat) (x2 : Nat) (x3 : Nat) (x4 : Nat) (x5 : Int32), wpL_law_b786 xs L K S x1 x2 x3 x4 x5 → PW p l e room_1 s m args below meth c Q G 9 S kc kn [(0, .ref b), (1, .ref (G.2.2 + x1)), (2, .ref (G.2.2 + x2)), (3, .ref (G.2.2 + x3)), (4, .ref (G.2.2 + x4)), (5, .int x5)] 786 [] := by
  intro S x1 x2 x3 x4 x5 h
  unfold wpL_law_b786 at h
  refine pw_aload_n (pc := 786) C 1 dL_law_786 rfl rfl ?_
  refine pw_aload_n (pc := 787) C 0 dL_law_787 rfl rfl ?_
  refine pw_iload (pc := 788) C 5 dL_law_788 rfl ?_
  refine pw_iconst (pc := 790) (v := 1 ) C dL_law_790 (by decide) ?_
  refine pw_iadd (pc := 791) C dL_law_791 ?_
  obtain ⟨hi1, h⟩ := h
  refine pw_sld (pc := 792) C hX hb hbG hi1 dL_law_792 ?_
  refine pw_aload_n (pc := 793) C 0 dL_law_793 rfl rfl ?_
  refine pw_iload (pc := 794) C 5 dL_law_794 rfl ?_
  refine pw_iconst (pc := 796) (v := 2 ) C dL_law_796 (by decide) ?_
  refine pw_iadd (pc := 797) C dL_law_797 ?_
  obtain ⟨hi2, h⟩ := h
  refine pw_sld (pc := 798) C hX hb hbG hi2 dL_law_798 ?_
  refine pw_aload_n (pc := 799) C 3 dL_law_799 rfl rfl ?_
  refine pw_calli (pc := 800) (kc2 := (kc + 1)) (kn2 := (kn + 6)) (pRunSW (pc := 800) C (ctL_explained l G hZ hl  _ x1 (xs ((x5 + (1 : Int32))).toNatClampNeg) (xs ((x5 + (2 : Int32))).toNatClampNeg) x3 _ h) (vx_cwSW 4 C.2.2.2.2.1 qgL_law_L_explained rfl rfl rfl (by decide +kernel) ⟨Nat.le_of_ble_eq_true rfl, Nat.le_of_ble_eq_true rfl⟩) rfl rfl (Nat.le_of_ble_eq_true rfl) dL_law_800 ⟨by show (kc + 0) + 1 ≤ 601024; omega, by show (kn + 0) + 6 ≤ 7293034; omega⟩) rfl rfl (fun r3 S4 h => ?_)
  refine pw_istore (pc := 803) C [(6, .int r3), (0, .ref b), (1, .ref (G.2.2 + x1)), (2, .ref (G.2.2 + x2)), (3, .ref (G.2.2 + x3)), (4, .ref (G.2.2 + x4)), (5, .int x5)] dL_law_803 (by decide) rfl ?_
  refine pw_aload_n (pc := 805) C 3 dL_law_805 rfl rfl ?_
  refine pw_aload_n (pc := 806) C 1 dL_law_806 rfl rfl ?_
  refine pw_iload (pc := 807) C 6 dL_law_807 rfl ?_
  refine pw_iconst (pc := 809) (v := 1 ) C dL_law_809 (by decide) ?_
  refine pw_iadd (pc := 810) C dL_law_810 ?_
  obtain ⟨hi5, h⟩ := h
  refine pw_sld (pc := 811) C hX hb hbG hi5 dL_law_811 ?_
  refine pw_aload_n (pc := 812) C 1 dL_law_812 rfl rfl ?_
  refine pw_iload (pc := 813) C 6 dL_law_813 rfl ?_
  refine pw_iconst (pc := 815) (v := 2 ) C dL_law_815 (by decide) ?_
  refine pw_iadd (pc := 816) C dL_law_816 ?_
  obtain ⟨hi6, h⟩ := h
  refine pw_sld (pc := 817) C hX hb hbG hi6 dL_law_817 ?_
  obtain ⟨hk7, h⟩ := h
  refine pw_calli (pc := 818) (kc2 := (kc + 1)) (kn2 := (kn + 6)) (pRunV (pc := 818) C (ctX12_explained l G  _ x2 (xs ((x5 + (1 : Int32))).toNatClampNeg) (xs ((x5 + (2 : Int32))).toNatClampNeg) _ h) (cwV 2 C.2.2.2.2.1 qgL_law_X12_explained rfl rfl rfl (by decide +kernel) ⟨Nat.le_of_ble_eq_true rfl, Nat.le_of_ble_eq_true rfl⟩) pCl10 hk7 rfl rfl (Nat.le_of_ble_eq_true rfl) dL_law_818 ⟨by show (kc + 1) + 0 ≤ 601024; omega, by show (kn + 6) + 0 ≤ 7293034; omega⟩) rfl rfl (fun r8 S9 h => ?_)
  refine pw_istore (pc := 821) C [(7, .int r8), (6, .int r3), (0, .ref b), (1, .ref (G.2.2 + x1)), (2, .ref (G.2.2 + x2)), (3, .ref (G.2.2 + x3)), (4, .ref (G.2.2 + x4)), (5, .int x5)] dL_law_821 (by decide) rfl ?_
  refine pw_aload_n (pc := 823) C 4 dL_law_823 rfl rfl ?_
  obtain ⟨hk10, h⟩ := h
  refine pw_calli (pc := 824) (kc2 := (kc + 1)) (kn2 := (kn + 6)) (pRunV (pc := 824) C (ctX12_thrown l G  _ x2 _ h) (cwV 0 C.2.2.2.2.1 qgL_law_X12_thrown rfl rfl rfl (by decide +kernel) ⟨Nat.le_of_ble_eq_true rfl, Nat.le_of_ble_eq_true rfl⟩) pCl10 hk10 rfl rfl (Nat.le_of_ble_eq_true rfl) dL_law_824 ⟨by show (kc + 1) + 0 ≤ 601024; omega, by show (kn + 6) + 0 ≤ 7293034; omega⟩) rfl rfl (fun r11 S12 h => ?_)
  refine pw_iload (pc := 827) C 1 dL_law_827 rfl ?_
  refine pw_icmp_eq (pc := 829) (tgt := 834) C dL_law_829 rfl ⟨fun hc => ?_, fun hc => ?_⟩
  · replace h := h.1 hc
    refine pw_iload (pc := 834) C 1 dL_law_834 rfl ?_
    refine pw_if_ne (pc := 836) (tgt := 851) C dL_law_836 rfl ⟨fun hc => ?_, fun hc => ?_⟩
    · replace h := h.1 hc
      refine pw_goto (pc := 851) (tgt := 1913) C dL_law_851 rfl ?_
      refine pw_iincK (pc := 1913) (w := 6) C [(5, .int (x5 + 6)), (7, .int r8), (6, .int r3), (0, .ref b), (1, .ref (G.2.2 + x1)), (2, .ref (G.2.2 + x2)), (3, .ref (G.2.2 + x3)), (4, .ref (G.2.2 + x4))] 7 dL_law_1913 (by decide) rfl (by decide) rfl ?_
      refine pw_goto (pc := 1916) (tgt := 28) C dL_law_1916 rfl ?_
      refine pw_sub [3, 4, 5, 6, 7, 0] (LV2 := [(0, .ref b), (1, .ref (G.2.2 + x1)), (2, .ref (G.2.2 + x2)), (3, .ref (G.2.2 + x3)), (4, .ref (G.2.2 + x4)), (5, .int (x5 + 6))]) rfl ?_
      refine pw_widen (k2 := (kc + 22)) (n2 := (kn + 170)) (by omega) (by omega) ?_
      exact hK _ _ _ _ _ _ h
    · replace h := h.2 hc
      refine pw_aload_n (pc := 839) C 5 dL_law_839 rfl rfl ?_
      refine pw_iconst (pc := 840) (v := 0 ) C dL_law_840 (by decide) ?_
      obtain ⟨hk13, h⟩ := h
      obtain ⟨hi14, h⟩ := h
      refine pw_lald (pc := 841) C hk13 hi14 dL_law_841 ?_
      refine pw_iload (pc := 842) C 0 dL_law_842 rfl ?_
      refine pw_i2l (pc := 844) C dL_law_844 ?_
      refine pw_lcmp (pc := 845) C dL_law_845 ?_
      refine pw_if_eq (pc := 846) (tgt := 851) C dL_law_846 rfl ⟨fun hc => ?_, fun hc => ?_⟩
      · replace h := h.1 hc
        refine pw_goto (pc := 851) (tgt := 1913) C dL_law_851 rfl ?_
        refine pw_iincK (pc := 1913) (w := 6) C [(5, .int (x5 + 6)), (7, .int r8), (6, .int r3), (0, .ref b), (1, .ref (G.2.2 + x1)), (2, .ref (G.2.2 + x2)), (3, .ref (G.2.2 + x3)), (4, .ref (G.2.2 + x4))] 7 dL_law_1913 (by decide) rfl (by decide) rfl ?_
        refine pw_goto (pc := 1916) (tgt := 28) C dL_law_1916 rfl ?_
        refine pw_sub [3, 4, 5, 6, 7, 0] (LV2 := [(0, .ref b), (1, .ref (G.2.2 + x1)), (2, .ref (G.2.2 + x2)), (3, .ref (G.2.2 + x3)), (4, .ref (G.2.2 + x4)), (5, .int (x5 + 6))]) rfl ?_
        refine pw_widen (k2 := (kc + 22)) (n2 := (kn + 170)) (by omega) (by omega) ?_
        exact hK _ _ _ _ _ _ h
      · replace h := h.2 hc
        refine pw_iconst (pc := 849) (v := 0 ) C dL_law_849 (by decide) ?_
        exact h.elim
  · replace h := h.2 hc
    refine pw_iconst (pc := 832) (v := 0 ) C dL_law_832 (by decide) ?_
    exact h.elim
def wpL_law_b854 (xs : Nat → Int32) (L : Nat) (K : PS → Nat → Nat → Nat → Nat → Int32 → Prop) (S : PS) (x1 : Nat) (x2 : Nat) (x3 : Nat) (x4 : Nat) (x5 : Int32) : Prop := (vp_in (x5 + (1 : Int32)) L ∧ (wpL_depth S x1 (xs ((x5 + (1 : Int32))).toNatClampNeg) x3 (fun r2 S3 => (vp_in (x5 + (1 : Int32)) L ∧ (pK S3 x2 = 11 ∧ (wpX12_depth S3 x2 (xs ((x5 + (1 : Int32))).toNatClampNeg) (fun r6 S7 => (pK S7 x2 = 11 ∧ (wpX12_thrown S7 x2 (fun r9 S10 => ((r9 = r2 → ((¬ r2 = 0 → (K S10 x1 x2 x3 x4 (x5 + 6))) ∧ (r2 = 0 → (pK S10 x3 = 14 ∧ (vp_in (0 : Int32) (pL S10 x3) ∧ (((lg_cmp (pJ S10 x3 ((0 : Int32)).toNatClampNeg) (r6.toInt64)) = 0 → (K S10 x1 x2 x3 x4 (x5 + 6))) ∧ (¬ (lg_cmp (pJ S10 x3 ((0 : Int32)).toNatClampNeg) (r6.toInt64)) = 0 → False))))))) ∧ (¬ r9 = r2 → False))))))))))))
set_option maxRecDepth 100000 in
set_option maxHeartbeats 8000000 in
theorem cbL_law_b854 {p : Program} {l : Launch} {e : Env} {s : State} {m : MethodId} {args : Array Value} {below : List Frame} {meth : Method} {c : Code} {Q : State → Prop} {G : PG} {b L : Nat} {xs : Nat → Int32} (C : pCx p s m args meth c G cL_law 9 RL TsLaw) (hZ : pZa G) (hl : l.stackTraces = false) (hX : va_X b L xs s s.heap) (hb : b < s.heap.size) (hbG : b < G.2.2) {kc kn : Nat} {K : PS → Nat → Nat → Nat → Nat → Int32 → Prop} (hK : ∀ (S : PS) (x1 : Nat) (x2 : Nat) (x3 : Nat) (x4 : Nat) (x5 : Int32), K S x1 x2 x3 x4 x5 → PW p l e room_1 s m args below meth c Q G 9 S (kc + 22) (kn + 170) [(0, .ref b), (1, .ref (G.2.2 + x1)), (2, .ref (G.2.2 + x2)), (3, .ref (G.2.2 + x3)), (4, .ref (G.2.2 + x4)), (5, .int x5)] 28 []) (hkc : kc + 22 ≤ 601024) (hkn : kn + 170 ≤ 7293034) : ∀ (S : PS) (x1 : Nat) (x2 : Nat) (x3 : Nat) (x4 : Nat) (x5 : Int32), wpL_law_b854 xs L K S x1 x2 x3 x4 x5 → PW p l e room_1 s m args below meth c Q G 9 S kc kn [(0, .ref b), (1, .ref (G.2.2 + x1)), (2, .ref (G.2.2 + x2)), (3, .ref (G.2.2 + x3)), (4, .ref (G.2.2 + x4)), (5, .int x5)] 854 [] := by
  intro S x1 x2 x3 x4 x5 h
  unfold wpL_law_b854 at h
  refine pw_aload_n (pc := 854) C 1 dL_law_854 rfl rfl ?_
  refine pw_aload_n (pc := 855) C 0 dL_law_855 rfl rfl ?_
  refine pw_iload (pc := 856) C 5 dL_law_856 rfl ?_
  refine pw_iconst (pc := 858) (v := 1 ) C dL_law_858 (by decide) ?_
  refine pw_iadd (pc := 859) C dL_law_859 ?_
  obtain ⟨hi1, h⟩ := h
  refine pw_sld (pc := 860) C hX hb hbG hi1 dL_law_860 ?_
  refine pw_aload_n (pc := 861) C 3 dL_law_861 rfl rfl ?_
  refine pw_calli (pc := 862) (kc2 := (kc + 1)) (kn2 := (kn + 6)) (pRunSW (pc := 862) C (ctL_depth l G hZ hl  _ x1 (xs ((x5 + (1 : Int32))).toNatClampNeg) x3 _ h) (vx_cwSW 3 C.2.2.2.2.1 qgL_law_L_depth rfl rfl rfl (by decide +kernel) ⟨Nat.le_of_ble_eq_true rfl, Nat.le_of_ble_eq_true rfl⟩) rfl rfl (Nat.le_of_ble_eq_true rfl) dL_law_862 ⟨by show (kc + 0) + 1 ≤ 601024; omega, by show (kn + 0) + 6 ≤ 7293034; omega⟩) rfl rfl (fun r2 S3 h => ?_)
  refine pw_istore (pc := 865) C [(6, .int r2), (0, .ref b), (1, .ref (G.2.2 + x1)), (2, .ref (G.2.2 + x2)), (3, .ref (G.2.2 + x3)), (4, .ref (G.2.2 + x4)), (5, .int x5)] dL_law_865 (by decide) rfl ?_
  refine pw_aload_n (pc := 867) C 3 dL_law_867 rfl rfl ?_
  refine pw_aload_n (pc := 868) C 1 dL_law_868 rfl rfl ?_
  refine pw_iload (pc := 869) C 6 dL_law_869 rfl ?_
  refine pw_iconst (pc := 871) (v := 1 ) C dL_law_871 (by decide) ?_
  refine pw_iadd (pc := 872) C dL_law_872 ?_
  obtain ⟨hi4, h⟩ := h
  refine pw_sld (pc := 873) C hX hb hbG hi4 dL_law_873 ?_
  obtain ⟨hk5, h⟩ := h
  refine pw_calli (pc := 874) (kc2 := (kc + 1)) (kn2 := (kn + 6)) (pRunV (pc := 874) C (ctX12_depth l G  _ x2 (xs ((x5 + (1 : Int32))).toNatClampNeg) _ h) (cwV 1 C.2.2.2.2.1 qgL_law_X12_depth rfl rfl rfl (by decide +kernel) ⟨Nat.le_of_ble_eq_true rfl, Nat.le_of_ble_eq_true rfl⟩) pCl10 hk5 rfl rfl (Nat.le_of_ble_eq_true rfl) dL_law_874 ⟨by show (kc + 1) + 0 ≤ 601024; omega, by show (kn + 6) + 0 ≤ 7293034; omega⟩) rfl rfl (fun r6 S7 h => ?_)
  refine pw_istore (pc := 877) C [(7, .int r6), (6, .int r2), (0, .ref b), (1, .ref (G.2.2 + x1)), (2, .ref (G.2.2 + x2)), (3, .ref (G.2.2 + x3)), (4, .ref (G.2.2 + x4)), (5, .int x5)] dL_law_877 (by decide) rfl ?_
  refine pw_aload_n (pc := 879) C 4 dL_law_879 rfl rfl ?_
  obtain ⟨hk8, h⟩ := h
  refine pw_calli (pc := 880) (kc2 := (kc + 1)) (kn2 := (kn + 6)) (pRunV (pc := 880) C (ctX12_thrown l G  _ x2 _ h) (cwV 0 C.2.2.2.2.1 qgL_law_X12_thrown rfl rfl rfl (by decide +kernel) ⟨Nat.le_of_ble_eq_true rfl, Nat.le_of_ble_eq_true rfl⟩) pCl10 hk8 rfl rfl (Nat.le_of_ble_eq_true rfl) dL_law_880 ⟨by show (kc + 1) + 0 ≤ 601024; omega, by show (kn + 6) + 0 ≤ 7293034; omega⟩) rfl rfl (fun r9 S10 h => ?_)
  refine pw_iload (pc := 883) C 1 dL_law_883 rfl ?_
  refine pw_icmp_eq (pc := 885) (tgt := 890) C dL_law_885 rfl ⟨fun hc => ?_, fun hc => ?_⟩
  · replace h := h.1 hc
    refine pw_iload (pc := 890) C 1 dL_law_890 rfl ?_
    refine pw_if_ne (pc := 892) (tgt := 907) C dL_law_892 rfl ⟨fun hc => ?_, fun hc => ?_⟩
    · replace h := h.1 hc
      refine pw_goto (pc := 907) (tgt := 1913) C dL_law_907 rfl ?_
      refine pw_iincK (pc := 1913) (w := 6) C [(5, .int (x5 + 6)), (7, .int r6), (6, .int r2), (0, .ref b), (1, .ref (G.2.2 + x1)), (2, .ref (G.2.2 + x2)), (3, .ref (G.2.2 + x3)), (4, .ref (G.2.2 + x4))] 7 dL_law_1913 (by decide) rfl (by decide) rfl ?_
      refine pw_goto (pc := 1916) (tgt := 28) C dL_law_1916 rfl ?_
      refine pw_sub [3, 4, 5, 6, 7, 0] (LV2 := [(0, .ref b), (1, .ref (G.2.2 + x1)), (2, .ref (G.2.2 + x2)), (3, .ref (G.2.2 + x3)), (4, .ref (G.2.2 + x4)), (5, .int (x5 + 6))]) rfl ?_
      refine pw_widen (k2 := (kc + 22)) (n2 := (kn + 170)) (by omega) (by omega) ?_
      exact hK _ _ _ _ _ _ h
    · replace h := h.2 hc
      refine pw_aload_n (pc := 895) C 5 dL_law_895 rfl rfl ?_
      refine pw_iconst (pc := 896) (v := 0 ) C dL_law_896 (by decide) ?_
      obtain ⟨hk11, h⟩ := h
      obtain ⟨hi12, h⟩ := h
      refine pw_lald (pc := 897) C hk11 hi12 dL_law_897 ?_
      refine pw_iload (pc := 898) C 0 dL_law_898 rfl ?_
      refine pw_i2l (pc := 900) C dL_law_900 ?_
      refine pw_lcmp (pc := 901) C dL_law_901 ?_
      refine pw_if_eq (pc := 902) (tgt := 907) C dL_law_902 rfl ⟨fun hc => ?_, fun hc => ?_⟩
      · replace h := h.1 hc
        refine pw_goto (pc := 907) (tgt := 1913) C dL_law_907 rfl ?_
        refine pw_iincK (pc := 1913) (w := 6) C [(5, .int (x5 + 6)), (7, .int r6), (6, .int r2), (0, .ref b), (1, .ref (G.2.2 + x1)), (2, .ref (G.2.2 + x2)), (3, .ref (G.2.2 + x3)), (4, .ref (G.2.2 + x4))] 7 dL_law_1913 (by decide) rfl (by decide) rfl ?_
        refine pw_goto (pc := 1916) (tgt := 28) C dL_law_1916 rfl ?_
        refine pw_sub [3, 4, 5, 6, 7, 0] (LV2 := [(0, .ref b), (1, .ref (G.2.2 + x1)), (2, .ref (G.2.2 + x2)), (3, .ref (G.2.2 + x3)), (4, .ref (G.2.2 + x4)), (5, .int (x5 + 6))]) rfl ?_
        refine pw_widen (k2 := (kc + 22)) (n2 := (kn + 170)) (by omega) (by omega) ?_
        exact hK _ _ _ _ _ _ h
      · replace h := h.2 hc
        refine pw_iconst (pc := 905) (v := 0 ) C dL_law_905 (by decide) ?_
        exact h.elim
  · replace h := h.2 hc
    refine pw_iconst (pc := 888) (v := 0 ) C dL_law_888 (by decide) ?_
    exact h.elim
def wpL_law_b910 (xs : Nat → Int32) (L : Nat) (K : PS → Nat → Nat → Nat → Nat → Int32 → Prop) (S : PS) (x1 : Nat) (x2 : Nat) (x3 : Nat) (x4 : Nat) (x5 : Int32) : Prop := (vp_in (x5 + (1 : Int32)) L ∧ (vp_in (x5 + (2 : Int32)) L ∧ (vp_in (x5 + (3 : Int32)) L ∧ (wpL_isSupported S x1 (xs ((x5 + (1 : Int32))).toNatClampNeg) (xs ((x5 + (2 : Int32))).toNatClampNeg) (xs ((x5 + (3 : Int32))).toNatClampNeg) x3 (fun r4 S5 => (vp_in (x5 + (1 : Int32)) L ∧ (vp_in (x5 + (2 : Int32)) L ∧ (vp_in (x5 + (3 : Int32)) L ∧ (pK S5 x2 = 11 ∧ (wpX12_isSupported S5 x2 (xs ((x5 + (1 : Int32))).toNatClampNeg) (xs ((x5 + (2 : Int32))).toNatClampNeg) (xs ((x5 + (3 : Int32))).toNatClampNeg) (fun r10 S11 => (pK S11 x2 = 11 ∧ (wpX12_thrown S11 x2 (fun r13 S14 => ((r13 = r4 → ((¬ r4 = 0 → (K S14 x1 x2 x3 x4 (x5 + 6))) ∧ (r4 = 0 → (pK S14 x3 = 14 ∧ (vp_in (0 : Int32) (pL S14 x3) ∧ ((r10 = 0 → (((lg_cmp (pJ S14 x3 ((0 : Int32)).toNatClampNeg) (0 : Int64)) = 0 → (K S14 x1 x2 x3 x4 (x5 + 6))) ∧ (¬ (lg_cmp (pJ S14 x3 ((0 : Int32)).toNatClampNeg) (0 : Int64)) = 0 → False))) ∧ (¬ r10 = 0 → (((lg_cmp (pJ S14 x3 ((0 : Int32)).toNatClampNeg) (1 : Int64)) = 0 → (K S14 x1 x2 x3 x4 (x5 + 6))) ∧ (¬ (lg_cmp (pJ S14 x3 ((0 : Int32)).toNatClampNeg) (1 : Int64)) = 0 → False))))))))) ∧ (¬ r13 = r4 → False))))))))))))))))
set_option maxRecDepth 100000 in
set_option maxHeartbeats 8000000 in
theorem cbL_law_b910 {p : Program} {l : Launch} {e : Env} {s : State} {m : MethodId} {args : Array Value} {below : List Frame} {meth : Method} {c : Code} {Q : State → Prop} {G : PG} {b L : Nat} {xs : Nat → Int32} (C : pCx p s m args meth c G cL_law 9 RL TsLaw) (hZ : pZa G) (hl : l.stackTraces = false) (hX : va_X b L xs s s.heap) (hb : b < s.heap.size) (hbG : b < G.2.2) {kc kn : Nat} {K : PS → Nat → Nat → Nat → Nat → Int32 → Prop} (hK : ∀ (S : PS) (x1 : Nat) (x2 : Nat) (x3 : Nat) (x4 : Nat) (x5 : Int32), K S x1 x2 x3 x4 x5 → PW p l e room_1 s m args below meth c Q G 9 S (kc + 22) (kn + 170) [(0, .ref b), (1, .ref (G.2.2 + x1)), (2, .ref (G.2.2 + x2)), (3, .ref (G.2.2 + x3)), (4, .ref (G.2.2 + x4)), (5, .int x5)] 28 []) (hkc : kc + 22 ≤ 601024) (hkn : kn + 170 ≤ 7293034) : ∀ (S : PS) (x1 : Nat) (x2 : Nat) (x3 : Nat) (x4 : Nat) (x5 : Int32), wpL_law_b910 xs L K S x1 x2 x3 x4 x5 → PW p l e room_1 s m args below meth c Q G 9 S kc kn [(0, .ref b), (1, .ref (G.2.2 + x1)), (2, .ref (G.2.2 + x2)), (3, .ref (G.2.2 + x3)), (4, .ref (G.2.2 + x4)), (5, .int x5)] 910 [] := by
  intro S x1 x2 x3 x4 x5 h
  unfold wpL_law_b910 at h
  refine pw_aload_n (pc := 910) C 1 dL_law_910 rfl rfl ?_
  refine pw_aload_n (pc := 911) C 0 dL_law_911 rfl rfl ?_
  refine pw_iload (pc := 912) C 5 dL_law_912 rfl ?_
  refine pw_iconst (pc := 914) (v := 1 ) C dL_law_914 (by decide) ?_
  refine pw_iadd (pc := 915) C dL_law_915 ?_
  obtain ⟨hi1, h⟩ := h
  refine pw_sld (pc := 916) C hX hb hbG hi1 dL_law_916 ?_
  refine pw_aload_n (pc := 917) C 0 dL_law_917 rfl rfl ?_
  refine pw_iload (pc := 918) C 5 dL_law_918 rfl ?_
  refine pw_iconst (pc := 920) (v := 2 ) C dL_law_920 (by decide) ?_
  refine pw_iadd (pc := 921) C dL_law_921 ?_
  obtain ⟨hi2, h⟩ := h
  refine pw_sld (pc := 922) C hX hb hbG hi2 dL_law_922 ?_
  refine pw_aload_n (pc := 923) C 0 dL_law_923 rfl rfl ?_
  refine pw_iload (pc := 924) C 5 dL_law_924 rfl ?_
  refine pw_iconst (pc := 926) (v := 3 ) C dL_law_926 (by decide) ?_
  refine pw_iadd (pc := 927) C dL_law_927 ?_
  obtain ⟨hi3, h⟩ := h
  refine pw_sld (pc := 928) C hX hb hbG hi3 dL_law_928 ?_
  refine pw_aload_n (pc := 929) C 3 dL_law_929 rfl rfl ?_
  refine pw_calli (pc := 930) (kc2 := (kc + 1)) (kn2 := (kn + 6)) (pRunSW (pc := 930) C (ctL_isSupported l G hZ hl  _ x1 (xs ((x5 + (1 : Int32))).toNatClampNeg) (xs ((x5 + (2 : Int32))).toNatClampNeg) (xs ((x5 + (3 : Int32))).toNatClampNeg) x3 _ h) (vx_cwSW 5 C.2.2.2.2.1 qgL_law_L_isSupported rfl rfl rfl (by decide +kernel) ⟨Nat.le_of_ble_eq_true rfl, Nat.le_of_ble_eq_true rfl⟩) rfl rfl (Nat.le_of_ble_eq_true rfl) dL_law_930 ⟨by show (kc + 0) + 1 ≤ 601024; omega, by show (kn + 0) + 6 ≤ 7293034; omega⟩) rfl rfl (fun r4 S5 h => ?_)
  refine pw_istore (pc := 933) C [(6, .int r4), (0, .ref b), (1, .ref (G.2.2 + x1)), (2, .ref (G.2.2 + x2)), (3, .ref (G.2.2 + x3)), (4, .ref (G.2.2 + x4)), (5, .int x5)] dL_law_933 (by decide) rfl ?_
  refine pw_aload_n (pc := 935) C 3 dL_law_935 rfl rfl ?_
  refine pw_aload_n (pc := 936) C 1 dL_law_936 rfl rfl ?_
  refine pw_iload (pc := 937) C 6 dL_law_937 rfl ?_
  refine pw_iconst (pc := 939) (v := 1 ) C dL_law_939 (by decide) ?_
  refine pw_iadd (pc := 940) C dL_law_940 ?_
  obtain ⟨hi6, h⟩ := h
  refine pw_sld (pc := 941) C hX hb hbG hi6 dL_law_941 ?_
  refine pw_aload_n (pc := 942) C 1 dL_law_942 rfl rfl ?_
  refine pw_iload (pc := 943) C 6 dL_law_943 rfl ?_
  refine pw_iconst (pc := 945) (v := 2 ) C dL_law_945 (by decide) ?_
  refine pw_iadd (pc := 946) C dL_law_946 ?_
  obtain ⟨hi7, h⟩ := h
  refine pw_sld (pc := 947) C hX hb hbG hi7 dL_law_947 ?_
  refine pw_aload_n (pc := 948) C 1 dL_law_948 rfl rfl ?_
  refine pw_iload (pc := 949) C 6 dL_law_949 rfl ?_
  refine pw_iconst (pc := 951) (v := 3 ) C dL_law_951 (by decide) ?_
  refine pw_iadd (pc := 952) C dL_law_952 ?_
  obtain ⟨hi8, h⟩ := h
  refine pw_sld (pc := 953) C hX hb hbG hi8 dL_law_953 ?_
  obtain ⟨hk9, h⟩ := h
  refine pw_calli (pc := 954) (kc2 := (kc + 1)) (kn2 := (kn + 6)) (pRunV (pc := 954) C (ctX12_isSupported l G  _ x2 (xs ((x5 + (1 : Int32))).toNatClampNeg) (xs ((x5 + (2 : Int32))).toNatClampNeg) (xs ((x5 + (3 : Int32))).toNatClampNeg) _ h) (cwV 3 C.2.2.2.2.1 qgL_law_X12_isSupported rfl rfl rfl (by decide +kernel) ⟨Nat.le_of_ble_eq_true rfl, Nat.le_of_ble_eq_true rfl⟩) pCl10 hk9 rfl rfl (Nat.le_of_ble_eq_true rfl) dL_law_954 ⟨by show (kc + 1) + 0 ≤ 601024; omega, by show (kn + 6) + 0 ≤ 7293034; omega⟩) rfl rfl (fun r10 S11 h => ?_)
  refine pw_istore (pc := 957) C [(7, .int r10), (6, .int r4), (0, .ref b), (1, .ref (G.2.2 + x1)), (2, .ref (G.2.2 + x2)), (3, .ref (G.2.2 + x3)), (4, .ref (G.2.2 + x4)), (5, .int x5)] dL_law_957 (by decide) rfl ?_
  refine pw_aload_n (pc := 959) C 4 dL_law_959 rfl rfl ?_
  obtain ⟨hk12, h⟩ := h
  refine pw_calli (pc := 960) (kc2 := (kc + 1)) (kn2 := (kn + 6)) (pRunV (pc := 960) C (ctX12_thrown l G  _ x2 _ h) (cwV 0 C.2.2.2.2.1 qgL_law_X12_thrown rfl rfl rfl (by decide +kernel) ⟨Nat.le_of_ble_eq_true rfl, Nat.le_of_ble_eq_true rfl⟩) pCl10 hk12 rfl rfl (Nat.le_of_ble_eq_true rfl) dL_law_960 ⟨by show (kc + 1) + 0 ≤ 601024; omega, by show (kn + 6) + 0 ≤ 7293034; omega⟩) rfl rfl (fun r13 S14 h => ?_)
  refine pw_iload (pc := 963) C 1 dL_law_963 rfl ?_
  refine pw_icmp_eq (pc := 965) (tgt := 970) C dL_law_965 rfl ⟨fun hc => ?_, fun hc => ?_⟩
  · replace h := h.1 hc
    refine pw_iload (pc := 970) C 1 dL_law_970 rfl ?_
    refine pw_if_ne (pc := 972) (tgt := 994) C dL_law_972 rfl ⟨fun hc => ?_, fun hc => ?_⟩
    · replace h := h.1 hc
      refine pw_goto (pc := 994) (tgt := 1913) C dL_law_994 rfl ?_
      refine pw_iincK (pc := 1913) (w := 6) C [(5, .int (x5 + 6)), (7, .int r10), (6, .int r4), (0, .ref b), (1, .ref (G.2.2 + x1)), (2, .ref (G.2.2 + x2)), (3, .ref (G.2.2 + x3)), (4, .ref (G.2.2 + x4))] 7 dL_law_1913 (by decide) rfl (by decide) rfl ?_
      refine pw_goto (pc := 1916) (tgt := 28) C dL_law_1916 rfl ?_
      refine pw_sub [3, 4, 5, 6, 7, 0] (LV2 := [(0, .ref b), (1, .ref (G.2.2 + x1)), (2, .ref (G.2.2 + x2)), (3, .ref (G.2.2 + x3)), (4, .ref (G.2.2 + x4)), (5, .int (x5 + 6))]) rfl ?_
      refine pw_widen (k2 := (kc + 22)) (n2 := (kn + 170)) (by omega) (by omega) ?_
      exact hK _ _ _ _ _ _ h
    · replace h := h.2 hc
      refine pw_aload_n (pc := 975) C 5 dL_law_975 rfl rfl ?_
      refine pw_iconst (pc := 976) (v := 0 ) C dL_law_976 (by decide) ?_
      obtain ⟨hk15, h⟩ := h
      obtain ⟨hi16, h⟩ := h
      refine pw_lald (pc := 977) C hk15 hi16 dL_law_977 ?_
      refine pw_iload (pc := 978) C 0 dL_law_978 rfl ?_
      refine pw_if_eq (pc := 980) (tgt := 987) C dL_law_980 rfl ⟨fun hc => ?_, fun hc => ?_⟩
      · replace h := h.1 hc
        refine pw_lconst (pc := 987) (v := 0) C dL_law_987 (by decide) ?_
        refine pw_lcmp (pc := 988) C dL_law_988 ?_
        refine pw_if_eq (pc := 989) (tgt := 994) C dL_law_989 rfl ⟨fun hc => ?_, fun hc => ?_⟩
        · replace h := h.1 hc
          refine pw_goto (pc := 994) (tgt := 1913) C dL_law_994 rfl ?_
          refine pw_iincK (pc := 1913) (w := 6) C [(5, .int (x5 + 6)), (7, .int r10), (6, .int r4), (0, .ref b), (1, .ref (G.2.2 + x1)), (2, .ref (G.2.2 + x2)), (3, .ref (G.2.2 + x3)), (4, .ref (G.2.2 + x4))] 7 dL_law_1913 (by decide) rfl (by decide) rfl ?_
          refine pw_goto (pc := 1916) (tgt := 28) C dL_law_1916 rfl ?_
          refine pw_sub [3, 4, 5, 6, 7, 0] (LV2 := [(0, .ref b), (1, .ref (G.2.2 + x1)), (2, .ref (G.2.2 + x2)), (3, .ref (G.2.2 + x3)), (4, .ref (G.2.2 + x4)), (5, .int (x5 + 6))]) rfl ?_
          refine pw_widen (k2 := (kc + 22)) (n2 := (kn + 170)) (by omega) (by omega) ?_
          exact hK _ _ _ _ _ _ h
        · replace h := h.2 hc
          refine pw_iconst (pc := 992) (v := 0 ) C dL_law_992 (by decide) ?_
          exact h.elim
      · replace h := h.2 hc
        refine pw_lconst (pc := 983) (v := 1) C dL_law_983 (by decide) ?_
        refine pw_goto (pc := 984) (tgt := 988) C dL_law_984 rfl ?_
        refine pw_lcmp (pc := 988) C dL_law_988 ?_
        refine pw_if_eq (pc := 989) (tgt := 994) C dL_law_989 rfl ⟨fun hc => ?_, fun hc => ?_⟩
        · replace h := h.1 hc
          refine pw_goto (pc := 994) (tgt := 1913) C dL_law_994 rfl ?_
          refine pw_iincK (pc := 1913) (w := 6) C [(5, .int (x5 + 6)), (7, .int r10), (6, .int r4), (0, .ref b), (1, .ref (G.2.2 + x1)), (2, .ref (G.2.2 + x2)), (3, .ref (G.2.2 + x3)), (4, .ref (G.2.2 + x4))] 7 dL_law_1913 (by decide) rfl (by decide) rfl ?_
          refine pw_goto (pc := 1916) (tgt := 28) C dL_law_1916 rfl ?_
          refine pw_sub [3, 4, 5, 6, 7, 0] (LV2 := [(0, .ref b), (1, .ref (G.2.2 + x1)), (2, .ref (G.2.2 + x2)), (3, .ref (G.2.2 + x3)), (4, .ref (G.2.2 + x4)), (5, .int (x5 + 6))]) rfl ?_
          refine pw_widen (k2 := (kc + 22)) (n2 := (kn + 170)) (by omega) (by omega) ?_
          exact hK _ _ _ _ _ _ h
        · replace h := h.2 hc
          refine pw_iconst (pc := 992) (v := 0 ) C dL_law_992 (by decide) ?_
          exact h.elim
  · replace h := h.2 hc
    refine pw_iconst (pc := 968) (v := 0 ) C dL_law_968 (by decide) ?_
    exact h.elim
def wpL_law_b997 (xs : Nat → Int32) (L : Nat) (K : PS → Nat → Nat → Nat → Nat → Int32 → Prop) (S : PS) (x1 : Nat) (x2 : Nat) (x3 : Nat) (x4 : Nat) (x5 : Int32) : Prop := (vp_in (x5 + (1 : Int32)) L ∧ (vp_in (x5 + (2 : Int32)) L ∧ (vp_in (x5 + (3 : Int32)) L ∧ (vp_in (x5 + (4 : Int32)) L ∧ (wpL_support S x1 (xs ((x5 + (1 : Int32))).toNatClampNeg) (xs ((x5 + (2 : Int32))).toNatClampNeg) (xs ((x5 + (3 : Int32))).toNatClampNeg) (xs ((x5 + (4 : Int32))).toNatClampNeg) x3 (fun r5 S6 => (vp_in (x5 + (1 : Int32)) L ∧ (vp_in (x5 + (2 : Int32)) L ∧ (vp_in (x5 + (3 : Int32)) L ∧ (vp_in (x5 + (4 : Int32)) L ∧ (pK S6 x2 = 11 ∧ (wpX12_support S6 x2 (xs ((x5 + (1 : Int32))).toNatClampNeg) (xs ((x5 + (2 : Int32))).toNatClampNeg) (xs ((x5 + (3 : Int32))).toNatClampNeg) (xs ((x5 + (4 : Int32))).toNatClampNeg) (fun r12 S13 => (pK S13 x2 = 11 ∧ (wpX12_thrown S13 x2 (fun r15 S16 => ((r15 = r5 → ((¬ r5 = 0 → (K S16 x1 x2 x3 x4 (x5 + 6))) ∧ (r5 = 0 → (pK S16 x3 = 14 ∧ (vp_in (0 : Int32) (pL S16 x3) ∧ (((lg_cmp (pJ S16 x3 ((0 : Int32)).toNatClampNeg) (r12.toInt64)) = 0 → (K S16 x1 x2 x3 x4 (x5 + 6))) ∧ (¬ (lg_cmp (pJ S16 x3 ((0 : Int32)).toNatClampNeg) (r12.toInt64)) = 0 → False))))))) ∧ (¬ r15 = r5 → False))))))))))))))))))
set_option maxRecDepth 100000 in
set_option maxHeartbeats 8000000 in
theorem cbL_law_b997 {p : Program} {l : Launch} {e : Env} {s : State} {m : MethodId} {args : Array Value} {below : List Frame} {meth : Method} {c : Code} {Q : State → Prop} {G : PG} {b L : Nat} {xs : Nat → Int32} (C : pCx p s m args meth c G cL_law 9 RL TsLaw) (hZ : pZa G) (hl : l.stackTraces = false) (hX : va_X b L xs s s.heap) (hb : b < s.heap.size) (hbG : b < G.2.2) {kc kn : Nat} {K : PS → Nat → Nat → Nat → Nat → Int32 → Prop} (hK : ∀ (S : PS) (x1 : Nat) (x2 : Nat) (x3 : Nat) (x4 : Nat) (x5 : Int32), K S x1 x2 x3 x4 x5 → PW p l e room_1 s m args below meth c Q G 9 S (kc + 22) (kn + 170) [(0, .ref b), (1, .ref (G.2.2 + x1)), (2, .ref (G.2.2 + x2)), (3, .ref (G.2.2 + x3)), (4, .ref (G.2.2 + x4)), (5, .int x5)] 28 []) (hkc : kc + 22 ≤ 601024) (hkn : kn + 170 ≤ 7293034) : ∀ (S : PS) (x1 : Nat) (x2 : Nat) (x3 : Nat) (x4 : Nat) (x5 : Int32), wpL_law_b997 xs L K S x1 x2 x3 x4 x5 → PW p l e room_1 s m args below meth c Q G 9 S kc kn [(0, .ref b), (1, .ref (G.2.2 + x1)), (2, .ref (G.2.2 + x2)), (3, .ref (G.2.2 + x3)), (4, .ref (G.2.2 + x4)), (5, .int x5)] 997 [] := by
  intro S x1 x2 x3 x4 x5 h
  unfold wpL_law_b997 at h
  refine pw_aload_n (pc := 997) C 1 dL_law_997 rfl rfl ?_
  refine pw_aload_n (pc := 998) C 0 dL_law_998 rfl rfl ?_
  refine pw_iload (pc := 999) C 5 dL_law_999 rfl ?_
  refine pw_iconst (pc := 1001) (v := 1 ) C dL_law_1001 (by decide) ?_
  refine pw_iadd (pc := 1002) C dL_law_1002 ?_
  obtain ⟨hi1, h⟩ := h
  refine pw_sld (pc := 1003) C hX hb hbG hi1 dL_law_1003 ?_
  refine pw_aload_n (pc := 1004) C 0 dL_law_1004 rfl rfl ?_
  refine pw_iload (pc := 1005) C 5 dL_law_1005 rfl ?_
  refine pw_iconst (pc := 1007) (v := 2 ) C dL_law_1007 (by decide) ?_
  refine pw_iadd (pc := 1008) C dL_law_1008 ?_
  obtain ⟨hi2, h⟩ := h
  refine pw_sld (pc := 1009) C hX hb hbG hi2 dL_law_1009 ?_
  refine pw_aload_n (pc := 1010) C 0 dL_law_1010 rfl rfl ?_
  refine pw_iload (pc := 1011) C 5 dL_law_1011 rfl ?_
  refine pw_iconst (pc := 1013) (v := 3 ) C dL_law_1013 (by decide) ?_
  refine pw_iadd (pc := 1014) C dL_law_1014 ?_
  obtain ⟨hi3, h⟩ := h
  refine pw_sld (pc := 1015) C hX hb hbG hi3 dL_law_1015 ?_
  refine pw_aload_n (pc := 1016) C 0 dL_law_1016 rfl rfl ?_
  refine pw_iload (pc := 1017) C 5 dL_law_1017 rfl ?_
  refine pw_iconst (pc := 1019) (v := 4 ) C dL_law_1019 (by decide) ?_
  refine pw_iadd (pc := 1020) C dL_law_1020 ?_
  obtain ⟨hi4, h⟩ := h
  refine pw_sld (pc := 1021) C hX hb hbG hi4 dL_law_1021 ?_
  refine pw_aload_n (pc := 1022) C 3 dL_law_1022 rfl rfl ?_
  refine pw_calli (pc := 1023) (kc2 := (kc + 1)) (kn2 := (kn + 6)) (pRunSW (pc := 1023) C (ctL_support l G hZ hl  _ x1 (xs ((x5 + (1 : Int32))).toNatClampNeg) (xs ((x5 + (2 : Int32))).toNatClampNeg) (xs ((x5 + (3 : Int32))).toNatClampNeg) (xs ((x5 + (4 : Int32))).toNatClampNeg) x3 _ h) (vx_cwSW 6 C.2.2.2.2.1 qgL_law_L_support rfl rfl rfl (by decide +kernel) ⟨Nat.le_of_ble_eq_true rfl, Nat.le_of_ble_eq_true rfl⟩) rfl rfl (Nat.le_of_ble_eq_true rfl) dL_law_1023 ⟨by show (kc + 0) + 1 ≤ 601024; omega, by show (kn + 0) + 6 ≤ 7293034; omega⟩) rfl rfl (fun r5 S6 h => ?_)
  refine pw_istore (pc := 1026) C [(6, .int r5), (0, .ref b), (1, .ref (G.2.2 + x1)), (2, .ref (G.2.2 + x2)), (3, .ref (G.2.2 + x3)), (4, .ref (G.2.2 + x4)), (5, .int x5)] dL_law_1026 (by decide) rfl ?_
  refine pw_aload_n (pc := 1028) C 3 dL_law_1028 rfl rfl ?_
  refine pw_aload_n (pc := 1029) C 1 dL_law_1029 rfl rfl ?_
  refine pw_iload (pc := 1030) C 6 dL_law_1030 rfl ?_
  refine pw_iconst (pc := 1032) (v := 1 ) C dL_law_1032 (by decide) ?_
  refine pw_iadd (pc := 1033) C dL_law_1033 ?_
  obtain ⟨hi7, h⟩ := h
  refine pw_sld (pc := 1034) C hX hb hbG hi7 dL_law_1034 ?_
  refine pw_aload_n (pc := 1035) C 1 dL_law_1035 rfl rfl ?_
  refine pw_iload (pc := 1036) C 6 dL_law_1036 rfl ?_
  refine pw_iconst (pc := 1038) (v := 2 ) C dL_law_1038 (by decide) ?_
  refine pw_iadd (pc := 1039) C dL_law_1039 ?_
  obtain ⟨hi8, h⟩ := h
  refine pw_sld (pc := 1040) C hX hb hbG hi8 dL_law_1040 ?_
  refine pw_aload_n (pc := 1041) C 1 dL_law_1041 rfl rfl ?_
  refine pw_iload (pc := 1042) C 6 dL_law_1042 rfl ?_
  refine pw_iconst (pc := 1044) (v := 3 ) C dL_law_1044 (by decide) ?_
  refine pw_iadd (pc := 1045) C dL_law_1045 ?_
  obtain ⟨hi9, h⟩ := h
  refine pw_sld (pc := 1046) C hX hb hbG hi9 dL_law_1046 ?_
  refine pw_aload_n (pc := 1047) C 1 dL_law_1047 rfl rfl ?_
  refine pw_iload (pc := 1048) C 6 dL_law_1048 rfl ?_
  refine pw_iconst (pc := 1050) (v := 4 ) C dL_law_1050 (by decide) ?_
  refine pw_iadd (pc := 1051) C dL_law_1051 ?_
  obtain ⟨hi10, h⟩ := h
  refine pw_sld (pc := 1052) C hX hb hbG hi10 dL_law_1052 ?_
  obtain ⟨hk11, h⟩ := h
  refine pw_calli (pc := 1053) (kc2 := (kc + 1)) (kn2 := (kn + 6)) (pRunV (pc := 1053) C (ctX12_support l G  _ x2 (xs ((x5 + (1 : Int32))).toNatClampNeg) (xs ((x5 + (2 : Int32))).toNatClampNeg) (xs ((x5 + (3 : Int32))).toNatClampNeg) (xs ((x5 + (4 : Int32))).toNatClampNeg) _ h) (cwV 4 C.2.2.2.2.1 qgL_law_X12_support rfl rfl rfl (by decide +kernel) ⟨Nat.le_of_ble_eq_true rfl, Nat.le_of_ble_eq_true rfl⟩) pCl10 hk11 rfl rfl (Nat.le_of_ble_eq_true rfl) dL_law_1053 ⟨by show (kc + 1) + 0 ≤ 601024; omega, by show (kn + 6) + 0 ≤ 7293034; omega⟩) rfl rfl (fun r12 S13 h => ?_)
  refine pw_istore (pc := 1056) C [(7, .int r12), (6, .int r5), (0, .ref b), (1, .ref (G.2.2 + x1)), (2, .ref (G.2.2 + x2)), (3, .ref (G.2.2 + x3)), (4, .ref (G.2.2 + x4)), (5, .int x5)] dL_law_1056 (by decide) rfl ?_
  refine pw_aload_n (pc := 1058) C 4 dL_law_1058 rfl rfl ?_
  obtain ⟨hk14, h⟩ := h
  refine pw_calli (pc := 1059) (kc2 := (kc + 1)) (kn2 := (kn + 6)) (pRunV (pc := 1059) C (ctX12_thrown l G  _ x2 _ h) (cwV 0 C.2.2.2.2.1 qgL_law_X12_thrown rfl rfl rfl (by decide +kernel) ⟨Nat.le_of_ble_eq_true rfl, Nat.le_of_ble_eq_true rfl⟩) pCl10 hk14 rfl rfl (Nat.le_of_ble_eq_true rfl) dL_law_1059 ⟨by show (kc + 1) + 0 ≤ 601024; omega, by show (kn + 6) + 0 ≤ 7293034; omega⟩) rfl rfl (fun r15 S16 h => ?_)
  refine pw_iload (pc := 1062) C 1 dL_law_1062 rfl ?_
  refine pw_icmp_eq (pc := 1064) (tgt := 1069) C dL_law_1064 rfl ⟨fun hc => ?_, fun hc => ?_⟩
  · replace h := h.1 hc
    refine pw_iload (pc := 1069) C 1 dL_law_1069 rfl ?_
    refine pw_if_ne (pc := 1071) (tgt := 1086) C dL_law_1071 rfl ⟨fun hc => ?_, fun hc => ?_⟩
    · replace h := h.1 hc
      refine pw_goto (pc := 1086) (tgt := 1913) C dL_law_1086 rfl ?_
      refine pw_iincK (pc := 1913) (w := 6) C [(5, .int (x5 + 6)), (7, .int r12), (6, .int r5), (0, .ref b), (1, .ref (G.2.2 + x1)), (2, .ref (G.2.2 + x2)), (3, .ref (G.2.2 + x3)), (4, .ref (G.2.2 + x4))] 7 dL_law_1913 (by decide) rfl (by decide) rfl ?_
      refine pw_goto (pc := 1916) (tgt := 28) C dL_law_1916 rfl ?_
      refine pw_sub [3, 4, 5, 6, 7, 0] (LV2 := [(0, .ref b), (1, .ref (G.2.2 + x1)), (2, .ref (G.2.2 + x2)), (3, .ref (G.2.2 + x3)), (4, .ref (G.2.2 + x4)), (5, .int (x5 + 6))]) rfl ?_
      refine pw_widen (k2 := (kc + 22)) (n2 := (kn + 170)) (by omega) (by omega) ?_
      exact hK _ _ _ _ _ _ h
    · replace h := h.2 hc
      refine pw_aload_n (pc := 1074) C 5 dL_law_1074 rfl rfl ?_
      refine pw_iconst (pc := 1075) (v := 0 ) C dL_law_1075 (by decide) ?_
      obtain ⟨hk17, h⟩ := h
      obtain ⟨hi18, h⟩ := h
      refine pw_lald (pc := 1076) C hk17 hi18 dL_law_1076 ?_
      refine pw_iload (pc := 1077) C 0 dL_law_1077 rfl ?_
      refine pw_i2l (pc := 1079) C dL_law_1079 ?_
      refine pw_lcmp (pc := 1080) C dL_law_1080 ?_
      refine pw_if_eq (pc := 1081) (tgt := 1086) C dL_law_1081 rfl ⟨fun hc => ?_, fun hc => ?_⟩
      · replace h := h.1 hc
        refine pw_goto (pc := 1086) (tgt := 1913) C dL_law_1086 rfl ?_
        refine pw_iincK (pc := 1913) (w := 6) C [(5, .int (x5 + 6)), (7, .int r12), (6, .int r5), (0, .ref b), (1, .ref (G.2.2 + x1)), (2, .ref (G.2.2 + x2)), (3, .ref (G.2.2 + x3)), (4, .ref (G.2.2 + x4))] 7 dL_law_1913 (by decide) rfl (by decide) rfl ?_
        refine pw_goto (pc := 1916) (tgt := 28) C dL_law_1916 rfl ?_
        refine pw_sub [3, 4, 5, 6, 7, 0] (LV2 := [(0, .ref b), (1, .ref (G.2.2 + x1)), (2, .ref (G.2.2 + x2)), (3, .ref (G.2.2 + x3)), (4, .ref (G.2.2 + x4)), (5, .int (x5 + 6))]) rfl ?_
        refine pw_widen (k2 := (kc + 22)) (n2 := (kn + 170)) (by omega) (by omega) ?_
        exact hK _ _ _ _ _ _ h
      · replace h := h.2 hc
        refine pw_iconst (pc := 1084) (v := 0 ) C dL_law_1084 (by decide) ?_
        exact h.elim
  · replace h := h.2 hc
    refine pw_iconst (pc := 1067) (v := 0 ) C dL_law_1067 (by decide) ?_
    exact h.elim
def wpL_law_b1089 (xs : Nat → Int32) (L : Nat) (K : PS → Nat → Nat → Nat → Nat → Int32 → Prop) (S : PS) (x1 : Nat) (x2 : Nat) (x3 : Nat) (x4 : Nat) (x5 : Int32) : Prop := (vp_in (x5 + (1 : Int32)) L ∧ (vp_in (x5 + (2 : Int32)) L ∧ (wpL_watchers S x1 (xs ((x5 + (1 : Int32))).toNatClampNeg) (xs ((x5 + (2 : Int32))).toNatClampNeg) x3 (fun r3 S4 => (vp_in (x5 + (1 : Int32)) L ∧ (vp_in (x5 + (2 : Int32)) L ∧ (pK S4 x2 = 11 ∧ (wpX12_watchers S4 x2 (xs ((x5 + (1 : Int32))).toNatClampNeg) (xs ((x5 + (2 : Int32))).toNatClampNeg) (fun r8 S9 => (pK S9 x2 = 11 ∧ (wpX12_thrown S9 x2 (fun r11 S12 => ((r11 = r3 → ((¬ r3 = 0 → (K S12 x1 x2 x3 x4 (x5 + 6))) ∧ (r3 = 0 → (pK S12 x3 = 14 ∧ (vp_in (0 : Int32) (pL S12 x3) ∧ (((lg_cmp (pJ S12 x3 ((0 : Int32)).toNatClampNeg) (r8.toInt64)) = 0 → (K S12 x1 x2 x3 x4 (x5 + 6))) ∧ (¬ (lg_cmp (pJ S12 x3 ((0 : Int32)).toNatClampNeg) (r8.toInt64)) = 0 → False))))))) ∧ (¬ r11 = r3 → False))))))))))))))
set_option maxRecDepth 100000 in
set_option maxHeartbeats 8000000 in
theorem cbL_law_b1089 {p : Program} {l : Launch} {e : Env} {s : State} {m : MethodId} {args : Array Value} {below : List Frame} {meth : Method} {c : Code} {Q : State → Prop} {G : PG} {b L : Nat} {xs : Nat → Int32} (C : pCx p s m args meth c G cL_law 9 RL TsLaw) (hZ : pZa G) (hl : l.stackTraces = false) (hX : va_X b L xs s s.heap) (hb : b < s.heap.size) (hbG : b < G.2.2) {kc kn : Nat} {K : PS → Nat → Nat → Nat → Nat → Int32 → Prop} (hK : ∀ (S : PS) (x1 : Nat) (x2 : Nat) (x3 : Nat) (x4 : Nat) (x5 : Int32), K S x1 x2 x3 x4 x5 → PW p l e room_1 s m args below meth c Q G 9 S (kc + 22) (kn + 170) [(0, .ref b), (1, .ref (G.2.2 + x1)), (2, .ref (G.2.2 + x2)), (3, .ref (G.2.2 + x3)), (4, .ref (G.2.2 + x4)), (5, .int x5)] 28 []) (hkc : kc + 22 ≤ 601024) (hkn : kn + 170 ≤ 7293034) : ∀ (S : PS) (x1 : Nat) (x2 : Nat) (x3 : Nat) (x4 : Nat) (x5 : Int32), wpL_law_b1089 xs L K S x1 x2 x3 x4 x5 → PW p l e room_1 s m args below meth c Q G 9 S kc kn [(0, .ref b), (1, .ref (G.2.2 + x1)), (2, .ref (G.2.2 + x2)), (3, .ref (G.2.2 + x3)), (4, .ref (G.2.2 + x4)), (5, .int x5)] 1089 [] := by
  intro S x1 x2 x3 x4 x5 h
  unfold wpL_law_b1089 at h
  refine pw_aload_n (pc := 1089) C 1 dL_law_1089 rfl rfl ?_
  refine pw_aload_n (pc := 1090) C 0 dL_law_1090 rfl rfl ?_
  refine pw_iload (pc := 1091) C 5 dL_law_1091 rfl ?_
  refine pw_iconst (pc := 1093) (v := 1 ) C dL_law_1093 (by decide) ?_
  refine pw_iadd (pc := 1094) C dL_law_1094 ?_
  obtain ⟨hi1, h⟩ := h
  refine pw_sld (pc := 1095) C hX hb hbG hi1 dL_law_1095 ?_
  refine pw_aload_n (pc := 1096) C 0 dL_law_1096 rfl rfl ?_
  refine pw_iload (pc := 1097) C 5 dL_law_1097 rfl ?_
  refine pw_iconst (pc := 1099) (v := 2 ) C dL_law_1099 (by decide) ?_
  refine pw_iadd (pc := 1100) C dL_law_1100 ?_
  obtain ⟨hi2, h⟩ := h
  refine pw_sld (pc := 1101) C hX hb hbG hi2 dL_law_1101 ?_
  refine pw_aload_n (pc := 1102) C 3 dL_law_1102 rfl rfl ?_
  refine pw_calli (pc := 1103) (kc2 := (kc + 1)) (kn2 := (kn + 6)) (pRunSW (pc := 1103) C (ctL_watchers l G hZ hl  _ x1 (xs ((x5 + (1 : Int32))).toNatClampNeg) (xs ((x5 + (2 : Int32))).toNatClampNeg) x3 _ h) (vx_cwSW 4 C.2.2.2.2.1 qgL_law_L_watchers rfl rfl rfl (by decide +kernel) ⟨Nat.le_of_ble_eq_true rfl, Nat.le_of_ble_eq_true rfl⟩) rfl rfl (Nat.le_of_ble_eq_true rfl) dL_law_1103 ⟨by show (kc + 0) + 1 ≤ 601024; omega, by show (kn + 0) + 6 ≤ 7293034; omega⟩) rfl rfl (fun r3 S4 h => ?_)
  refine pw_istore (pc := 1106) C [(6, .int r3), (0, .ref b), (1, .ref (G.2.2 + x1)), (2, .ref (G.2.2 + x2)), (3, .ref (G.2.2 + x3)), (4, .ref (G.2.2 + x4)), (5, .int x5)] dL_law_1106 (by decide) rfl ?_
  refine pw_aload_n (pc := 1108) C 3 dL_law_1108 rfl rfl ?_
  refine pw_aload_n (pc := 1109) C 1 dL_law_1109 rfl rfl ?_
  refine pw_iload (pc := 1110) C 6 dL_law_1110 rfl ?_
  refine pw_iconst (pc := 1112) (v := 1 ) C dL_law_1112 (by decide) ?_
  refine pw_iadd (pc := 1113) C dL_law_1113 ?_
  obtain ⟨hi5, h⟩ := h
  refine pw_sld (pc := 1114) C hX hb hbG hi5 dL_law_1114 ?_
  refine pw_aload_n (pc := 1115) C 1 dL_law_1115 rfl rfl ?_
  refine pw_iload (pc := 1116) C 6 dL_law_1116 rfl ?_
  refine pw_iconst (pc := 1118) (v := 2 ) C dL_law_1118 (by decide) ?_
  refine pw_iadd (pc := 1119) C dL_law_1119 ?_
  obtain ⟨hi6, h⟩ := h
  refine pw_sld (pc := 1120) C hX hb hbG hi6 dL_law_1120 ?_
  obtain ⟨hk7, h⟩ := h
  refine pw_calli (pc := 1121) (kc2 := (kc + 1)) (kn2 := (kn + 6)) (pRunV (pc := 1121) C (ctX12_watchers l G  _ x2 (xs ((x5 + (1 : Int32))).toNatClampNeg) (xs ((x5 + (2 : Int32))).toNatClampNeg) _ h) (cwV 2 C.2.2.2.2.1 qgL_law_X12_watchers rfl rfl rfl (by decide +kernel) ⟨Nat.le_of_ble_eq_true rfl, Nat.le_of_ble_eq_true rfl⟩) pCl10 hk7 rfl rfl (Nat.le_of_ble_eq_true rfl) dL_law_1121 ⟨by show (kc + 1) + 0 ≤ 601024; omega, by show (kn + 6) + 0 ≤ 7293034; omega⟩) rfl rfl (fun r8 S9 h => ?_)
  refine pw_istore (pc := 1124) C [(7, .int r8), (6, .int r3), (0, .ref b), (1, .ref (G.2.2 + x1)), (2, .ref (G.2.2 + x2)), (3, .ref (G.2.2 + x3)), (4, .ref (G.2.2 + x4)), (5, .int x5)] dL_law_1124 (by decide) rfl ?_
  refine pw_aload_n (pc := 1126) C 4 dL_law_1126 rfl rfl ?_
  obtain ⟨hk10, h⟩ := h
  refine pw_calli (pc := 1127) (kc2 := (kc + 1)) (kn2 := (kn + 6)) (pRunV (pc := 1127) C (ctX12_thrown l G  _ x2 _ h) (cwV 0 C.2.2.2.2.1 qgL_law_X12_thrown rfl rfl rfl (by decide +kernel) ⟨Nat.le_of_ble_eq_true rfl, Nat.le_of_ble_eq_true rfl⟩) pCl10 hk10 rfl rfl (Nat.le_of_ble_eq_true rfl) dL_law_1127 ⟨by show (kc + 1) + 0 ≤ 601024; omega, by show (kn + 6) + 0 ≤ 7293034; omega⟩) rfl rfl (fun r11 S12 h => ?_)
  refine pw_iload (pc := 1130) C 1 dL_law_1130 rfl ?_
  refine pw_icmp_eq (pc := 1132) (tgt := 1137) C dL_law_1132 rfl ⟨fun hc => ?_, fun hc => ?_⟩
  · replace h := h.1 hc
    refine pw_iload (pc := 1137) C 1 dL_law_1137 rfl ?_
    refine pw_if_ne (pc := 1139) (tgt := 1154) C dL_law_1139 rfl ⟨fun hc => ?_, fun hc => ?_⟩
    · replace h := h.1 hc
      refine pw_goto (pc := 1154) (tgt := 1913) C dL_law_1154 rfl ?_
      refine pw_iincK (pc := 1913) (w := 6) C [(5, .int (x5 + 6)), (7, .int r8), (6, .int r3), (0, .ref b), (1, .ref (G.2.2 + x1)), (2, .ref (G.2.2 + x2)), (3, .ref (G.2.2 + x3)), (4, .ref (G.2.2 + x4))] 7 dL_law_1913 (by decide) rfl (by decide) rfl ?_
      refine pw_goto (pc := 1916) (tgt := 28) C dL_law_1916 rfl ?_
      refine pw_sub [3, 4, 5, 6, 7, 0] (LV2 := [(0, .ref b), (1, .ref (G.2.2 + x1)), (2, .ref (G.2.2 + x2)), (3, .ref (G.2.2 + x3)), (4, .ref (G.2.2 + x4)), (5, .int (x5 + 6))]) rfl ?_
      refine pw_widen (k2 := (kc + 22)) (n2 := (kn + 170)) (by omega) (by omega) ?_
      exact hK _ _ _ _ _ _ h
    · replace h := h.2 hc
      refine pw_aload_n (pc := 1142) C 5 dL_law_1142 rfl rfl ?_
      refine pw_iconst (pc := 1143) (v := 0 ) C dL_law_1143 (by decide) ?_
      obtain ⟨hk13, h⟩ := h
      obtain ⟨hi14, h⟩ := h
      refine pw_lald (pc := 1144) C hk13 hi14 dL_law_1144 ?_
      refine pw_iload (pc := 1145) C 0 dL_law_1145 rfl ?_
      refine pw_i2l (pc := 1147) C dL_law_1147 ?_
      refine pw_lcmp (pc := 1148) C dL_law_1148 ?_
      refine pw_if_eq (pc := 1149) (tgt := 1154) C dL_law_1149 rfl ⟨fun hc => ?_, fun hc => ?_⟩
      · replace h := h.1 hc
        refine pw_goto (pc := 1154) (tgt := 1913) C dL_law_1154 rfl ?_
        refine pw_iincK (pc := 1913) (w := 6) C [(5, .int (x5 + 6)), (7, .int r8), (6, .int r3), (0, .ref b), (1, .ref (G.2.2 + x1)), (2, .ref (G.2.2 + x2)), (3, .ref (G.2.2 + x3)), (4, .ref (G.2.2 + x4))] 7 dL_law_1913 (by decide) rfl (by decide) rfl ?_
        refine pw_goto (pc := 1916) (tgt := 28) C dL_law_1916 rfl ?_
        refine pw_sub [3, 4, 5, 6, 7, 0] (LV2 := [(0, .ref b), (1, .ref (G.2.2 + x1)), (2, .ref (G.2.2 + x2)), (3, .ref (G.2.2 + x3)), (4, .ref (G.2.2 + x4)), (5, .int (x5 + 6))]) rfl ?_
        refine pw_widen (k2 := (kc + 22)) (n2 := (kn + 170)) (by omega) (by omega) ?_
        exact hK _ _ _ _ _ _ h
      · replace h := h.2 hc
        refine pw_iconst (pc := 1152) (v := 0 ) C dL_law_1152 (by decide) ?_
        exact h.elim
  · replace h := h.2 hc
    refine pw_iconst (pc := 1135) (v := 0 ) C dL_law_1135 (by decide) ?_
    exact h.elim
def wpL_law_b1157 (xs : Nat → Int32) (L : Nat) (K : PS → Nat → Nat → Nat → Nat → Int32 → Prop) (S : PS) (x1 : Nat) (x2 : Nat) (x3 : Nat) (x4 : Nat) (x5 : Int32) : Prop := (vp_in (x5 + (1 : Int32)) L ∧ (wpL_tuples S x1 (xs ((x5 + (1 : Int32))).toNatClampNeg) x3 (fun r2 S3 => (vp_in (x5 + (1 : Int32)) L ∧ (pK S3 x2 = 11 ∧ (wpX12_tuples S3 x2 (xs ((x5 + (1 : Int32))).toNatClampNeg) (fun r6 S7 => (pK S7 x2 = 11 ∧ (wpX12_thrown S7 x2 (fun r9 S10 => ((r9 = r2 → ((¬ r2 = 0 → (K S10 x1 x2 x3 x4 (x5 + 6))) ∧ (r2 = 0 → (pK S10 x3 = 14 ∧ (vp_in (0 : Int32) (pL S10 x3) ∧ (((lg_cmp (pJ S10 x3 ((0 : Int32)).toNatClampNeg) (r6.toInt64)) = 0 → (K S10 x1 x2 x3 x4 (x5 + 6))) ∧ (¬ (lg_cmp (pJ S10 x3 ((0 : Int32)).toNatClampNeg) (r6.toInt64)) = 0 → False))))))) ∧ (¬ r9 = r2 → False))))))))))))
set_option maxRecDepth 100000 in
set_option maxHeartbeats 8000000 in
theorem cbL_law_b1157 {p : Program} {l : Launch} {e : Env} {s : State} {m : MethodId} {args : Array Value} {below : List Frame} {meth : Method} {c : Code} {Q : State → Prop} {G : PG} {b L : Nat} {xs : Nat → Int32} (C : pCx p s m args meth c G cL_law 9 RL TsLaw) (hZ : pZa G) (hl : l.stackTraces = false) (hX : va_X b L xs s s.heap) (hb : b < s.heap.size) (hbG : b < G.2.2) {kc kn : Nat} {K : PS → Nat → Nat → Nat → Nat → Int32 → Prop} (hK : ∀ (S : PS) (x1 : Nat) (x2 : Nat) (x3 : Nat) (x4 : Nat) (x5 : Int32), K S x1 x2 x3 x4 x5 → PW p l e room_1 s m args below meth c Q G 9 S (kc + 22) (kn + 170) [(0, .ref b), (1, .ref (G.2.2 + x1)), (2, .ref (G.2.2 + x2)), (3, .ref (G.2.2 + x3)), (4, .ref (G.2.2 + x4)), (5, .int x5)] 28 []) (hkc : kc + 22 ≤ 601024) (hkn : kn + 170 ≤ 7293034) : ∀ (S : PS) (x1 : Nat) (x2 : Nat) (x3 : Nat) (x4 : Nat) (x5 : Int32), wpL_law_b1157 xs L K S x1 x2 x3 x4 x5 → PW p l e room_1 s m args below meth c Q G 9 S kc kn [(0, .ref b), (1, .ref (G.2.2 + x1)), (2, .ref (G.2.2 + x2)), (3, .ref (G.2.2 + x3)), (4, .ref (G.2.2 + x4)), (5, .int x5)] 1157 [] := by
  intro S x1 x2 x3 x4 x5 h
  unfold wpL_law_b1157 at h
  refine pw_aload_n (pc := 1157) C 1 dL_law_1157 rfl rfl ?_
  refine pw_aload_n (pc := 1158) C 0 dL_law_1158 rfl rfl ?_
  refine pw_iload (pc := 1159) C 5 dL_law_1159 rfl ?_
  refine pw_iconst (pc := 1161) (v := 1 ) C dL_law_1161 (by decide) ?_
  refine pw_iadd (pc := 1162) C dL_law_1162 ?_
  obtain ⟨hi1, h⟩ := h
  refine pw_sld (pc := 1163) C hX hb hbG hi1 dL_law_1163 ?_
  refine pw_aload_n (pc := 1164) C 3 dL_law_1164 rfl rfl ?_
  refine pw_calli (pc := 1165) (kc2 := (kc + 1)) (kn2 := (kn + 6)) (pRunSW (pc := 1165) C (ctL_tuples l G hZ hl  _ x1 (xs ((x5 + (1 : Int32))).toNatClampNeg) x3 _ h) (vx_cwSW 3 C.2.2.2.2.1 qgL_law_L_tuples rfl rfl rfl (by decide +kernel) ⟨Nat.le_of_ble_eq_true rfl, Nat.le_of_ble_eq_true rfl⟩) rfl rfl (Nat.le_of_ble_eq_true rfl) dL_law_1165 ⟨by show (kc + 0) + 1 ≤ 601024; omega, by show (kn + 0) + 6 ≤ 7293034; omega⟩) rfl rfl (fun r2 S3 h => ?_)
  refine pw_istore (pc := 1168) C [(6, .int r2), (0, .ref b), (1, .ref (G.2.2 + x1)), (2, .ref (G.2.2 + x2)), (3, .ref (G.2.2 + x3)), (4, .ref (G.2.2 + x4)), (5, .int x5)] dL_law_1168 (by decide) rfl ?_
  refine pw_aload_n (pc := 1170) C 3 dL_law_1170 rfl rfl ?_
  refine pw_aload_n (pc := 1171) C 1 dL_law_1171 rfl rfl ?_
  refine pw_iload (pc := 1172) C 6 dL_law_1172 rfl ?_
  refine pw_iconst (pc := 1174) (v := 1 ) C dL_law_1174 (by decide) ?_
  refine pw_iadd (pc := 1175) C dL_law_1175 ?_
  obtain ⟨hi4, h⟩ := h
  refine pw_sld (pc := 1176) C hX hb hbG hi4 dL_law_1176 ?_
  obtain ⟨hk5, h⟩ := h
  refine pw_calli (pc := 1177) (kc2 := (kc + 1)) (kn2 := (kn + 6)) (pRunV (pc := 1177) C (ctX12_tuples l G  _ x2 (xs ((x5 + (1 : Int32))).toNatClampNeg) _ h) (cwV 1 C.2.2.2.2.1 qgL_law_X12_tuples rfl rfl rfl (by decide +kernel) ⟨Nat.le_of_ble_eq_true rfl, Nat.le_of_ble_eq_true rfl⟩) pCl10 hk5 rfl rfl (Nat.le_of_ble_eq_true rfl) dL_law_1177 ⟨by show (kc + 1) + 0 ≤ 601024; omega, by show (kn + 6) + 0 ≤ 7293034; omega⟩) rfl rfl (fun r6 S7 h => ?_)
  refine pw_istore (pc := 1180) C [(7, .int r6), (6, .int r2), (0, .ref b), (1, .ref (G.2.2 + x1)), (2, .ref (G.2.2 + x2)), (3, .ref (G.2.2 + x3)), (4, .ref (G.2.2 + x4)), (5, .int x5)] dL_law_1180 (by decide) rfl ?_
  refine pw_aload_n (pc := 1182) C 4 dL_law_1182 rfl rfl ?_
  obtain ⟨hk8, h⟩ := h
  refine pw_calli (pc := 1183) (kc2 := (kc + 1)) (kn2 := (kn + 6)) (pRunV (pc := 1183) C (ctX12_thrown l G  _ x2 _ h) (cwV 0 C.2.2.2.2.1 qgL_law_X12_thrown rfl rfl rfl (by decide +kernel) ⟨Nat.le_of_ble_eq_true rfl, Nat.le_of_ble_eq_true rfl⟩) pCl10 hk8 rfl rfl (Nat.le_of_ble_eq_true rfl) dL_law_1183 ⟨by show (kc + 1) + 0 ≤ 601024; omega, by show (kn + 6) + 0 ≤ 7293034; omega⟩) rfl rfl (fun r9 S10 h => ?_)
  refine pw_iload (pc := 1186) C 1 dL_law_1186 rfl ?_
  refine pw_icmp_eq (pc := 1188) (tgt := 1193) C dL_law_1188 rfl ⟨fun hc => ?_, fun hc => ?_⟩
  · replace h := h.1 hc
    refine pw_iload (pc := 1193) C 1 dL_law_1193 rfl ?_
    refine pw_if_ne (pc := 1195) (tgt := 1210) C dL_law_1195 rfl ⟨fun hc => ?_, fun hc => ?_⟩
    · replace h := h.1 hc
      refine pw_goto (pc := 1210) (tgt := 1913) C dL_law_1210 rfl ?_
      refine pw_iincK (pc := 1913) (w := 6) C [(5, .int (x5 + 6)), (7, .int r6), (6, .int r2), (0, .ref b), (1, .ref (G.2.2 + x1)), (2, .ref (G.2.2 + x2)), (3, .ref (G.2.2 + x3)), (4, .ref (G.2.2 + x4))] 7 dL_law_1913 (by decide) rfl (by decide) rfl ?_
      refine pw_goto (pc := 1916) (tgt := 28) C dL_law_1916 rfl ?_
      refine pw_sub [3, 4, 5, 6, 7, 0] (LV2 := [(0, .ref b), (1, .ref (G.2.2 + x1)), (2, .ref (G.2.2 + x2)), (3, .ref (G.2.2 + x3)), (4, .ref (G.2.2 + x4)), (5, .int (x5 + 6))]) rfl ?_
      refine pw_widen (k2 := (kc + 22)) (n2 := (kn + 170)) (by omega) (by omega) ?_
      exact hK _ _ _ _ _ _ h
    · replace h := h.2 hc
      refine pw_aload_n (pc := 1198) C 5 dL_law_1198 rfl rfl ?_
      refine pw_iconst (pc := 1199) (v := 0 ) C dL_law_1199 (by decide) ?_
      obtain ⟨hk11, h⟩ := h
      obtain ⟨hi12, h⟩ := h
      refine pw_lald (pc := 1200) C hk11 hi12 dL_law_1200 ?_
      refine pw_iload (pc := 1201) C 0 dL_law_1201 rfl ?_
      refine pw_i2l (pc := 1203) C dL_law_1203 ?_
      refine pw_lcmp (pc := 1204) C dL_law_1204 ?_
      refine pw_if_eq (pc := 1205) (tgt := 1210) C dL_law_1205 rfl ⟨fun hc => ?_, fun hc => ?_⟩
      · replace h := h.1 hc
        refine pw_goto (pc := 1210) (tgt := 1913) C dL_law_1210 rfl ?_
        refine pw_iincK (pc := 1913) (w := 6) C [(5, .int (x5 + 6)), (7, .int r6), (6, .int r2), (0, .ref b), (1, .ref (G.2.2 + x1)), (2, .ref (G.2.2 + x2)), (3, .ref (G.2.2 + x3)), (4, .ref (G.2.2 + x4))] 7 dL_law_1913 (by decide) rfl (by decide) rfl ?_
        refine pw_goto (pc := 1916) (tgt := 28) C dL_law_1916 rfl ?_
        refine pw_sub [3, 4, 5, 6, 7, 0] (LV2 := [(0, .ref b), (1, .ref (G.2.2 + x1)), (2, .ref (G.2.2 + x2)), (3, .ref (G.2.2 + x3)), (4, .ref (G.2.2 + x4)), (5, .int (x5 + 6))]) rfl ?_
        refine pw_widen (k2 := (kc + 22)) (n2 := (kn + 170)) (by omega) (by omega) ?_
        exact hK _ _ _ _ _ _ h
      · replace h := h.2 hc
        refine pw_iconst (pc := 1208) (v := 0 ) C dL_law_1208 (by decide) ?_
        exact h.elim
  · replace h := h.2 hc
    refine pw_iconst (pc := 1191) (v := 0 ) C dL_law_1191 (by decide) ?_
    exact h.elim
def wpL_law_b1213 (xs : Nat → Int32) (L : Nat) (K : PS → Nat → Nat → Nat → Nat → Int32 → Prop) (S : PS) (x1 : Nat) (x2 : Nat) (x3 : Nat) (x4 : Nat) (x5 : Int32) : Prop := (vp_in (x5 + (1 : Int32)) L ∧ (wpL_tightness S x1 (xs ((x5 + (1 : Int32))).toNatClampNeg) x4 (fun r2 S3 => (vp_in (x5 + (1 : Int32)) L ∧ (pK S3 x2 = 11 ∧ (wpX12_tightness S3 x2 (xs ((x5 + (1 : Int32))).toNatClampNeg) (fun r6 S7 => (pK S7 x2 = 11 ∧ (wpX12_thrown S7 x2 (fun r9 S10 => ((r9 = r2 → ((¬ r2 = 0 → (K S10 x1 x2 x3 x4 (x5 + 6))) ∧ (r2 = 0 → (pK S10 x4 = 18 ∧ (vp_in (0 : Int32) (pL S10 x4) ∧ (((Op.cmpValue (FP.dcmp (pJ S10 x4 ((0 : Int32)).toNatClampNeg).toUInt64 r6) .l) = 0 → (K S10 x1 x2 x3 x4 (x5 + 6))) ∧ (¬ (Op.cmpValue (FP.dcmp (pJ S10 x4 ((0 : Int32)).toNatClampNeg).toUInt64 r6) .l) = 0 → (vp_in (0 : Int32) (pL S10 x4) ∧ (vp_in (0 : Int32) (pL S10 x4) ∧ (((Op.cmpValue (FP.dcmp (pJ S10 x4 ((0 : Int32)).toNatClampNeg).toUInt64 (pJ S10 x4 ((0 : Int32)).toNatClampNeg).toUInt64) .l) = 0 → False) ∧ (¬ (Op.cmpValue (FP.dcmp (pJ S10 x4 ((0 : Int32)).toNatClampNeg).toUInt64 (pJ S10 x4 ((0 : Int32)).toNatClampNeg).toUInt64) .l) = 0 → ((¬ (Op.cmpValue (FP.dcmp r6 r6) .l) = 0 → (K S10 x1 x2 x3 x4 (x5 + 6))) ∧ ((Op.cmpValue (FP.dcmp r6 r6) .l) = 0 → False))))))))))))) ∧ (¬ r9 = r2 → False))))))))))))
set_option maxRecDepth 100000 in
set_option maxHeartbeats 8000000 in
theorem cbL_law_b1213 {p : Program} {l : Launch} {e : Env} {s : State} {m : MethodId} {args : Array Value} {below : List Frame} {meth : Method} {c : Code} {Q : State → Prop} {G : PG} {b L : Nat} {xs : Nat → Int32} (C : pCx p s m args meth c G cL_law 9 RL TsLaw) (hZ : pZa G) (hl : l.stackTraces = false) (hX : va_X b L xs s s.heap) (hb : b < s.heap.size) (hbG : b < G.2.2) {kc kn : Nat} {K : PS → Nat → Nat → Nat → Nat → Int32 → Prop} (hK : ∀ (S : PS) (x1 : Nat) (x2 : Nat) (x3 : Nat) (x4 : Nat) (x5 : Int32), K S x1 x2 x3 x4 x5 → PW p l e room_1 s m args below meth c Q G 9 S (kc + 22) (kn + 170) [(0, .ref b), (1, .ref (G.2.2 + x1)), (2, .ref (G.2.2 + x2)), (3, .ref (G.2.2 + x3)), (4, .ref (G.2.2 + x4)), (5, .int x5)] 28 []) (hkc : kc + 22 ≤ 601024) (hkn : kn + 170 ≤ 7293034) : ∀ (S : PS) (x1 : Nat) (x2 : Nat) (x3 : Nat) (x4 : Nat) (x5 : Int32), wpL_law_b1213 xs L K S x1 x2 x3 x4 x5 → PW p l e room_1 s m args below meth c Q G 9 S kc kn [(0, .ref b), (1, .ref (G.2.2 + x1)), (2, .ref (G.2.2 + x2)), (3, .ref (G.2.2 + x3)), (4, .ref (G.2.2 + x4)), (5, .int x5)] 1213 [] := by
  intro S x1 x2 x3 x4 x5 h
  unfold wpL_law_b1213 at h
  refine pw_aload_n (pc := 1213) C 1 dL_law_1213 rfl rfl ?_
  refine pw_aload_n (pc := 1214) C 0 dL_law_1214 rfl rfl ?_
  refine pw_iload (pc := 1215) C 5 dL_law_1215 rfl ?_
  refine pw_iconst (pc := 1217) (v := 1 ) C dL_law_1217 (by decide) ?_
  refine pw_iadd (pc := 1218) C dL_law_1218 ?_
  obtain ⟨hi1, h⟩ := h
  refine pw_sld (pc := 1219) C hX hb hbG hi1 dL_law_1219 ?_
  refine pw_aload (pc := 1220) C 4 dL_law_1220 rfl ?_
  refine pw_calli (pc := 1222) (kc2 := (kc + 1)) (kn2 := (kn + 6)) (pRunSW (pc := 1222) C (ctL_tightness l G hZ hl  _ x1 (xs ((x5 + (1 : Int32))).toNatClampNeg) x4 _ h) (vx_cwSW 3 C.2.2.2.2.1 qgL_law_L_tightness rfl rfl rfl (by decide +kernel) ⟨Nat.le_of_ble_eq_true rfl, Nat.le_of_ble_eq_true rfl⟩) rfl rfl (Nat.le_of_ble_eq_true rfl) dL_law_1222 ⟨by show (kc + 0) + 1 ≤ 601024; omega, by show (kn + 0) + 6 ≤ 7293034; omega⟩) rfl rfl (fun r2 S3 h => ?_)
  refine pw_istore (pc := 1225) C [(6, .int r2), (0, .ref b), (1, .ref (G.2.2 + x1)), (2, .ref (G.2.2 + x2)), (3, .ref (G.2.2 + x3)), (4, .ref (G.2.2 + x4)), (5, .int x5)] dL_law_1225 (by decide) rfl ?_
  refine pw_aload_n (pc := 1227) C 3 dL_law_1227 rfl rfl ?_
  refine pw_aload_n (pc := 1228) C 1 dL_law_1228 rfl rfl ?_
  refine pw_iload (pc := 1229) C 6 dL_law_1229 rfl ?_
  refine pw_iconst (pc := 1231) (v := 1 ) C dL_law_1231 (by decide) ?_
  refine pw_iadd (pc := 1232) C dL_law_1232 ?_
  obtain ⟨hi4, h⟩ := h
  refine pw_sld (pc := 1233) C hX hb hbG hi4 dL_law_1233 ?_
  obtain ⟨hk5, h⟩ := h
  refine pw_calld (pc := 1234) (kc2 := (kc + 1)) (kn2 := (kn + 6)) (pRunV (pc := 1234) C (ctX12_tightness l G  _ x2 (xs ((x5 + (1 : Int32))).toNatClampNeg) _ h) (cwV 1 C.2.2.2.2.1 qgL_law_X12_tightness rfl rfl rfl (by decide +kernel) ⟨Nat.le_of_ble_eq_true rfl, Nat.le_of_ble_eq_true rfl⟩) pCl10 hk5 rfl rfl (Nat.le_of_ble_eq_true rfl) dL_law_1234 ⟨by show (kc + 1) + 0 ≤ 601024; omega, by show (kn + 6) + 0 ≤ 7293034; omega⟩) rfl rfl (fun r6 S7 h => ?_)
  refine pw_dstore (pc := 1237) C [(7, .double r6), (6, .int r2), (0, .ref b), (1, .ref (G.2.2 + x1)), (2, .ref (G.2.2 + x2)), (3, .ref (G.2.2 + x3)), (4, .ref (G.2.2 + x4)), (5, .int x5)] dL_law_1237 (by decide) rfl ?_
  refine pw_aload_n (pc := 1239) C 4 dL_law_1239 rfl rfl ?_
  obtain ⟨hk8, h⟩ := h
  refine pw_calli (pc := 1240) (kc2 := (kc + 1)) (kn2 := (kn + 6)) (pRunV (pc := 1240) C (ctX12_thrown l G  _ x2 _ h) (cwV 0 C.2.2.2.2.1 qgL_law_X12_thrown rfl rfl rfl (by decide +kernel) ⟨Nat.le_of_ble_eq_true rfl, Nat.le_of_ble_eq_true rfl⟩) pCl10 hk8 rfl rfl (Nat.le_of_ble_eq_true rfl) dL_law_1240 ⟨by show (kc + 1) + 0 ≤ 601024; omega, by show (kn + 6) + 0 ≤ 7293034; omega⟩) rfl rfl (fun r9 S10 h => ?_)
  refine pw_iload (pc := 1243) C 1 dL_law_1243 rfl ?_
  refine pw_icmp_eq (pc := 1245) (tgt := 1250) C dL_law_1245 rfl ⟨fun hc => ?_, fun hc => ?_⟩
  · replace h := h.1 hc
    refine pw_iload (pc := 1250) C 1 dL_law_1250 rfl ?_
    refine pw_if_ne (pc := 1252) (tgt := 1287) C dL_law_1252 rfl ⟨fun hc => ?_, fun hc => ?_⟩
    · replace h := h.1 hc
      refine pw_goto (pc := 1287) (tgt := 1913) C dL_law_1287 rfl ?_
      refine pw_iincK (pc := 1913) (w := 6) C [(5, .int (x5 + 6)), (7, .double r6), (6, .int r2), (0, .ref b), (1, .ref (G.2.2 + x1)), (2, .ref (G.2.2 + x2)), (3, .ref (G.2.2 + x3)), (4, .ref (G.2.2 + x4))] 7 dL_law_1913 (by decide) rfl (by decide) rfl ?_
      refine pw_goto (pc := 1916) (tgt := 28) C dL_law_1916 rfl ?_
      refine pw_sub [3, 4, 5, 6, 7, 0] (LV2 := [(0, .ref b), (1, .ref (G.2.2 + x1)), (2, .ref (G.2.2 + x2)), (3, .ref (G.2.2 + x3)), (4, .ref (G.2.2 + x4)), (5, .int (x5 + 6))]) rfl ?_
      refine pw_widen (k2 := (kc + 22)) (n2 := (kn + 170)) (by omega) (by omega) ?_
      exact hK _ _ _ _ _ _ h
    · replace h := h.2 hc
      refine pw_aload (pc := 1255) C 6 dL_law_1255 rfl ?_
      refine pw_iconst (pc := 1257) (v := 0 ) C dL_law_1257 (by decide) ?_
      obtain ⟨hk11, h⟩ := h
      obtain ⟨hi12, h⟩ := h
      refine pw_dald (pc := 1258) C hk11 hi12 dL_law_1258 ?_
      refine pw_dload (pc := 1259) C 0 dL_law_1259 rfl ?_
      refine pw_dcmp (pc := 1261) C dL_law_1261 ?_
      refine pw_if_eq (pc := 1262) (tgt := 1287) C dL_law_1262 rfl ⟨fun hc => ?_, fun hc => ?_⟩
      · replace h := h.1 hc
        refine pw_goto (pc := 1287) (tgt := 1913) C dL_law_1287 rfl ?_
        refine pw_iincK (pc := 1913) (w := 6) C [(5, .int (x5 + 6)), (7, .double r6), (6, .int r2), (0, .ref b), (1, .ref (G.2.2 + x1)), (2, .ref (G.2.2 + x2)), (3, .ref (G.2.2 + x3)), (4, .ref (G.2.2 + x4))] 7 dL_law_1913 (by decide) rfl (by decide) rfl ?_
        refine pw_goto (pc := 1916) (tgt := 28) C dL_law_1916 rfl ?_
        refine pw_sub [3, 4, 5, 6, 7, 0] (LV2 := [(0, .ref b), (1, .ref (G.2.2 + x1)), (2, .ref (G.2.2 + x2)), (3, .ref (G.2.2 + x3)), (4, .ref (G.2.2 + x4)), (5, .int (x5 + 6))]) rfl ?_
        refine pw_widen (k2 := (kc + 22)) (n2 := (kn + 170)) (by omega) (by omega) ?_
        exact hK _ _ _ _ _ _ h
      · replace h := h.2 hc
        refine pw_aload (pc := 1265) C 6 dL_law_1265 rfl ?_
        refine pw_iconst (pc := 1267) (v := 0 ) C dL_law_1267 (by decide) ?_
        obtain ⟨hi13, h⟩ := h
        refine pw_dald (pc := 1268) C hk11 hi13 dL_law_1268 ?_
        refine pw_aload (pc := 1269) C 6 dL_law_1269 rfl ?_
        refine pw_iconst (pc := 1271) (v := 0 ) C dL_law_1271 (by decide) ?_
        obtain ⟨hi14, h⟩ := h
        refine pw_dald (pc := 1272) C hk11 hi14 dL_law_1272 ?_
        refine pw_dcmp (pc := 1273) C dL_law_1273 ?_
        refine pw_if_eq (pc := 1274) (tgt := 1285) C dL_law_1274 rfl ⟨fun hc => ?_, fun hc => ?_⟩
        · replace h := h.1 hc
          refine pw_iconst (pc := 1285) (v := 0 ) C dL_law_1285 (by decide) ?_
          exact h.elim
        · replace h := h.2 hc
          refine pw_dload (pc := 1277) C 0 dL_law_1277 rfl ?_
          refine pw_dload (pc := 1279) C 0 dL_law_1279 rfl ?_
          refine pw_dcmp (pc := 1281) C dL_law_1281 ?_
          refine pw_if_ne (pc := 1282) (tgt := 1287) C dL_law_1282 rfl ⟨fun hc => ?_, fun hc => ?_⟩
          · replace h := h.1 hc
            refine pw_goto (pc := 1287) (tgt := 1913) C dL_law_1287 rfl ?_
            refine pw_iincK (pc := 1913) (w := 6) C [(5, .int (x5 + 6)), (7, .double r6), (6, .int r2), (0, .ref b), (1, .ref (G.2.2 + x1)), (2, .ref (G.2.2 + x2)), (3, .ref (G.2.2 + x3)), (4, .ref (G.2.2 + x4))] 7 dL_law_1913 (by decide) rfl (by decide) rfl ?_
            refine pw_goto (pc := 1916) (tgt := 28) C dL_law_1916 rfl ?_
            refine pw_sub [3, 4, 5, 6, 7, 0] (LV2 := [(0, .ref b), (1, .ref (G.2.2 + x1)), (2, .ref (G.2.2 + x2)), (3, .ref (G.2.2 + x3)), (4, .ref (G.2.2 + x4)), (5, .int (x5 + 6))]) rfl ?_
            refine pw_widen (k2 := (kc + 22)) (n2 := (kn + 170)) (by omega) (by omega) ?_
            exact hK _ _ _ _ _ _ h
          · replace h := h.2 hc
            refine pw_iconst (pc := 1285) (v := 0 ) C dL_law_1285 (by decide) ?_
            exact h.elim
  · replace h := h.2 hc
    refine pw_iconst (pc := 1248) (v := 0 ) C dL_law_1248 (by decide) ?_
    exact h.elim
def wpL_law_b1290 (xs : Nat → Int32) (L : Nat) (K : PS → Nat → Nat → Nat → Nat → Int32 → Prop) (S : PS) (x1 : Nat) (x2 : Nat) (x3 : Nat) (x4 : Nat) (x5 : Int32) : Prop := (pK S x1 = 10 ∧ (wpX11_solutions S x1 (fun r2 S3 => (pK S3 x2 = 11 ∧ (wpX12_solutions S3 x2 (fun r5 S6 => ((r2 = r5 → (K S6 x1 x2 x3 x4 (x5 + 6))) ∧ (¬ r2 = r5 → False))))))))
set_option maxRecDepth 100000 in
set_option maxHeartbeats 8000000 in
theorem cbL_law_b1290 {p : Program} {l : Launch} {e : Env} {s : State} {m : MethodId} {args : Array Value} {below : List Frame} {meth : Method} {c : Code} {Q : State → Prop} {G : PG} {b L : Nat} {xs : Nat → Int32} (C : pCx p s m args meth c G cL_law 9 RL TsLaw) (hZ : pZa G) (hl : l.stackTraces = false) (hX : va_X b L xs s s.heap) (hb : b < s.heap.size) (hbG : b < G.2.2) {kc kn : Nat} {K : PS → Nat → Nat → Nat → Nat → Int32 → Prop} (hK : ∀ (S : PS) (x1 : Nat) (x2 : Nat) (x3 : Nat) (x4 : Nat) (x5 : Int32), K S x1 x2 x3 x4 x5 → PW p l e room_1 s m args below meth c Q G 9 S (kc + 22) (kn + 170) [(0, .ref b), (1, .ref (G.2.2 + x1)), (2, .ref (G.2.2 + x2)), (3, .ref (G.2.2 + x3)), (4, .ref (G.2.2 + x4)), (5, .int x5)] 28 []) (hkc : kc + 22 ≤ 601024) (hkn : kn + 170 ≤ 7293034) : ∀ (S : PS) (x1 : Nat) (x2 : Nat) (x3 : Nat) (x4 : Nat) (x5 : Int32), wpL_law_b1290 xs L K S x1 x2 x3 x4 x5 → PW p l e room_1 s m args below meth c Q G 9 S kc kn [(0, .ref b), (1, .ref (G.2.2 + x1)), (2, .ref (G.2.2 + x2)), (3, .ref (G.2.2 + x3)), (4, .ref (G.2.2 + x4)), (5, .int x5)] 1290 [] := by
  intro S x1 x2 x3 x4 x5 h
  unfold wpL_law_b1290 at h
  refine pw_aload_n (pc := 1290) C 1 dL_law_1290 rfl rfl ?_
  obtain ⟨hk1, h⟩ := h
  refine pw_calli (pc := 1291) (kc2 := (kc + 0)) (kn2 := (kn + 0)) (pRunV (pc := 1291) C (ctX11_solutions l G hZ  _ x1 _ h) (cwV 0 C.2.2.2.2.1 qgL_law_X11_solutions rfl rfl rfl (by decide +kernel) ⟨Nat.le_of_ble_eq_true rfl, Nat.le_of_ble_eq_true rfl⟩) pCl9 hk1 rfl rfl (Nat.le_of_ble_eq_true rfl) dL_law_1291 ⟨by show (kc + 0) + 0 ≤ 601024; omega, by show (kn + 0) + 0 ≤ 7293034; omega⟩) rfl rfl (fun r2 S3 h => ?_)
  refine pw_aload_n (pc := 1294) C 2 dL_law_1294 rfl rfl ?_
  obtain ⟨hk4, h⟩ := h
  refine pw_calli (pc := 1295) (kc2 := (kc + 0)) (kn2 := (kn + 0)) (pRunV (pc := 1295) C (ctX12_solutions l G  _ x2 _ h) (cwV 0 C.2.2.2.2.1 qgL_law_X12_solutions rfl rfl rfl (by decide +kernel) ⟨Nat.le_of_ble_eq_true rfl, Nat.le_of_ble_eq_true rfl⟩) pCl10 hk4 rfl rfl (Nat.le_of_ble_eq_true rfl) dL_law_1295 ⟨by show (kc + 0) + 0 ≤ 601024; omega, by show (kn + 0) + 0 ≤ 7293034; omega⟩) rfl rfl (fun r5 S6 h => ?_)
  refine pw_icmp_eq (pc := 1298) (tgt := 1913) C dL_law_1298 rfl ⟨fun hc => ?_, fun hc => ?_⟩
  · replace h := h.1 hc
    refine pw_iincK (pc := 1913) (w := 6) C [(5, .int (x5 + 6)), (0, .ref b), (1, .ref (G.2.2 + x1)), (2, .ref (G.2.2 + x2)), (3, .ref (G.2.2 + x3)), (4, .ref (G.2.2 + x4))] 5 dL_law_1913 (by decide) rfl (by decide) rfl ?_
    refine pw_goto (pc := 1916) (tgt := 28) C dL_law_1916 rfl ?_
    refine pw_sub [1, 2, 3, 4, 5, 0] (LV2 := [(0, .ref b), (1, .ref (G.2.2 + x1)), (2, .ref (G.2.2 + x2)), (3, .ref (G.2.2 + x3)), (4, .ref (G.2.2 + x4)), (5, .int (x5 + 6))]) rfl ?_
    refine pw_widen (k2 := (kc + 22)) (n2 := (kn + 170)) (by omega) (by omega) ?_
    exact hK _ _ _ _ _ _ h
  · replace h := h.2 hc
    refine pw_iconst (pc := 1301) (v := 0 ) C dL_law_1301 (by decide) ?_
    exact h.elim
def wpL_law_b1303 (xs : Nat → Int32) (L : Nat) (K : PS → Nat → Nat → Nat → Nat → Int32 → Prop) (S : PS) (x1 : Nat) (x2 : Nat) (x3 : Nat) (x4 : Nat) (x5 : Int32) : Prop := (vp_in (x5 + (1 : Int32)) L ∧ (wpL_first S x1 (xs ((x5 + (1 : Int32))).toNatClampNeg) x3 (fun r2 S3 => (vp_in (x5 + (1 : Int32)) L ∧ (pK S3 x2 = 11 ∧ (wpX12_first S3 x2 (xs ((x5 + (1 : Int32))).toNatClampNeg) (fun r6 S7 => (pK S7 x2 = 11 ∧ (wpX12_thrown S7 x2 (fun r9 S10 => ((r9 = r2 → ((¬ r2 = 0 → (K S10 x1 x2 x3 x4 (x5 + 6))) ∧ (r2 = 0 → (pK S10 x3 = 14 ∧ (vp_in (0 : Int32) (pL S10 x3) ∧ (((lg_cmp (pJ S10 x3 ((0 : Int32)).toNatClampNeg) (r6.toInt64)) = 0 → (K S10 x1 x2 x3 x4 (x5 + 6))) ∧ (¬ (lg_cmp (pJ S10 x3 ((0 : Int32)).toNatClampNeg) (r6.toInt64)) = 0 → False))))))) ∧ (¬ r9 = r2 → False))))))))))))
set_option maxRecDepth 100000 in
set_option maxHeartbeats 8000000 in
theorem cbL_law_b1303 {p : Program} {l : Launch} {e : Env} {s : State} {m : MethodId} {args : Array Value} {below : List Frame} {meth : Method} {c : Code} {Q : State → Prop} {G : PG} {b L : Nat} {xs : Nat → Int32} (C : pCx p s m args meth c G cL_law 9 RL TsLaw) (hZ : pZa G) (hl : l.stackTraces = false) (hX : va_X b L xs s s.heap) (hb : b < s.heap.size) (hbG : b < G.2.2) {kc kn : Nat} {K : PS → Nat → Nat → Nat → Nat → Int32 → Prop} (hK : ∀ (S : PS) (x1 : Nat) (x2 : Nat) (x3 : Nat) (x4 : Nat) (x5 : Int32), K S x1 x2 x3 x4 x5 → PW p l e room_1 s m args below meth c Q G 9 S (kc + 22) (kn + 170) [(0, .ref b), (1, .ref (G.2.2 + x1)), (2, .ref (G.2.2 + x2)), (3, .ref (G.2.2 + x3)), (4, .ref (G.2.2 + x4)), (5, .int x5)] 28 []) (hkc : kc + 22 ≤ 601024) (hkn : kn + 170 ≤ 7293034) : ∀ (S : PS) (x1 : Nat) (x2 : Nat) (x3 : Nat) (x4 : Nat) (x5 : Int32), wpL_law_b1303 xs L K S x1 x2 x3 x4 x5 → PW p l e room_1 s m args below meth c Q G 9 S kc kn [(0, .ref b), (1, .ref (G.2.2 + x1)), (2, .ref (G.2.2 + x2)), (3, .ref (G.2.2 + x3)), (4, .ref (G.2.2 + x4)), (5, .int x5)] 1303 [] := by
  intro S x1 x2 x3 x4 x5 h
  unfold wpL_law_b1303 at h
  refine pw_aload_n (pc := 1303) C 1 dL_law_1303 rfl rfl ?_
  refine pw_aload_n (pc := 1304) C 0 dL_law_1304 rfl rfl ?_
  refine pw_iload (pc := 1305) C 5 dL_law_1305 rfl ?_
  refine pw_iconst (pc := 1307) (v := 1 ) C dL_law_1307 (by decide) ?_
  refine pw_iadd (pc := 1308) C dL_law_1308 ?_
  obtain ⟨hi1, h⟩ := h
  refine pw_sld (pc := 1309) C hX hb hbG hi1 dL_law_1309 ?_
  refine pw_aload_n (pc := 1310) C 3 dL_law_1310 rfl rfl ?_
  refine pw_calli (pc := 1311) (kc2 := (kc + 1)) (kn2 := (kn + 6)) (pRunSW (pc := 1311) C (ctL_first l G hZ hl  _ x1 (xs ((x5 + (1 : Int32))).toNatClampNeg) x3 _ h) (vx_cwSW 3 C.2.2.2.2.1 qgL_law_L_first rfl rfl rfl (by decide +kernel) ⟨Nat.le_of_ble_eq_true rfl, Nat.le_of_ble_eq_true rfl⟩) rfl rfl (Nat.le_of_ble_eq_true rfl) dL_law_1311 ⟨by show (kc + 0) + 1 ≤ 601024; omega, by show (kn + 0) + 6 ≤ 7293034; omega⟩) rfl rfl (fun r2 S3 h => ?_)
  refine pw_istore (pc := 1314) C [(6, .int r2), (0, .ref b), (1, .ref (G.2.2 + x1)), (2, .ref (G.2.2 + x2)), (3, .ref (G.2.2 + x3)), (4, .ref (G.2.2 + x4)), (5, .int x5)] dL_law_1314 (by decide) rfl ?_
  refine pw_aload_n (pc := 1316) C 3 dL_law_1316 rfl rfl ?_
  refine pw_aload_n (pc := 1317) C 1 dL_law_1317 rfl rfl ?_
  refine pw_iload (pc := 1318) C 6 dL_law_1318 rfl ?_
  refine pw_iconst (pc := 1320) (v := 1 ) C dL_law_1320 (by decide) ?_
  refine pw_iadd (pc := 1321) C dL_law_1321 ?_
  obtain ⟨hi4, h⟩ := h
  refine pw_sld (pc := 1322) C hX hb hbG hi4 dL_law_1322 ?_
  obtain ⟨hk5, h⟩ := h
  refine pw_calli (pc := 1323) (kc2 := (kc + 1)) (kn2 := (kn + 6)) (pRunV (pc := 1323) C (ctX12_first l G  _ x2 (xs ((x5 + (1 : Int32))).toNatClampNeg) _ h) (cwV 1 C.2.2.2.2.1 qgL_law_X12_first rfl rfl rfl (by decide +kernel) ⟨Nat.le_of_ble_eq_true rfl, Nat.le_of_ble_eq_true rfl⟩) pCl10 hk5 rfl rfl (Nat.le_of_ble_eq_true rfl) dL_law_1323 ⟨by show (kc + 1) + 0 ≤ 601024; omega, by show (kn + 6) + 0 ≤ 7293034; omega⟩) rfl rfl (fun r6 S7 h => ?_)
  refine pw_istore (pc := 1326) C [(7, .int r6), (6, .int r2), (0, .ref b), (1, .ref (G.2.2 + x1)), (2, .ref (G.2.2 + x2)), (3, .ref (G.2.2 + x3)), (4, .ref (G.2.2 + x4)), (5, .int x5)] dL_law_1326 (by decide) rfl ?_
  refine pw_aload_n (pc := 1328) C 4 dL_law_1328 rfl rfl ?_
  obtain ⟨hk8, h⟩ := h
  refine pw_calli (pc := 1329) (kc2 := (kc + 1)) (kn2 := (kn + 6)) (pRunV (pc := 1329) C (ctX12_thrown l G  _ x2 _ h) (cwV 0 C.2.2.2.2.1 qgL_law_X12_thrown rfl rfl rfl (by decide +kernel) ⟨Nat.le_of_ble_eq_true rfl, Nat.le_of_ble_eq_true rfl⟩) pCl10 hk8 rfl rfl (Nat.le_of_ble_eq_true rfl) dL_law_1329 ⟨by show (kc + 1) + 0 ≤ 601024; omega, by show (kn + 6) + 0 ≤ 7293034; omega⟩) rfl rfl (fun r9 S10 h => ?_)
  refine pw_iload (pc := 1332) C 1 dL_law_1332 rfl ?_
  refine pw_icmp_eq (pc := 1334) (tgt := 1339) C dL_law_1334 rfl ⟨fun hc => ?_, fun hc => ?_⟩
  · replace h := h.1 hc
    refine pw_iload (pc := 1339) C 1 dL_law_1339 rfl ?_
    refine pw_if_ne (pc := 1341) (tgt := 1356) C dL_law_1341 rfl ⟨fun hc => ?_, fun hc => ?_⟩
    · replace h := h.1 hc
      refine pw_goto (pc := 1356) (tgt := 1913) C dL_law_1356 rfl ?_
      refine pw_iincK (pc := 1913) (w := 6) C [(5, .int (x5 + 6)), (7, .int r6), (6, .int r2), (0, .ref b), (1, .ref (G.2.2 + x1)), (2, .ref (G.2.2 + x2)), (3, .ref (G.2.2 + x3)), (4, .ref (G.2.2 + x4))] 7 dL_law_1913 (by decide) rfl (by decide) rfl ?_
      refine pw_goto (pc := 1916) (tgt := 28) C dL_law_1916 rfl ?_
      refine pw_sub [3, 4, 5, 6, 7, 0] (LV2 := [(0, .ref b), (1, .ref (G.2.2 + x1)), (2, .ref (G.2.2 + x2)), (3, .ref (G.2.2 + x3)), (4, .ref (G.2.2 + x4)), (5, .int (x5 + 6))]) rfl ?_
      refine pw_widen (k2 := (kc + 22)) (n2 := (kn + 170)) (by omega) (by omega) ?_
      exact hK _ _ _ _ _ _ h
    · replace h := h.2 hc
      refine pw_aload_n (pc := 1344) C 5 dL_law_1344 rfl rfl ?_
      refine pw_iconst (pc := 1345) (v := 0 ) C dL_law_1345 (by decide) ?_
      obtain ⟨hk11, h⟩ := h
      obtain ⟨hi12, h⟩ := h
      refine pw_lald (pc := 1346) C hk11 hi12 dL_law_1346 ?_
      refine pw_iload (pc := 1347) C 0 dL_law_1347 rfl ?_
      refine pw_i2l (pc := 1349) C dL_law_1349 ?_
      refine pw_lcmp (pc := 1350) C dL_law_1350 ?_
      refine pw_if_eq (pc := 1351) (tgt := 1356) C dL_law_1351 rfl ⟨fun hc => ?_, fun hc => ?_⟩
      · replace h := h.1 hc
        refine pw_goto (pc := 1356) (tgt := 1913) C dL_law_1356 rfl ?_
        refine pw_iincK (pc := 1913) (w := 6) C [(5, .int (x5 + 6)), (7, .int r6), (6, .int r2), (0, .ref b), (1, .ref (G.2.2 + x1)), (2, .ref (G.2.2 + x2)), (3, .ref (G.2.2 + x3)), (4, .ref (G.2.2 + x4))] 7 dL_law_1913 (by decide) rfl (by decide) rfl ?_
        refine pw_goto (pc := 1916) (tgt := 28) C dL_law_1916 rfl ?_
        refine pw_sub [3, 4, 5, 6, 7, 0] (LV2 := [(0, .ref b), (1, .ref (G.2.2 + x1)), (2, .ref (G.2.2 + x2)), (3, .ref (G.2.2 + x3)), (4, .ref (G.2.2 + x4)), (5, .int (x5 + 6))]) rfl ?_
        refine pw_widen (k2 := (kc + 22)) (n2 := (kn + 170)) (by omega) (by omega) ?_
        exact hK _ _ _ _ _ _ h
      · replace h := h.2 hc
        refine pw_iconst (pc := 1354) (v := 0 ) C dL_law_1354 (by decide) ?_
        exact h.elim
  · replace h := h.2 hc
    refine pw_iconst (pc := 1337) (v := 0 ) C dL_law_1337 (by decide) ?_
    exact h.elim
def wpL_law_b1359 (xs : Nat → Int32) (L : Nat) (K : PS → Nat → Nat → Nat → Nat → Int32 → Prop) (S : PS) (x1 : Nat) (x2 : Nat) (x3 : Nat) (x4 : Nat) (x5 : Int32) : Prop := (vp_in (x5 + (1 : Int32)) L ∧ (wpL_possible S x1 (xs ((x5 + (1 : Int32))).toNatClampNeg) x3 (fun r2 S3 => (vp_in (x5 + (1 : Int32)) L ∧ (pK S3 x2 = 11 ∧ (wpX12_possible S3 x2 (xs ((x5 + (1 : Int32))).toNatClampNeg) (fun r6 S7 => (pK S7 x2 = 11 ∧ (wpX12_thrown S7 x2 (fun r9 S10 => ((r9 = r2 → ((¬ r2 = 0 → (K S10 x1 x2 x3 x4 (x5 + 6))) ∧ (r2 = 0 → (pK S10 x3 = 14 ∧ (vp_in (0 : Int32) (pL S10 x3) ∧ (((lg_cmp (pJ S10 x3 ((0 : Int32)).toNatClampNeg) (r6.toInt64)) = 0 → (K S10 x1 x2 x3 x4 (x5 + 6))) ∧ (¬ (lg_cmp (pJ S10 x3 ((0 : Int32)).toNatClampNeg) (r6.toInt64)) = 0 → False))))))) ∧ (¬ r9 = r2 → False))))))))))))
set_option maxRecDepth 100000 in
set_option maxHeartbeats 8000000 in
theorem cbL_law_b1359 {p : Program} {l : Launch} {e : Env} {s : State} {m : MethodId} {args : Array Value} {below : List Frame} {meth : Method} {c : Code} {Q : State → Prop} {G : PG} {b L : Nat} {xs : Nat → Int32} (C : pCx p s m args meth c G cL_law 9 RL TsLaw) (hZ : pZa G) (hl : l.stackTraces = false) (hX : va_X b L xs s s.heap) (hb : b < s.heap.size) (hbG : b < G.2.2) {kc kn : Nat} {K : PS → Nat → Nat → Nat → Nat → Int32 → Prop} (hK : ∀ (S : PS) (x1 : Nat) (x2 : Nat) (x3 : Nat) (x4 : Nat) (x5 : Int32), K S x1 x2 x3 x4 x5 → PW p l e room_1 s m args below meth c Q G 9 S (kc + 22) (kn + 170) [(0, .ref b), (1, .ref (G.2.2 + x1)), (2, .ref (G.2.2 + x2)), (3, .ref (G.2.2 + x3)), (4, .ref (G.2.2 + x4)), (5, .int x5)] 28 []) (hkc : kc + 22 ≤ 601024) (hkn : kn + 170 ≤ 7293034) : ∀ (S : PS) (x1 : Nat) (x2 : Nat) (x3 : Nat) (x4 : Nat) (x5 : Int32), wpL_law_b1359 xs L K S x1 x2 x3 x4 x5 → PW p l e room_1 s m args below meth c Q G 9 S kc kn [(0, .ref b), (1, .ref (G.2.2 + x1)), (2, .ref (G.2.2 + x2)), (3, .ref (G.2.2 + x3)), (4, .ref (G.2.2 + x4)), (5, .int x5)] 1359 [] := by
  intro S x1 x2 x3 x4 x5 h
  unfold wpL_law_b1359 at h
  refine pw_aload_n (pc := 1359) C 1 dL_law_1359 rfl rfl ?_
  refine pw_aload_n (pc := 1360) C 0 dL_law_1360 rfl rfl ?_
  refine pw_iload (pc := 1361) C 5 dL_law_1361 rfl ?_
  refine pw_iconst (pc := 1363) (v := 1 ) C dL_law_1363 (by decide) ?_
  refine pw_iadd (pc := 1364) C dL_law_1364 ?_
  obtain ⟨hi1, h⟩ := h
  refine pw_sld (pc := 1365) C hX hb hbG hi1 dL_law_1365 ?_
  refine pw_aload_n (pc := 1366) C 3 dL_law_1366 rfl rfl ?_
  refine pw_calli (pc := 1367) (kc2 := (kc + 1)) (kn2 := (kn + 6)) (pRunSW (pc := 1367) C (ctL_possible l G hZ hl  _ x1 (xs ((x5 + (1 : Int32))).toNatClampNeg) x3 _ h) (vx_cwSW 3 C.2.2.2.2.1 qgL_law_L_possible rfl rfl rfl (by decide +kernel) ⟨Nat.le_of_ble_eq_true rfl, Nat.le_of_ble_eq_true rfl⟩) rfl rfl (Nat.le_of_ble_eq_true rfl) dL_law_1367 ⟨by show (kc + 0) + 1 ≤ 601024; omega, by show (kn + 0) + 6 ≤ 7293034; omega⟩) rfl rfl (fun r2 S3 h => ?_)
  refine pw_istore (pc := 1370) C [(6, .int r2), (0, .ref b), (1, .ref (G.2.2 + x1)), (2, .ref (G.2.2 + x2)), (3, .ref (G.2.2 + x3)), (4, .ref (G.2.2 + x4)), (5, .int x5)] dL_law_1370 (by decide) rfl ?_
  refine pw_aload_n (pc := 1372) C 3 dL_law_1372 rfl rfl ?_
  refine pw_aload_n (pc := 1373) C 1 dL_law_1373 rfl rfl ?_
  refine pw_iload (pc := 1374) C 6 dL_law_1374 rfl ?_
  refine pw_iconst (pc := 1376) (v := 1 ) C dL_law_1376 (by decide) ?_
  refine pw_iadd (pc := 1377) C dL_law_1377 ?_
  obtain ⟨hi4, h⟩ := h
  refine pw_sld (pc := 1378) C hX hb hbG hi4 dL_law_1378 ?_
  obtain ⟨hk5, h⟩ := h
  refine pw_calli (pc := 1379) (kc2 := (kc + 1)) (kn2 := (kn + 6)) (pRunV (pc := 1379) C (ctX12_possible l G  _ x2 (xs ((x5 + (1 : Int32))).toNatClampNeg) _ h) (cwV 1 C.2.2.2.2.1 qgL_law_X12_possible rfl rfl rfl (by decide +kernel) ⟨Nat.le_of_ble_eq_true rfl, Nat.le_of_ble_eq_true rfl⟩) pCl10 hk5 rfl rfl (Nat.le_of_ble_eq_true rfl) dL_law_1379 ⟨by show (kc + 1) + 0 ≤ 601024; omega, by show (kn + 6) + 0 ≤ 7293034; omega⟩) rfl rfl (fun r6 S7 h => ?_)
  refine pw_istore (pc := 1382) C [(7, .int r6), (6, .int r2), (0, .ref b), (1, .ref (G.2.2 + x1)), (2, .ref (G.2.2 + x2)), (3, .ref (G.2.2 + x3)), (4, .ref (G.2.2 + x4)), (5, .int x5)] dL_law_1382 (by decide) rfl ?_
  refine pw_aload_n (pc := 1384) C 4 dL_law_1384 rfl rfl ?_
  obtain ⟨hk8, h⟩ := h
  refine pw_calli (pc := 1385) (kc2 := (kc + 1)) (kn2 := (kn + 6)) (pRunV (pc := 1385) C (ctX12_thrown l G  _ x2 _ h) (cwV 0 C.2.2.2.2.1 qgL_law_X12_thrown rfl rfl rfl (by decide +kernel) ⟨Nat.le_of_ble_eq_true rfl, Nat.le_of_ble_eq_true rfl⟩) pCl10 hk8 rfl rfl (Nat.le_of_ble_eq_true rfl) dL_law_1385 ⟨by show (kc + 1) + 0 ≤ 601024; omega, by show (kn + 6) + 0 ≤ 7293034; omega⟩) rfl rfl (fun r9 S10 h => ?_)
  refine pw_iload (pc := 1388) C 1 dL_law_1388 rfl ?_
  refine pw_icmp_eq (pc := 1390) (tgt := 1395) C dL_law_1390 rfl ⟨fun hc => ?_, fun hc => ?_⟩
  · replace h := h.1 hc
    refine pw_iload (pc := 1395) C 1 dL_law_1395 rfl ?_
    refine pw_if_ne (pc := 1397) (tgt := 1412) C dL_law_1397 rfl ⟨fun hc => ?_, fun hc => ?_⟩
    · replace h := h.1 hc
      refine pw_goto (pc := 1412) (tgt := 1913) C dL_law_1412 rfl ?_
      refine pw_iincK (pc := 1913) (w := 6) C [(5, .int (x5 + 6)), (7, .int r6), (6, .int r2), (0, .ref b), (1, .ref (G.2.2 + x1)), (2, .ref (G.2.2 + x2)), (3, .ref (G.2.2 + x3)), (4, .ref (G.2.2 + x4))] 7 dL_law_1913 (by decide) rfl (by decide) rfl ?_
      refine pw_goto (pc := 1916) (tgt := 28) C dL_law_1916 rfl ?_
      refine pw_sub [3, 4, 5, 6, 7, 0] (LV2 := [(0, .ref b), (1, .ref (G.2.2 + x1)), (2, .ref (G.2.2 + x2)), (3, .ref (G.2.2 + x3)), (4, .ref (G.2.2 + x4)), (5, .int (x5 + 6))]) rfl ?_
      refine pw_widen (k2 := (kc + 22)) (n2 := (kn + 170)) (by omega) (by omega) ?_
      exact hK _ _ _ _ _ _ h
    · replace h := h.2 hc
      refine pw_aload_n (pc := 1400) C 5 dL_law_1400 rfl rfl ?_
      refine pw_iconst (pc := 1401) (v := 0 ) C dL_law_1401 (by decide) ?_
      obtain ⟨hk11, h⟩ := h
      obtain ⟨hi12, h⟩ := h
      refine pw_lald (pc := 1402) C hk11 hi12 dL_law_1402 ?_
      refine pw_iload (pc := 1403) C 0 dL_law_1403 rfl ?_
      refine pw_i2l (pc := 1405) C dL_law_1405 ?_
      refine pw_lcmp (pc := 1406) C dL_law_1406 ?_
      refine pw_if_eq (pc := 1407) (tgt := 1412) C dL_law_1407 rfl ⟨fun hc => ?_, fun hc => ?_⟩
      · replace h := h.1 hc
        refine pw_goto (pc := 1412) (tgt := 1913) C dL_law_1412 rfl ?_
        refine pw_iincK (pc := 1913) (w := 6) C [(5, .int (x5 + 6)), (7, .int r6), (6, .int r2), (0, .ref b), (1, .ref (G.2.2 + x1)), (2, .ref (G.2.2 + x2)), (3, .ref (G.2.2 + x3)), (4, .ref (G.2.2 + x4))] 7 dL_law_1913 (by decide) rfl (by decide) rfl ?_
        refine pw_goto (pc := 1916) (tgt := 28) C dL_law_1916 rfl ?_
        refine pw_sub [3, 4, 5, 6, 7, 0] (LV2 := [(0, .ref b), (1, .ref (G.2.2 + x1)), (2, .ref (G.2.2 + x2)), (3, .ref (G.2.2 + x3)), (4, .ref (G.2.2 + x4)), (5, .int (x5 + 6))]) rfl ?_
        refine pw_widen (k2 := (kc + 22)) (n2 := (kn + 170)) (by omega) (by omega) ?_
        exact hK _ _ _ _ _ _ h
      · replace h := h.2 hc
        refine pw_iconst (pc := 1410) (v := 0 ) C dL_law_1410 (by decide) ?_
        exact h.elim
  · replace h := h.2 hc
    refine pw_iconst (pc := 1393) (v := 0 ) C dL_law_1393 (by decide) ?_
    exact h.elim
def wpL_law_b1415 (xs : Nat → Int32) (L : Nat) (K : PS → Nat → Nat → Nat → Nat → Int32 → Prop) (S : PS) (x1 : Nat) (x2 : Nat) (x3 : Nat) (x4 : Nat) (x5 : Int32) : Prop := (pK S x1 = 10 ∧ (wpX11_overlooked S x1 (fun r2 S3 => (pK S3 x2 = 11 ∧ (wpX12_overlooked S3 x2 (fun r5 S6 => ((r2 = r5 → (K S6 x1 x2 x3 x4 (x5 + 6))) ∧ (¬ r2 = r5 → False))))))))
set_option maxRecDepth 100000 in
set_option maxHeartbeats 8000000 in
theorem cbL_law_b1415 {p : Program} {l : Launch} {e : Env} {s : State} {m : MethodId} {args : Array Value} {below : List Frame} {meth : Method} {c : Code} {Q : State → Prop} {G : PG} {b L : Nat} {xs : Nat → Int32} (C : pCx p s m args meth c G cL_law 9 RL TsLaw) (hZ : pZa G) (hl : l.stackTraces = false) (hX : va_X b L xs s s.heap) (hb : b < s.heap.size) (hbG : b < G.2.2) {kc kn : Nat} {K : PS → Nat → Nat → Nat → Nat → Int32 → Prop} (hK : ∀ (S : PS) (x1 : Nat) (x2 : Nat) (x3 : Nat) (x4 : Nat) (x5 : Int32), K S x1 x2 x3 x4 x5 → PW p l e room_1 s m args below meth c Q G 9 S (kc + 22) (kn + 170) [(0, .ref b), (1, .ref (G.2.2 + x1)), (2, .ref (G.2.2 + x2)), (3, .ref (G.2.2 + x3)), (4, .ref (G.2.2 + x4)), (5, .int x5)] 28 []) (hkc : kc + 22 ≤ 601024) (hkn : kn + 170 ≤ 7293034) : ∀ (S : PS) (x1 : Nat) (x2 : Nat) (x3 : Nat) (x4 : Nat) (x5 : Int32), wpL_law_b1415 xs L K S x1 x2 x3 x4 x5 → PW p l e room_1 s m args below meth c Q G 9 S kc kn [(0, .ref b), (1, .ref (G.2.2 + x1)), (2, .ref (G.2.2 + x2)), (3, .ref (G.2.2 + x3)), (4, .ref (G.2.2 + x4)), (5, .int x5)] 1415 [] := by
  intro S x1 x2 x3 x4 x5 h
  unfold wpL_law_b1415 at h
  refine pw_aload_n (pc := 1415) C 1 dL_law_1415 rfl rfl ?_
  obtain ⟨hk1, h⟩ := h
  refine pw_calli (pc := 1416) (kc2 := (kc + 0)) (kn2 := (kn + 0)) (pRunV (pc := 1416) C (ctX11_overlooked l G hZ  _ x1 _ h) (cwV 0 C.2.2.2.2.1 qgL_law_X11_overlooked rfl rfl rfl (by decide +kernel) ⟨Nat.le_of_ble_eq_true rfl, Nat.le_of_ble_eq_true rfl⟩) pCl9 hk1 rfl rfl (Nat.le_of_ble_eq_true rfl) dL_law_1416 ⟨by show (kc + 0) + 0 ≤ 601024; omega, by show (kn + 0) + 0 ≤ 7293034; omega⟩) rfl rfl (fun r2 S3 h => ?_)
  refine pw_aload_n (pc := 1419) C 2 dL_law_1419 rfl rfl ?_
  obtain ⟨hk4, h⟩ := h
  refine pw_calli (pc := 1420) (kc2 := (kc + 0)) (kn2 := (kn + 0)) (pRunV (pc := 1420) C (ctX12_overlooked l G  _ x2 _ h) (cwV 0 C.2.2.2.2.1 qgL_law_X12_overlooked rfl rfl rfl (by decide +kernel) ⟨Nat.le_of_ble_eq_true rfl, Nat.le_of_ble_eq_true rfl⟩) pCl10 hk4 rfl rfl (Nat.le_of_ble_eq_true rfl) dL_law_1420 ⟨by show (kc + 0) + 0 ≤ 601024; omega, by show (kn + 0) + 0 ≤ 7293034; omega⟩) rfl rfl (fun r5 S6 h => ?_)
  refine pw_icmp_eq (pc := 1423) (tgt := 1913) C dL_law_1423 rfl ⟨fun hc => ?_, fun hc => ?_⟩
  · replace h := h.1 hc
    refine pw_iincK (pc := 1913) (w := 6) C [(5, .int (x5 + 6)), (0, .ref b), (1, .ref (G.2.2 + x1)), (2, .ref (G.2.2 + x2)), (3, .ref (G.2.2 + x3)), (4, .ref (G.2.2 + x4))] 5 dL_law_1913 (by decide) rfl (by decide) rfl ?_
    refine pw_goto (pc := 1916) (tgt := 28) C dL_law_1916 rfl ?_
    refine pw_sub [1, 2, 3, 4, 5, 0] (LV2 := [(0, .ref b), (1, .ref (G.2.2 + x1)), (2, .ref (G.2.2 + x2)), (3, .ref (G.2.2 + x3)), (4, .ref (G.2.2 + x4)), (5, .int (x5 + 6))]) rfl ?_
    refine pw_widen (k2 := (kc + 22)) (n2 := (kn + 170)) (by omega) (by omega) ?_
    exact hK _ _ _ _ _ _ h
  · replace h := h.2 hc
    refine pw_iconst (pc := 1426) (v := 0 ) C dL_law_1426 (by decide) ?_
    exact h.elim
def wpL_law_b1428 (xs : Nat → Int32) (L : Nat) (K : PS → Nat → Nat → Nat → Nat → Int32 → Prop) (S : PS) (x1 : Nat) (x2 : Nat) (x3 : Nat) (x4 : Nat) (x5 : Int32) : Prop := (vp_in (x5 + (1 : Int32)) L ∧ (vp_in (x5 + (2 : Int32)) L ∧ (wpL_forbid S x1 (xs ((x5 + (1 : Int32))).toNatClampNeg) (xs ((x5 + (2 : Int32))).toNatClampNeg) x3 (fun r3 S4 => (vp_in (x5 + (1 : Int32)) L ∧ (vp_in (x5 + (2 : Int32)) L ∧ (pK S4 x2 = 11 ∧ (wpX12_forbid S4 x2 (xs ((x5 + (1 : Int32))).toNatClampNeg) (xs ((x5 + (2 : Int32))).toNatClampNeg) (fun r8 S9 => (pK S9 x2 = 11 ∧ (wpX12_thrown S9 x2 (fun r11 S12 => ((r11 = r3 → ((¬ r3 = 0 → (K S12 x1 x2 x3 x4 (x5 + 6))) ∧ (r3 = 0 → (pK S12 x3 = 14 ∧ (vp_in (0 : Int32) (pL S12 x3) ∧ (((lg_cmp (pJ S12 x3 ((0 : Int32)).toNatClampNeg) (r8.toInt64)) = 0 → (K S12 x1 x2 x3 x4 (x5 + 6))) ∧ (¬ (lg_cmp (pJ S12 x3 ((0 : Int32)).toNatClampNeg) (r8.toInt64)) = 0 → False))))))) ∧ (¬ r11 = r3 → False))))))))))))))
set_option maxRecDepth 100000 in
set_option maxHeartbeats 8000000 in
theorem cbL_law_b1428 {p : Program} {l : Launch} {e : Env} {s : State} {m : MethodId} {args : Array Value} {below : List Frame} {meth : Method} {c : Code} {Q : State → Prop} {G : PG} {b L : Nat} {xs : Nat → Int32} (C : pCx p s m args meth c G cL_law 9 RL TsLaw) (hZ : pZa G) (hl : l.stackTraces = false) (hX : va_X b L xs s s.heap) (hb : b < s.heap.size) (hbG : b < G.2.2) {kc kn : Nat} {K : PS → Nat → Nat → Nat → Nat → Int32 → Prop} (hK : ∀ (S : PS) (x1 : Nat) (x2 : Nat) (x3 : Nat) (x4 : Nat) (x5 : Int32), K S x1 x2 x3 x4 x5 → PW p l e room_1 s m args below meth c Q G 9 S (kc + 22) (kn + 170) [(0, .ref b), (1, .ref (G.2.2 + x1)), (2, .ref (G.2.2 + x2)), (3, .ref (G.2.2 + x3)), (4, .ref (G.2.2 + x4)), (5, .int x5)] 28 []) (hkc : kc + 22 ≤ 601024) (hkn : kn + 170 ≤ 7293034) : ∀ (S : PS) (x1 : Nat) (x2 : Nat) (x3 : Nat) (x4 : Nat) (x5 : Int32), wpL_law_b1428 xs L K S x1 x2 x3 x4 x5 → PW p l e room_1 s m args below meth c Q G 9 S kc kn [(0, .ref b), (1, .ref (G.2.2 + x1)), (2, .ref (G.2.2 + x2)), (3, .ref (G.2.2 + x3)), (4, .ref (G.2.2 + x4)), (5, .int x5)] 1428 [] := by
  intro S x1 x2 x3 x4 x5 h
  unfold wpL_law_b1428 at h
  refine pw_aload_n (pc := 1428) C 1 dL_law_1428 rfl rfl ?_
  refine pw_aload_n (pc := 1429) C 0 dL_law_1429 rfl rfl ?_
  refine pw_iload (pc := 1430) C 5 dL_law_1430 rfl ?_
  refine pw_iconst (pc := 1432) (v := 1 ) C dL_law_1432 (by decide) ?_
  refine pw_iadd (pc := 1433) C dL_law_1433 ?_
  obtain ⟨hi1, h⟩ := h
  refine pw_sld (pc := 1434) C hX hb hbG hi1 dL_law_1434 ?_
  refine pw_aload_n (pc := 1435) C 0 dL_law_1435 rfl rfl ?_
  refine pw_iload (pc := 1436) C 5 dL_law_1436 rfl ?_
  refine pw_iconst (pc := 1438) (v := 2 ) C dL_law_1438 (by decide) ?_
  refine pw_iadd (pc := 1439) C dL_law_1439 ?_
  obtain ⟨hi2, h⟩ := h
  refine pw_sld (pc := 1440) C hX hb hbG hi2 dL_law_1440 ?_
  refine pw_aload_n (pc := 1441) C 3 dL_law_1441 rfl rfl ?_
  refine pw_calli (pc := 1442) (kc2 := (kc + 1)) (kn2 := (kn + 6)) (pRunSW (pc := 1442) C (ctL_forbid l G hZ hl  _ x1 (xs ((x5 + (1 : Int32))).toNatClampNeg) (xs ((x5 + (2 : Int32))).toNatClampNeg) x3 _ h) (vx_cwSW 4 C.2.2.2.2.1 qgL_law_L_forbid rfl rfl rfl (by decide +kernel) ⟨Nat.le_of_ble_eq_true rfl, Nat.le_of_ble_eq_true rfl⟩) rfl rfl (Nat.le_of_ble_eq_true rfl) dL_law_1442 ⟨by show (kc + 0) + 1 ≤ 601024; omega, by show (kn + 0) + 6 ≤ 7293034; omega⟩) rfl rfl (fun r3 S4 h => ?_)
  refine pw_istore (pc := 1445) C [(6, .int r3), (0, .ref b), (1, .ref (G.2.2 + x1)), (2, .ref (G.2.2 + x2)), (3, .ref (G.2.2 + x3)), (4, .ref (G.2.2 + x4)), (5, .int x5)] dL_law_1445 (by decide) rfl ?_
  refine pw_aload_n (pc := 1447) C 3 dL_law_1447 rfl rfl ?_
  refine pw_aload_n (pc := 1448) C 1 dL_law_1448 rfl rfl ?_
  refine pw_iload (pc := 1449) C 6 dL_law_1449 rfl ?_
  refine pw_iconst (pc := 1451) (v := 1 ) C dL_law_1451 (by decide) ?_
  refine pw_iadd (pc := 1452) C dL_law_1452 ?_
  obtain ⟨hi5, h⟩ := h
  refine pw_sld (pc := 1453) C hX hb hbG hi5 dL_law_1453 ?_
  refine pw_aload_n (pc := 1454) C 1 dL_law_1454 rfl rfl ?_
  refine pw_iload (pc := 1455) C 6 dL_law_1455 rfl ?_
  refine pw_iconst (pc := 1457) (v := 2 ) C dL_law_1457 (by decide) ?_
  refine pw_iadd (pc := 1458) C dL_law_1458 ?_
  obtain ⟨hi6, h⟩ := h
  refine pw_sld (pc := 1459) C hX hb hbG hi6 dL_law_1459 ?_
  obtain ⟨hk7, h⟩ := h
  refine pw_calli (pc := 1460) (kc2 := (kc + 1)) (kn2 := (kn + 6)) (pRunV (pc := 1460) C (ctX12_forbid l G  _ x2 (xs ((x5 + (1 : Int32))).toNatClampNeg) (xs ((x5 + (2 : Int32))).toNatClampNeg) _ h) (cwV 2 C.2.2.2.2.1 qgL_law_X12_forbid rfl rfl rfl (by decide +kernel) ⟨Nat.le_of_ble_eq_true rfl, Nat.le_of_ble_eq_true rfl⟩) pCl10 hk7 rfl rfl (Nat.le_of_ble_eq_true rfl) dL_law_1460 ⟨by show (kc + 1) + 0 ≤ 601024; omega, by show (kn + 6) + 0 ≤ 7293034; omega⟩) rfl rfl (fun r8 S9 h => ?_)
  refine pw_istore (pc := 1463) C [(7, .int r8), (6, .int r3), (0, .ref b), (1, .ref (G.2.2 + x1)), (2, .ref (G.2.2 + x2)), (3, .ref (G.2.2 + x3)), (4, .ref (G.2.2 + x4)), (5, .int x5)] dL_law_1463 (by decide) rfl ?_
  refine pw_aload_n (pc := 1465) C 4 dL_law_1465 rfl rfl ?_
  obtain ⟨hk10, h⟩ := h
  refine pw_calli (pc := 1466) (kc2 := (kc + 1)) (kn2 := (kn + 6)) (pRunV (pc := 1466) C (ctX12_thrown l G  _ x2 _ h) (cwV 0 C.2.2.2.2.1 qgL_law_X12_thrown rfl rfl rfl (by decide +kernel) ⟨Nat.le_of_ble_eq_true rfl, Nat.le_of_ble_eq_true rfl⟩) pCl10 hk10 rfl rfl (Nat.le_of_ble_eq_true rfl) dL_law_1466 ⟨by show (kc + 1) + 0 ≤ 601024; omega, by show (kn + 6) + 0 ≤ 7293034; omega⟩) rfl rfl (fun r11 S12 h => ?_)
  refine pw_iload (pc := 1469) C 1 dL_law_1469 rfl ?_
  refine pw_icmp_eq (pc := 1471) (tgt := 1476) C dL_law_1471 rfl ⟨fun hc => ?_, fun hc => ?_⟩
  · replace h := h.1 hc
    refine pw_iload (pc := 1476) C 1 dL_law_1476 rfl ?_
    refine pw_if_ne (pc := 1478) (tgt := 1493) C dL_law_1478 rfl ⟨fun hc => ?_, fun hc => ?_⟩
    · replace h := h.1 hc
      refine pw_goto (pc := 1493) (tgt := 1913) C dL_law_1493 rfl ?_
      refine pw_iincK (pc := 1913) (w := 6) C [(5, .int (x5 + 6)), (7, .int r8), (6, .int r3), (0, .ref b), (1, .ref (G.2.2 + x1)), (2, .ref (G.2.2 + x2)), (3, .ref (G.2.2 + x3)), (4, .ref (G.2.2 + x4))] 7 dL_law_1913 (by decide) rfl (by decide) rfl ?_
      refine pw_goto (pc := 1916) (tgt := 28) C dL_law_1916 rfl ?_
      refine pw_sub [3, 4, 5, 6, 7, 0] (LV2 := [(0, .ref b), (1, .ref (G.2.2 + x1)), (2, .ref (G.2.2 + x2)), (3, .ref (G.2.2 + x3)), (4, .ref (G.2.2 + x4)), (5, .int (x5 + 6))]) rfl ?_
      refine pw_widen (k2 := (kc + 22)) (n2 := (kn + 170)) (by omega) (by omega) ?_
      exact hK _ _ _ _ _ _ h
    · replace h := h.2 hc
      refine pw_aload_n (pc := 1481) C 5 dL_law_1481 rfl rfl ?_
      refine pw_iconst (pc := 1482) (v := 0 ) C dL_law_1482 (by decide) ?_
      obtain ⟨hk13, h⟩ := h
      obtain ⟨hi14, h⟩ := h
      refine pw_lald (pc := 1483) C hk13 hi14 dL_law_1483 ?_
      refine pw_iload (pc := 1484) C 0 dL_law_1484 rfl ?_
      refine pw_i2l (pc := 1486) C dL_law_1486 ?_
      refine pw_lcmp (pc := 1487) C dL_law_1487 ?_
      refine pw_if_eq (pc := 1488) (tgt := 1493) C dL_law_1488 rfl ⟨fun hc => ?_, fun hc => ?_⟩
      · replace h := h.1 hc
        refine pw_goto (pc := 1493) (tgt := 1913) C dL_law_1493 rfl ?_
        refine pw_iincK (pc := 1913) (w := 6) C [(5, .int (x5 + 6)), (7, .int r8), (6, .int r3), (0, .ref b), (1, .ref (G.2.2 + x1)), (2, .ref (G.2.2 + x2)), (3, .ref (G.2.2 + x3)), (4, .ref (G.2.2 + x4))] 7 dL_law_1913 (by decide) rfl (by decide) rfl ?_
        refine pw_goto (pc := 1916) (tgt := 28) C dL_law_1916 rfl ?_
        refine pw_sub [3, 4, 5, 6, 7, 0] (LV2 := [(0, .ref b), (1, .ref (G.2.2 + x1)), (2, .ref (G.2.2 + x2)), (3, .ref (G.2.2 + x3)), (4, .ref (G.2.2 + x4)), (5, .int (x5 + 6))]) rfl ?_
        refine pw_widen (k2 := (kc + 22)) (n2 := (kn + 170)) (by omega) (by omega) ?_
        exact hK _ _ _ _ _ _ h
      · replace h := h.2 hc
        refine pw_iconst (pc := 1491) (v := 0 ) C dL_law_1491 (by decide) ?_
        exact h.elim
  · replace h := h.2 hc
    refine pw_iconst (pc := 1474) (v := 0 ) C dL_law_1474 (by decide) ?_
    exact h.elim
def wpL_law_b1496 (xs : Nat → Int32) (L : Nat) (K : PS → Nat → Nat → Nat → Nat → Int32 → Prop) (S : PS) (x1 : Nat) (x2 : Nat) (x3 : Nat) (x4 : Nat) (x5 : Int32) : Prop := (vp_in (x5 + (1 : Int32)) L ∧ (vp_in (x5 + (2 : Int32)) L ∧ (wpL_decide S x1 (xs ((x5 + (1 : Int32))).toNatClampNeg) (xs ((x5 + (2 : Int32))).toNatClampNeg) x3 (fun r3 S4 => (vp_in (x5 + (1 : Int32)) L ∧ (vp_in (x5 + (2 : Int32)) L ∧ (pK S4 x2 = 11 ∧ (wpX12_decide S4 x2 (xs ((x5 + (1 : Int32))).toNatClampNeg) (xs ((x5 + (2 : Int32))).toNatClampNeg) (fun r8 S9 => (pK S9 x2 = 11 ∧ (wpX12_thrown S9 x2 (fun r11 S12 => ((r11 = r3 → ((¬ r3 = 0 → (K S12 x1 x2 x3 x4 (x5 + 6))) ∧ (r3 = 0 → (pK S12 x3 = 14 ∧ (vp_in (0 : Int32) (pL S12 x3) ∧ (((lg_cmp (pJ S12 x3 ((0 : Int32)).toNatClampNeg) (r8.toInt64)) = 0 → (K S12 x1 x2 x3 x4 (x5 + 6))) ∧ (¬ (lg_cmp (pJ S12 x3 ((0 : Int32)).toNatClampNeg) (r8.toInt64)) = 0 → False))))))) ∧ (¬ r11 = r3 → False))))))))))))))
set_option maxRecDepth 100000 in
set_option maxHeartbeats 8000000 in
theorem cbL_law_b1496 {p : Program} {l : Launch} {e : Env} {s : State} {m : MethodId} {args : Array Value} {below : List Frame} {meth : Method} {c : Code} {Q : State → Prop} {G : PG} {b L : Nat} {xs : Nat → Int32} (C : pCx p s m args meth c G cL_law 9 RL TsLaw) (hZ : pZa G) (hl : l.stackTraces = false) (hX : va_X b L xs s s.heap) (hb : b < s.heap.size) (hbG : b < G.2.2) {kc kn : Nat} {K : PS → Nat → Nat → Nat → Nat → Int32 → Prop} (hK : ∀ (S : PS) (x1 : Nat) (x2 : Nat) (x3 : Nat) (x4 : Nat) (x5 : Int32), K S x1 x2 x3 x4 x5 → PW p l e room_1 s m args below meth c Q G 9 S (kc + 22) (kn + 170) [(0, .ref b), (1, .ref (G.2.2 + x1)), (2, .ref (G.2.2 + x2)), (3, .ref (G.2.2 + x3)), (4, .ref (G.2.2 + x4)), (5, .int x5)] 28 []) (hkc : kc + 22 ≤ 601024) (hkn : kn + 170 ≤ 7293034) : ∀ (S : PS) (x1 : Nat) (x2 : Nat) (x3 : Nat) (x4 : Nat) (x5 : Int32), wpL_law_b1496 xs L K S x1 x2 x3 x4 x5 → PW p l e room_1 s m args below meth c Q G 9 S kc kn [(0, .ref b), (1, .ref (G.2.2 + x1)), (2, .ref (G.2.2 + x2)), (3, .ref (G.2.2 + x3)), (4, .ref (G.2.2 + x4)), (5, .int x5)] 1496 [] := by
  intro S x1 x2 x3 x4 x5 h
  unfold wpL_law_b1496 at h
  refine pw_aload_n (pc := 1496) C 1 dL_law_1496 rfl rfl ?_
  refine pw_aload_n (pc := 1497) C 0 dL_law_1497 rfl rfl ?_
  refine pw_iload (pc := 1498) C 5 dL_law_1498 rfl ?_
  refine pw_iconst (pc := 1500) (v := 1 ) C dL_law_1500 (by decide) ?_
  refine pw_iadd (pc := 1501) C dL_law_1501 ?_
  obtain ⟨hi1, h⟩ := h
  refine pw_sld (pc := 1502) C hX hb hbG hi1 dL_law_1502 ?_
  refine pw_aload_n (pc := 1503) C 0 dL_law_1503 rfl rfl ?_
  refine pw_iload (pc := 1504) C 5 dL_law_1504 rfl ?_
  refine pw_iconst (pc := 1506) (v := 2 ) C dL_law_1506 (by decide) ?_
  refine pw_iadd (pc := 1507) C dL_law_1507 ?_
  obtain ⟨hi2, h⟩ := h
  refine pw_sld (pc := 1508) C hX hb hbG hi2 dL_law_1508 ?_
  refine pw_aload_n (pc := 1509) C 3 dL_law_1509 rfl rfl ?_
  refine pw_calli (pc := 1510) (kc2 := (kc + 1)) (kn2 := (kn + 6)) (pRunSW (pc := 1510) C (ctL_decide l G hZ hl  _ x1 (xs ((x5 + (1 : Int32))).toNatClampNeg) (xs ((x5 + (2 : Int32))).toNatClampNeg) x3 _ h) (vx_cwSW 4 C.2.2.2.2.1 qgL_law_L_decide rfl rfl rfl (by decide +kernel) ⟨Nat.le_of_ble_eq_true rfl, Nat.le_of_ble_eq_true rfl⟩) rfl rfl (Nat.le_of_ble_eq_true rfl) dL_law_1510 ⟨by show (kc + 0) + 1 ≤ 601024; omega, by show (kn + 0) + 6 ≤ 7293034; omega⟩) rfl rfl (fun r3 S4 h => ?_)
  refine pw_istore (pc := 1513) C [(6, .int r3), (0, .ref b), (1, .ref (G.2.2 + x1)), (2, .ref (G.2.2 + x2)), (3, .ref (G.2.2 + x3)), (4, .ref (G.2.2 + x4)), (5, .int x5)] dL_law_1513 (by decide) rfl ?_
  refine pw_aload_n (pc := 1515) C 3 dL_law_1515 rfl rfl ?_
  refine pw_aload_n (pc := 1516) C 1 dL_law_1516 rfl rfl ?_
  refine pw_iload (pc := 1517) C 6 dL_law_1517 rfl ?_
  refine pw_iconst (pc := 1519) (v := 1 ) C dL_law_1519 (by decide) ?_
  refine pw_iadd (pc := 1520) C dL_law_1520 ?_
  obtain ⟨hi5, h⟩ := h
  refine pw_sld (pc := 1521) C hX hb hbG hi5 dL_law_1521 ?_
  refine pw_aload_n (pc := 1522) C 1 dL_law_1522 rfl rfl ?_
  refine pw_iload (pc := 1523) C 6 dL_law_1523 rfl ?_
  refine pw_iconst (pc := 1525) (v := 2 ) C dL_law_1525 (by decide) ?_
  refine pw_iadd (pc := 1526) C dL_law_1526 ?_
  obtain ⟨hi6, h⟩ := h
  refine pw_sld (pc := 1527) C hX hb hbG hi6 dL_law_1527 ?_
  obtain ⟨hk7, h⟩ := h
  refine pw_calli (pc := 1528) (kc2 := (kc + 1)) (kn2 := (kn + 6)) (pRunV (pc := 1528) C (ctX12_decide l G  _ x2 (xs ((x5 + (1 : Int32))).toNatClampNeg) (xs ((x5 + (2 : Int32))).toNatClampNeg) _ h) (cwV 2 C.2.2.2.2.1 qgL_law_X12_decide rfl rfl rfl (by decide +kernel) ⟨Nat.le_of_ble_eq_true rfl, Nat.le_of_ble_eq_true rfl⟩) pCl10 hk7 rfl rfl (Nat.le_of_ble_eq_true rfl) dL_law_1528 ⟨by show (kc + 1) + 0 ≤ 601024; omega, by show (kn + 6) + 0 ≤ 7293034; omega⟩) rfl rfl (fun r8 S9 h => ?_)
  refine pw_istore (pc := 1531) C [(7, .int r8), (6, .int r3), (0, .ref b), (1, .ref (G.2.2 + x1)), (2, .ref (G.2.2 + x2)), (3, .ref (G.2.2 + x3)), (4, .ref (G.2.2 + x4)), (5, .int x5)] dL_law_1531 (by decide) rfl ?_
  refine pw_aload_n (pc := 1533) C 4 dL_law_1533 rfl rfl ?_
  obtain ⟨hk10, h⟩ := h
  refine pw_calli (pc := 1534) (kc2 := (kc + 1)) (kn2 := (kn + 6)) (pRunV (pc := 1534) C (ctX12_thrown l G  _ x2 _ h) (cwV 0 C.2.2.2.2.1 qgL_law_X12_thrown rfl rfl rfl (by decide +kernel) ⟨Nat.le_of_ble_eq_true rfl, Nat.le_of_ble_eq_true rfl⟩) pCl10 hk10 rfl rfl (Nat.le_of_ble_eq_true rfl) dL_law_1534 ⟨by show (kc + 1) + 0 ≤ 601024; omega, by show (kn + 6) + 0 ≤ 7293034; omega⟩) rfl rfl (fun r11 S12 h => ?_)
  refine pw_iload (pc := 1537) C 1 dL_law_1537 rfl ?_
  refine pw_icmp_eq (pc := 1539) (tgt := 1544) C dL_law_1539 rfl ⟨fun hc => ?_, fun hc => ?_⟩
  · replace h := h.1 hc
    refine pw_iload (pc := 1544) C 1 dL_law_1544 rfl ?_
    refine pw_if_ne (pc := 1546) (tgt := 1561) C dL_law_1546 rfl ⟨fun hc => ?_, fun hc => ?_⟩
    · replace h := h.1 hc
      refine pw_goto (pc := 1561) (tgt := 1913) C dL_law_1561 rfl ?_
      refine pw_iincK (pc := 1913) (w := 6) C [(5, .int (x5 + 6)), (7, .int r8), (6, .int r3), (0, .ref b), (1, .ref (G.2.2 + x1)), (2, .ref (G.2.2 + x2)), (3, .ref (G.2.2 + x3)), (4, .ref (G.2.2 + x4))] 7 dL_law_1913 (by decide) rfl (by decide) rfl ?_
      refine pw_goto (pc := 1916) (tgt := 28) C dL_law_1916 rfl ?_
      refine pw_sub [3, 4, 5, 6, 7, 0] (LV2 := [(0, .ref b), (1, .ref (G.2.2 + x1)), (2, .ref (G.2.2 + x2)), (3, .ref (G.2.2 + x3)), (4, .ref (G.2.2 + x4)), (5, .int (x5 + 6))]) rfl ?_
      refine pw_widen (k2 := (kc + 22)) (n2 := (kn + 170)) (by omega) (by omega) ?_
      exact hK _ _ _ _ _ _ h
    · replace h := h.2 hc
      refine pw_aload_n (pc := 1549) C 5 dL_law_1549 rfl rfl ?_
      refine pw_iconst (pc := 1550) (v := 0 ) C dL_law_1550 (by decide) ?_
      obtain ⟨hk13, h⟩ := h
      obtain ⟨hi14, h⟩ := h
      refine pw_lald (pc := 1551) C hk13 hi14 dL_law_1551 ?_
      refine pw_iload (pc := 1552) C 0 dL_law_1552 rfl ?_
      refine pw_i2l (pc := 1554) C dL_law_1554 ?_
      refine pw_lcmp (pc := 1555) C dL_law_1555 ?_
      refine pw_if_eq (pc := 1556) (tgt := 1561) C dL_law_1556 rfl ⟨fun hc => ?_, fun hc => ?_⟩
      · replace h := h.1 hc
        refine pw_goto (pc := 1561) (tgt := 1913) C dL_law_1561 rfl ?_
        refine pw_iincK (pc := 1913) (w := 6) C [(5, .int (x5 + 6)), (7, .int r8), (6, .int r3), (0, .ref b), (1, .ref (G.2.2 + x1)), (2, .ref (G.2.2 + x2)), (3, .ref (G.2.2 + x3)), (4, .ref (G.2.2 + x4))] 7 dL_law_1913 (by decide) rfl (by decide) rfl ?_
        refine pw_goto (pc := 1916) (tgt := 28) C dL_law_1916 rfl ?_
        refine pw_sub [3, 4, 5, 6, 7, 0] (LV2 := [(0, .ref b), (1, .ref (G.2.2 + x1)), (2, .ref (G.2.2 + x2)), (3, .ref (G.2.2 + x3)), (4, .ref (G.2.2 + x4)), (5, .int (x5 + 6))]) rfl ?_
        refine pw_widen (k2 := (kc + 22)) (n2 := (kn + 170)) (by omega) (by omega) ?_
        exact hK _ _ _ _ _ _ h
      · replace h := h.2 hc
        refine pw_iconst (pc := 1559) (v := 0 ) C dL_law_1559 (by decide) ?_
        exact h.elim
  · replace h := h.2 hc
    refine pw_iconst (pc := 1542) (v := 0 ) C dL_law_1542 (by decide) ?_
    exact h.elim
def wpL_law_b1564 (xs : Nat → Int32) (L : Nat) (K : PS → Nat → Nat → Nat → Nat → Int32 → Prop) (S : PS) (x1 : Nat) (x2 : Nat) (x3 : Nat) (x4 : Nat) (x5 : Int32) : Prop := (wpL_back S x1 x3 (fun r1 S2 => (pK S2 x2 = 11 ∧ (wpX12_back S2 x2 (fun r4 S5 => (pK S5 x2 = 11 ∧ (wpX12_thrown S5 x2 (fun r7 S8 => ((r7 = r1 → ((¬ r1 = 0 → (K S8 x1 x2 x3 x4 (x5 + 6))) ∧ (r1 = 0 → (pK S8 x3 = 14 ∧ (vp_in (0 : Int32) (pL S8 x3) ∧ (((lg_cmp (pJ S8 x3 ((0 : Int32)).toNatClampNeg) (r4.toInt64)) = 0 → (K S8 x1 x2 x3 x4 (x5 + 6))) ∧ (¬ (lg_cmp (pJ S8 x3 ((0 : Int32)).toNatClampNeg) (r4.toInt64)) = 0 → False))))))) ∧ (¬ r7 = r1 → False))))))))))
set_option maxRecDepth 100000 in
set_option maxHeartbeats 8000000 in
theorem cbL_law_b1564 {p : Program} {l : Launch} {e : Env} {s : State} {m : MethodId} {args : Array Value} {below : List Frame} {meth : Method} {c : Code} {Q : State → Prop} {G : PG} {b L : Nat} {xs : Nat → Int32} (C : pCx p s m args meth c G cL_law 9 RL TsLaw) (hZ : pZa G) (hl : l.stackTraces = false) (hX : va_X b L xs s s.heap) (hb : b < s.heap.size) (hbG : b < G.2.2) {kc kn : Nat} {K : PS → Nat → Nat → Nat → Nat → Int32 → Prop} (hK : ∀ (S : PS) (x1 : Nat) (x2 : Nat) (x3 : Nat) (x4 : Nat) (x5 : Int32), K S x1 x2 x3 x4 x5 → PW p l e room_1 s m args below meth c Q G 9 S (kc + 22) (kn + 170) [(0, .ref b), (1, .ref (G.2.2 + x1)), (2, .ref (G.2.2 + x2)), (3, .ref (G.2.2 + x3)), (4, .ref (G.2.2 + x4)), (5, .int x5)] 28 []) (hkc : kc + 22 ≤ 601024) (hkn : kn + 170 ≤ 7293034) : ∀ (S : PS) (x1 : Nat) (x2 : Nat) (x3 : Nat) (x4 : Nat) (x5 : Int32), wpL_law_b1564 xs L K S x1 x2 x3 x4 x5 → PW p l e room_1 s m args below meth c Q G 9 S kc kn [(0, .ref b), (1, .ref (G.2.2 + x1)), (2, .ref (G.2.2 + x2)), (3, .ref (G.2.2 + x3)), (4, .ref (G.2.2 + x4)), (5, .int x5)] 1564 [] := by
  intro S x1 x2 x3 x4 x5 h
  unfold wpL_law_b1564 at h
  refine pw_aload_n (pc := 1564) C 1 dL_law_1564 rfl rfl ?_
  refine pw_aload_n (pc := 1565) C 3 dL_law_1565 rfl rfl ?_
  refine pw_calli (pc := 1566) (kc2 := (kc + 1)) (kn2 := (kn + 6)) (pRunSW (pc := 1566) C (ctL_back l G hZ hl  _ x1 x3 _ h) (vx_cwSW 2 C.2.2.2.2.1 qgL_law_L_back rfl rfl rfl (by decide +kernel) ⟨Nat.le_of_ble_eq_true rfl, Nat.le_of_ble_eq_true rfl⟩) rfl rfl (Nat.le_of_ble_eq_true rfl) dL_law_1566 ⟨by show (kc + 0) + 1 ≤ 601024; omega, by show (kn + 0) + 6 ≤ 7293034; omega⟩) rfl rfl (fun r1 S2 h => ?_)
  refine pw_istore (pc := 1569) C [(6, .int r1), (0, .ref b), (1, .ref (G.2.2 + x1)), (2, .ref (G.2.2 + x2)), (3, .ref (G.2.2 + x3)), (4, .ref (G.2.2 + x4)), (5, .int x5)] dL_law_1569 (by decide) rfl ?_
  refine pw_aload_n (pc := 1571) C 3 dL_law_1571 rfl rfl ?_
  obtain ⟨hk3, h⟩ := h
  refine pw_calli (pc := 1572) (kc2 := (kc + 1)) (kn2 := (kn + 6)) (pRunV (pc := 1572) C (ctX12_back l G  _ x2 _ h) (cwV 0 C.2.2.2.2.1 qgL_law_X12_back rfl rfl rfl (by decide +kernel) ⟨Nat.le_of_ble_eq_true rfl, Nat.le_of_ble_eq_true rfl⟩) pCl10 hk3 rfl rfl (Nat.le_of_ble_eq_true rfl) dL_law_1572 ⟨by show (kc + 1) + 0 ≤ 601024; omega, by show (kn + 6) + 0 ≤ 7293034; omega⟩) rfl rfl (fun r4 S5 h => ?_)
  refine pw_istore (pc := 1575) C [(7, .int r4), (6, .int r1), (0, .ref b), (1, .ref (G.2.2 + x1)), (2, .ref (G.2.2 + x2)), (3, .ref (G.2.2 + x3)), (4, .ref (G.2.2 + x4)), (5, .int x5)] dL_law_1575 (by decide) rfl ?_
  refine pw_aload_n (pc := 1577) C 4 dL_law_1577 rfl rfl ?_
  obtain ⟨hk6, h⟩ := h
  refine pw_calli (pc := 1578) (kc2 := (kc + 1)) (kn2 := (kn + 6)) (pRunV (pc := 1578) C (ctX12_thrown l G  _ x2 _ h) (cwV 0 C.2.2.2.2.1 qgL_law_X12_thrown rfl rfl rfl (by decide +kernel) ⟨Nat.le_of_ble_eq_true rfl, Nat.le_of_ble_eq_true rfl⟩) pCl10 hk6 rfl rfl (Nat.le_of_ble_eq_true rfl) dL_law_1578 ⟨by show (kc + 1) + 0 ≤ 601024; omega, by show (kn + 6) + 0 ≤ 7293034; omega⟩) rfl rfl (fun r7 S8 h => ?_)
  refine pw_iload (pc := 1581) C 1 dL_law_1581 rfl ?_
  refine pw_icmp_eq (pc := 1583) (tgt := 1588) C dL_law_1583 rfl ⟨fun hc => ?_, fun hc => ?_⟩
  · replace h := h.1 hc
    refine pw_iload (pc := 1588) C 1 dL_law_1588 rfl ?_
    refine pw_if_ne (pc := 1590) (tgt := 1605) C dL_law_1590 rfl ⟨fun hc => ?_, fun hc => ?_⟩
    · replace h := h.1 hc
      refine pw_goto (pc := 1605) (tgt := 1913) C dL_law_1605 rfl ?_
      refine pw_iincK (pc := 1913) (w := 6) C [(5, .int (x5 + 6)), (7, .int r4), (6, .int r1), (0, .ref b), (1, .ref (G.2.2 + x1)), (2, .ref (G.2.2 + x2)), (3, .ref (G.2.2 + x3)), (4, .ref (G.2.2 + x4))] 7 dL_law_1913 (by decide) rfl (by decide) rfl ?_
      refine pw_goto (pc := 1916) (tgt := 28) C dL_law_1916 rfl ?_
      refine pw_sub [3, 4, 5, 6, 7, 0] (LV2 := [(0, .ref b), (1, .ref (G.2.2 + x1)), (2, .ref (G.2.2 + x2)), (3, .ref (G.2.2 + x3)), (4, .ref (G.2.2 + x4)), (5, .int (x5 + 6))]) rfl ?_
      refine pw_widen (k2 := (kc + 22)) (n2 := (kn + 170)) (by omega) (by omega) ?_
      exact hK _ _ _ _ _ _ h
    · replace h := h.2 hc
      refine pw_aload_n (pc := 1593) C 5 dL_law_1593 rfl rfl ?_
      refine pw_iconst (pc := 1594) (v := 0 ) C dL_law_1594 (by decide) ?_
      obtain ⟨hk9, h⟩ := h
      obtain ⟨hi10, h⟩ := h
      refine pw_lald (pc := 1595) C hk9 hi10 dL_law_1595 ?_
      refine pw_iload (pc := 1596) C 0 dL_law_1596 rfl ?_
      refine pw_i2l (pc := 1598) C dL_law_1598 ?_
      refine pw_lcmp (pc := 1599) C dL_law_1599 ?_
      refine pw_if_eq (pc := 1600) (tgt := 1605) C dL_law_1600 rfl ⟨fun hc => ?_, fun hc => ?_⟩
      · replace h := h.1 hc
        refine pw_goto (pc := 1605) (tgt := 1913) C dL_law_1605 rfl ?_
        refine pw_iincK (pc := 1913) (w := 6) C [(5, .int (x5 + 6)), (7, .int r4), (6, .int r1), (0, .ref b), (1, .ref (G.2.2 + x1)), (2, .ref (G.2.2 + x2)), (3, .ref (G.2.2 + x3)), (4, .ref (G.2.2 + x4))] 7 dL_law_1913 (by decide) rfl (by decide) rfl ?_
        refine pw_goto (pc := 1916) (tgt := 28) C dL_law_1916 rfl ?_
        refine pw_sub [3, 4, 5, 6, 7, 0] (LV2 := [(0, .ref b), (1, .ref (G.2.2 + x1)), (2, .ref (G.2.2 + x2)), (3, .ref (G.2.2 + x3)), (4, .ref (G.2.2 + x4)), (5, .int (x5 + 6))]) rfl ?_
        refine pw_widen (k2 := (kc + 22)) (n2 := (kn + 170)) (by omega) (by omega) ?_
        exact hK _ _ _ _ _ _ h
      · replace h := h.2 hc
        refine pw_iconst (pc := 1603) (v := 0 ) C dL_law_1603 (by decide) ?_
        exact h.elim
  · replace h := h.2 hc
    refine pw_iconst (pc := 1586) (v := 0 ) C dL_law_1586 (by decide) ?_
    exact h.elim
def wpL_law_b1608 (xs : Nat → Int32) (L : Nat) (K : PS → Nat → Nat → Nat → Nat → Int32 → Prop) (S : PS) (x1 : Nat) (x2 : Nat) (x3 : Nat) (x4 : Nat) (x5 : Int32) : Prop := (vp_in (x5 + (1 : Int32)) L ∧ (wpL_decision S x1 (xs ((x5 + (1 : Int32))).toNatClampNeg) x3 (fun r2 S3 => (vp_in (x5 + (1 : Int32)) L ∧ (pK S3 x2 = 11 ∧ (wpX12_decision S3 x2 (xs ((x5 + (1 : Int32))).toNatClampNeg) (fun r6 S7 => (pK S7 x2 = 11 ∧ (wpX12_thrown S7 x2 (fun r9 S10 => ((r9 = r2 → ((¬ r2 = 0 → (K S10 x1 x2 x3 x4 (x5 + 6))) ∧ (r2 = 0 → (pK S10 x3 = 14 ∧ (vp_in (0 : Int32) (pL S10 x3) ∧ (((lg_cmp (pJ S10 x3 ((0 : Int32)).toNatClampNeg) (r6.toInt64)) = 0 → (K S10 x1 x2 x3 x4 (x5 + 6))) ∧ (¬ (lg_cmp (pJ S10 x3 ((0 : Int32)).toNatClampNeg) (r6.toInt64)) = 0 → False))))))) ∧ (¬ r9 = r2 → False))))))))))))
set_option maxRecDepth 100000 in
set_option maxHeartbeats 8000000 in
theorem cbL_law_b1608 {p : Program} {l : Launch} {e : Env} {s : State} {m : MethodId} {args : Array Value} {below : List Frame} {meth : Method} {c : Code} {Q : State → Prop} {G : PG} {b L : Nat} {xs : Nat → Int32} (C : pCx p s m args meth c G cL_law 9 RL TsLaw) (hZ : pZa G) (hl : l.stackTraces = false) (hX : va_X b L xs s s.heap) (hb : b < s.heap.size) (hbG : b < G.2.2) {kc kn : Nat} {K : PS → Nat → Nat → Nat → Nat → Int32 → Prop} (hK : ∀ (S : PS) (x1 : Nat) (x2 : Nat) (x3 : Nat) (x4 : Nat) (x5 : Int32), K S x1 x2 x3 x4 x5 → PW p l e room_1 s m args below meth c Q G 9 S (kc + 22) (kn + 170) [(0, .ref b), (1, .ref (G.2.2 + x1)), (2, .ref (G.2.2 + x2)), (3, .ref (G.2.2 + x3)), (4, .ref (G.2.2 + x4)), (5, .int x5)] 28 []) (hkc : kc + 22 ≤ 601024) (hkn : kn + 170 ≤ 7293034) : ∀ (S : PS) (x1 : Nat) (x2 : Nat) (x3 : Nat) (x4 : Nat) (x5 : Int32), wpL_law_b1608 xs L K S x1 x2 x3 x4 x5 → PW p l e room_1 s m args below meth c Q G 9 S kc kn [(0, .ref b), (1, .ref (G.2.2 + x1)), (2, .ref (G.2.2 + x2)), (3, .ref (G.2.2 + x3)), (4, .ref (G.2.2 + x4)), (5, .int x5)] 1608 [] := by
  intro S x1 x2 x3 x4 x5 h
  unfold wpL_law_b1608 at h
  refine pw_aload_n (pc := 1608) C 1 dL_law_1608 rfl rfl ?_
  refine pw_aload_n (pc := 1609) C 0 dL_law_1609 rfl rfl ?_
  refine pw_iload (pc := 1610) C 5 dL_law_1610 rfl ?_
  refine pw_iconst (pc := 1612) (v := 1 ) C dL_law_1612 (by decide) ?_
  refine pw_iadd (pc := 1613) C dL_law_1613 ?_
  obtain ⟨hi1, h⟩ := h
  refine pw_sld (pc := 1614) C hX hb hbG hi1 dL_law_1614 ?_
  refine pw_aload_n (pc := 1615) C 3 dL_law_1615 rfl rfl ?_
  refine pw_calli (pc := 1616) (kc2 := (kc + 1)) (kn2 := (kn + 6)) (pRunSW (pc := 1616) C (ctL_decision l G hZ hl  _ x1 (xs ((x5 + (1 : Int32))).toNatClampNeg) x3 _ h) (vx_cwSW 3 C.2.2.2.2.1 qgL_law_L_decision rfl rfl rfl (by decide +kernel) ⟨Nat.le_of_ble_eq_true rfl, Nat.le_of_ble_eq_true rfl⟩) rfl rfl (Nat.le_of_ble_eq_true rfl) dL_law_1616 ⟨by show (kc + 0) + 1 ≤ 601024; omega, by show (kn + 0) + 6 ≤ 7293034; omega⟩) rfl rfl (fun r2 S3 h => ?_)
  refine pw_istore (pc := 1619) C [(6, .int r2), (0, .ref b), (1, .ref (G.2.2 + x1)), (2, .ref (G.2.2 + x2)), (3, .ref (G.2.2 + x3)), (4, .ref (G.2.2 + x4)), (5, .int x5)] dL_law_1619 (by decide) rfl ?_
  refine pw_aload_n (pc := 1621) C 3 dL_law_1621 rfl rfl ?_
  refine pw_aload_n (pc := 1622) C 1 dL_law_1622 rfl rfl ?_
  refine pw_iload (pc := 1623) C 6 dL_law_1623 rfl ?_
  refine pw_iconst (pc := 1625) (v := 1 ) C dL_law_1625 (by decide) ?_
  refine pw_iadd (pc := 1626) C dL_law_1626 ?_
  obtain ⟨hi4, h⟩ := h
  refine pw_sld (pc := 1627) C hX hb hbG hi4 dL_law_1627 ?_
  obtain ⟨hk5, h⟩ := h
  refine pw_calli (pc := 1628) (kc2 := (kc + 1)) (kn2 := (kn + 6)) (pRunV (pc := 1628) C (ctX12_decision l G  _ x2 (xs ((x5 + (1 : Int32))).toNatClampNeg) _ h) (cwV 1 C.2.2.2.2.1 qgL_law_X12_decision rfl rfl rfl (by decide +kernel) ⟨Nat.le_of_ble_eq_true rfl, Nat.le_of_ble_eq_true rfl⟩) pCl10 hk5 rfl rfl (Nat.le_of_ble_eq_true rfl) dL_law_1628 ⟨by show (kc + 1) + 0 ≤ 601024; omega, by show (kn + 6) + 0 ≤ 7293034; omega⟩) rfl rfl (fun r6 S7 h => ?_)
  refine pw_istore (pc := 1631) C [(7, .int r6), (6, .int r2), (0, .ref b), (1, .ref (G.2.2 + x1)), (2, .ref (G.2.2 + x2)), (3, .ref (G.2.2 + x3)), (4, .ref (G.2.2 + x4)), (5, .int x5)] dL_law_1631 (by decide) rfl ?_
  refine pw_aload_n (pc := 1633) C 4 dL_law_1633 rfl rfl ?_
  obtain ⟨hk8, h⟩ := h
  refine pw_calli (pc := 1634) (kc2 := (kc + 1)) (kn2 := (kn + 6)) (pRunV (pc := 1634) C (ctX12_thrown l G  _ x2 _ h) (cwV 0 C.2.2.2.2.1 qgL_law_X12_thrown rfl rfl rfl (by decide +kernel) ⟨Nat.le_of_ble_eq_true rfl, Nat.le_of_ble_eq_true rfl⟩) pCl10 hk8 rfl rfl (Nat.le_of_ble_eq_true rfl) dL_law_1634 ⟨by show (kc + 1) + 0 ≤ 601024; omega, by show (kn + 6) + 0 ≤ 7293034; omega⟩) rfl rfl (fun r9 S10 h => ?_)
  refine pw_iload (pc := 1637) C 1 dL_law_1637 rfl ?_
  refine pw_icmp_eq (pc := 1639) (tgt := 1644) C dL_law_1639 rfl ⟨fun hc => ?_, fun hc => ?_⟩
  · replace h := h.1 hc
    refine pw_iload (pc := 1644) C 1 dL_law_1644 rfl ?_
    refine pw_if_ne (pc := 1646) (tgt := 1661) C dL_law_1646 rfl ⟨fun hc => ?_, fun hc => ?_⟩
    · replace h := h.1 hc
      refine pw_goto (pc := 1661) (tgt := 1913) C dL_law_1661 rfl ?_
      refine pw_iincK (pc := 1913) (w := 6) C [(5, .int (x5 + 6)), (7, .int r6), (6, .int r2), (0, .ref b), (1, .ref (G.2.2 + x1)), (2, .ref (G.2.2 + x2)), (3, .ref (G.2.2 + x3)), (4, .ref (G.2.2 + x4))] 7 dL_law_1913 (by decide) rfl (by decide) rfl ?_
      refine pw_goto (pc := 1916) (tgt := 28) C dL_law_1916 rfl ?_
      refine pw_sub [3, 4, 5, 6, 7, 0] (LV2 := [(0, .ref b), (1, .ref (G.2.2 + x1)), (2, .ref (G.2.2 + x2)), (3, .ref (G.2.2 + x3)), (4, .ref (G.2.2 + x4)), (5, .int (x5 + 6))]) rfl ?_
      refine pw_widen (k2 := (kc + 22)) (n2 := (kn + 170)) (by omega) (by omega) ?_
      exact hK _ _ _ _ _ _ h
    · replace h := h.2 hc
      refine pw_aload_n (pc := 1649) C 5 dL_law_1649 rfl rfl ?_
      refine pw_iconst (pc := 1650) (v := 0 ) C dL_law_1650 (by decide) ?_
      obtain ⟨hk11, h⟩ := h
      obtain ⟨hi12, h⟩ := h
      refine pw_lald (pc := 1651) C hk11 hi12 dL_law_1651 ?_
      refine pw_iload (pc := 1652) C 0 dL_law_1652 rfl ?_
      refine pw_i2l (pc := 1654) C dL_law_1654 ?_
      refine pw_lcmp (pc := 1655) C dL_law_1655 ?_
      refine pw_if_eq (pc := 1656) (tgt := 1661) C dL_law_1656 rfl ⟨fun hc => ?_, fun hc => ?_⟩
      · replace h := h.1 hc
        refine pw_goto (pc := 1661) (tgt := 1913) C dL_law_1661 rfl ?_
        refine pw_iincK (pc := 1913) (w := 6) C [(5, .int (x5 + 6)), (7, .int r6), (6, .int r2), (0, .ref b), (1, .ref (G.2.2 + x1)), (2, .ref (G.2.2 + x2)), (3, .ref (G.2.2 + x3)), (4, .ref (G.2.2 + x4))] 7 dL_law_1913 (by decide) rfl (by decide) rfl ?_
        refine pw_goto (pc := 1916) (tgt := 28) C dL_law_1916 rfl ?_
        refine pw_sub [3, 4, 5, 6, 7, 0] (LV2 := [(0, .ref b), (1, .ref (G.2.2 + x1)), (2, .ref (G.2.2 + x2)), (3, .ref (G.2.2 + x3)), (4, .ref (G.2.2 + x4)), (5, .int (x5 + 6))]) rfl ?_
        refine pw_widen (k2 := (kc + 22)) (n2 := (kn + 170)) (by omega) (by omega) ?_
        exact hK _ _ _ _ _ _ h
      · replace h := h.2 hc
        refine pw_iconst (pc := 1659) (v := 0 ) C dL_law_1659 (by decide) ?_
        exact h.elim
  · replace h := h.2 hc
    refine pw_iconst (pc := 1642) (v := 0 ) C dL_law_1642 (by decide) ?_
    exact h.elim
def wpL_law_b1664 (xs : Nat → Int32) (L : Nat) (K : PS → Nat → Nat → Nat → Nat → Int32 → Prop) (S : PS) (x1 : Nat) (x2 : Nat) (x3 : Nat) (x4 : Nat) (x5 : Int32) : Prop := (vp_in (x5 + (1 : Int32)) L ∧ (vp_in (x5 + (2 : Int32)) L ∧ (wpL_probe S x1 (xs ((x5 + (1 : Int32))).toNatClampNeg) (xs ((x5 + (2 : Int32))).toNatClampNeg) x3 (fun r3 S4 => (vp_in (x5 + (1 : Int32)) L ∧ (vp_in (x5 + (2 : Int32)) L ∧ (pK S4 x2 = 11 ∧ (wpX12_probe S4 x2 (xs ((x5 + (1 : Int32))).toNatClampNeg) (xs ((x5 + (2 : Int32))).toNatClampNeg) (fun r8 S9 => (pK S9 x2 = 11 ∧ (wpX12_thrown S9 x2 (fun r11 S12 => ((r11 = r3 → ((¬ r3 = 0 → (K S12 x1 x2 x3 x4 (x5 + 6))) ∧ (r3 = 0 → (pK S12 x3 = 14 ∧ (vp_in (0 : Int32) (pL S12 x3) ∧ (((lg_cmp (pJ S12 x3 ((0 : Int32)).toNatClampNeg) (r8.toInt64)) = 0 → (K S12 x1 x2 x3 x4 (x5 + 6))) ∧ (¬ (lg_cmp (pJ S12 x3 ((0 : Int32)).toNatClampNeg) (r8.toInt64)) = 0 → False))))))) ∧ (¬ r11 = r3 → False))))))))))))))
set_option maxRecDepth 100000 in
set_option maxHeartbeats 8000000 in
theorem cbL_law_b1664 {p : Program} {l : Launch} {e : Env} {s : State} {m : MethodId} {args : Array Value} {below : List Frame} {meth : Method} {c : Code} {Q : State → Prop} {G : PG} {b L : Nat} {xs : Nat → Int32} (C : pCx p s m args meth c G cL_law 9 RL TsLaw) (hZ : pZa G) (hl : l.stackTraces = false) (hX : va_X b L xs s s.heap) (hb : b < s.heap.size) (hbG : b < G.2.2) {kc kn : Nat} {K : PS → Nat → Nat → Nat → Nat → Int32 → Prop} (hK : ∀ (S : PS) (x1 : Nat) (x2 : Nat) (x3 : Nat) (x4 : Nat) (x5 : Int32), K S x1 x2 x3 x4 x5 → PW p l e room_1 s m args below meth c Q G 9 S (kc + 22) (kn + 170) [(0, .ref b), (1, .ref (G.2.2 + x1)), (2, .ref (G.2.2 + x2)), (3, .ref (G.2.2 + x3)), (4, .ref (G.2.2 + x4)), (5, .int x5)] 28 []) (hkc : kc + 22 ≤ 601024) (hkn : kn + 170 ≤ 7293034) : ∀ (S : PS) (x1 : Nat) (x2 : Nat) (x3 : Nat) (x4 : Nat) (x5 : Int32), wpL_law_b1664 xs L K S x1 x2 x3 x4 x5 → PW p l e room_1 s m args below meth c Q G 9 S kc kn [(0, .ref b), (1, .ref (G.2.2 + x1)), (2, .ref (G.2.2 + x2)), (3, .ref (G.2.2 + x3)), (4, .ref (G.2.2 + x4)), (5, .int x5)] 1664 [] := by
  intro S x1 x2 x3 x4 x5 h
  unfold wpL_law_b1664 at h
  refine pw_aload_n (pc := 1664) C 1 dL_law_1664 rfl rfl ?_
  refine pw_aload_n (pc := 1665) C 0 dL_law_1665 rfl rfl ?_
  refine pw_iload (pc := 1666) C 5 dL_law_1666 rfl ?_
  refine pw_iconst (pc := 1668) (v := 1 ) C dL_law_1668 (by decide) ?_
  refine pw_iadd (pc := 1669) C dL_law_1669 ?_
  obtain ⟨hi1, h⟩ := h
  refine pw_sld (pc := 1670) C hX hb hbG hi1 dL_law_1670 ?_
  refine pw_aload_n (pc := 1671) C 0 dL_law_1671 rfl rfl ?_
  refine pw_iload (pc := 1672) C 5 dL_law_1672 rfl ?_
  refine pw_iconst (pc := 1674) (v := 2 ) C dL_law_1674 (by decide) ?_
  refine pw_iadd (pc := 1675) C dL_law_1675 ?_
  obtain ⟨hi2, h⟩ := h
  refine pw_sld (pc := 1676) C hX hb hbG hi2 dL_law_1676 ?_
  refine pw_aload_n (pc := 1677) C 3 dL_law_1677 rfl rfl ?_
  refine pw_calli (pc := 1678) (kc2 := (kc + 1)) (kn2 := (kn + 6)) (pRunSW (pc := 1678) C (ctL_probe l G hZ hl  _ x1 (xs ((x5 + (1 : Int32))).toNatClampNeg) (xs ((x5 + (2 : Int32))).toNatClampNeg) x3 _ h) (vx_cwSW 4 C.2.2.2.2.1 qgL_law_L_probe rfl rfl rfl (by decide +kernel) ⟨Nat.le_of_ble_eq_true rfl, Nat.le_of_ble_eq_true rfl⟩) rfl rfl (Nat.le_of_ble_eq_true rfl) dL_law_1678 ⟨by show (kc + 0) + 1 ≤ 601024; omega, by show (kn + 0) + 6 ≤ 7293034; omega⟩) rfl rfl (fun r3 S4 h => ?_)
  refine pw_istore (pc := 1681) C [(6, .int r3), (0, .ref b), (1, .ref (G.2.2 + x1)), (2, .ref (G.2.2 + x2)), (3, .ref (G.2.2 + x3)), (4, .ref (G.2.2 + x4)), (5, .int x5)] dL_law_1681 (by decide) rfl ?_
  refine pw_aload_n (pc := 1683) C 3 dL_law_1683 rfl rfl ?_
  refine pw_aload_n (pc := 1684) C 1 dL_law_1684 rfl rfl ?_
  refine pw_iload (pc := 1685) C 6 dL_law_1685 rfl ?_
  refine pw_iconst (pc := 1687) (v := 1 ) C dL_law_1687 (by decide) ?_
  refine pw_iadd (pc := 1688) C dL_law_1688 ?_
  obtain ⟨hi5, h⟩ := h
  refine pw_sld (pc := 1689) C hX hb hbG hi5 dL_law_1689 ?_
  refine pw_aload_n (pc := 1690) C 1 dL_law_1690 rfl rfl ?_
  refine pw_iload (pc := 1691) C 6 dL_law_1691 rfl ?_
  refine pw_iconst (pc := 1693) (v := 2 ) C dL_law_1693 (by decide) ?_
  refine pw_iadd (pc := 1694) C dL_law_1694 ?_
  obtain ⟨hi6, h⟩ := h
  refine pw_sld (pc := 1695) C hX hb hbG hi6 dL_law_1695 ?_
  obtain ⟨hk7, h⟩ := h
  refine pw_calli (pc := 1696) (kc2 := (kc + 1)) (kn2 := (kn + 6)) (pRunV (pc := 1696) C (ctX12_probe l G  _ x2 (xs ((x5 + (1 : Int32))).toNatClampNeg) (xs ((x5 + (2 : Int32))).toNatClampNeg) _ h) (cwV 2 C.2.2.2.2.1 qgL_law_X12_probe rfl rfl rfl (by decide +kernel) ⟨Nat.le_of_ble_eq_true rfl, Nat.le_of_ble_eq_true rfl⟩) pCl10 hk7 rfl rfl (Nat.le_of_ble_eq_true rfl) dL_law_1696 ⟨by show (kc + 1) + 0 ≤ 601024; omega, by show (kn + 6) + 0 ≤ 7293034; omega⟩) rfl rfl (fun r8 S9 h => ?_)
  refine pw_istore (pc := 1699) C [(7, .int r8), (6, .int r3), (0, .ref b), (1, .ref (G.2.2 + x1)), (2, .ref (G.2.2 + x2)), (3, .ref (G.2.2 + x3)), (4, .ref (G.2.2 + x4)), (5, .int x5)] dL_law_1699 (by decide) rfl ?_
  refine pw_aload_n (pc := 1701) C 4 dL_law_1701 rfl rfl ?_
  obtain ⟨hk10, h⟩ := h
  refine pw_calli (pc := 1702) (kc2 := (kc + 1)) (kn2 := (kn + 6)) (pRunV (pc := 1702) C (ctX12_thrown l G  _ x2 _ h) (cwV 0 C.2.2.2.2.1 qgL_law_X12_thrown rfl rfl rfl (by decide +kernel) ⟨Nat.le_of_ble_eq_true rfl, Nat.le_of_ble_eq_true rfl⟩) pCl10 hk10 rfl rfl (Nat.le_of_ble_eq_true rfl) dL_law_1702 ⟨by show (kc + 1) + 0 ≤ 601024; omega, by show (kn + 6) + 0 ≤ 7293034; omega⟩) rfl rfl (fun r11 S12 h => ?_)
  refine pw_iload (pc := 1705) C 1 dL_law_1705 rfl ?_
  refine pw_icmp_eq (pc := 1707) (tgt := 1712) C dL_law_1707 rfl ⟨fun hc => ?_, fun hc => ?_⟩
  · replace h := h.1 hc
    refine pw_iload (pc := 1712) C 1 dL_law_1712 rfl ?_
    refine pw_if_ne (pc := 1714) (tgt := 1729) C dL_law_1714 rfl ⟨fun hc => ?_, fun hc => ?_⟩
    · replace h := h.1 hc
      refine pw_goto (pc := 1729) (tgt := 1913) C dL_law_1729 rfl ?_
      refine pw_iincK (pc := 1913) (w := 6) C [(5, .int (x5 + 6)), (7, .int r8), (6, .int r3), (0, .ref b), (1, .ref (G.2.2 + x1)), (2, .ref (G.2.2 + x2)), (3, .ref (G.2.2 + x3)), (4, .ref (G.2.2 + x4))] 7 dL_law_1913 (by decide) rfl (by decide) rfl ?_
      refine pw_goto (pc := 1916) (tgt := 28) C dL_law_1916 rfl ?_
      refine pw_sub [3, 4, 5, 6, 7, 0] (LV2 := [(0, .ref b), (1, .ref (G.2.2 + x1)), (2, .ref (G.2.2 + x2)), (3, .ref (G.2.2 + x3)), (4, .ref (G.2.2 + x4)), (5, .int (x5 + 6))]) rfl ?_
      refine pw_widen (k2 := (kc + 22)) (n2 := (kn + 170)) (by omega) (by omega) ?_
      exact hK _ _ _ _ _ _ h
    · replace h := h.2 hc
      refine pw_aload_n (pc := 1717) C 5 dL_law_1717 rfl rfl ?_
      refine pw_iconst (pc := 1718) (v := 0 ) C dL_law_1718 (by decide) ?_
      obtain ⟨hk13, h⟩ := h
      obtain ⟨hi14, h⟩ := h
      refine pw_lald (pc := 1719) C hk13 hi14 dL_law_1719 ?_
      refine pw_iload (pc := 1720) C 0 dL_law_1720 rfl ?_
      refine pw_i2l (pc := 1722) C dL_law_1722 ?_
      refine pw_lcmp (pc := 1723) C dL_law_1723 ?_
      refine pw_if_eq (pc := 1724) (tgt := 1729) C dL_law_1724 rfl ⟨fun hc => ?_, fun hc => ?_⟩
      · replace h := h.1 hc
        refine pw_goto (pc := 1729) (tgt := 1913) C dL_law_1729 rfl ?_
        refine pw_iincK (pc := 1913) (w := 6) C [(5, .int (x5 + 6)), (7, .int r8), (6, .int r3), (0, .ref b), (1, .ref (G.2.2 + x1)), (2, .ref (G.2.2 + x2)), (3, .ref (G.2.2 + x3)), (4, .ref (G.2.2 + x4))] 7 dL_law_1913 (by decide) rfl (by decide) rfl ?_
        refine pw_goto (pc := 1916) (tgt := 28) C dL_law_1916 rfl ?_
        refine pw_sub [3, 4, 5, 6, 7, 0] (LV2 := [(0, .ref b), (1, .ref (G.2.2 + x1)), (2, .ref (G.2.2 + x2)), (3, .ref (G.2.2 + x3)), (4, .ref (G.2.2 + x4)), (5, .int (x5 + 6))]) rfl ?_
        refine pw_widen (k2 := (kc + 22)) (n2 := (kn + 170)) (by omega) (by omega) ?_
        exact hK _ _ _ _ _ _ h
      · replace h := h.2 hc
        refine pw_iconst (pc := 1727) (v := 0 ) C dL_law_1727 (by decide) ?_
        exact h.elim
  · replace h := h.2 hc
    refine pw_iconst (pc := 1710) (v := 0 ) C dL_law_1710 (by decide) ?_
    exact h.elim
def wpL_law_b1732 (xs : Nat → Int32) (L : Nat) (K : PS → Nat → Nat → Nat → Nat → Int32 → Prop) (S : PS) (x1 : Nat) (x2 : Nat) (x3 : Nat) (x4 : Nat) (x5 : Int32) : Prop := (wpL_learn S x1 x3 (fun r1 S2 => (pK S2 x2 = 11 ∧ (wpX12_learn S2 x2 (fun r4 S5 => (pK S5 x2 = 11 ∧ (wpX12_thrown S5 x2 (fun r7 S8 => ((r7 = r1 → ((¬ r1 = 0 → (K S8 x1 x2 x3 x4 (x5 + 6))) ∧ (r1 = 0 → (pK S8 x3 = 14 ∧ (vp_in (0 : Int32) (pL S8 x3) ∧ (((lg_cmp (pJ S8 x3 ((0 : Int32)).toNatClampNeg) (r4.toInt64)) = 0 → (K S8 x1 x2 x3 x4 (x5 + 6))) ∧ (¬ (lg_cmp (pJ S8 x3 ((0 : Int32)).toNatClampNeg) (r4.toInt64)) = 0 → False))))))) ∧ (¬ r7 = r1 → False))))))))))
set_option maxRecDepth 100000 in
set_option maxHeartbeats 8000000 in
theorem cbL_law_b1732 {p : Program} {l : Launch} {e : Env} {s : State} {m : MethodId} {args : Array Value} {below : List Frame} {meth : Method} {c : Code} {Q : State → Prop} {G : PG} {b L : Nat} {xs : Nat → Int32} (C : pCx p s m args meth c G cL_law 9 RL TsLaw) (hZ : pZa G) (hl : l.stackTraces = false) (hX : va_X b L xs s s.heap) (hb : b < s.heap.size) (hbG : b < G.2.2) {kc kn : Nat} {K : PS → Nat → Nat → Nat → Nat → Int32 → Prop} (hK : ∀ (S : PS) (x1 : Nat) (x2 : Nat) (x3 : Nat) (x4 : Nat) (x5 : Int32), K S x1 x2 x3 x4 x5 → PW p l e room_1 s m args below meth c Q G 9 S (kc + 22) (kn + 170) [(0, .ref b), (1, .ref (G.2.2 + x1)), (2, .ref (G.2.2 + x2)), (3, .ref (G.2.2 + x3)), (4, .ref (G.2.2 + x4)), (5, .int x5)] 28 []) (hkc : kc + 22 ≤ 601024) (hkn : kn + 170 ≤ 7293034) : ∀ (S : PS) (x1 : Nat) (x2 : Nat) (x3 : Nat) (x4 : Nat) (x5 : Int32), wpL_law_b1732 xs L K S x1 x2 x3 x4 x5 → PW p l e room_1 s m args below meth c Q G 9 S kc kn [(0, .ref b), (1, .ref (G.2.2 + x1)), (2, .ref (G.2.2 + x2)), (3, .ref (G.2.2 + x3)), (4, .ref (G.2.2 + x4)), (5, .int x5)] 1732 [] := by
  intro S x1 x2 x3 x4 x5 h
  unfold wpL_law_b1732 at h
  refine pw_aload_n (pc := 1732) C 1 dL_law_1732 rfl rfl ?_
  refine pw_aload_n (pc := 1733) C 3 dL_law_1733 rfl rfl ?_
  refine pw_calli (pc := 1734) (kc2 := (kc + 1)) (kn2 := (kn + 6)) (pRunSW (pc := 1734) C (ctL_learn l G hZ hl  _ x1 x3 _ h) (vx_cwSW 2 C.2.2.2.2.1 qgL_law_L_learn rfl rfl rfl (by decide +kernel) ⟨Nat.le_of_ble_eq_true rfl, Nat.le_of_ble_eq_true rfl⟩) rfl rfl (Nat.le_of_ble_eq_true rfl) dL_law_1734 ⟨by show (kc + 0) + 1 ≤ 601024; omega, by show (kn + 0) + 6 ≤ 7293034; omega⟩) rfl rfl (fun r1 S2 h => ?_)
  refine pw_istore (pc := 1737) C [(6, .int r1), (0, .ref b), (1, .ref (G.2.2 + x1)), (2, .ref (G.2.2 + x2)), (3, .ref (G.2.2 + x3)), (4, .ref (G.2.2 + x4)), (5, .int x5)] dL_law_1737 (by decide) rfl ?_
  refine pw_aload_n (pc := 1739) C 3 dL_law_1739 rfl rfl ?_
  obtain ⟨hk3, h⟩ := h
  refine pw_calli (pc := 1740) (kc2 := (kc + 1)) (kn2 := (kn + 6)) (pRunV (pc := 1740) C (ctX12_learn l G  _ x2 _ h) (cwV 0 C.2.2.2.2.1 qgL_law_X12_learn rfl rfl rfl (by decide +kernel) ⟨Nat.le_of_ble_eq_true rfl, Nat.le_of_ble_eq_true rfl⟩) pCl10 hk3 rfl rfl (Nat.le_of_ble_eq_true rfl) dL_law_1740 ⟨by show (kc + 1) + 0 ≤ 601024; omega, by show (kn + 6) + 0 ≤ 7293034; omega⟩) rfl rfl (fun r4 S5 h => ?_)
  refine pw_istore (pc := 1743) C [(7, .int r4), (6, .int r1), (0, .ref b), (1, .ref (G.2.2 + x1)), (2, .ref (G.2.2 + x2)), (3, .ref (G.2.2 + x3)), (4, .ref (G.2.2 + x4)), (5, .int x5)] dL_law_1743 (by decide) rfl ?_
  refine pw_aload_n (pc := 1745) C 4 dL_law_1745 rfl rfl ?_
  obtain ⟨hk6, h⟩ := h
  refine pw_calli (pc := 1746) (kc2 := (kc + 1)) (kn2 := (kn + 6)) (pRunV (pc := 1746) C (ctX12_thrown l G  _ x2 _ h) (cwV 0 C.2.2.2.2.1 qgL_law_X12_thrown rfl rfl rfl (by decide +kernel) ⟨Nat.le_of_ble_eq_true rfl, Nat.le_of_ble_eq_true rfl⟩) pCl10 hk6 rfl rfl (Nat.le_of_ble_eq_true rfl) dL_law_1746 ⟨by show (kc + 1) + 0 ≤ 601024; omega, by show (kn + 6) + 0 ≤ 7293034; omega⟩) rfl rfl (fun r7 S8 h => ?_)
  refine pw_iload (pc := 1749) C 1 dL_law_1749 rfl ?_
  refine pw_icmp_eq (pc := 1751) (tgt := 1756) C dL_law_1751 rfl ⟨fun hc => ?_, fun hc => ?_⟩
  · replace h := h.1 hc
    refine pw_iload (pc := 1756) C 1 dL_law_1756 rfl ?_
    refine pw_if_ne (pc := 1758) (tgt := 1773) C dL_law_1758 rfl ⟨fun hc => ?_, fun hc => ?_⟩
    · replace h := h.1 hc
      refine pw_goto (pc := 1773) (tgt := 1913) C dL_law_1773 rfl ?_
      refine pw_iincK (pc := 1913) (w := 6) C [(5, .int (x5 + 6)), (7, .int r4), (6, .int r1), (0, .ref b), (1, .ref (G.2.2 + x1)), (2, .ref (G.2.2 + x2)), (3, .ref (G.2.2 + x3)), (4, .ref (G.2.2 + x4))] 7 dL_law_1913 (by decide) rfl (by decide) rfl ?_
      refine pw_goto (pc := 1916) (tgt := 28) C dL_law_1916 rfl ?_
      refine pw_sub [3, 4, 5, 6, 7, 0] (LV2 := [(0, .ref b), (1, .ref (G.2.2 + x1)), (2, .ref (G.2.2 + x2)), (3, .ref (G.2.2 + x3)), (4, .ref (G.2.2 + x4)), (5, .int (x5 + 6))]) rfl ?_
      refine pw_widen (k2 := (kc + 22)) (n2 := (kn + 170)) (by omega) (by omega) ?_
      exact hK _ _ _ _ _ _ h
    · replace h := h.2 hc
      refine pw_aload_n (pc := 1761) C 5 dL_law_1761 rfl rfl ?_
      refine pw_iconst (pc := 1762) (v := 0 ) C dL_law_1762 (by decide) ?_
      obtain ⟨hk9, h⟩ := h
      obtain ⟨hi10, h⟩ := h
      refine pw_lald (pc := 1763) C hk9 hi10 dL_law_1763 ?_
      refine pw_iload (pc := 1764) C 0 dL_law_1764 rfl ?_
      refine pw_i2l (pc := 1766) C dL_law_1766 ?_
      refine pw_lcmp (pc := 1767) C dL_law_1767 ?_
      refine pw_if_eq (pc := 1768) (tgt := 1773) C dL_law_1768 rfl ⟨fun hc => ?_, fun hc => ?_⟩
      · replace h := h.1 hc
        refine pw_goto (pc := 1773) (tgt := 1913) C dL_law_1773 rfl ?_
        refine pw_iincK (pc := 1913) (w := 6) C [(5, .int (x5 + 6)), (7, .int r4), (6, .int r1), (0, .ref b), (1, .ref (G.2.2 + x1)), (2, .ref (G.2.2 + x2)), (3, .ref (G.2.2 + x3)), (4, .ref (G.2.2 + x4))] 7 dL_law_1913 (by decide) rfl (by decide) rfl ?_
        refine pw_goto (pc := 1916) (tgt := 28) C dL_law_1916 rfl ?_
        refine pw_sub [3, 4, 5, 6, 7, 0] (LV2 := [(0, .ref b), (1, .ref (G.2.2 + x1)), (2, .ref (G.2.2 + x2)), (3, .ref (G.2.2 + x3)), (4, .ref (G.2.2 + x4)), (5, .int (x5 + 6))]) rfl ?_
        refine pw_widen (k2 := (kc + 22)) (n2 := (kn + 170)) (by omega) (by omega) ?_
        exact hK _ _ _ _ _ _ h
      · replace h := h.2 hc
        refine pw_iconst (pc := 1771) (v := 0 ) C dL_law_1771 (by decide) ?_
        exact h.elim
  · replace h := h.2 hc
    refine pw_iconst (pc := 1754) (v := 0 ) C dL_law_1754 (by decide) ?_
    exact h.elim
def wpL_law_b1776 (xs : Nat → Int32) (L : Nat) (K : PS → Nat → Nat → Nat → Nat → Int32 → Prop) (S : PS) (x1 : Nat) (x2 : Nat) (x3 : Nat) (x4 : Nat) (x5 : Int32) : Prop := (vp_in (x5 + (1 : Int32)) L ∧ (vp_in (x5 + (2 : Int32)) L ∧ (wpL_learnt S x1 (xs ((x5 + (1 : Int32))).toNatClampNeg) (xs ((x5 + (2 : Int32))).toNatClampNeg) x3 (fun r3 S4 => (vp_in (x5 + (1 : Int32)) L ∧ (vp_in (x5 + (2 : Int32)) L ∧ (pK S4 x2 = 11 ∧ (wpX12_learnt S4 x2 (xs ((x5 + (1 : Int32))).toNatClampNeg) (xs ((x5 + (2 : Int32))).toNatClampNeg) (fun r8 S9 => (pK S9 x2 = 11 ∧ (wpX12_thrown S9 x2 (fun r11 S12 => ((r11 = r3 → ((¬ r3 = 0 → (K S12 x1 x2 x3 x4 (x5 + 6))) ∧ (r3 = 0 → (pK S12 x3 = 14 ∧ (vp_in (0 : Int32) (pL S12 x3) ∧ (((lg_cmp (pJ S12 x3 ((0 : Int32)).toNatClampNeg) (r8.toInt64)) = 0 → (K S12 x1 x2 x3 x4 (x5 + 6))) ∧ (¬ (lg_cmp (pJ S12 x3 ((0 : Int32)).toNatClampNeg) (r8.toInt64)) = 0 → False))))))) ∧ (¬ r11 = r3 → False))))))))))))))
set_option maxRecDepth 100000 in
set_option maxHeartbeats 8000000 in
theorem cbL_law_b1776 {p : Program} {l : Launch} {e : Env} {s : State} {m : MethodId} {args : Array Value} {below : List Frame} {meth : Method} {c : Code} {Q : State → Prop} {G : PG} {b L : Nat} {xs : Nat → Int32} (C : pCx p s m args meth c G cL_law 9 RL TsLaw) (hZ : pZa G) (hl : l.stackTraces = false) (hX : va_X b L xs s s.heap) (hb : b < s.heap.size) (hbG : b < G.2.2) {kc kn : Nat} {K : PS → Nat → Nat → Nat → Nat → Int32 → Prop} (hK : ∀ (S : PS) (x1 : Nat) (x2 : Nat) (x3 : Nat) (x4 : Nat) (x5 : Int32), K S x1 x2 x3 x4 x5 → PW p l e room_1 s m args below meth c Q G 9 S (kc + 22) (kn + 170) [(0, .ref b), (1, .ref (G.2.2 + x1)), (2, .ref (G.2.2 + x2)), (3, .ref (G.2.2 + x3)), (4, .ref (G.2.2 + x4)), (5, .int x5)] 28 []) (hkc : kc + 22 ≤ 601024) (hkn : kn + 170 ≤ 7293034) : ∀ (S : PS) (x1 : Nat) (x2 : Nat) (x3 : Nat) (x4 : Nat) (x5 : Int32), wpL_law_b1776 xs L K S x1 x2 x3 x4 x5 → PW p l e room_1 s m args below meth c Q G 9 S kc kn [(0, .ref b), (1, .ref (G.2.2 + x1)), (2, .ref (G.2.2 + x2)), (3, .ref (G.2.2 + x3)), (4, .ref (G.2.2 + x4)), (5, .int x5)] 1776 [] := by
  intro S x1 x2 x3 x4 x5 h
  unfold wpL_law_b1776 at h
  refine pw_aload_n (pc := 1776) C 1 dL_law_1776 rfl rfl ?_
  refine pw_aload_n (pc := 1777) C 0 dL_law_1777 rfl rfl ?_
  refine pw_iload (pc := 1778) C 5 dL_law_1778 rfl ?_
  refine pw_iconst (pc := 1780) (v := 1 ) C dL_law_1780 (by decide) ?_
  refine pw_iadd (pc := 1781) C dL_law_1781 ?_
  obtain ⟨hi1, h⟩ := h
  refine pw_sld (pc := 1782) C hX hb hbG hi1 dL_law_1782 ?_
  refine pw_aload_n (pc := 1783) C 0 dL_law_1783 rfl rfl ?_
  refine pw_iload (pc := 1784) C 5 dL_law_1784 rfl ?_
  refine pw_iconst (pc := 1786) (v := 2 ) C dL_law_1786 (by decide) ?_
  refine pw_iadd (pc := 1787) C dL_law_1787 ?_
  obtain ⟨hi2, h⟩ := h
  refine pw_sld (pc := 1788) C hX hb hbG hi2 dL_law_1788 ?_
  refine pw_aload_n (pc := 1789) C 3 dL_law_1789 rfl rfl ?_
  refine pw_calli (pc := 1790) (kc2 := (kc + 1)) (kn2 := (kn + 6)) (pRunSW (pc := 1790) C (ctL_learnt l G hZ hl  _ x1 (xs ((x5 + (1 : Int32))).toNatClampNeg) (xs ((x5 + (2 : Int32))).toNatClampNeg) x3 _ h) (vx_cwSW 4 C.2.2.2.2.1 qgL_law_L_learnt rfl rfl rfl (by decide +kernel) ⟨Nat.le_of_ble_eq_true rfl, Nat.le_of_ble_eq_true rfl⟩) rfl rfl (Nat.le_of_ble_eq_true rfl) dL_law_1790 ⟨by show (kc + 0) + 1 ≤ 601024; omega, by show (kn + 0) + 6 ≤ 7293034; omega⟩) rfl rfl (fun r3 S4 h => ?_)
  refine pw_istore (pc := 1793) C [(6, .int r3), (0, .ref b), (1, .ref (G.2.2 + x1)), (2, .ref (G.2.2 + x2)), (3, .ref (G.2.2 + x3)), (4, .ref (G.2.2 + x4)), (5, .int x5)] dL_law_1793 (by decide) rfl ?_
  refine pw_aload_n (pc := 1795) C 3 dL_law_1795 rfl rfl ?_
  refine pw_aload_n (pc := 1796) C 1 dL_law_1796 rfl rfl ?_
  refine pw_iload (pc := 1797) C 6 dL_law_1797 rfl ?_
  refine pw_iconst (pc := 1799) (v := 1 ) C dL_law_1799 (by decide) ?_
  refine pw_iadd (pc := 1800) C dL_law_1800 ?_
  obtain ⟨hi5, h⟩ := h
  refine pw_sld (pc := 1801) C hX hb hbG hi5 dL_law_1801 ?_
  refine pw_aload_n (pc := 1802) C 1 dL_law_1802 rfl rfl ?_
  refine pw_iload (pc := 1803) C 6 dL_law_1803 rfl ?_
  refine pw_iconst (pc := 1805) (v := 2 ) C dL_law_1805 (by decide) ?_
  refine pw_iadd (pc := 1806) C dL_law_1806 ?_
  obtain ⟨hi6, h⟩ := h
  refine pw_sld (pc := 1807) C hX hb hbG hi6 dL_law_1807 ?_
  obtain ⟨hk7, h⟩ := h
  refine pw_calli (pc := 1808) (kc2 := (kc + 1)) (kn2 := (kn + 6)) (pRunV (pc := 1808) C (ctX12_learnt l G  _ x2 (xs ((x5 + (1 : Int32))).toNatClampNeg) (xs ((x5 + (2 : Int32))).toNatClampNeg) _ h) (cwV 2 C.2.2.2.2.1 qgL_law_X12_learnt rfl rfl rfl (by decide +kernel) ⟨Nat.le_of_ble_eq_true rfl, Nat.le_of_ble_eq_true rfl⟩) pCl10 hk7 rfl rfl (Nat.le_of_ble_eq_true rfl) dL_law_1808 ⟨by show (kc + 1) + 0 ≤ 601024; omega, by show (kn + 6) + 0 ≤ 7293034; omega⟩) rfl rfl (fun r8 S9 h => ?_)
  refine pw_istore (pc := 1811) C [(7, .int r8), (6, .int r3), (0, .ref b), (1, .ref (G.2.2 + x1)), (2, .ref (G.2.2 + x2)), (3, .ref (G.2.2 + x3)), (4, .ref (G.2.2 + x4)), (5, .int x5)] dL_law_1811 (by decide) rfl ?_
  refine pw_aload_n (pc := 1813) C 4 dL_law_1813 rfl rfl ?_
  obtain ⟨hk10, h⟩ := h
  refine pw_calli (pc := 1814) (kc2 := (kc + 1)) (kn2 := (kn + 6)) (pRunV (pc := 1814) C (ctX12_thrown l G  _ x2 _ h) (cwV 0 C.2.2.2.2.1 qgL_law_X12_thrown rfl rfl rfl (by decide +kernel) ⟨Nat.le_of_ble_eq_true rfl, Nat.le_of_ble_eq_true rfl⟩) pCl10 hk10 rfl rfl (Nat.le_of_ble_eq_true rfl) dL_law_1814 ⟨by show (kc + 1) + 0 ≤ 601024; omega, by show (kn + 6) + 0 ≤ 7293034; omega⟩) rfl rfl (fun r11 S12 h => ?_)
  refine pw_iload (pc := 1817) C 1 dL_law_1817 rfl ?_
  refine pw_icmp_eq (pc := 1819) (tgt := 1824) C dL_law_1819 rfl ⟨fun hc => ?_, fun hc => ?_⟩
  · replace h := h.1 hc
    refine pw_iload (pc := 1824) C 1 dL_law_1824 rfl ?_
    refine pw_if_ne (pc := 1826) (tgt := 1841) C dL_law_1826 rfl ⟨fun hc => ?_, fun hc => ?_⟩
    · replace h := h.1 hc
      refine pw_goto (pc := 1841) (tgt := 1913) C dL_law_1841 rfl ?_
      refine pw_iincK (pc := 1913) (w := 6) C [(5, .int (x5 + 6)), (7, .int r8), (6, .int r3), (0, .ref b), (1, .ref (G.2.2 + x1)), (2, .ref (G.2.2 + x2)), (3, .ref (G.2.2 + x3)), (4, .ref (G.2.2 + x4))] 7 dL_law_1913 (by decide) rfl (by decide) rfl ?_
      refine pw_goto (pc := 1916) (tgt := 28) C dL_law_1916 rfl ?_
      refine pw_sub [3, 4, 5, 6, 7, 0] (LV2 := [(0, .ref b), (1, .ref (G.2.2 + x1)), (2, .ref (G.2.2 + x2)), (3, .ref (G.2.2 + x3)), (4, .ref (G.2.2 + x4)), (5, .int (x5 + 6))]) rfl ?_
      refine pw_widen (k2 := (kc + 22)) (n2 := (kn + 170)) (by omega) (by omega) ?_
      exact hK _ _ _ _ _ _ h
    · replace h := h.2 hc
      refine pw_aload_n (pc := 1829) C 5 dL_law_1829 rfl rfl ?_
      refine pw_iconst (pc := 1830) (v := 0 ) C dL_law_1830 (by decide) ?_
      obtain ⟨hk13, h⟩ := h
      obtain ⟨hi14, h⟩ := h
      refine pw_lald (pc := 1831) C hk13 hi14 dL_law_1831 ?_
      refine pw_iload (pc := 1832) C 0 dL_law_1832 rfl ?_
      refine pw_i2l (pc := 1834) C dL_law_1834 ?_
      refine pw_lcmp (pc := 1835) C dL_law_1835 ?_
      refine pw_if_eq (pc := 1836) (tgt := 1841) C dL_law_1836 rfl ⟨fun hc => ?_, fun hc => ?_⟩
      · replace h := h.1 hc
        refine pw_goto (pc := 1841) (tgt := 1913) C dL_law_1841 rfl ?_
        refine pw_iincK (pc := 1913) (w := 6) C [(5, .int (x5 + 6)), (7, .int r8), (6, .int r3), (0, .ref b), (1, .ref (G.2.2 + x1)), (2, .ref (G.2.2 + x2)), (3, .ref (G.2.2 + x3)), (4, .ref (G.2.2 + x4))] 7 dL_law_1913 (by decide) rfl (by decide) rfl ?_
        refine pw_goto (pc := 1916) (tgt := 28) C dL_law_1916 rfl ?_
        refine pw_sub [3, 4, 5, 6, 7, 0] (LV2 := [(0, .ref b), (1, .ref (G.2.2 + x1)), (2, .ref (G.2.2 + x2)), (3, .ref (G.2.2 + x3)), (4, .ref (G.2.2 + x4)), (5, .int (x5 + 6))]) rfl ?_
        refine pw_widen (k2 := (kc + 22)) (n2 := (kn + 170)) (by omega) (by omega) ?_
        exact hK _ _ _ _ _ _ h
      · replace h := h.2 hc
        refine pw_iconst (pc := 1839) (v := 0 ) C dL_law_1839 (by decide) ?_
        exact h.elim
  · replace h := h.2 hc
    refine pw_iconst (pc := 1822) (v := 0 ) C dL_law_1822 (by decide) ?_
    exact h.elim
def wpL_law_b1844 (xs : Nat → Int32) (L : Nat) (K : PS → Nat → Nat → Nat → Nat → Int32 → Prop) (S : PS) (x1 : Nat) (x2 : Nat) (x3 : Nat) (x4 : Nat) (x5 : Int32) : Prop := (vp_in (x5 + (1 : Int32)) L ∧ (wpL_search S x1 (xs ((x5 + (1 : Int32))).toNatClampNeg) x3 (fun r2 S3 => (vp_in (x5 + (1 : Int32)) L ∧ (pK S3 x2 = 11 ∧ (wpX12_search S3 x2 (xs ((x5 + (1 : Int32))).toNatClampNeg) (fun r6 S7 => (pK S7 x2 = 11 ∧ (wpX12_thrown S7 x2 (fun r9 S10 => ((r9 = r2 → ((¬ r2 = 0 → (K S10 x1 x2 x3 x4 (x5 + 6))) ∧ (r2 = 0 → (pK S10 x3 = 14 ∧ (vp_in (0 : Int32) (pL S10 x3) ∧ (((lg_cmp (pJ S10 x3 ((0 : Int32)).toNatClampNeg) (r6.toInt64)) = 0 → (K S10 x1 x2 x3 x4 (x5 + 6))) ∧ (¬ (lg_cmp (pJ S10 x3 ((0 : Int32)).toNatClampNeg) (r6.toInt64)) = 0 → False))))))) ∧ (¬ r9 = r2 → False))))))))))))
set_option maxRecDepth 100000 in
set_option maxHeartbeats 8000000 in
theorem cbL_law_b1844 {p : Program} {l : Launch} {e : Env} {s : State} {m : MethodId} {args : Array Value} {below : List Frame} {meth : Method} {c : Code} {Q : State → Prop} {G : PG} {b L : Nat} {xs : Nat → Int32} (C : pCx p s m args meth c G cL_law 9 RL TsLaw) (hZ : pZa G) (hl : l.stackTraces = false) (hX : va_X b L xs s s.heap) (hb : b < s.heap.size) (hbG : b < G.2.2) {kc kn : Nat} {K : PS → Nat → Nat → Nat → Nat → Int32 → Prop} (hK : ∀ (S : PS) (x1 : Nat) (x2 : Nat) (x3 : Nat) (x4 : Nat) (x5 : Int32), K S x1 x2 x3 x4 x5 → PW p l e room_1 s m args below meth c Q G 9 S (kc + 22) (kn + 170) [(0, .ref b), (1, .ref (G.2.2 + x1)), (2, .ref (G.2.2 + x2)), (3, .ref (G.2.2 + x3)), (4, .ref (G.2.2 + x4)), (5, .int x5)] 28 []) (hkc : kc + 22 ≤ 601024) (hkn : kn + 170 ≤ 7293034) : ∀ (S : PS) (x1 : Nat) (x2 : Nat) (x3 : Nat) (x4 : Nat) (x5 : Int32), wpL_law_b1844 xs L K S x1 x2 x3 x4 x5 → PW p l e room_1 s m args below meth c Q G 9 S kc kn [(0, .ref b), (1, .ref (G.2.2 + x1)), (2, .ref (G.2.2 + x2)), (3, .ref (G.2.2 + x3)), (4, .ref (G.2.2 + x4)), (5, .int x5)] 1844 [] := by
  intro S x1 x2 x3 x4 x5 h
  unfold wpL_law_b1844 at h
  refine pw_aload_n (pc := 1844) C 1 dL_law_1844 rfl rfl ?_
  refine pw_aload_n (pc := 1845) C 0 dL_law_1845 rfl rfl ?_
  refine pw_iload (pc := 1846) C 5 dL_law_1846 rfl ?_
  refine pw_iconst (pc := 1848) (v := 1 ) C dL_law_1848 (by decide) ?_
  refine pw_iadd (pc := 1849) C dL_law_1849 ?_
  obtain ⟨hi1, h⟩ := h
  refine pw_sld (pc := 1850) C hX hb hbG hi1 dL_law_1850 ?_
  refine pw_aload_n (pc := 1851) C 3 dL_law_1851 rfl rfl ?_
  refine pw_calli (pc := 1852) (kc2 := (kc + 1)) (kn2 := (kn + 6)) (pRunSW (pc := 1852) C (ctL_search l G hZ hl  _ x1 (xs ((x5 + (1 : Int32))).toNatClampNeg) x3 _ h) (vx_cwSW 3 C.2.2.2.2.1 qgL_law_L_search rfl rfl rfl (by decide +kernel) ⟨Nat.le_of_ble_eq_true rfl, Nat.le_of_ble_eq_true rfl⟩) rfl rfl (Nat.le_of_ble_eq_true rfl) dL_law_1852 ⟨by show (kc + 0) + 1 ≤ 601024; omega, by show (kn + 0) + 6 ≤ 7293034; omega⟩) rfl rfl (fun r2 S3 h => ?_)
  refine pw_istore (pc := 1855) C [(6, .int r2), (0, .ref b), (1, .ref (G.2.2 + x1)), (2, .ref (G.2.2 + x2)), (3, .ref (G.2.2 + x3)), (4, .ref (G.2.2 + x4)), (5, .int x5)] dL_law_1855 (by decide) rfl ?_
  refine pw_aload_n (pc := 1857) C 3 dL_law_1857 rfl rfl ?_
  refine pw_aload_n (pc := 1858) C 1 dL_law_1858 rfl rfl ?_
  refine pw_iload (pc := 1859) C 6 dL_law_1859 rfl ?_
  refine pw_iconst (pc := 1861) (v := 1 ) C dL_law_1861 (by decide) ?_
  refine pw_iadd (pc := 1862) C dL_law_1862 ?_
  obtain ⟨hi4, h⟩ := h
  refine pw_sld (pc := 1863) C hX hb hbG hi4 dL_law_1863 ?_
  obtain ⟨hk5, h⟩ := h
  refine pw_calli (pc := 1864) (kc2 := (kc + 1)) (kn2 := (kn + 6)) (pRunV (pc := 1864) C (ctX12_search l G  _ x2 (xs ((x5 + (1 : Int32))).toNatClampNeg) _ h) (cwV 1 C.2.2.2.2.1 qgL_law_X12_search rfl rfl rfl (by decide +kernel) ⟨Nat.le_of_ble_eq_true rfl, Nat.le_of_ble_eq_true rfl⟩) pCl10 hk5 rfl rfl (Nat.le_of_ble_eq_true rfl) dL_law_1864 ⟨by show (kc + 1) + 0 ≤ 601024; omega, by show (kn + 6) + 0 ≤ 7293034; omega⟩) rfl rfl (fun r6 S7 h => ?_)
  refine pw_istore (pc := 1867) C [(7, .int r6), (6, .int r2), (0, .ref b), (1, .ref (G.2.2 + x1)), (2, .ref (G.2.2 + x2)), (3, .ref (G.2.2 + x3)), (4, .ref (G.2.2 + x4)), (5, .int x5)] dL_law_1867 (by decide) rfl ?_
  refine pw_aload_n (pc := 1869) C 4 dL_law_1869 rfl rfl ?_
  obtain ⟨hk8, h⟩ := h
  refine pw_calli (pc := 1870) (kc2 := (kc + 1)) (kn2 := (kn + 6)) (pRunV (pc := 1870) C (ctX12_thrown l G  _ x2 _ h) (cwV 0 C.2.2.2.2.1 qgL_law_X12_thrown rfl rfl rfl (by decide +kernel) ⟨Nat.le_of_ble_eq_true rfl, Nat.le_of_ble_eq_true rfl⟩) pCl10 hk8 rfl rfl (Nat.le_of_ble_eq_true rfl) dL_law_1870 ⟨by show (kc + 1) + 0 ≤ 601024; omega, by show (kn + 6) + 0 ≤ 7293034; omega⟩) rfl rfl (fun r9 S10 h => ?_)
  refine pw_iload (pc := 1873) C 1 dL_law_1873 rfl ?_
  refine pw_icmp_eq (pc := 1875) (tgt := 1880) C dL_law_1875 rfl ⟨fun hc => ?_, fun hc => ?_⟩
  · replace h := h.1 hc
    refine pw_iload (pc := 1880) C 1 dL_law_1880 rfl ?_
    refine pw_if_ne (pc := 1882) (tgt := 1897) C dL_law_1882 rfl ⟨fun hc => ?_, fun hc => ?_⟩
    · replace h := h.1 hc
      refine pw_goto (pc := 1897) (tgt := 1913) C dL_law_1897 rfl ?_
      refine pw_iincK (pc := 1913) (w := 6) C [(5, .int (x5 + 6)), (7, .int r6), (6, .int r2), (0, .ref b), (1, .ref (G.2.2 + x1)), (2, .ref (G.2.2 + x2)), (3, .ref (G.2.2 + x3)), (4, .ref (G.2.2 + x4))] 7 dL_law_1913 (by decide) rfl (by decide) rfl ?_
      refine pw_goto (pc := 1916) (tgt := 28) C dL_law_1916 rfl ?_
      refine pw_sub [3, 4, 5, 6, 7, 0] (LV2 := [(0, .ref b), (1, .ref (G.2.2 + x1)), (2, .ref (G.2.2 + x2)), (3, .ref (G.2.2 + x3)), (4, .ref (G.2.2 + x4)), (5, .int (x5 + 6))]) rfl ?_
      refine pw_widen (k2 := (kc + 22)) (n2 := (kn + 170)) (by omega) (by omega) ?_
      exact hK _ _ _ _ _ _ h
    · replace h := h.2 hc
      refine pw_aload_n (pc := 1885) C 5 dL_law_1885 rfl rfl ?_
      refine pw_iconst (pc := 1886) (v := 0 ) C dL_law_1886 (by decide) ?_
      obtain ⟨hk11, h⟩ := h
      obtain ⟨hi12, h⟩ := h
      refine pw_lald (pc := 1887) C hk11 hi12 dL_law_1887 ?_
      refine pw_iload (pc := 1888) C 0 dL_law_1888 rfl ?_
      refine pw_i2l (pc := 1890) C dL_law_1890 ?_
      refine pw_lcmp (pc := 1891) C dL_law_1891 ?_
      refine pw_if_eq (pc := 1892) (tgt := 1897) C dL_law_1892 rfl ⟨fun hc => ?_, fun hc => ?_⟩
      · replace h := h.1 hc
        refine pw_goto (pc := 1897) (tgt := 1913) C dL_law_1897 rfl ?_
        refine pw_iincK (pc := 1913) (w := 6) C [(5, .int (x5 + 6)), (7, .int r6), (6, .int r2), (0, .ref b), (1, .ref (G.2.2 + x1)), (2, .ref (G.2.2 + x2)), (3, .ref (G.2.2 + x3)), (4, .ref (G.2.2 + x4))] 7 dL_law_1913 (by decide) rfl (by decide) rfl ?_
        refine pw_goto (pc := 1916) (tgt := 28) C dL_law_1916 rfl ?_
        refine pw_sub [3, 4, 5, 6, 7, 0] (LV2 := [(0, .ref b), (1, .ref (G.2.2 + x1)), (2, .ref (G.2.2 + x2)), (3, .ref (G.2.2 + x3)), (4, .ref (G.2.2 + x4)), (5, .int (x5 + 6))]) rfl ?_
        refine pw_widen (k2 := (kc + 22)) (n2 := (kn + 170)) (by omega) (by omega) ?_
        exact hK _ _ _ _ _ _ h
      · replace h := h.2 hc
        refine pw_iconst (pc := 1895) (v := 0 ) C dL_law_1895 (by decide) ?_
        exact h.elim
  · replace h := h.2 hc
    refine pw_iconst (pc := 1878) (v := 0 ) C dL_law_1878 (by decide) ?_
    exact h.elim
def wpL_law_b1900 (xs : Nat → Int32) (L : Nat) (K : PS → Nat → Nat → Nat → Nat → Int32 → Prop) (S : PS) (x1 : Nat) (x2 : Nat) (x3 : Nat) (x4 : Nat) (x5 : Int32) : Prop := (pK S x1 = 10 ∧ (wpX11_restart S x1 (fun r2 S3 => (pK S3 x2 = 11 ∧ (wpX12_restart S3 x2 (fun r5 S6 => ((r2 = r5 → (K S6 x1 x2 x3 x4 (x5 + 6))) ∧ (¬ r2 = r5 → False))))))))
set_option maxRecDepth 100000 in
set_option maxHeartbeats 8000000 in
theorem cbL_law_b1900 {p : Program} {l : Launch} {e : Env} {s : State} {m : MethodId} {args : Array Value} {below : List Frame} {meth : Method} {c : Code} {Q : State → Prop} {G : PG} {b L : Nat} {xs : Nat → Int32} (C : pCx p s m args meth c G cL_law 9 RL TsLaw) (hZ : pZa G) (hl : l.stackTraces = false) (hX : va_X b L xs s s.heap) (hb : b < s.heap.size) (hbG : b < G.2.2) {kc kn : Nat} {K : PS → Nat → Nat → Nat → Nat → Int32 → Prop} (hK : ∀ (S : PS) (x1 : Nat) (x2 : Nat) (x3 : Nat) (x4 : Nat) (x5 : Int32), K S x1 x2 x3 x4 x5 → PW p l e room_1 s m args below meth c Q G 9 S (kc + 22) (kn + 170) [(0, .ref b), (1, .ref (G.2.2 + x1)), (2, .ref (G.2.2 + x2)), (3, .ref (G.2.2 + x3)), (4, .ref (G.2.2 + x4)), (5, .int x5)] 28 []) (hkc : kc + 22 ≤ 601024) (hkn : kn + 170 ≤ 7293034) : ∀ (S : PS) (x1 : Nat) (x2 : Nat) (x3 : Nat) (x4 : Nat) (x5 : Int32), wpL_law_b1900 xs L K S x1 x2 x3 x4 x5 → PW p l e room_1 s m args below meth c Q G 9 S kc kn [(0, .ref b), (1, .ref (G.2.2 + x1)), (2, .ref (G.2.2 + x2)), (3, .ref (G.2.2 + x3)), (4, .ref (G.2.2 + x4)), (5, .int x5)] 1900 [] := by
  intro S x1 x2 x3 x4 x5 h
  unfold wpL_law_b1900 at h
  refine pw_aload_n (pc := 1900) C 1 dL_law_1900 rfl rfl ?_
  obtain ⟨hk1, h⟩ := h
  refine pw_calli (pc := 1901) (kc2 := (kc + 0)) (kn2 := (kn + 0)) (pRunV (pc := 1901) C (ctX11_restart l G hZ  _ x1 _ h) (cwV 0 C.2.2.2.2.1 qgL_law_X11_restart rfl rfl rfl (by decide +kernel) ⟨Nat.le_of_ble_eq_true rfl, Nat.le_of_ble_eq_true rfl⟩) pCl9 hk1 rfl rfl (Nat.le_of_ble_eq_true rfl) dL_law_1901 ⟨by show (kc + 0) + 0 ≤ 601024; omega, by show (kn + 0) + 0 ≤ 7293034; omega⟩) rfl rfl (fun r2 S3 h => ?_)
  refine pw_aload_n (pc := 1904) C 2 dL_law_1904 rfl rfl ?_
  obtain ⟨hk4, h⟩ := h
  refine pw_calli (pc := 1905) (kc2 := (kc + 0)) (kn2 := (kn + 0)) (pRunV (pc := 1905) C (ctX12_restart l G  _ x2 _ h) (cwV 0 C.2.2.2.2.1 qgL_law_X12_restart rfl rfl rfl (by decide +kernel) ⟨Nat.le_of_ble_eq_true rfl, Nat.le_of_ble_eq_true rfl⟩) pCl10 hk4 rfl rfl (Nat.le_of_ble_eq_true rfl) dL_law_1905 ⟨by show (kc + 0) + 0 ≤ 601024; omega, by show (kn + 0) + 0 ≤ 7293034; omega⟩) rfl rfl (fun r5 S6 h => ?_)
  refine pw_icmp_eq (pc := 1908) (tgt := 1913) C dL_law_1908 rfl ⟨fun hc => ?_, fun hc => ?_⟩
  · replace h := h.1 hc
    refine pw_iincK (pc := 1913) (w := 6) C [(5, .int (x5 + 6)), (0, .ref b), (1, .ref (G.2.2 + x1)), (2, .ref (G.2.2 + x2)), (3, .ref (G.2.2 + x3)), (4, .ref (G.2.2 + x4))] 5 dL_law_1913 (by decide) rfl (by decide) rfl ?_
    refine pw_goto (pc := 1916) (tgt := 28) C dL_law_1916 rfl ?_
    refine pw_sub [1, 2, 3, 4, 5, 0] (LV2 := [(0, .ref b), (1, .ref (G.2.2 + x1)), (2, .ref (G.2.2 + x2)), (3, .ref (G.2.2 + x3)), (4, .ref (G.2.2 + x4)), (5, .int (x5 + 6))]) rfl ?_
    refine pw_widen (k2 := (kc + 22)) (n2 := (kn + 170)) (by omega) (by omega) ?_
    exact hK _ _ _ _ _ _ h
  · replace h := h.2 hc
    refine pw_iconst (pc := 1911) (v := 0 ) C dL_law_1911 (by decide) ?_
    exact h.elim
def wpL_law_h (xs : Nat → Int32) (L : Nat) : Nat → PS → Nat → Nat → Nat → Nat → Int32 → Prop
  | 0 => fun _ _ _ _ _ _ => False
  | n + 1 => fun S x1 x2 x3 x4 x5 => ((((Int32.ofNat L) - (6 : Int32)) < x5 → True) ∧ (¬ ((Int32.ofNat L) - (6 : Int32)) < x5 → (vp_in x5 L ∧ ((((xs (x5).toNatClampNeg) &&& (31 : Int32)) = 0 → (wpL_law_b184 xs L (wpL_law_h xs L n) S x1 x2 x3 x4 x5)) ∧ (((xs (x5).toNatClampNeg) &&& (31 : Int32)) = 1 → (wpL_law_b288 xs L (wpL_law_h xs L n) S x1 x2 x3 x4 x5)) ∧ (((xs (x5).toNatClampNeg) &&& (31 : Int32)) = 2 → (wpL_law_b344 xs L (wpL_law_h xs L n) S x1 x2 x3 x4 x5)) ∧ (((xs (x5).toNatClampNeg) &&& (31 : Int32)) = 3 → (wpL_law_b388 xs L (wpL_law_h xs L n) S x1 x2 x3 x4 x5)) ∧ (((xs (x5).toNatClampNeg) &&& (31 : Int32)) = 4 → (wpL_law_b401 xs L (wpL_law_h xs L n) S x1 x2 x3 x4 x5)) ∧ (((xs (x5).toNatClampNeg) &&& (31 : Int32)) = 5 → (wpL_law_b414 xs L (wpL_law_h xs L n) S x1 x2 x3 x4 x5)) ∧ (((xs (x5).toNatClampNeg) &&& (31 : Int32)) = 6 → (wpL_law_b470 xs L (wpL_law_h xs L n) S x1 x2 x3 x4 x5)) ∧ (((xs (x5).toNatClampNeg) &&& (31 : Int32)) = 7 → (wpL_law_b526 xs L (wpL_law_h xs L n) S x1 x2 x3 x4 x5)) ∧ (((xs (x5).toNatClampNeg) &&& (31 : Int32)) = 8 → (wpL_law_b594 xs L (wpL_law_h xs L n) S x1 x2 x3 x4 x5)) ∧ (((xs (x5).toNatClampNeg) &&& (31 : Int32)) = 9 → (wpL_law_b662 xs L (wpL_law_h xs L n) S x1 x2 x3 x4 x5)) ∧ (((xs (x5).toNatClampNeg) &&& (31 : Int32)) = 10 → (wpL_law_b730 xs L (wpL_law_h xs L n) S x1 x2 x3 x4 x5)) ∧ (((xs (x5).toNatClampNeg) &&& (31 : Int32)) = 11 → (wpL_law_b786 xs L (wpL_law_h xs L n) S x1 x2 x3 x4 x5)) ∧ (((xs (x5).toNatClampNeg) &&& (31 : Int32)) = 12 → (wpL_law_b854 xs L (wpL_law_h xs L n) S x1 x2 x3 x4 x5)) ∧ (((xs (x5).toNatClampNeg) &&& (31 : Int32)) = 13 → (wpL_law_b910 xs L (wpL_law_h xs L n) S x1 x2 x3 x4 x5)) ∧ (((xs (x5).toNatClampNeg) &&& (31 : Int32)) = 14 → (wpL_law_b997 xs L (wpL_law_h xs L n) S x1 x2 x3 x4 x5)) ∧ (((xs (x5).toNatClampNeg) &&& (31 : Int32)) = 15 → (wpL_law_b1089 xs L (wpL_law_h xs L n) S x1 x2 x3 x4 x5)) ∧ (((xs (x5).toNatClampNeg) &&& (31 : Int32)) = 16 → (wpL_law_b1157 xs L (wpL_law_h xs L n) S x1 x2 x3 x4 x5)) ∧ (((xs (x5).toNatClampNeg) &&& (31 : Int32)) = 17 → (wpL_law_b1213 xs L (wpL_law_h xs L n) S x1 x2 x3 x4 x5)) ∧ (((xs (x5).toNatClampNeg) &&& (31 : Int32)) = 18 → (wpL_law_b1290 xs L (wpL_law_h xs L n) S x1 x2 x3 x4 x5)) ∧ (((xs (x5).toNatClampNeg) &&& (31 : Int32)) = 19 → (wpL_law_b1303 xs L (wpL_law_h xs L n) S x1 x2 x3 x4 x5)) ∧ (((xs (x5).toNatClampNeg) &&& (31 : Int32)) = 20 → (wpL_law_b1359 xs L (wpL_law_h xs L n) S x1 x2 x3 x4 x5)) ∧ (((xs (x5).toNatClampNeg) &&& (31 : Int32)) = 21 → (wpL_law_b1415 xs L (wpL_law_h xs L n) S x1 x2 x3 x4 x5)) ∧ (((xs (x5).toNatClampNeg) &&& (31 : Int32)) = 22 → (wpL_law_b1428 xs L (wpL_law_h xs L n) S x1 x2 x3 x4 x5)) ∧ (((xs (x5).toNatClampNeg) &&& (31 : Int32)) = 23 → (wpL_law_b1496 xs L (wpL_law_h xs L n) S x1 x2 x3 x4 x5)) ∧ (((xs (x5).toNatClampNeg) &&& (31 : Int32)) = 24 → (wpL_law_b1564 xs L (wpL_law_h xs L n) S x1 x2 x3 x4 x5)) ∧ (((xs (x5).toNatClampNeg) &&& (31 : Int32)) = 25 → (wpL_law_b1608 xs L (wpL_law_h xs L n) S x1 x2 x3 x4 x5)) ∧ (((xs (x5).toNatClampNeg) &&& (31 : Int32)) = 26 → (wpL_law_b1664 xs L (wpL_law_h xs L n) S x1 x2 x3 x4 x5)) ∧ (((xs (x5).toNatClampNeg) &&& (31 : Int32)) = 27 → (wpL_law_b1732 xs L (wpL_law_h xs L n) S x1 x2 x3 x4 x5)) ∧ (((xs (x5).toNatClampNeg) &&& (31 : Int32)) = 28 → (wpL_law_b1776 xs L (wpL_law_h xs L n) S x1 x2 x3 x4 x5)) ∧ (((xs (x5).toNatClampNeg) &&& (31 : Int32)) = 29 → (wpL_law_b1844 xs L (wpL_law_h xs L n) S x1 x2 x3 x4 x5)) ∧ (((xs (x5).toNatClampNeg) &&& (31 : Int32)) = 30 → (wpL_law_b1900 xs L (wpL_law_h xs L n) S x1 x2 x3 x4 x5)) ∧ ((¬ ((xs (x5).toNatClampNeg) &&& (31 : Int32)) = 0 ∧ ¬ ((xs (x5).toNatClampNeg) &&& (31 : Int32)) = 1 ∧ ¬ ((xs (x5).toNatClampNeg) &&& (31 : Int32)) = 2 ∧ ¬ ((xs (x5).toNatClampNeg) &&& (31 : Int32)) = 3 ∧ ¬ ((xs (x5).toNatClampNeg) &&& (31 : Int32)) = 4 ∧ ¬ ((xs (x5).toNatClampNeg) &&& (31 : Int32)) = 5 ∧ ¬ ((xs (x5).toNatClampNeg) &&& (31 : Int32)) = 6 ∧ ¬ ((xs (x5).toNatClampNeg) &&& (31 : Int32)) = 7 ∧ ¬ ((xs (x5).toNatClampNeg) &&& (31 : Int32)) = 8 ∧ ¬ ((xs (x5).toNatClampNeg) &&& (31 : Int32)) = 9 ∧ ¬ ((xs (x5).toNatClampNeg) &&& (31 : Int32)) = 10 ∧ ¬ ((xs (x5).toNatClampNeg) &&& (31 : Int32)) = 11 ∧ ¬ ((xs (x5).toNatClampNeg) &&& (31 : Int32)) = 12 ∧ ¬ ((xs (x5).toNatClampNeg) &&& (31 : Int32)) = 13 ∧ ¬ ((xs (x5).toNatClampNeg) &&& (31 : Int32)) = 14 ∧ ¬ ((xs (x5).toNatClampNeg) &&& (31 : Int32)) = 15 ∧ ¬ ((xs (x5).toNatClampNeg) &&& (31 : Int32)) = 16 ∧ ¬ ((xs (x5).toNatClampNeg) &&& (31 : Int32)) = 17 ∧ ¬ ((xs (x5).toNatClampNeg) &&& (31 : Int32)) = 18 ∧ ¬ ((xs (x5).toNatClampNeg) &&& (31 : Int32)) = 19 ∧ ¬ ((xs (x5).toNatClampNeg) &&& (31 : Int32)) = 20 ∧ ¬ ((xs (x5).toNatClampNeg) &&& (31 : Int32)) = 21 ∧ ¬ ((xs (x5).toNatClampNeg) &&& (31 : Int32)) = 22 ∧ ¬ ((xs (x5).toNatClampNeg) &&& (31 : Int32)) = 23 ∧ ¬ ((xs (x5).toNatClampNeg) &&& (31 : Int32)) = 24 ∧ ¬ ((xs (x5).toNatClampNeg) &&& (31 : Int32)) = 25 ∧ ¬ ((xs (x5).toNatClampNeg) &&& (31 : Int32)) = 26 ∧ ¬ ((xs (x5).toNatClampNeg) &&& (31 : Int32)) = 27 ∧ ¬ ((xs (x5).toNatClampNeg) &&& (31 : Int32)) = 28 ∧ ¬ ((xs (x5).toNatClampNeg) &&& (31 : Int32)) = 29 ∧ ¬ ((xs (x5).toNatClampNeg) &&& (31 : Int32)) = 30) → (wpL_law_h xs L n S x1 x2 x3 x4 (x5 + 6)))))))
set_option maxRecDepth 100000 in
set_option maxHeartbeats 8000000 in
theorem cbL_law_h {p : Program} {l : Launch} {e : Env} {s : State} {m : MethodId} {args : Array Value} {below : List Frame} {meth : Method} {c : Code} {Q : State → Prop} {G : PG} {b L : Nat} {xs : Nat → Int32} (C : pCx p s m args meth c G cL_law 9 RL TsLaw) (hZ : pZa G) (hl : l.stackTraces = false) (hX : va_X b L xs s s.heap) (hb : b < s.heap.size) (hbG : b < G.2.2) (hend : ∀ (S : PS) (kc kn : Nat) (LV : List (Nat × Value)), kc ≤ 601024 → kn ≤ 7293034 → PW p l e room_1 s m args below meth c Q G 9 S kc kn LV 1920 [.int 1]) (n : Nat) : n ≤ 513 → ∀ (S : PS) (x1 : Nat) (x2 : Nat) (x3 : Nat) (x4 : Nat) (x5 : Int32), wpL_law_h xs L n S x1 x2 x3 x4 x5 → PW p l e room_1 s m args below meth c Q G 9 S (181 + (513 - n) * 22) (3082 + (513 - n) * 170) [(0, .ref b), (1, .ref (G.2.2 + x1)), (2, .ref (G.2.2 + x2)), (3, .ref (G.2.2 + x3)), (4, .ref (G.2.2 + x4)), (5, .int x5)] 28 [] := by
  induction n with
  | zero => intro hn9 S x1 x2 x3 x4 x5 h; exact h.elim
  | succ n ih =>
    intro hn9 S x1 x2 x3 x4 x5 h
    unfold wpL_law_h at h
    have hK9 : ∀ (S : PS) (x1 : Nat) (x2 : Nat) (x3 : Nat) (x4 : Nat) (x5 : Int32), wpL_law_h xs L n S x1 x2 x3 x4 x5 → PW p l e room_1 s m args below meth c Q G 9 S ((181 + (513 - (n + 1)) * 22 + 0) + 22) ((3082 + (513 - (n + 1)) * 170 + 0) + 170) [(0, .ref b), (1, .ref (G.2.2 + x1)), (2, .ref (G.2.2 + x2)), (3, .ref (G.2.2 + x3)), (4, .ref (G.2.2 + x4)), (5, .int x5)] 28 [] := by
      intro S x1 x2 x3 x4 x5 h
      have h9 := ih (by omega) S x1 x2 x3 x4 x5 h
      rw [show 181 + (513 - (n + 1)) * 22 + 0 + 22 = 181 + (513 - n) * 22 by omega, show 3082 + (513 - (n + 1)) * 170 + 0 + 170 = 3082 + (513 - n) * 170 by omega]
      exact h9
    refine pw_iload (pc := 28) C 5 dL_law_28 rfl ?_
    refine pw_aload_n (pc := 30) C 0 dL_law_30 rfl rfl ?_
    refine pw_slenX (pc := 31) C hX hb hbG dL_law_31 ?_
    refine pw_bipush (pc := 32) (v := 6 ) C dL_law_32 (by decide) ?_
    refine pw_isub (pc := 34) C dL_law_34 ?_
    refine pw_icmp_gt (pc := 35) (tgt := 1919) C dL_law_35 rfl ⟨fun hc => ?_, fun hc => ?_⟩
    · replace h := h.1 hc
      refine pw_iconst (pc := 1919) (v := 1 ) C dL_law_1919 (by decide) ?_
      exact hend _ _ _ _ (by omega) (by omega)
    · replace h := h.2 hc
      refine pw_aload_n (pc := 38) C 0 dL_law_38 rfl rfl ?_
      refine pw_iload (pc := 39) C 5 dL_law_39 rfl ?_
      obtain ⟨hi1, h⟩ := h
      refine pw_sld (pc := 41) C hX hb hbG hi1 dL_law_41 ?_
      refine pw_bipush (pc := 42) (v := 31 ) C dL_law_42 (by decide) ?_
      refine pw_iand (pc := 44) C dL_law_44 ?_
      by_cases hc0 : ((xs (x5).toNatClampNeg) &&& (31 : Int32)) = 0
      · replace h := h.1 hc0
        refine pw_tableIn (pc := 45) (tgt := 184) C dL_law_45 (by rw [hc0]; decide) (by rw [hc0]; decide) (by rw [hc0]; rfl) rfl ?_
        exact cbL_law_b184 C hZ hl hX hb hbG hK9 (by omega) (by omega) _ _ _ _ _ _ h
      by_cases hc1 : ((xs (x5).toNatClampNeg) &&& (31 : Int32)) = 1
      · replace h := h.2.1 hc1
        refine pw_tableIn (pc := 45) (tgt := 288) C dL_law_45 (by rw [hc1]; decide) (by rw [hc1]; decide) (by rw [hc1]; rfl) rfl ?_
        exact cbL_law_b288 C hZ hl hX hb hbG hK9 (by omega) (by omega) _ _ _ _ _ _ h
      by_cases hc2 : ((xs (x5).toNatClampNeg) &&& (31 : Int32)) = 2
      · replace h := h.2.2.1 hc2
        refine pw_tableIn (pc := 45) (tgt := 344) C dL_law_45 (by rw [hc2]; decide) (by rw [hc2]; decide) (by rw [hc2]; rfl) rfl ?_
        exact cbL_law_b344 C hZ hl hX hb hbG hK9 (by omega) (by omega) _ _ _ _ _ _ h
      by_cases hc3 : ((xs (x5).toNatClampNeg) &&& (31 : Int32)) = 3
      · replace h := h.2.2.2.1 hc3
        refine pw_tableIn (pc := 45) (tgt := 388) C dL_law_45 (by rw [hc3]; decide) (by rw [hc3]; decide) (by rw [hc3]; rfl) rfl ?_
        exact cbL_law_b388 C hZ hl hX hb hbG hK9 (by omega) (by omega) _ _ _ _ _ _ h
      by_cases hc4 : ((xs (x5).toNatClampNeg) &&& (31 : Int32)) = 4
      · replace h := h.2.2.2.2.1 hc4
        refine pw_tableIn (pc := 45) (tgt := 401) C dL_law_45 (by rw [hc4]; decide) (by rw [hc4]; decide) (by rw [hc4]; rfl) rfl ?_
        exact cbL_law_b401 C hZ hl hX hb hbG hK9 (by omega) (by omega) _ _ _ _ _ _ h
      by_cases hc5 : ((xs (x5).toNatClampNeg) &&& (31 : Int32)) = 5
      · replace h := h.2.2.2.2.2.1 hc5
        refine pw_tableIn (pc := 45) (tgt := 414) C dL_law_45 (by rw [hc5]; decide) (by rw [hc5]; decide) (by rw [hc5]; rfl) rfl ?_
        exact cbL_law_b414 C hZ hl hX hb hbG hK9 (by omega) (by omega) _ _ _ _ _ _ h
      by_cases hc6 : ((xs (x5).toNatClampNeg) &&& (31 : Int32)) = 6
      · replace h := h.2.2.2.2.2.2.1 hc6
        refine pw_tableIn (pc := 45) (tgt := 470) C dL_law_45 (by rw [hc6]; decide) (by rw [hc6]; decide) (by rw [hc6]; rfl) rfl ?_
        exact cbL_law_b470 C hZ hl hX hb hbG hK9 (by omega) (by omega) _ _ _ _ _ _ h
      by_cases hc7 : ((xs (x5).toNatClampNeg) &&& (31 : Int32)) = 7
      · replace h := h.2.2.2.2.2.2.2.1 hc7
        refine pw_tableIn (pc := 45) (tgt := 526) C dL_law_45 (by rw [hc7]; decide) (by rw [hc7]; decide) (by rw [hc7]; rfl) rfl ?_
        exact cbL_law_b526 C hZ hl hX hb hbG hK9 (by omega) (by omega) _ _ _ _ _ _ h
      by_cases hc8 : ((xs (x5).toNatClampNeg) &&& (31 : Int32)) = 8
      · replace h := h.2.2.2.2.2.2.2.2.1 hc8
        refine pw_tableIn (pc := 45) (tgt := 594) C dL_law_45 (by rw [hc8]; decide) (by rw [hc8]; decide) (by rw [hc8]; rfl) rfl ?_
        exact cbL_law_b594 C hZ hl hX hb hbG hK9 (by omega) (by omega) _ _ _ _ _ _ h
      by_cases hc9 : ((xs (x5).toNatClampNeg) &&& (31 : Int32)) = 9
      · replace h := h.2.2.2.2.2.2.2.2.2.1 hc9
        refine pw_tableIn (pc := 45) (tgt := 662) C dL_law_45 (by rw [hc9]; decide) (by rw [hc9]; decide) (by rw [hc9]; rfl) rfl ?_
        exact cbL_law_b662 C hZ hl hX hb hbG hK9 (by omega) (by omega) _ _ _ _ _ _ h
      by_cases hc10 : ((xs (x5).toNatClampNeg) &&& (31 : Int32)) = 10
      · replace h := h.2.2.2.2.2.2.2.2.2.2.1 hc10
        refine pw_tableIn (pc := 45) (tgt := 730) C dL_law_45 (by rw [hc10]; decide) (by rw [hc10]; decide) (by rw [hc10]; rfl) rfl ?_
        exact cbL_law_b730 C hZ hl hX hb hbG hK9 (by omega) (by omega) _ _ _ _ _ _ h
      by_cases hc11 : ((xs (x5).toNatClampNeg) &&& (31 : Int32)) = 11
      · replace h := h.2.2.2.2.2.2.2.2.2.2.2.1 hc11
        refine pw_tableIn (pc := 45) (tgt := 786) C dL_law_45 (by rw [hc11]; decide) (by rw [hc11]; decide) (by rw [hc11]; rfl) rfl ?_
        exact cbL_law_b786 C hZ hl hX hb hbG hK9 (by omega) (by omega) _ _ _ _ _ _ h
      by_cases hc12 : ((xs (x5).toNatClampNeg) &&& (31 : Int32)) = 12
      · replace h := h.2.2.2.2.2.2.2.2.2.2.2.2.1 hc12
        refine pw_tableIn (pc := 45) (tgt := 854) C dL_law_45 (by rw [hc12]; decide) (by rw [hc12]; decide) (by rw [hc12]; rfl) rfl ?_
        exact cbL_law_b854 C hZ hl hX hb hbG hK9 (by omega) (by omega) _ _ _ _ _ _ h
      by_cases hc13 : ((xs (x5).toNatClampNeg) &&& (31 : Int32)) = 13
      · replace h := h.2.2.2.2.2.2.2.2.2.2.2.2.2.1 hc13
        refine pw_tableIn (pc := 45) (tgt := 910) C dL_law_45 (by rw [hc13]; decide) (by rw [hc13]; decide) (by rw [hc13]; rfl) rfl ?_
        exact cbL_law_b910 C hZ hl hX hb hbG hK9 (by omega) (by omega) _ _ _ _ _ _ h
      by_cases hc14 : ((xs (x5).toNatClampNeg) &&& (31 : Int32)) = 14
      · replace h := h.2.2.2.2.2.2.2.2.2.2.2.2.2.2.1 hc14
        refine pw_tableIn (pc := 45) (tgt := 997) C dL_law_45 (by rw [hc14]; decide) (by rw [hc14]; decide) (by rw [hc14]; rfl) rfl ?_
        exact cbL_law_b997 C hZ hl hX hb hbG hK9 (by omega) (by omega) _ _ _ _ _ _ h
      by_cases hc15 : ((xs (x5).toNatClampNeg) &&& (31 : Int32)) = 15
      · replace h := h.2.2.2.2.2.2.2.2.2.2.2.2.2.2.2.1 hc15
        refine pw_tableIn (pc := 45) (tgt := 1089) C dL_law_45 (by rw [hc15]; decide) (by rw [hc15]; decide) (by rw [hc15]; rfl) rfl ?_
        exact cbL_law_b1089 C hZ hl hX hb hbG hK9 (by omega) (by omega) _ _ _ _ _ _ h
      by_cases hc16 : ((xs (x5).toNatClampNeg) &&& (31 : Int32)) = 16
      · replace h := h.2.2.2.2.2.2.2.2.2.2.2.2.2.2.2.2.1 hc16
        refine pw_tableIn (pc := 45) (tgt := 1157) C dL_law_45 (by rw [hc16]; decide) (by rw [hc16]; decide) (by rw [hc16]; rfl) rfl ?_
        exact cbL_law_b1157 C hZ hl hX hb hbG hK9 (by omega) (by omega) _ _ _ _ _ _ h
      by_cases hc17 : ((xs (x5).toNatClampNeg) &&& (31 : Int32)) = 17
      · replace h := h.2.2.2.2.2.2.2.2.2.2.2.2.2.2.2.2.2.1 hc17
        refine pw_tableIn (pc := 45) (tgt := 1213) C dL_law_45 (by rw [hc17]; decide) (by rw [hc17]; decide) (by rw [hc17]; rfl) rfl ?_
        exact cbL_law_b1213 C hZ hl hX hb hbG hK9 (by omega) (by omega) _ _ _ _ _ _ h
      by_cases hc18 : ((xs (x5).toNatClampNeg) &&& (31 : Int32)) = 18
      · replace h := h.2.2.2.2.2.2.2.2.2.2.2.2.2.2.2.2.2.2.1 hc18
        refine pw_tableIn (pc := 45) (tgt := 1290) C dL_law_45 (by rw [hc18]; decide) (by rw [hc18]; decide) (by rw [hc18]; rfl) rfl ?_
        exact cbL_law_b1290 C hZ hl hX hb hbG hK9 (by omega) (by omega) _ _ _ _ _ _ h
      by_cases hc19 : ((xs (x5).toNatClampNeg) &&& (31 : Int32)) = 19
      · replace h := h.2.2.2.2.2.2.2.2.2.2.2.2.2.2.2.2.2.2.2.1 hc19
        refine pw_tableIn (pc := 45) (tgt := 1303) C dL_law_45 (by rw [hc19]; decide) (by rw [hc19]; decide) (by rw [hc19]; rfl) rfl ?_
        exact cbL_law_b1303 C hZ hl hX hb hbG hK9 (by omega) (by omega) _ _ _ _ _ _ h
      by_cases hc20 : ((xs (x5).toNatClampNeg) &&& (31 : Int32)) = 20
      · replace h := h.2.2.2.2.2.2.2.2.2.2.2.2.2.2.2.2.2.2.2.2.1 hc20
        refine pw_tableIn (pc := 45) (tgt := 1359) C dL_law_45 (by rw [hc20]; decide) (by rw [hc20]; decide) (by rw [hc20]; rfl) rfl ?_
        exact cbL_law_b1359 C hZ hl hX hb hbG hK9 (by omega) (by omega) _ _ _ _ _ _ h
      by_cases hc21 : ((xs (x5).toNatClampNeg) &&& (31 : Int32)) = 21
      · replace h := h.2.2.2.2.2.2.2.2.2.2.2.2.2.2.2.2.2.2.2.2.2.1 hc21
        refine pw_tableIn (pc := 45) (tgt := 1415) C dL_law_45 (by rw [hc21]; decide) (by rw [hc21]; decide) (by rw [hc21]; rfl) rfl ?_
        exact cbL_law_b1415 C hZ hl hX hb hbG hK9 (by omega) (by omega) _ _ _ _ _ _ h
      by_cases hc22 : ((xs (x5).toNatClampNeg) &&& (31 : Int32)) = 22
      · replace h := h.2.2.2.2.2.2.2.2.2.2.2.2.2.2.2.2.2.2.2.2.2.2.1 hc22
        refine pw_tableIn (pc := 45) (tgt := 1428) C dL_law_45 (by rw [hc22]; decide) (by rw [hc22]; decide) (by rw [hc22]; rfl) rfl ?_
        exact cbL_law_b1428 C hZ hl hX hb hbG hK9 (by omega) (by omega) _ _ _ _ _ _ h
      by_cases hc23 : ((xs (x5).toNatClampNeg) &&& (31 : Int32)) = 23
      · replace h := h.2.2.2.2.2.2.2.2.2.2.2.2.2.2.2.2.2.2.2.2.2.2.2.1 hc23
        refine pw_tableIn (pc := 45) (tgt := 1496) C dL_law_45 (by rw [hc23]; decide) (by rw [hc23]; decide) (by rw [hc23]; rfl) rfl ?_
        exact cbL_law_b1496 C hZ hl hX hb hbG hK9 (by omega) (by omega) _ _ _ _ _ _ h
      by_cases hc24 : ((xs (x5).toNatClampNeg) &&& (31 : Int32)) = 24
      · replace h := h.2.2.2.2.2.2.2.2.2.2.2.2.2.2.2.2.2.2.2.2.2.2.2.2.1 hc24
        refine pw_tableIn (pc := 45) (tgt := 1564) C dL_law_45 (by rw [hc24]; decide) (by rw [hc24]; decide) (by rw [hc24]; rfl) rfl ?_
        exact cbL_law_b1564 C hZ hl hX hb hbG hK9 (by omega) (by omega) _ _ _ _ _ _ h
      by_cases hc25 : ((xs (x5).toNatClampNeg) &&& (31 : Int32)) = 25
      · replace h := h.2.2.2.2.2.2.2.2.2.2.2.2.2.2.2.2.2.2.2.2.2.2.2.2.2.1 hc25
        refine pw_tableIn (pc := 45) (tgt := 1608) C dL_law_45 (by rw [hc25]; decide) (by rw [hc25]; decide) (by rw [hc25]; rfl) rfl ?_
        exact cbL_law_b1608 C hZ hl hX hb hbG hK9 (by omega) (by omega) _ _ _ _ _ _ h
      by_cases hc26 : ((xs (x5).toNatClampNeg) &&& (31 : Int32)) = 26
      · replace h := h.2.2.2.2.2.2.2.2.2.2.2.2.2.2.2.2.2.2.2.2.2.2.2.2.2.2.1 hc26
        refine pw_tableIn (pc := 45) (tgt := 1664) C dL_law_45 (by rw [hc26]; decide) (by rw [hc26]; decide) (by rw [hc26]; rfl) rfl ?_
        exact cbL_law_b1664 C hZ hl hX hb hbG hK9 (by omega) (by omega) _ _ _ _ _ _ h
      by_cases hc27 : ((xs (x5).toNatClampNeg) &&& (31 : Int32)) = 27
      · replace h := h.2.2.2.2.2.2.2.2.2.2.2.2.2.2.2.2.2.2.2.2.2.2.2.2.2.2.2.1 hc27
        refine pw_tableIn (pc := 45) (tgt := 1732) C dL_law_45 (by rw [hc27]; decide) (by rw [hc27]; decide) (by rw [hc27]; rfl) rfl ?_
        exact cbL_law_b1732 C hZ hl hX hb hbG hK9 (by omega) (by omega) _ _ _ _ _ _ h
      by_cases hc28 : ((xs (x5).toNatClampNeg) &&& (31 : Int32)) = 28
      · replace h := h.2.2.2.2.2.2.2.2.2.2.2.2.2.2.2.2.2.2.2.2.2.2.2.2.2.2.2.2.1 hc28
        refine pw_tableIn (pc := 45) (tgt := 1776) C dL_law_45 (by rw [hc28]; decide) (by rw [hc28]; decide) (by rw [hc28]; rfl) rfl ?_
        exact cbL_law_b1776 C hZ hl hX hb hbG hK9 (by omega) (by omega) _ _ _ _ _ _ h
      by_cases hc29 : ((xs (x5).toNatClampNeg) &&& (31 : Int32)) = 29
      · replace h := h.2.2.2.2.2.2.2.2.2.2.2.2.2.2.2.2.2.2.2.2.2.2.2.2.2.2.2.2.2.1 hc29
        refine pw_tableIn (pc := 45) (tgt := 1844) C dL_law_45 (by rw [hc29]; decide) (by rw [hc29]; decide) (by rw [hc29]; rfl) rfl ?_
        exact cbL_law_b1844 C hZ hl hX hb hbG hK9 (by omega) (by omega) _ _ _ _ _ _ h
      by_cases hc30 : ((xs (x5).toNatClampNeg) &&& (31 : Int32)) = 30
      · replace h := h.2.2.2.2.2.2.2.2.2.2.2.2.2.2.2.2.2.2.2.2.2.2.2.2.2.2.2.2.2.2.1 hc30
        refine pw_tableIn (pc := 45) (tgt := 1900) C dL_law_45 (by rw [hc30]; decide) (by rw [hc30]; decide) (by rw [hc30]; rfl) rfl ?_
        exact cbL_law_b1900 C hZ hl hX hb hbG hK9 (by omega) (by omega) _ _ _ _ _ _ h
      replace h := h.2.2.2.2.2.2.2.2.2.2.2.2.2.2.2.2.2.2.2.2.2.2.2.2.2.2.2.2.2.2.2 ⟨hc0, hc1, hc2, hc3, hc4, hc5, hc6, hc7, hc8, hc9, hc10, hc11, hc12, hc13, hc14, hc15, hc16, hc17, hc18, hc19, hc20, hc21, hc22, hc23, hc24, hc25, hc26, hc27, hc28, hc29, hc30⟩
      refine pw_tableOut (pc := 45) (tgt := 1913) C dL_law_45 (sw_out (((xs (x5).toNatClampNeg) &&& (31 : Int32))) 0 30 (fun (j : Int) h1 h2 => Or.elim (show j = 0 ∨ j = 1 ∨ j = 2 ∨ j = 3 ∨ j = 4 ∨ j = 5 ∨ j = 6 ∨ j = 7 ∨ j = 8 ∨ j = 9 ∨ j = 10 ∨ j = 11 ∨ j = 12 ∨ j = 13 ∨ j = 14 ∨ j = 15 ∨ j = 16 ∨ j = 17 ∨ j = 18 ∨ j = 19 ∨ j = 20 ∨ j = 21 ∨ j = 22 ∨ j = 23 ∨ j = 24 ∨ j = 25 ∨ j = 26 ∨ j = 27 ∨ j = 28 ∨ j = 29 ∨ j = 30 by omega) (fun q => by subst q; exact lv_neT hc0 (by decide)) (fun q => q.elim (fun q => by subst q; exact lv_neT hc1 (by decide)) (fun q => q.elim (fun q => by subst q; exact lv_neT hc2 (by decide)) (fun q => q.elim (fun q => by subst q; exact lv_neT hc3 (by decide)) (fun q => q.elim (fun q => by subst q; exact lv_neT hc4 (by decide)) (fun q => q.elim (fun q => by subst q; exact lv_neT hc5 (by decide)) (fun q => q.elim (fun q => by subst q; exact lv_neT hc6 (by decide)) (fun q => q.elim (fun q => by subst q; exact lv_neT hc7 (by decide)) (fun q => q.elim (fun q => by subst q; exact lv_neT hc8 (by decide)) (fun q => q.elim (fun q => by subst q; exact lv_neT hc9 (by decide)) (fun q => q.elim (fun q => by subst q; exact lv_neT hc10 (by decide)) (fun q => q.elim (fun q => by subst q; exact lv_neT hc11 (by decide)) (fun q => q.elim (fun q => by subst q; exact lv_neT hc12 (by decide)) (fun q => q.elim (fun q => by subst q; exact lv_neT hc13 (by decide)) (fun q => q.elim (fun q => by subst q; exact lv_neT hc14 (by decide)) (fun q => q.elim (fun q => by subst q; exact lv_neT hc15 (by decide)) (fun q => q.elim (fun q => by subst q; exact lv_neT hc16 (by decide)) (fun q => q.elim (fun q => by subst q; exact lv_neT hc17 (by decide)) (fun q => q.elim (fun q => by subst q; exact lv_neT hc18 (by decide)) (fun q => q.elim (fun q => by subst q; exact lv_neT hc19 (by decide)) (fun q => q.elim (fun q => by subst q; exact lv_neT hc20 (by decide)) (fun q => q.elim (fun q => by subst q; exact lv_neT hc21 (by decide)) (fun q => q.elim (fun q => by subst q; exact lv_neT hc22 (by decide)) (fun q => q.elim (fun q => by subst q; exact lv_neT hc23 (by decide)) (fun q => q.elim (fun q => by subst q; exact lv_neT hc24 (by decide)) (fun q => q.elim (fun q => by subst q; exact lv_neT hc25 (by decide)) (fun q => q.elim (fun q => by subst q; exact lv_neT hc26 (by decide)) (fun q => q.elim (fun q => by subst q; exact lv_neT hc27 (by decide)) (fun q => q.elim (fun q => by subst q; exact lv_neT hc28 (by decide)) (fun q => q.elim (fun q => by subst q; exact lv_neT hc29 (by decide)) (fun q => by subst q; exact lv_neT hc30 (by decide))))))))))))))))))))))))))))))))) rfl ?_
      refine pw_iincK (pc := 1913) (w := 6) C [(5, .int (x5 + 6)), (0, .ref b), (1, .ref (G.2.2 + x1)), (2, .ref (G.2.2 + x2)), (3, .ref (G.2.2 + x3)), (4, .ref (G.2.2 + x4))] 5 dL_law_1913 (by decide) rfl (by decide) rfl ?_
      refine pw_goto (pc := 1916) (tgt := 28) C dL_law_1916 rfl ?_
      refine pw_sub [1, 2, 3, 4, 5, 0] (LV2 := [(0, .ref b), (1, .ref (G.2.2 + x1)), (2, .ref (G.2.2 + x2)), (3, .ref (G.2.2 + x3)), (4, .ref (G.2.2 + x4)), (5, .int (x5 + 6))]) rfl ?_
      refine pw_widen (k2 := (181 + (513 - n) * 22 + 0)) (n2 := (3082 + (513 - n) * 170 + 0)) (by omega) (by omega) ?_
      exact ih (by omega) _ _ _ _ _ _ h
def wpL_law (xs : Nat → Int32) (L : Nat) (S : PS) : Prop := (∀ a1 S2, a1 = pN S → S2 = sNew S 10 0 → (wpX11_init S2 a1 (fun S5 => (∀ a6 S7, a6 = pN S5 → S7 = sNew S5 11 0 → (wpX12_init S7 a6 (fun S10 => (∀ a11 S12, a11 = pN S10 → S12 = sNew S10 14 1 → (∀ a14 S15, a14 = pN S12 → S15 = sNew S12 18 1 → (wpL_law_h xs L 513 S15 a1 a6 a11 a14 (0 : Int32))))))))))
set_option maxRecDepth 100000 in
set_option maxHeartbeats 8000000 in
theorem ctL_law {p : Program} {l : Launch} {e : Env} {s : State} {m : MethodId} {args : Array Value} {below : List Frame} {meth : Method} {c : Code} {Q : State → Prop} {G : PG} {b L : Nat} {xs : Nat → Int32} (C : pCx p s m args meth c G cL_law 9 RL TsLaw) (hZ : pZa G) (hl : l.stackTraces = false) (hX : va_X b L xs s s.heap) (hb : b < s.heap.size) (hbG : b < G.2.2) (hend : ∀ (S : PS) (kc kn : Nat) (LV : List (Nat × Value)), kc ≤ 601024 → kn ≤ 7293034 → PW p l e room_1 s m args below meth c Q G 9 S kc kn LV 1920 [.int 1]) (S : PS) (h : wpL_law xs L S) : PW p l e room_1 s m args below meth c Q G 9 S 0 0 [(0, .ref b)] 0 [] := by
  unfold wpL_law at h
  refine pw_new (pc := 0) (kc2 := 1) (kn2 := 9) C pCl9 iL_law_X11 (by decide +kernel) (by decide +kernel) (by decide +kernel) rfl rfl (Nat.le_of_ble_eq_true rfl) (Nat.le_of_ble_eq_true rfl) dL_law_0 ?_
  obtain ⟨a1, ea1⟩ : ∃ q, q = pN S := ⟨_, rfl⟩
  obtain ⟨S2, eS2⟩ : ∃ q, q = sNew S 10 0 := ⟨_, rfl⟩
  rw [← ea1, ← eS2]
  replace h := h a1 S2 ea1 eS2
  have hk3 : pK S2 a1 = 10 := by rw [eS2, ea1, pK_sNew, if_pos rfl]
  refine pw_dup (pc := 3) C dL_law_3 rfl ?_
  refine pw_callv (pc := 4) (kc2 := 161) (kn2 := 1776) (pRunI (pc := 4) C (ctX11_init l G hZ  _ a1 _ h) (cwI 0 C.2.2.2.2.1 qgL_law_X11_init rfl rfl rfl (C.2.2.2.2.1 (.initialized RX11) (by decide +kernel)) (C.2.2.2.2.1 (.methodLink RL 102 yX11_init) (by decide +kernel)) (C.2.2.2.2.1 (.instanceMethod yX11_init) (by decide +kernel)) rfl (by decide +kernel) ⟨Nat.le_of_ble_eq_true rfl, Nat.le_of_ble_eq_true rfl⟩) rfl rfl (Nat.le_of_ble_eq_true rfl) dL_law_4 ⟨Nat.le_of_ble_eq_true rfl, Nat.le_of_ble_eq_true rfl⟩) rfl rfl (fun S5 h => ?_)
  refine pw_astore_n (pc := 7) C [(1, .ref (G.2.2 + a1)), (0, .ref b)] dL_law_7 rfl (by decide) rfl ?_
  refine pw_new (pc := 8) (kc2 := 162) (kn2 := 1808) C pCl10 iL_law_X12 (by decide +kernel) (by decide +kernel) (by decide +kernel) rfl rfl (Nat.le_of_ble_eq_true rfl) (Nat.le_of_ble_eq_true rfl) dL_law_8 ?_
  obtain ⟨a6, ea6⟩ : ∃ q, q = pN S5 := ⟨_, rfl⟩
  obtain ⟨S7, eS7⟩ : ∃ q, q = sNew S5 11 0 := ⟨_, rfl⟩
  rw [← ea6, ← eS7]
  replace h := h a6 S7 ea6 eS7
  have hk8 : pK S7 a6 = 11 := by rw [eS7, ea6, pK_sNew, if_pos rfl]
  refine pw_dup (pc := 11) C dL_law_11 rfl ?_
  refine pw_callv (pc := 12) (kc2 := 179) (kn2 := 3080) (pRunI (pc := 12) C (ctX12_init l G  _ a6 _ h) (cwI 0 C.2.2.2.2.1 qgL_law_X12_init rfl rfl rfl (C.2.2.2.2.1 (.initialized RX12) (by decide +kernel)) (C.2.2.2.2.1 (.methodLink RL 105 yX12_init) (by decide +kernel)) (C.2.2.2.2.1 (.instanceMethod yX12_init) (by decide +kernel)) rfl (by decide +kernel) ⟨Nat.le_of_ble_eq_true rfl, Nat.le_of_ble_eq_true rfl⟩) rfl rfl (Nat.le_of_ble_eq_true rfl) dL_law_12 ⟨Nat.le_of_ble_eq_true rfl, Nat.le_of_ble_eq_true rfl⟩) rfl rfl (fun S10 h => ?_)
  refine pw_astore_n (pc := 15) C [(2, .ref (G.2.2 + a6)), (1, .ref (G.2.2 + a1)), (0, .ref b)] dL_law_15 rfl (by decide) rfl ?_
  refine pw_iconst (pc := 16) (v := 1 ) C dL_law_16 (by decide) ?_
  refine pw_newaJ (pc := 17) (N := 1) (kc2 := 180) (kn2 := 3081) C (by decide +kernel) (by decide) rfl (Nat.le_of_ble_eq_true rfl) rfl rfl (Nat.le_of_ble_eq_true rfl) (Nat.le_of_ble_eq_true rfl) dL_law_17 ?_
  obtain ⟨a11, ea11⟩ : ∃ q, q = pN S10 := ⟨_, rfl⟩
  obtain ⟨S12, eS12⟩ : ∃ q, q = sNew S10 14 1 := ⟨_, rfl⟩
  rw [← ea11, ← eS12]
  replace h := h a11 S12 ea11 eS12
  have hk13 : pK S12 a11 = 14 := by rw [eS12, ea11, pK_sNew, if_pos rfl]
  refine pw_astore_n (pc := 19) C [(3, .ref (G.2.2 + a11)), (2, .ref (G.2.2 + a6)), (1, .ref (G.2.2 + a1)), (0, .ref b)] dL_law_19 rfl (by decide) rfl ?_
  refine pw_iconst (pc := 20) (v := 1 ) C dL_law_20 (by decide) ?_
  refine pw_newaD (pc := 21) (N := 1) (kc2 := 181) (kn2 := 3082) C (by decide +kernel) (by decide) rfl (Nat.le_of_ble_eq_true rfl) rfl rfl (Nat.le_of_ble_eq_true rfl) (Nat.le_of_ble_eq_true rfl) dL_law_21 ?_
  obtain ⟨a14, ea14⟩ : ∃ q, q = pN S12 := ⟨_, rfl⟩
  obtain ⟨S15, eS15⟩ : ∃ q, q = sNew S12 18 1 := ⟨_, rfl⟩
  rw [← ea14, ← eS15]
  replace h := h a14 S15 ea14 eS15
  have hk16 : pK S15 a14 = 18 := by rw [eS15, ea14, pK_sNew, if_pos rfl]
  refine pw_astore (pc := 23) C [(4, .ref (G.2.2 + a14)), (3, .ref (G.2.2 + a11)), (2, .ref (G.2.2 + a6)), (1, .ref (G.2.2 + a1)), (0, .ref b)] dL_law_23 (by decide) rfl ?_
  refine pw_iconst (pc := 25) (v := 0 ) C dL_law_25 (by decide) ?_
  refine pw_istore (pc := 26) C [(5, .int (0 : Int32)), (4, .ref (G.2.2 + a14)), (3, .ref (G.2.2 + a11)), (2, .ref (G.2.2 + a6)), (1, .ref (G.2.2 + a1)), (0, .ref b)] dL_law_26 (by decide) rfl ?_
  refine pw_sub [5, 4, 3, 2, 1, 0] (LV2 := [(0, .ref b), (1, .ref (G.2.2 + a1)), (2, .ref (G.2.2 + a6)), (3, .ref (G.2.2 + a11)), (4, .ref (G.2.2 + a14)), (5, .int (0 : Int32))]) rfl ?_
  exact cbL_law_h C hZ hl hX hb hbG hend 513 (Nat.le_refl _) _ _ _ _ _ _ h
