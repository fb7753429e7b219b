/-! the cases of the law -/
abbrev zSt : Type := zM × zM × zM × zM × zM × zP × zM
theorem zL_k13 : Cond.constantLong RL 13 (4294967295) ∈ lw_tbl := zpl_in (ps := [(7, 85)]) (by decide +kernel) _ (List.mem_singleton.mpr rfl)
def xL_0 (pT : zM) (pR : zM) (pX : zM) (pF : zM) (pB : zM) (pP : zP) (M : zM) (a1 a2 a3 : Int32) : Option zSt :=
  (xX11_feed pX pB a1 ((a2.toInt64 <<< ((32 : Int32).toInt64 &&& 63)) ||| (a3.toInt64 &&& (4294967295 : Int64)))).bind fun q0 =>
  (xX12_feed M a1 ((a2.toInt64 <<< ((32 : Int32).toInt64 &&& 63)) ||| (a3.toInt64 &&& (4294967295 : Int64)))).bind fun q1 =>
  if q0.1 = q1.1 then some (pT, pR, q0.2.1, pF, q0.2.2, pP, q1.2) else none
set_option maxHeartbeats 4000000 in
theorem tL_0 {X : zX} {κ : Nat → ClassId} {tg : Nat} {adK adV ad am : Nat → Nat} {b L : Nat} {xs : Nat → Int32} {i : Int32} {cells slots : Nat} {pT pR pX pF pB M : zM} {pP : zP} {S9 : zSt} (hC : zC X code RL lw_tbl vwCl (zty κ) (zE tg (zS adK adV)) 4 room_1) (hEk : zEk (zE tg (zS adK adV))) (hB : zB X b L xs) (hin1 : vp_in (i + (1 : Int32)) L) (hin2 : vp_in (i + (2 : Int32)) L) (hin3 : vp_in (i + (3 : Int32)) L) (hc1 : cells + 64 ≤ 600000) (hc2 : slots + 256 ≤ 7302250) (h : xL_0 pT pR pX pF pB pP M (xs (i + (1 : Int32)).toNatClampNeg) (xs (i + (2 : Int32)).toNatClampNeg) (xs (i + (3 : Int32)).toNatClampNeg) = some S9) (kk : ∀ (ad2 : Nat → Nat) (c2 s2 : Nat), c2 ≤ cells + 64 → s2 ≤ slots + 256 → zV X c2 s2 (zwM κ am S9.2.2.2.2.2.2 ++ zwC κ ad2 S9.1 S9.2.1 S9.2.2.1 S9.2.2.2.1 S9.2.2.2.2.1 S9.2.2.2.2.2.1) [(0, .ref b), (1, .ref (ad2 76)), (2, .ref (am 0)), (3, .int i)] [] 1182) : zV X cells slots (zwM κ am M ++ zwC κ ad pT pR pX pF pB pP) [(0, .ref b), (1, .ref (ad 76)), (2, .ref (am 0)), (3, .int i)] [] 184 := by
  unfold xL_0 at h
  refine zr_aload_n (pc := 184) hC 1 rfl rfl dL_law_184 ?_
  refine zr_aload_n (pc := 185) hC 0 rfl rfl dL_law_185 ?_
  refine zr_iload_n (pc := 186) hC 3 rfl rfl dL_law_186 ?_
  refine zr_iconst (pc := 187) hC zki_1 dL_law_187 ?_
  refine zr_iadd (pc := 188) hC dL_law_188 ?_
  refine zr_sld (pc := 189) hC hB hin1 dL_law_189 ?_
  refine zr_aload_n (pc := 190) hC 0 rfl rfl dL_law_190 ?_
  refine zr_iload_n (pc := 191) hC 3 rfl rfl dL_law_191 ?_
  refine zr_iconst (pc := 192) hC zki_2 dL_law_192 ?_
  refine zr_iadd (pc := 193) hC dL_law_193 ?_
  refine zr_sld (pc := 194) hC hB hin2 dL_law_194 ?_
  refine zr_i2l (pc := 195) hC dL_law_195 ?_
  refine zr_bipush (pc := 196) hC zkb_32 dL_law_196 ?_
  refine zr_lshl (pc := 198) hC dL_law_198 ?_
  refine zr_aload_n (pc := 199) hC 0 rfl rfl dL_law_199 ?_
  refine zr_iload_n (pc := 200) hC 3 rfl rfl dL_law_200 ?_
  refine zr_iconst (pc := 201) hC zki_3 dL_law_201 ?_
  refine zr_iadd (pc := 202) hC dL_law_202 ?_
  refine zr_sld (pc := 203) hC hB hin3 dL_law_203 ?_
  refine zr_i2l (pc := 204) hC dL_law_204 ?_
  refine zr_ldc2 (pc := 205) hC (v := 4294967295) zL_k13 dL_law_205 ?_
  refine zr_land (pc := 208) hC dL_law_208 ?_
  refine zr_lor (pc := 209) hC dL_law_209 ?_
  obtain ⟨q0, hq0, h⟩ := zbd h
  refine zr_lV (pc := 210) hC hEk [.int (xs (i + (1 : Int32)).toNatClampNeg), .long (((xs (i + (2 : Int32)).toNatClampNeg).toInt64 <<< ((32 : Int32).toInt64 &&& 63)) ||| ((xs (i + (3 : Int32)).toNatClampNeg).toInt64 &&& (4294967295 : Int64)))] [] 76 2 (fun l D => tX11_feed hEk hq0 l D) gL_X11_feed rfl rfl rfl ⟨Nat.le_of_ble_eq_true rfl, Nat.le_of_ble_eq_true rfl⟩ hyX11_feed (zNC (by decide)) entC_76 rfl rfl rfl (Nat.le_of_ble_eq_true rfl) ⟨by show cells + 0 ≤ 600000; omega, by show slots + 0 ≤ 7302250; omega⟩ dL_law_210 (fun rv w1 hpo => ?_)
  obtain ⟨rfl, rfl⟩ := hpo
  show zV X cells slots (zwM κ am M ++ zwC κ ad pT pR q0.2.1 pF q0.2.2 pP) [(0, .ref b), (1, .ref (ad 76)), (2, .ref (am 0)), (3, .int i)] [.int q0.1] 213
  refine zr_aload_n (pc := 213) hC 2 rfl rfl dL_law_213 ?_
  refine zr_aload_n (pc := 214) hC 0 rfl rfl dL_law_214 ?_
  refine zr_iload_n (pc := 215) hC 3 rfl rfl dL_law_215 ?_
  refine zr_iconst (pc := 216) hC zki_1 dL_law_216 ?_
  refine zr_iadd (pc := 217) hC dL_law_217 ?_
  refine zr_sld (pc := 218) hC hB hin1 dL_law_218 ?_
  refine zr_aload_n (pc := 219) hC 0 rfl rfl dL_law_219 ?_
  refine zr_iload_n (pc := 220) hC 3 rfl rfl dL_law_220 ?_
  refine zr_iconst (pc := 221) hC zki_2 dL_law_221 ?_
  refine zr_iadd (pc := 222) hC dL_law_222 ?_
  refine zr_sld (pc := 223) hC hB hin2 dL_law_223 ?_
  refine zr_i2l (pc := 224) hC dL_law_224 ?_
  refine zr_bipush (pc := 225) hC zkb_32 dL_law_225 ?_
  refine zr_lshl (pc := 227) hC dL_law_227 ?_
  refine zr_aload_n (pc := 228) hC 0 rfl rfl dL_law_228 ?_
  refine zr_iload_n (pc := 229) hC 3 rfl rfl dL_law_229 ?_
  refine zr_iconst (pc := 230) hC zki_3 dL_law_230 ?_
  refine zr_iadd (pc := 231) hC dL_law_231 ?_
  refine zr_sld (pc := 232) hC hB hin3 dL_law_232 ?_
  refine zr_i2l (pc := 233) hC dL_law_233 ?_
  refine zr_ldc2 (pc := 234) hC (v := 4294967295) zL_k13 dL_law_234 ?_
  refine zr_land (pc := 237) hC dL_law_237 ?_
  refine zr_lor (pc := 238) hC dL_law_238 ?_
  refine zr_swap ?_
  obtain ⟨q1, hq1, h⟩ := zbd h
  refine zr_lV (pc := 239) hC hEk [.int (xs (i + (1 : Int32)).toNatClampNeg), .long (((xs (i + (2 : Int32)).toNatClampNeg).toInt64 <<< ((32 : Int32).toInt64 &&& 63)) ||| ((xs (i + (3 : Int32)).toNatClampNeg).toInt64 &&& (4294967295 : Int64)))] [.int q0.1] 0 2 (fun l D => tX12_feed hEk hq1 l D) gL_X12_feed rfl rfl rfl ⟨Nat.le_of_ble_eq_true rfl, Nat.le_of_ble_eq_true rfl⟩ hyX12_feed (by decide) entM_0 rfl rfl rfl (Nat.le_of_ble_eq_true rfl) ⟨by show cells + 0 ≤ 600000; omega, by show slots + 0 ≤ 7302250; omega⟩ dL_law_239 (fun rv w1 hpo => ?_)
  obtain ⟨rfl, rfl⟩ := hpo
  show zV X cells slots (zwC κ ad pT pR q0.2.1 pF q0.2.2 pP ++ zwM κ am q1.2) [(0, .ref b), (1, .ref (ad 76)), (2, .ref (am 0)), (3, .int i)] [.int q1.1, .int q0.1] 242
  refine zr_swap ?_
  refine zr_icmp_eq (pc := 242) (tgt := 1182) hC dL_law_242 (by decide) (fun c => ?_) (fun c => ?_)
  · replace h := zip h c
    obtain rfl := Option.some.inj h
    exact kk ad cells slots (by omega) (by omega)
  · replace h := zin h c
    cases h
noncomputable def xL_1 (pT : zM) (pR : zM) (pX : zM) (pF : zM) (pB : zM) (pP : zP) (M : zM) (a1 a2 a3 : Int32) : Option zSt :=
  (xX11_quiz pT pR pX pP).bind fun q0 =>
  (xX12_quiz M).bind fun q1 =>
  if q0.1 = q1.1 then some (q0.2.1, q0.2.2.1, q0.2.2.2.1, pF, pB, q0.2.2.2.2, q1.2) else none
set_option maxHeartbeats 4000000 in
theorem tL_1 {X : zX} {κ : Nat → ClassId} {tg : Nat} {adK adV ad am : Nat → Nat} {b L : Nat} {xs : Nat → Int32} {i : Int32} {cells slots : Nat} {pT pR pX pF pB M : zM} {pP : zP} {S9 : zSt} (hC : zC X code RL lw_tbl vwCl (zty κ) (zE tg (zS adK adV)) 4 room_1) (hEk : zEk (zE tg (zS adK adV))) (hB : zB X b L xs) (hin1 : vp_in (i + (1 : Int32)) L) (hin2 : vp_in (i + (2 : Int32)) L) (hin3 : vp_in (i + (3 : Int32)) L) (hc1 : cells + 64 ≤ 600000) (hc2 : slots + 256 ≤ 7302250) (h : xL_1 pT pR pX pF pB pP M (xs (i + (1 : Int32)).toNatClampNeg) (xs (i + (2 : Int32)).toNatClampNeg) (xs (i + (3 : Int32)).toNatClampNeg) = some S9) (kk : ∀ (ad2 : Nat → Nat) (c2 s2 : Nat), c2 ≤ cells + 64 → s2 ≤ slots + 256 → zV X c2 s2 (zwM κ am S9.2.2.2.2.2.2 ++ zwC κ ad2 S9.1 S9.2.1 S9.2.2.1 S9.2.2.2.1 S9.2.2.2.2.1 S9.2.2.2.2.2.1) [(0, .ref b), (1, .ref (ad2 76)), (2, .ref (am 0)), (3, .int i)] [] 1182) : zV X cells slots (zwM κ am M ++ zwC κ ad pT pR pX pF pB pP) [(0, .ref b), (1, .ref (ad 76)), (2, .ref (am 0)), (3, .int i)] [] 247 := by
  unfold xL_1 at h
  refine zr_aload_n (pc := 247) hC 1 rfl rfl dL_law_247 ?_
  obtain ⟨q0, hq0, h⟩ := zbd h
  refine zr_lV (pc := 248) hC hEk [] [] 76 0 (fun l D => tX11_quiz hEk hq0 l D) gL_X11_quiz rfl rfl rfl ⟨Nat.le_of_ble_eq_true rfl, Nat.le_of_ble_eq_true rfl⟩ hyX11_quiz (zNC (by decide)) entC_76 rfl rfl rfl (Nat.le_of_ble_eq_true rfl) ⟨by show cells + 64 ≤ 600000; omega, by show slots + 256 ≤ 7302250; omega⟩ dL_law_248 (fun rv w1 hpo => ?_)
  obtain ⟨ad2, hag, rfl, rfl⟩ := hpo
  rw [← hag 76 (zNC (by decide))]
  show zV X (cells + 64) (slots + 256) (zwM κ am M ++ zwC κ ad2 q0.2.1 q0.2.2.1 q0.2.2.2.1 pF pB q0.2.2.2.2) [(0, .ref b), (1, .ref (ad2 76)), (2, .ref (am 0)), (3, .int i)] [.int q0.1] 251
  refine zr_aload_n (pc := 251) hC 2 rfl rfl dL_law_251 ?_
  refine zr_swap ?_
  obtain ⟨q1, hq1, h⟩ := zbd h
  refine zr_lV (pc := 252) hC hEk [] [.int q0.1] 0 0 (fun l D => tX12_quiz hEk hq1 l D) gL_X12_quiz rfl rfl rfl ⟨Nat.le_of_ble_eq_true rfl, Nat.le_of_ble_eq_true rfl⟩ hyX12_quiz (by decide) entM_0 rfl rfl rfl (Nat.le_of_ble_eq_true rfl) ⟨by show cells + 64 + 0 ≤ 600000; omega, by show slots + 256 + 0 ≤ 7302250; omega⟩ dL_law_252 (fun rv w1 hpo => ?_)
  obtain ⟨rfl, rfl⟩ := hpo
  show zV X (cells + 64) (slots + 256) (zwC κ ad2 q0.2.1 q0.2.2.1 q0.2.2.2.1 pF pB q0.2.2.2.2 ++ zwM κ am q1.2) [(0, .ref b), (1, .ref (ad2 76)), (2, .ref (am 0)), (3, .int i)] [.int q1.1, .int q0.1] 255
  refine zr_swap ?_
  refine zr_icmp_eq (pc := 255) (tgt := 1182) hC dL_law_255 (by decide) (fun c => ?_) (fun c => ?_)
  · replace h := zip h c
    obtain rfl := Option.some.inj h
    exact kk ad2 (cells + 64) (slots + 256) (by omega) (by omega)
  · replace h := zin h c
    cases h
def xL_2 (pT : zM) (pR : zM) (pX : zM) (pF : zM) (pB : zM) (pP : zP) (M : zM) (a1 a2 a3 : Int32) : Option zSt :=
  (xX11_word pT pB a1 a2).bind fun q0 =>
  (xX12_word M a1 a2).bind fun q1 =>
  if q0.1 = q1.1 then some (pT, pR, pX, pF, q0.2, pP, q1.2) else none
set_option maxHeartbeats 4000000 in
theorem tL_2 {X : zX} {κ : Nat → ClassId} {tg : Nat} {adK adV ad am : Nat → Nat} {b L : Nat} {xs : Nat → Int32} {i : Int32} {cells slots : Nat} {pT pR pX pF pB M : zM} {pP : zP} {S9 : zSt} (hC : zC X code RL lw_tbl vwCl (zty κ) (zE tg (zS adK adV)) 4 room_1) (hEk : zEk (zE tg (zS adK adV))) (hB : zB X b L xs) (hin1 : vp_in (i + (1 : Int32)) L) (hin2 : vp_in (i + (2 : Int32)) L) (hin3 : vp_in (i + (3 : Int32)) L) (hc1 : cells + 64 ≤ 600000) (hc2 : slots + 256 ≤ 7302250) (h : xL_2 pT pR pX pF pB pP M (xs (i + (1 : Int32)).toNatClampNeg) (xs (i + (2 : Int32)).toNatClampNeg) (xs (i + (3 : Int32)).toNatClampNeg) = some S9) (kk : ∀ (ad2 : Nat → Nat) (c2 s2 : Nat), c2 ≤ cells + 64 → s2 ≤ slots + 256 → zV X c2 s2 (zwM κ am S9.2.2.2.2.2.2 ++ zwC κ ad2 S9.1 S9.2.1 S9.2.2.1 S9.2.2.2.1 S9.2.2.2.2.1 S9.2.2.2.2.2.1) [(0, .ref b), (1, .ref (ad2 76)), (2, .ref (am 0)), (3, .int i)] [] 1182) : zV X cells slots (zwM κ am M ++ zwC κ ad pT pR pX pF pB pP) [(0, .ref b), (1, .ref (ad 76)), (2, .ref (am 0)), (3, .int i)] [] 260 := by
  unfold xL_2 at h
  refine zr_aload_n (pc := 260) hC 1 rfl rfl dL_law_260 ?_
  refine zr_aload_n (pc := 261) hC 0 rfl rfl dL_law_261 ?_
  refine zr_iload_n (pc := 262) hC 3 rfl rfl dL_law_262 ?_
  refine zr_iconst (pc := 263) hC zki_1 dL_law_263 ?_
  refine zr_iadd (pc := 264) hC dL_law_264 ?_
  refine zr_sld (pc := 265) hC hB hin1 dL_law_265 ?_
  refine zr_aload_n (pc := 266) hC 0 rfl rfl dL_law_266 ?_
  refine zr_iload_n (pc := 267) hC 3 rfl rfl dL_law_267 ?_
  refine zr_iconst (pc := 268) hC zki_2 dL_law_268 ?_
  refine zr_iadd (pc := 269) hC dL_law_269 ?_
  refine zr_sld (pc := 270) hC hB hin2 dL_law_270 ?_
  obtain ⟨q0, hq0, h⟩ := zbd h
  refine zr_lV (pc := 271) hC hEk [.int (xs (i + (1 : Int32)).toNatClampNeg), .int (xs (i + (2 : Int32)).toNatClampNeg)] [] 76 2 (fun l D => tX11_word hEk hq0 l D) gL_X11_word rfl rfl rfl ⟨Nat.le_of_ble_eq_true rfl, Nat.le_of_ble_eq_true rfl⟩ hyX11_word (zNC (by decide)) entC_76 rfl rfl rfl (Nat.le_of_ble_eq_true rfl) ⟨by show cells + 0 ≤ 600000; omega, by show slots + 0 ≤ 7302250; omega⟩ dL_law_271 (fun rv w1 hpo => ?_)
  obtain ⟨rfl, rfl⟩ := hpo
  show zV X cells slots (zwM κ am M ++ zwC κ ad pT pR pX pF q0.2 pP) [(0, .ref b), (1, .ref (ad 76)), (2, .ref (am 0)), (3, .int i)] [.int q0.1] 274
  refine zr_aload_n (pc := 274) hC 2 rfl rfl dL_law_274 ?_
  refine zr_aload_n (pc := 275) hC 0 rfl rfl dL_law_275 ?_
  refine zr_iload_n (pc := 276) hC 3 rfl rfl dL_law_276 ?_
  refine zr_iconst (pc := 277) hC zki_1 dL_law_277 ?_
  refine zr_iadd (pc := 278) hC dL_law_278 ?_
  refine zr_sld (pc := 279) hC hB hin1 dL_law_279 ?_
  refine zr_aload_n (pc := 280) hC 0 rfl rfl dL_law_280 ?_
  refine zr_iload_n (pc := 281) hC 3 rfl rfl dL_law_281 ?_
  refine zr_iconst (pc := 282) hC zki_2 dL_law_282 ?_
  refine zr_iadd (pc := 283) hC dL_law_283 ?_
  refine zr_sld (pc := 284) hC hB hin2 dL_law_284 ?_
  refine zr_swap ?_
  obtain ⟨q1, hq1, h⟩ := zbd h
  refine zr_lV (pc := 285) hC hEk [.int (xs (i + (1 : Int32)).toNatClampNeg), .int (xs (i + (2 : Int32)).toNatClampNeg)] [.int q0.1] 0 2 (fun l D => tX12_word hEk hq1 l D) gL_X12_word rfl rfl rfl ⟨Nat.le_of_ble_eq_true rfl, Nat.le_of_ble_eq_true rfl⟩ hyX12_word (by decide) entM_0 rfl rfl rfl (Nat.le_of_ble_eq_true rfl) ⟨by show cells + 0 ≤ 600000; omega, by show slots + 0 ≤ 7302250; omega⟩ dL_law_285 (fun rv w1 hpo => ?_)
  obtain ⟨rfl, rfl⟩ := hpo
  show zV X cells slots (zwC κ ad pT pR pX pF q0.2 pP ++ zwM κ am q1.2) [(0, .ref b), (1, .ref (ad 76)), (2, .ref (am 0)), (3, .int i)] [.int q1.1, .int q0.1] 288
  refine zr_swap ?_
  refine zr_icmp_eq (pc := 288) (tgt := 1182) hC dL_law_288 (by decide) (fun c => ?_) (fun c => ?_)
  · replace h := zip h c
    obtain rfl := Option.some.inj h
    exact kk ad cells slots (by omega) (by omega)
  · replace h := zin h c
    cases h
def xL_3 (pT : zM) (pR : zM) (pX : zM) (pF : zM) (pB : zM) (pP : zP) (M : zM) (a1 a2 a3 : Int32) : Option zSt :=
  (xX11_player pR pB pP a1 a2).bind fun q0 =>
  (xX12_player M a1 a2).bind fun q1 =>
  if q0.1 = q1.1 then some (pT, pR, pX, pF, q0.2, pP, q1.2) else none
set_option maxHeartbeats 4000000 in
theorem tL_3 {X : zX} {κ : Nat → ClassId} {tg : Nat} {adK adV ad am : Nat → Nat} {b L : Nat} {xs : Nat → Int32} {i : Int32} {cells slots : Nat} {pT pR pX pF pB M : zM} {pP : zP} {S9 : zSt} (hC : zC X code RL lw_tbl vwCl (zty κ) (zE tg (zS adK adV)) 4 room_1) (hEk : zEk (zE tg (zS adK adV))) (hB : zB X b L xs) (hin1 : vp_in (i + (1 : Int32)) L) (hin2 : vp_in (i + (2 : Int32)) L) (hin3 : vp_in (i + (3 : Int32)) L) (hc1 : cells + 64 ≤ 600000) (hc2 : slots + 256 ≤ 7302250) (h : xL_3 pT pR pX pF pB pP M (xs (i + (1 : Int32)).toNatClampNeg) (xs (i + (2 : Int32)).toNatClampNeg) (xs (i + (3 : Int32)).toNatClampNeg) = some S9) (kk : ∀ (ad2 : Nat → Nat) (c2 s2 : Nat), c2 ≤ cells + 64 → s2 ≤ slots + 256 → zV X c2 s2 (zwM κ am S9.2.2.2.2.2.2 ++ zwC κ ad2 S9.1 S9.2.1 S9.2.2.1 S9.2.2.2.1 S9.2.2.2.2.1 S9.2.2.2.2.2.1) [(0, .ref b), (1, .ref (ad2 76)), (2, .ref (am 0)), (3, .int i)] [] 1182) : zV X cells slots (zwM κ am M ++ zwC κ ad pT pR pX pF pB pP) [(0, .ref b), (1, .ref (ad 76)), (2, .ref (am 0)), (3, .int i)] [] 293 := by
  unfold xL_3 at h
  refine zr_aload_n (pc := 293) hC 1 rfl rfl dL_law_293 ?_
  refine zr_aload_n (pc := 294) hC 0 rfl rfl dL_law_294 ?_
  refine zr_iload_n (pc := 295) hC 3 rfl rfl dL_law_295 ?_
  refine zr_iconst (pc := 296) hC zki_1 dL_law_296 ?_
  refine zr_iadd (pc := 297) hC dL_law_297 ?_
  refine zr_sld (pc := 298) hC hB hin1 dL_law_298 ?_
  refine zr_aload_n (pc := 299) hC 0 rfl rfl dL_law_299 ?_
  refine zr_iload_n (pc := 300) hC 3 rfl rfl dL_law_300 ?_
  refine zr_iconst (pc := 301) hC zki_2 dL_law_301 ?_
  refine zr_iadd (pc := 302) hC dL_law_302 ?_
  refine zr_sld (pc := 303) hC hB hin2 dL_law_303 ?_
  obtain ⟨q0, hq0, h⟩ := zbd h
  refine zr_lV (pc := 304) hC hEk [.int (xs (i + (1 : Int32)).toNatClampNeg), .int (xs (i + (2 : Int32)).toNatClampNeg)] [] 76 2 (fun l D => tX11_player hEk hq0 l D) gL_X11_player rfl rfl rfl ⟨Nat.le_of_ble_eq_true rfl, Nat.le_of_ble_eq_true rfl⟩ hyX11_player (zNC (by decide)) entC_76 rfl rfl rfl (Nat.le_of_ble_eq_true rfl) ⟨by show cells + 0 ≤ 600000; omega, by show slots + 0 ≤ 7302250; omega⟩ dL_law_304 (fun rv w1 hpo => ?_)
  obtain ⟨rfl, rfl⟩ := hpo
  show zV X cells slots (zwM κ am M ++ zwC κ ad pT pR pX pF q0.2 pP) [(0, .ref b), (1, .ref (ad 76)), (2, .ref (am 0)), (3, .int i)] [.int q0.1] 307
  refine zr_aload_n (pc := 307) hC 2 rfl rfl dL_law_307 ?_
  refine zr_aload_n (pc := 308) hC 0 rfl rfl dL_law_308 ?_
  refine zr_iload_n (pc := 309) hC 3 rfl rfl dL_law_309 ?_
  refine zr_iconst (pc := 310) hC zki_1 dL_law_310 ?_
  refine zr_iadd (pc := 311) hC dL_law_311 ?_
  refine zr_sld (pc := 312) hC hB hin1 dL_law_312 ?_
  refine zr_aload_n (pc := 313) hC 0 rfl rfl dL_law_313 ?_
  refine zr_iload_n (pc := 314) hC 3 rfl rfl dL_law_314 ?_
  refine zr_iconst (pc := 315) hC zki_2 dL_law_315 ?_
  refine zr_iadd (pc := 316) hC dL_law_316 ?_
  refine zr_sld (pc := 317) hC hB hin2 dL_law_317 ?_
  refine zr_swap ?_
  obtain ⟨q1, hq1, h⟩ := zbd h
  refine zr_lV (pc := 318) hC hEk [.int (xs (i + (1 : Int32)).toNatClampNeg), .int (xs (i + (2 : Int32)).toNatClampNeg)] [.int q0.1] 0 2 (fun l D => tX12_player hEk hq1 l D) gL_X12_player rfl rfl rfl ⟨Nat.le_of_ble_eq_true rfl, Nat.le_of_ble_eq_true rfl⟩ hyX12_player (by decide) entM_0 rfl rfl rfl (Nat.le_of_ble_eq_true rfl) ⟨by show cells + 0 ≤ 600000; omega, by show slots + 0 ≤ 7302250; omega⟩ dL_law_318 (fun rv w1 hpo => ?_)
  obtain ⟨rfl, rfl⟩ := hpo
  show zV X cells slots (zwC κ ad pT pR pX pF q0.2 pP ++ zwM κ am q1.2) [(0, .ref b), (1, .ref (ad 76)), (2, .ref (am 0)), (3, .int i)] [.int q1.1, .int q0.1] 321
  refine zr_swap ?_
  refine zr_icmp_eq (pc := 321) (tgt := 1182) hC dL_law_321 (by decide) (fun c => ?_) (fun c => ?_)
  · replace h := zip h c
    obtain rfl := Option.some.inj h
    exact kk ad cells slots (by omega) (by omega)
  · replace h := zin h c
    cases h
def xL_4 (pT : zM) (pR : zM) (pX : zM) (pF : zM) (pB : zM) (pP : zP) (M : zM) (a1 a2 a3 : Int32) : Option zSt :=
  (xX11_whole pT).bind fun q0 =>
  (xX12_whole M).bind fun q1 =>
  if q0 = q1 then some (pT, pR, pX, pF, pB, pP, M) else none
set_option maxHeartbeats 4000000 in
theorem tL_4 {X : zX} {κ : Nat → ClassId} {tg : Nat} {adK adV ad am : Nat → Nat} {b L : Nat} {xs : Nat → Int32} {i : Int32} {cells slots : Nat} {pT pR pX pF pB M : zM} {pP : zP} {S9 : zSt} (hC : zC X code RL lw_tbl vwCl (zty κ) (zE tg (zS adK adV)) 4 room_1) (hEk : zEk (zE tg (zS adK adV))) (hB : zB X b L xs) (hin1 : vp_in (i + (1 : Int32)) L) (hin2 : vp_in (i + (2 : Int32)) L) (hin3 : vp_in (i + (3 : Int32)) L) (hc1 : cells + 64 ≤ 600000) (hc2 : slots + 256 ≤ 7302250) (h : xL_4 pT pR pX pF pB pP M (xs (i + (1 : Int32)).toNatClampNeg) (xs (i + (2 : Int32)).toNatClampNeg) (xs (i + (3 : Int32)).toNatClampNeg) = some S9) (kk : ∀ (ad2 : Nat → Nat) (c2 s2 : Nat), c2 ≤ cells + 64 → s2 ≤ slots + 256 → zV X c2 s2 (zwM κ am S9.2.2.2.2.2.2 ++ zwC κ ad2 S9.1 S9.2.1 S9.2.2.1 S9.2.2.2.1 S9.2.2.2.2.1 S9.2.2.2.2.2.1) [(0, .ref b), (1, .ref (ad2 76)), (2, .ref (am 0)), (3, .int i)] [] 1182) : zV X cells slots (zwM κ am M ++ zwC κ ad pT pR pX pF pB pP) [(0, .ref b), (1, .ref (ad 76)), (2, .ref (am 0)), (3, .int i)] [] 326 := by
  unfold xL_4 at h
  refine zr_aload_n (pc := 326) hC 1 rfl rfl dL_law_326 ?_
  obtain ⟨q0, hq0, h⟩ := zbd h
  refine zr_lV (pc := 327) hC hEk [] [] 76 0 (fun l D => tX11_whole hEk hq0 l D) gL_X11_whole rfl rfl rfl ⟨Nat.le_of_ble_eq_true rfl, Nat.le_of_ble_eq_true rfl⟩ hyX11_whole (zNC (by decide)) entC_76 rfl rfl rfl (Nat.le_of_ble_eq_true rfl) ⟨by show cells + 0 ≤ 600000; omega, by show slots + 0 ≤ 7302250; omega⟩ dL_law_327 (fun rv w1 hpo => ?_)
  obtain ⟨rfl, rfl⟩ := hpo
  show zV X cells slots (zwM κ am M ++ zwC κ ad pT pR pX pF pB pP) [(0, .ref b), (1, .ref (ad 76)), (2, .ref (am 0)), (3, .int i)] [.int q0] 330
  refine zr_aload_n (pc := 330) hC 2 rfl rfl dL_law_330 ?_
  refine zr_swap ?_
  obtain ⟨q1, hq1, h⟩ := zbd h
  refine zr_lV (pc := 331) hC hEk [] [.int q0] 0 0 (fun l D => tX12_whole hEk hq1 l D) gL_X12_whole rfl rfl rfl ⟨Nat.le_of_ble_eq_true rfl, Nat.le_of_ble_eq_true rfl⟩ hyX12_whole (by decide) entM_0 rfl rfl rfl (Nat.le_of_ble_eq_true rfl) ⟨by show cells + 0 ≤ 600000; omega, by show slots + 0 ≤ 7302250; omega⟩ dL_law_331 (fun rv w1 hpo => ?_)
  obtain ⟨rfl, rfl⟩ := hpo
  show zV X cells slots (zwC κ ad pT pR pX pF pB pP ++ zwM κ am M) [(0, .ref b), (1, .ref (ad 76)), (2, .ref (am 0)), (3, .int i)] [.int q1, .int q0] 334
  refine zr_swap ?_
  refine zr_icmp_eq (pc := 334) (tgt := 1182) hC dL_law_334 (by decide) (fun c => ?_) (fun c => ?_)
  · replace h := zip h c
    obtain rfl := Option.some.inj h
    exact kk ad cells slots (by omega) (by omega)
  · replace h := zin h c
    cases h
def xL_5 (pT : zM) (pR : zM) (pX : zM) (pF : zM) (pB : zM) (pP : zP) (M : zM) (a1 a2 a3 : Int32) : Option zSt :=
  (xX11_left pT pB a1).bind fun q0 =>
  (xX12_left M a1).bind fun q1 =>
  if q0.1 = q1.1 then some (pT, pR, pX, pF, q0.2, pP, q1.2) else none
set_option maxHeartbeats 4000000 in
theorem tL_5 {X : zX} {κ : Nat → ClassId} {tg : Nat} {adK adV ad am : Nat → Nat} {b L : Nat} {xs : Nat → Int32} {i : Int32} {cells slots : Nat} {pT pR pX pF pB M : zM} {pP : zP} {S9 : zSt} (hC : zC X code RL lw_tbl vwCl (zty κ) (zE tg (zS adK adV)) 4 room_1) (hEk : zEk (zE tg (zS adK adV))) (hB : zB X b L xs) (hin1 : vp_in (i + (1 : Int32)) L) (hin2 : vp_in (i + (2 : Int32)) L) (hin3 : vp_in (i + (3 : Int32)) L) (hc1 : cells + 64 ≤ 600000) (hc2 : slots + 256 ≤ 7302250) (h : xL_5 pT pR pX pF pB pP M (xs (i + (1 : Int32)).toNatClampNeg) (xs (i + (2 : Int32)).toNatClampNeg) (xs (i + (3 : Int32)).toNatClampNeg) = some S9) (kk : ∀ (ad2 : Nat → Nat) (c2 s2 : Nat), c2 ≤ cells + 64 → s2 ≤ slots + 256 → zV X c2 s2 (zwM κ am S9.2.2.2.2.2.2 ++ zwC κ ad2 S9.1 S9.2.1 S9.2.2.1 S9.2.2.2.1 S9.2.2.2.2.1 S9.2.2.2.2.2.1) [(0, .ref b), (1, .ref (ad2 76)), (2, .ref (am 0)), (3, .int i)] [] 1182) : zV X cells slots (zwM κ am M ++ zwC κ ad pT pR pX pF pB pP) [(0, .ref b), (1, .ref (ad 76)), (2, .ref (am 0)), (3, .int i)] [] 339 := by
  unfold xL_5 at h
  refine zr_aload_n (pc := 339) hC 1 rfl rfl dL_law_339 ?_
  refine zr_aload_n (pc := 340) hC 0 rfl rfl dL_law_340 ?_
  refine zr_iload_n (pc := 341) hC 3 rfl rfl dL_law_341 ?_
  refine zr_iconst (pc := 342) hC zki_1 dL_law_342 ?_
  refine zr_iadd (pc := 343) hC dL_law_343 ?_
  refine zr_sld (pc := 344) hC hB hin1 dL_law_344 ?_
  obtain ⟨q0, hq0, h⟩ := zbd h
  refine zr_lV (pc := 345) hC hEk [.int (xs (i + (1 : Int32)).toNatClampNeg)] [] 76 1 (fun l D => tX11_left hEk hq0 l D) gL_X11_left rfl rfl rfl ⟨Nat.le_of_ble_eq_true rfl, Nat.le_of_ble_eq_true rfl⟩ hyX11_left (zNC (by decide)) entC_76 rfl rfl rfl (Nat.le_of_ble_eq_true rfl) ⟨by show cells + 0 ≤ 600000; omega, by show slots + 0 ≤ 7302250; omega⟩ dL_law_345 (fun rv w1 hpo => ?_)
  obtain ⟨rfl, rfl⟩ := hpo
  show zV X cells slots (zwM κ am M ++ zwC κ ad pT pR pX pF q0.2 pP) [(0, .ref b), (1, .ref (ad 76)), (2, .ref (am 0)), (3, .int i)] [.int q0.1] 348
  refine zr_aload_n (pc := 348) hC 2 rfl rfl dL_law_348 ?_
  refine zr_aload_n (pc := 349) hC 0 rfl rfl dL_law_349 ?_
  refine zr_iload_n (pc := 350) hC 3 rfl rfl dL_law_350 ?_
  refine zr_iconst (pc := 351) hC zki_1 dL_law_351 ?_
  refine zr_iadd (pc := 352) hC dL_law_352 ?_
  refine zr_sld (pc := 353) hC hB hin1 dL_law_353 ?_
  refine zr_swap ?_
  obtain ⟨q1, hq1, h⟩ := zbd h
  refine zr_lV (pc := 354) hC hEk [.int (xs (i + (1 : Int32)).toNatClampNeg)] [.int q0.1] 0 1 (fun l D => tX12_left hEk hq1 l D) gL_X12_left rfl rfl rfl ⟨Nat.le_of_ble_eq_true rfl, Nat.le_of_ble_eq_true rfl⟩ hyX12_left (by decide) entM_0 rfl rfl rfl (Nat.le_of_ble_eq_true rfl) ⟨by show cells + 0 ≤ 600000; omega, by show slots + 0 ≤ 7302250; omega⟩ dL_law_354 (fun rv w1 hpo => ?_)
  obtain ⟨rfl, rfl⟩ := hpo
  show zV X cells slots (zwC κ ad pT pR pX pF q0.2 pP ++ zwM κ am q1.2) [(0, .ref b), (1, .ref (ad 76)), (2, .ref (am 0)), (3, .int i)] [.int q1.1, .int q0.1] 357
  refine zr_swap ?_
  refine zr_icmp_eq (pc := 357) (tgt := 1182) hC dL_law_357 (by decide) (fun c => ?_) (fun c => ?_)
  · replace h := zip h c
    obtain rfl := Option.some.inj h
    exact kk ad cells slots (by omega) (by omega)
  · replace h := zin h c
    cases h
def xL_6 (pT : zM) (pR : zM) (pX : zM) (pF : zM) (pB : zM) (pP : zP) (M : zM) (a1 a2 a3 : Int32) : Option zSt :=
  (xX11_chance pT pB a1 a2 a3).bind fun q0 =>
  (xX12_chance M a1 a2 a3).bind fun q1 =>
  if (lg_cmp q0.1 q1.1) = 0 then some (pT, pR, pX, pF, q0.2, pP, q1.2) else none
set_option maxHeartbeats 4000000 in
theorem tL_6 {X : zX} {κ : Nat → ClassId} {tg : Nat} {adK adV ad am : Nat → Nat} {b L : Nat} {xs : Nat → Int32} {i : Int32} {cells slots : Nat} {pT pR pX pF pB M : zM} {pP : zP} {S9 : zSt} (hC : zC X code RL lw_tbl vwCl (zty κ) (zE tg (zS adK adV)) 4 room_1) (hEk : zEk (zE tg (zS adK adV))) (hB : zB X b L xs) (hin1 : vp_in (i + (1 : Int32)) L) (hin2 : vp_in (i + (2 : Int32)) L) (hin3 : vp_in (i + (3 : Int32)) L) (hc1 : cells + 64 ≤ 600000) (hc2 : slots + 256 ≤ 7302250) (h : xL_6 pT pR pX pF pB pP M (xs (i + (1 : Int32)).toNatClampNeg) (xs (i + (2 : Int32)).toNatClampNeg) (xs (i + (3 : Int32)).toNatClampNeg) = some S9) (kk : ∀ (ad2 : Nat → Nat) (c2 s2 : Nat), c2 ≤ cells + 64 → s2 ≤ slots + 256 → zV X c2 s2 (zwM κ am S9.2.2.2.2.2.2 ++ zwC κ ad2 S9.1 S9.2.1 S9.2.2.1 S9.2.2.2.1 S9.2.2.2.2.1 S9.2.2.2.2.2.1) [(0, .ref b), (1, .ref (ad2 76)), (2, .ref (am 0)), (3, .int i)] [] 1182) : zV X cells slots (zwM κ am M ++ zwC κ ad pT pR pX pF pB pP) [(0, .ref b), (1, .ref (ad 76)), (2, .ref (am 0)), (3, .int i)] [] 362 := by
  unfold xL_6 at h
  refine zr_aload_n (pc := 362) hC 1 rfl rfl dL_law_362 ?_
  refine zr_aload_n (pc := 363) hC 0 rfl rfl dL_law_363 ?_
  refine zr_iload_n (pc := 364) hC 3 rfl rfl dL_law_364 ?_
  refine zr_iconst (pc := 365) hC zki_1 dL_law_365 ?_
  refine zr_iadd (pc := 366) hC dL_law_366 ?_
  refine zr_sld (pc := 367) hC hB hin1 dL_law_367 ?_
  refine zr_aload_n (pc := 368) hC 0 rfl rfl dL_law_368 ?_
  refine zr_iload_n (pc := 369) hC 3 rfl rfl dL_law_369 ?_
  refine zr_iconst (pc := 370) hC zki_2 dL_law_370 ?_
  refine zr_iadd (pc := 371) hC dL_law_371 ?_
  refine zr_sld (pc := 372) hC hB hin2 dL_law_372 ?_
  refine zr_aload_n (pc := 373) hC 0 rfl rfl dL_law_373 ?_
  refine zr_iload_n (pc := 374) hC 3 rfl rfl dL_law_374 ?_
  refine zr_iconst (pc := 375) hC zki_3 dL_law_375 ?_
  refine zr_iadd (pc := 376) hC dL_law_376 ?_
  refine zr_sld (pc := 377) hC hB hin3 dL_law_377 ?_
  obtain ⟨q0, hq0, h⟩ := zbd h
  refine zr_lV (pc := 378) hC hEk [.int (xs (i + (1 : Int32)).toNatClampNeg), .int (xs (i + (2 : Int32)).toNatClampNeg), .int (xs (i + (3 : Int32)).toNatClampNeg)] [] 76 3 (fun l D => tX11_chance hEk hq0 l D) gL_X11_chance rfl rfl rfl ⟨Nat.le_of_ble_eq_true rfl, Nat.le_of_ble_eq_true rfl⟩ hyX11_chance (zNC (by decide)) entC_76 rfl rfl rfl (Nat.le_of_ble_eq_true rfl) ⟨by show cells + 0 ≤ 600000; omega, by show slots + 0 ≤ 7302250; omega⟩ dL_law_378 (fun rv w1 hpo => ?_)
  obtain ⟨rfl, rfl⟩ := hpo
  show zV X cells slots (zwM κ am M ++ zwC κ ad pT pR pX pF q0.2 pP) [(0, .ref b), (1, .ref (ad 76)), (2, .ref (am 0)), (3, .int i)] [.long q0.1] 381
  refine zr_aload_n (pc := 381) hC 2 rfl rfl dL_law_381 ?_
  refine zr_aload_n (pc := 382) hC 0 rfl rfl dL_law_382 ?_
  refine zr_iload_n (pc := 383) hC 3 rfl rfl dL_law_383 ?_
  refine zr_iconst (pc := 384) hC zki_1 dL_law_384 ?_
  refine zr_iadd (pc := 385) hC dL_law_385 ?_
  refine zr_sld (pc := 386) hC hB hin1 dL_law_386 ?_
  refine zr_aload_n (pc := 387) hC 0 rfl rfl dL_law_387 ?_
  refine zr_iload_n (pc := 388) hC 3 rfl rfl dL_law_388 ?_
  refine zr_iconst (pc := 389) hC zki_2 dL_law_389 ?_
  refine zr_iadd (pc := 390) hC dL_law_390 ?_
  refine zr_sld (pc := 391) hC hB hin2 dL_law_391 ?_
  refine zr_aload_n (pc := 392) hC 0 rfl rfl dL_law_392 ?_
  refine zr_iload_n (pc := 393) hC 3 rfl rfl dL_law_393 ?_
  refine zr_iconst (pc := 394) hC zki_3 dL_law_394 ?_
  refine zr_iadd (pc := 395) hC dL_law_395 ?_
  refine zr_sld (pc := 396) hC hB hin3 dL_law_396 ?_
  refine zr_swap ?_
  obtain ⟨q1, hq1, h⟩ := zbd h
  refine zr_lV (pc := 397) hC hEk [.int (xs (i + (1 : Int32)).toNatClampNeg), .int (xs (i + (2 : Int32)).toNatClampNeg), .int (xs (i + (3 : Int32)).toNatClampNeg)] [.long q0.1] 0 3 (fun l D => tX12_chance hEk hq1 l D) gL_X12_chance rfl rfl rfl ⟨Nat.le_of_ble_eq_true rfl, Nat.le_of_ble_eq_true rfl⟩ hyX12_chance (by decide) entM_0 rfl rfl rfl (Nat.le_of_ble_eq_true rfl) ⟨by show cells + 0 ≤ 600000; omega, by show slots + 0 ≤ 7302250; omega⟩ dL_law_397 (fun rv w1 hpo => ?_)
  obtain ⟨rfl, rfl⟩ := hpo
  show zV X cells slots (zwC κ ad pT pR pX pF q0.2 pP ++ zwM κ am q1.2) [(0, .ref b), (1, .ref (ad 76)), (2, .ref (am 0)), (3, .int i)] [.long q1.1, .long q0.1] 400
  refine zr_swap ?_
  refine zr_lcmp (pc := 400) hC dL_law_400 ?_
  refine zr_if_eq (pc := 401) (tgt := 1182) hC dL_law_401 (by decide) (fun c => ?_) (fun c => ?_)
  · replace h := zip h c
    obtain rfl := Option.some.inj h
    exact kk ad cells slots (by omega) (by omega)
  · replace h := zin h c
    cases h
def xL_7 (pT : zM) (pR : zM) (pX : zM) (pF : zM) (pB : zM) (pP : zP) (M : zM) (a1 a2 a3 : Int32) : Option zSt :=
  (xX11_guess pT pR pB pP a1 a2).bind fun q0 =>
  (xX12_guess M a1 a2).bind fun q1 =>
  if q0.1 = q1.1 then some (pT, pR, pX, pF, q0.2, pP, q1.2) else none
set_option maxHeartbeats 4000000 in
theorem tL_7 {X : zX} {κ : Nat → ClassId} {tg : Nat} {adK adV ad am : Nat → Nat} {b L : Nat} {xs : Nat → Int32} {i : Int32} {cells slots : Nat} {pT pR pX pF pB M : zM} {pP : zP} {S9 : zSt} (hC : zC X code RL lw_tbl vwCl (zty κ) (zE tg (zS adK adV)) 4 room_1) (hEk : zEk (zE tg (zS adK adV))) (hB : zB X b L xs) (hin1 : vp_in (i + (1 : Int32)) L) (hin2 : vp_in (i + (2 : Int32)) L) (hin3 : vp_in (i + (3 : Int32)) L) (hc1 : cells + 64 ≤ 600000) (hc2 : slots + 256 ≤ 7302250) (h : xL_7 pT pR pX pF pB pP M (xs (i + (1 : Int32)).toNatClampNeg) (xs (i + (2 : Int32)).toNatClampNeg) (xs (i + (3 : Int32)).toNatClampNeg) = some S9) (kk : ∀ (ad2 : Nat → Nat) (c2 s2 : Nat), c2 ≤ cells + 64 → s2 ≤ slots + 256 → zV X c2 s2 (zwM κ am S9.2.2.2.2.2.2 ++ zwC κ ad2 S9.1 S9.2.1 S9.2.2.1 S9.2.2.2.1 S9.2.2.2.2.1 S9.2.2.2.2.2.1) [(0, .ref b), (1, .ref (ad2 76)), (2, .ref (am 0)), (3, .int i)] [] 1182) : zV X cells slots (zwM κ am M ++ zwC κ ad pT pR pX pF pB pP) [(0, .ref b), (1, .ref (ad 76)), (2, .ref (am 0)), (3, .int i)] [] 406 := by
  unfold xL_7 at h
  refine zr_aload_n (pc := 406) hC 1 rfl rfl dL_law_406 ?_
  refine zr_aload_n (pc := 407) hC 0 rfl rfl dL_law_407 ?_
  refine zr_iload_n (pc := 408) hC 3 rfl rfl dL_law_408 ?_
  refine zr_iconst (pc := 409) hC zki_1 dL_law_409 ?_
  refine zr_iadd (pc := 410) hC dL_law_410 ?_
  refine zr_sld (pc := 411) hC hB hin1 dL_law_411 ?_
  refine zr_aload_n (pc := 412) hC 0 rfl rfl dL_law_412 ?_
  refine zr_iload_n (pc := 413) hC 3 rfl rfl dL_law_413 ?_
  refine zr_iconst (pc := 414) hC zki_2 dL_law_414 ?_
  refine zr_iadd (pc := 415) hC dL_law_415 ?_
  refine zr_sld (pc := 416) hC hB hin2 dL_law_416 ?_
  obtain ⟨q0, hq0, h⟩ := zbd h
  refine zr_lV (pc := 417) hC hEk [.int (xs (i + (1 : Int32)).toNatClampNeg), .int (xs (i + (2 : Int32)).toNatClampNeg)] [] 76 2 (fun l D => tX11_guess hEk hq0 l D) gL_X11_guess rfl rfl rfl ⟨Nat.le_of_ble_eq_true rfl, Nat.le_of_ble_eq_true rfl⟩ hyX11_guess (zNC (by decide)) entC_76 rfl rfl rfl (Nat.le_of_ble_eq_true rfl) ⟨by show cells + 0 ≤ 600000; omega, by show slots + 0 ≤ 7302250; omega⟩ dL_law_417 (fun rv w1 hpo => ?_)
  obtain ⟨rfl, rfl⟩ := hpo
  show zV X cells slots (zwM κ am M ++ zwC κ ad pT pR pX pF q0.2 pP) [(0, .ref b), (1, .ref (ad 76)), (2, .ref (am 0)), (3, .int i)] [.int q0.1] 420
  refine zr_aload_n (pc := 420) hC 2 rfl rfl dL_law_420 ?_
  refine zr_aload_n (pc := 421) hC 0 rfl rfl dL_law_421 ?_
  refine zr_iload_n (pc := 422) hC 3 rfl rfl dL_law_422 ?_
  refine zr_iconst (pc := 423) hC zki_1 dL_law_423 ?_
  refine zr_iadd (pc := 424) hC dL_law_424 ?_
  refine zr_sld (pc := 425) hC hB hin1 dL_law_425 ?_
  refine zr_aload_n (pc := 426) hC 0 rfl rfl dL_law_426 ?_
  refine zr_iload_n (pc := 427) hC 3 rfl rfl dL_law_427 ?_
  refine zr_iconst (pc := 428) hC zki_2 dL_law_428 ?_
  refine zr_iadd (pc := 429) hC dL_law_429 ?_
  refine zr_sld (pc := 430) hC hB hin2 dL_law_430 ?_
  refine zr_swap ?_
  obtain ⟨q1, hq1, h⟩ := zbd h
  refine zr_lV (pc := 431) hC hEk [.int (xs (i + (1 : Int32)).toNatClampNeg), .int (xs (i + (2 : Int32)).toNatClampNeg)] [.int q0.1] 0 2 (fun l D => tX12_guess hEk hq1 l D) gL_X12_guess rfl rfl rfl ⟨Nat.le_of_ble_eq_true rfl, Nat.le_of_ble_eq_true rfl⟩ hyX12_guess (by decide) entM_0 rfl rfl rfl (Nat.le_of_ble_eq_true rfl) ⟨by show cells + 0 ≤ 600000; omega, by show slots + 0 ≤ 7302250; omega⟩ dL_law_431 (fun rv w1 hpo => ?_)
  obtain ⟨rfl, rfl⟩ := hpo
  show zV X cells slots (zwC κ ad pT pR pX pF q0.2 pP ++ zwM κ am q1.2) [(0, .ref b), (1, .ref (ad 76)), (2, .ref (am 0)), (3, .int i)] [.int q1.1, .int q0.1] 434
  refine zr_swap ?_
  refine zr_icmp_eq (pc := 434) (tgt := 1182) hC dL_law_434 (by decide) (fun c => ?_) (fun c => ?_)
  · replace h := zip h c
    obtain rfl := Option.some.inj h
    exact kk ad cells slots (by omega) (by omega)
  · replace h := zin h c
    cases h
def xL_8 (pT : zM) (pR : zM) (pX : zM) (pF : zM) (pB : zM) (pP : zP) (M : zM) (a1 a2 a3 : Int32) : Option zSt :=
  (xX11_points pR pB a1 a2).bind fun q0 =>
  (xX12_points M a1 a2).bind fun q1 =>
  if q0.1 = q1.1 then some (pT, q0.2.1, pX, pF, q0.2.2, pP, q1.2) else none
set_option maxHeartbeats 4000000 in
theorem tL_8 {X : zX} {κ : Nat → ClassId} {tg : Nat} {adK adV ad am : Nat → Nat} {b L : Nat} {xs : Nat → Int32} {i : Int32} {cells slots : Nat} {pT pR pX pF pB M : zM} {pP : zP} {S9 : zSt} (hC : zC X code RL lw_tbl vwCl (zty κ) (zE tg (zS adK adV)) 4 room_1) (hEk : zEk (zE tg (zS adK adV))) (hB : zB X b L xs) (hin1 : vp_in (i + (1 : Int32)) L) (hin2 : vp_in (i + (2 : Int32)) L) (hin3 : vp_in (i + (3 : Int32)) L) (hc1 : cells + 64 ≤ 600000) (hc2 : slots + 256 ≤ 7302250) (h : xL_8 pT pR pX pF pB pP M (xs (i + (1 : Int32)).toNatClampNeg) (xs (i + (2 : Int32)).toNatClampNeg) (xs (i + (3 : Int32)).toNatClampNeg) = some S9) (kk : ∀ (ad2 : Nat → Nat) (c2 s2 : Nat), c2 ≤ cells + 64 → s2 ≤ slots + 256 → zV X c2 s2 (zwM κ am S9.2.2.2.2.2.2 ++ zwC κ ad2 S9.1 S9.2.1 S9.2.2.1 S9.2.2.2.1 S9.2.2.2.2.1 S9.2.2.2.2.2.1) [(0, .ref b), (1, .ref (ad2 76)), (2, .ref (am 0)), (3, .int i)] [] 1182) : zV X cells slots (zwM κ am M ++ zwC κ ad pT pR pX pF pB pP) [(0, .ref b), (1, .ref (ad 76)), (2, .ref (am 0)), (3, .int i)] [] 439 := by
  unfold xL_8 at h
  refine zr_aload_n (pc := 439) hC 1 rfl rfl dL_law_439 ?_
  refine zr_aload_n (pc := 440) hC 0 rfl rfl dL_law_440 ?_
  refine zr_iload_n (pc := 441) hC 3 rfl rfl dL_law_441 ?_
  refine zr_iconst (pc := 442) hC zki_1 dL_law_442 ?_
  refine zr_iadd (pc := 443) hC dL_law_443 ?_
  refine zr_sld (pc := 444) hC hB hin1 dL_law_444 ?_
  refine zr_aload_n (pc := 445) hC 0 rfl rfl dL_law_445 ?_
  refine zr_iload_n (pc := 446) hC 3 rfl rfl dL_law_446 ?_
  refine zr_iconst (pc := 447) hC zki_2 dL_law_447 ?_
  refine zr_iadd (pc := 448) hC dL_law_448 ?_
  refine zr_sld (pc := 449) hC hB hin2 dL_law_449 ?_
  obtain ⟨q0, hq0, h⟩ := zbd h
  refine zr_lV (pc := 450) hC hEk [.int (xs (i + (1 : Int32)).toNatClampNeg), .int (xs (i + (2 : Int32)).toNatClampNeg)] [] 76 2 (fun l D => tX11_points hEk hq0 l D) gL_X11_points rfl rfl rfl ⟨Nat.le_of_ble_eq_true rfl, Nat.le_of_ble_eq_true rfl⟩ hyX11_points (zNC (by decide)) entC_76 rfl rfl rfl (Nat.le_of_ble_eq_true rfl) ⟨by show cells + 0 ≤ 600000; omega, by show slots + 0 ≤ 7302250; omega⟩ dL_law_450 (fun rv w1 hpo => ?_)
  obtain ⟨rfl, rfl⟩ := hpo
  show zV X cells slots (zwM κ am M ++ zwC κ ad pT q0.2.1 pX pF q0.2.2 pP) [(0, .ref b), (1, .ref (ad 76)), (2, .ref (am 0)), (3, .int i)] [.int q0.1] 453
  refine zr_aload_n (pc := 453) hC 2 rfl rfl dL_law_453 ?_
  refine zr_aload_n (pc := 454) hC 0 rfl rfl dL_law_454 ?_
  refine zr_iload_n (pc := 455) hC 3 rfl rfl dL_law_455 ?_
  refine zr_iconst (pc := 456) hC zki_1 dL_law_456 ?_
  refine zr_iadd (pc := 457) hC dL_law_457 ?_
  refine zr_sld (pc := 458) hC hB hin1 dL_law_458 ?_
  refine zr_aload_n (pc := 459) hC 0 rfl rfl dL_law_459 ?_
  refine zr_iload_n (pc := 460) hC 3 rfl rfl dL_law_460 ?_
  refine zr_iconst (pc := 461) hC zki_2 dL_law_461 ?_
  refine zr_iadd (pc := 462) hC dL_law_462 ?_
  refine zr_sld (pc := 463) hC hB hin2 dL_law_463 ?_
  refine zr_swap ?_
  obtain ⟨q1, hq1, h⟩ := zbd h
  refine zr_lV (pc := 464) hC hEk [.int (xs (i + (1 : Int32)).toNatClampNeg), .int (xs (i + (2 : Int32)).toNatClampNeg)] [.int q0.1] 0 2 (fun l D => tX12_points hEk hq1 l D) gL_X12_points rfl rfl rfl ⟨Nat.le_of_ble_eq_true rfl, Nat.le_of_ble_eq_true rfl⟩ hyX12_points (by decide) entM_0 rfl rfl rfl (Nat.le_of_ble_eq_true rfl) ⟨by show cells + 0 ≤ 600000; omega, by show slots + 0 ≤ 7302250; omega⟩ dL_law_464 (fun rv w1 hpo => ?_)
  obtain ⟨rfl, rfl⟩ := hpo
  show zV X cells slots (zwC κ ad pT q0.2.1 pX pF q0.2.2 pP ++ zwM κ am q1.2) [(0, .ref b), (1, .ref (ad 76)), (2, .ref (am 0)), (3, .int i)] [.int q1.1, .int q0.1] 467
  refine zr_swap ?_
  refine zr_icmp_eq (pc := 467) (tgt := 1182) hC dL_law_467 (by decide) (fun c => ?_) (fun c => ?_)
  · replace h := zip h c
    obtain rfl := Option.some.inj h
    exact kk ad cells slots (by omega) (by omega)
  · replace h := zin h c
    cases h
def xL_9 (pT : zM) (pR : zM) (pX : zM) (pF : zM) (pB : zM) (pP : zP) (M : zM) (a1 a2 a3 : Int32) : Option zSt :=
  (xX11_setOf pT pR pB pP a1 a2).bind fun q0 =>
  (xX12_setOf M a1 a2).bind fun q1 =>
  if q0.1 = q1.1 then some (pT, pR, pX, pF, q0.2.1, q0.2.2, q1.2) else none
set_option maxHeartbeats 4000000 in
theorem tL_9 {X : zX} {κ : Nat → ClassId} {tg : Nat} {adK adV ad am : Nat → Nat} {b L : Nat} {xs : Nat → Int32} {i : Int32} {cells slots : Nat} {pT pR pX pF pB M : zM} {pP : zP} {S9 : zSt} (hC : zC X code RL lw_tbl vwCl (zty κ) (zE tg (zS adK adV)) 4 room_1) (hEk : zEk (zE tg (zS adK adV))) (hB : zB X b L xs) (hin1 : vp_in (i + (1 : Int32)) L) (hin2 : vp_in (i + (2 : Int32)) L) (hin3 : vp_in (i + (3 : Int32)) L) (hc1 : cells + 64 ≤ 600000) (hc2 : slots + 256 ≤ 7302250) (h : xL_9 pT pR pX pF pB pP M (xs (i + (1 : Int32)).toNatClampNeg) (xs (i + (2 : Int32)).toNatClampNeg) (xs (i + (3 : Int32)).toNatClampNeg) = some S9) (kk : ∀ (ad2 : Nat → Nat) (c2 s2 : Nat), c2 ≤ cells + 64 → s2 ≤ slots + 256 → zV X c2 s2 (zwM κ am S9.2.2.2.2.2.2 ++ zwC κ ad2 S9.1 S9.2.1 S9.2.2.1 S9.2.2.2.1 S9.2.2.2.2.1 S9.2.2.2.2.2.1) [(0, .ref b), (1, .ref (ad2 76)), (2, .ref (am 0)), (3, .int i)] [] 1182) : zV X cells slots (zwM κ am M ++ zwC κ ad pT pR pX pF pB pP) [(0, .ref b), (1, .ref (ad 76)), (2, .ref (am 0)), (3, .int i)] [] 472 := by
  unfold xL_9 at h
  refine zr_aload_n (pc := 472) hC 1 rfl rfl dL_law_472 ?_
  refine zr_aload_n (pc := 473) hC 0 rfl rfl dL_law_473 ?_
  refine zr_iload_n (pc := 474) hC 3 rfl rfl dL_law_474 ?_
  refine zr_iconst (pc := 475) hC zki_1 dL_law_475 ?_
  refine zr_iadd (pc := 476) hC dL_law_476 ?_
  refine zr_sld (pc := 477) hC hB hin1 dL_law_477 ?_
  refine zr_aload_n (pc := 478) hC 0 rfl rfl dL_law_478 ?_
  refine zr_iload_n (pc := 479) hC 3 rfl rfl dL_law_479 ?_
  refine zr_iconst (pc := 480) hC zki_2 dL_law_480 ?_
  refine zr_iadd (pc := 481) hC dL_law_481 ?_
  refine zr_sld (pc := 482) hC hB hin2 dL_law_482 ?_
  obtain ⟨q0, hq0, h⟩ := zbd h
  refine zr_lV (pc := 483) hC hEk [.int (xs (i + (1 : Int32)).toNatClampNeg), .int (xs (i + (2 : Int32)).toNatClampNeg)] [] 76 2 (fun l D => tX11_setOf hEk hq0 l D) gL_X11_setOf rfl rfl rfl ⟨Nat.le_of_ble_eq_true rfl, Nat.le_of_ble_eq_true rfl⟩ hyX11_setOf (zNC (by decide)) entC_76 rfl rfl rfl (Nat.le_of_ble_eq_true rfl) ⟨by show cells + 0 ≤ 600000; omega, by show slots + 0 ≤ 7302250; omega⟩ dL_law_483 (fun rv w1 hpo => ?_)
  obtain ⟨rfl, rfl⟩ := hpo
  show zV X cells slots (zwM κ am M ++ zwC κ ad pT pR pX pF q0.2.1 q0.2.2) [(0, .ref b), (1, .ref (ad 76)), (2, .ref (am 0)), (3, .int i)] [.int q0.1] 486
  refine zr_aload_n (pc := 486) hC 2 rfl rfl dL_law_486 ?_
  refine zr_aload_n (pc := 487) hC 0 rfl rfl dL_law_487 ?_
  refine zr_iload_n (pc := 488) hC 3 rfl rfl dL_law_488 ?_
  refine zr_iconst (pc := 489) hC zki_1 dL_law_489 ?_
  refine zr_iadd (pc := 490) hC dL_law_490 ?_
  refine zr_sld (pc := 491) hC hB hin1 dL_law_491 ?_
  refine zr_aload_n (pc := 492) hC 0 rfl rfl dL_law_492 ?_
  refine zr_iload_n (pc := 493) hC 3 rfl rfl dL_law_493 ?_
  refine zr_iconst (pc := 494) hC zki_2 dL_law_494 ?_
  refine zr_iadd (pc := 495) hC dL_law_495 ?_
  refine zr_sld (pc := 496) hC hB hin2 dL_law_496 ?_
  refine zr_swap ?_
  obtain ⟨q1, hq1, h⟩ := zbd h
  refine zr_lV (pc := 497) hC hEk [.int (xs (i + (1 : Int32)).toNatClampNeg), .int (xs (i + (2 : Int32)).toNatClampNeg)] [.int q0.1] 0 2 (fun l D => tX12_setOf hEk hq1 l D) gL_X12_setOf rfl rfl rfl ⟨Nat.le_of_ble_eq_true rfl, Nat.le_of_ble_eq_true rfl⟩ hyX12_setOf (by decide) entM_0 rfl rfl rfl (Nat.le_of_ble_eq_true rfl) ⟨by show cells + 0 ≤ 600000; omega, by show slots + 0 ≤ 7302250; omega⟩ dL_law_497 (fun rv w1 hpo => ?_)
  obtain ⟨rfl, rfl⟩ := hpo
  show zV X cells slots (zwC κ ad pT pR pX pF q0.2.1 q0.2.2 ++ zwM κ am q1.2) [(0, .ref b), (1, .ref (ad 76)), (2, .ref (am 0)), (3, .int i)] [.int q1.1, .int q0.1] 500
  refine zr_swap ?_
  refine zr_icmp_eq (pc := 500) (tgt := 1182) hC dL_law_500 (by decide) (fun c => ?_) (fun c => ?_)
  · replace h := zip h c
    obtain rfl := Option.some.inj h
    exact kk ad cells slots (by omega) (by omega)
  · replace h := zin h c
    cases h
def xL_10 (pT : zM) (pR : zM) (pX : zM) (pF : zM) (pB : zM) (pP : zP) (M : zM) (a1 a2 a3 : Int32) : Option zSt :=
  (xX11_presses pT pR pB pP a1 a2).bind fun q0 =>
  (xX12_presses M a1 a2).bind fun q1 =>
  if q0.1 = q1.1 then some (pT, q0.2.1, pX, pF, q0.2.2, pP, q1.2) else none
set_option maxHeartbeats 4000000 in
theorem tL_10 {X : zX} {κ : Nat → ClassId} {tg : Nat} {adK adV ad am : Nat → Nat} {b L : Nat} {xs : Nat → Int32} {i : Int32} {cells slots : Nat} {pT pR pX pF pB M : zM} {pP : zP} {S9 : zSt} (hC : zC X code RL lw_tbl vwCl (zty κ) (zE tg (zS adK adV)) 4 room_1) (hEk : zEk (zE tg (zS adK adV))) (hB : zB X b L xs) (hin1 : vp_in (i + (1 : Int32)) L) (hin2 : vp_in (i + (2 : Int32)) L) (hin3 : vp_in (i + (3 : Int32)) L) (hc1 : cells + 64 ≤ 600000) (hc2 : slots + 256 ≤ 7302250) (h : xL_10 pT pR pX pF pB pP M (xs (i + (1 : Int32)).toNatClampNeg) (xs (i + (2 : Int32)).toNatClampNeg) (xs (i + (3 : Int32)).toNatClampNeg) = some S9) (kk : ∀ (ad2 : Nat → Nat) (c2 s2 : Nat), c2 ≤ cells + 64 → s2 ≤ slots + 256 → zV X c2 s2 (zwM κ am S9.2.2.2.2.2.2 ++ zwC κ ad2 S9.1 S9.2.1 S9.2.2.1 S9.2.2.2.1 S9.2.2.2.2.1 S9.2.2.2.2.2.1) [(0, .ref b), (1, .ref (ad2 76)), (2, .ref (am 0)), (3, .int i)] [] 1182) : zV X cells slots (zwM κ am M ++ zwC κ ad pT pR pX pF pB pP) [(0, .ref b), (1, .ref (ad 76)), (2, .ref (am 0)), (3, .int i)] [] 505 := by
  unfold xL_10 at h
  refine zr_aload_n (pc := 505) hC 1 rfl rfl dL_law_505 ?_
  refine zr_aload_n (pc := 506) hC 0 rfl rfl dL_law_506 ?_
  refine zr_iload_n (pc := 507) hC 3 rfl rfl dL_law_507 ?_
  refine zr_iconst (pc := 508) hC zki_1 dL_law_508 ?_
  refine zr_iadd (pc := 509) hC dL_law_509 ?_
  refine zr_sld (pc := 510) hC hB hin1 dL_law_510 ?_
  refine zr_aload_n (pc := 511) hC 0 rfl rfl dL_law_511 ?_
  refine zr_iload_n (pc := 512) hC 3 rfl rfl dL_law_512 ?_
  refine zr_iconst (pc := 513) hC zki_2 dL_law_513 ?_
  refine zr_iadd (pc := 514) hC dL_law_514 ?_
  refine zr_sld (pc := 515) hC hB hin2 dL_law_515 ?_
  obtain ⟨q0, hq0, h⟩ := zbd h
  refine zr_lV (pc := 516) hC hEk [.int (xs (i + (1 : Int32)).toNatClampNeg), .int (xs (i + (2 : Int32)).toNatClampNeg)] [] 76 2 (fun l D => tX11_presses hEk hq0 l D) gL_X11_presses rfl rfl rfl ⟨Nat.le_of_ble_eq_true rfl, Nat.le_of_ble_eq_true rfl⟩ hyX11_presses (zNC (by decide)) entC_76 rfl rfl rfl (Nat.le_of_ble_eq_true rfl) ⟨by show cells + 0 ≤ 600000; omega, by show slots + 0 ≤ 7302250; omega⟩ dL_law_516 (fun rv w1 hpo => ?_)
  obtain ⟨rfl, rfl⟩ := hpo
  show zV X cells slots (zwM κ am M ++ zwC κ ad pT q0.2.1 pX pF q0.2.2 pP) [(0, .ref b), (1, .ref (ad 76)), (2, .ref (am 0)), (3, .int i)] [.int q0.1] 519
  refine zr_aload_n (pc := 519) hC 2 rfl rfl dL_law_519 ?_
  refine zr_aload_n (pc := 520) hC 0 rfl rfl dL_law_520 ?_
  refine zr_iload_n (pc := 521) hC 3 rfl rfl dL_law_521 ?_
  refine zr_iconst (pc := 522) hC zki_1 dL_law_522 ?_
  refine zr_iadd (pc := 523) hC dL_law_523 ?_
  refine zr_sld (pc := 524) hC hB hin1 dL_law_524 ?_
  refine zr_aload_n (pc := 525) hC 0 rfl rfl dL_law_525 ?_
  refine zr_iload_n (pc := 526) hC 3 rfl rfl dL_law_526 ?_
  refine zr_iconst (pc := 527) hC zki_2 dL_law_527 ?_
  refine zr_iadd (pc := 528) hC dL_law_528 ?_
  refine zr_sld (pc := 529) hC hB hin2 dL_law_529 ?_
  refine zr_swap ?_
  obtain ⟨q1, hq1, h⟩ := zbd h
  refine zr_lV (pc := 530) hC hEk [.int (xs (i + (1 : Int32)).toNatClampNeg), .int (xs (i + (2 : Int32)).toNatClampNeg)] [.int q0.1] 0 2 (fun l D => tX12_presses hEk hq1 l D) gL_X12_presses rfl rfl rfl ⟨Nat.le_of_ble_eq_true rfl, Nat.le_of_ble_eq_true rfl⟩ hyX12_presses (by decide) entM_0 rfl rfl rfl (Nat.le_of_ble_eq_true rfl) ⟨by show cells + 0 ≤ 600000; omega, by show slots + 0 ≤ 7302250; omega⟩ dL_law_530 (fun rv w1 hpo => ?_)
  obtain ⟨rfl, rfl⟩ := hpo
  show zV X cells slots (zwC κ ad pT q0.2.1 pX pF q0.2.2 pP ++ zwM κ am q1.2) [(0, .ref b), (1, .ref (ad 76)), (2, .ref (am 0)), (3, .int i)] [.int q1.1, .int q0.1] 533
  refine zr_swap ?_
  refine zr_icmp_eq (pc := 533) (tgt := 1182) hC dL_law_533 (by decide) (fun c => ?_) (fun c => ?_)
  · replace h := zip h c
    obtain rfl := Option.some.inj h
    exact kk ad cells slots (by omega) (by omega)
  · replace h := zin h c
    cases h
def xL_11 (pT : zM) (pR : zM) (pX : zM) (pF : zM) (pB : zM) (pP : zP) (M : zM) (a1 a2 a3 : Int32) : Option zSt :=
  (xX11_run pT pR pB pP a1 a2).bind fun q0 =>
  (xX12_run M a1 a2).bind fun q1 =>
  if q0.1 = q1.1 then some (pT, q0.2.1, pX, pF, q0.2.2, pP, q1.2) else none
set_option maxHeartbeats 4000000 in
theorem tL_11 {X : zX} {κ : Nat → ClassId} {tg : Nat} {adK adV ad am : Nat → Nat} {b L : Nat} {xs : Nat → Int32} {i : Int32} {cells slots : Nat} {pT pR pX pF pB M : zM} {pP : zP} {S9 : zSt} (hC : zC X code RL lw_tbl vwCl (zty κ) (zE tg (zS adK adV)) 4 room_1) (hEk : zEk (zE tg (zS adK adV))) (hB : zB X b L xs) (hin1 : vp_in (i + (1 : Int32)) L) (hin2 : vp_in (i + (2 : Int32)) L) (hin3 : vp_in (i + (3 : Int32)) L) (hc1 : cells + 64 ≤ 600000) (hc2 : slots + 256 ≤ 7302250) (h : xL_11 pT pR pX pF pB pP M (xs (i + (1 : Int32)).toNatClampNeg) (xs (i + (2 : Int32)).toNatClampNeg) (xs (i + (3 : Int32)).toNatClampNeg) = some S9) (kk : ∀ (ad2 : Nat → Nat) (c2 s2 : Nat), c2 ≤ cells + 64 → s2 ≤ slots + 256 → zV X c2 s2 (zwM κ am S9.2.2.2.2.2.2 ++ zwC κ ad2 S9.1 S9.2.1 S9.2.2.1 S9.2.2.2.1 S9.2.2.2.2.1 S9.2.2.2.2.2.1) [(0, .ref b), (1, .ref (ad2 76)), (2, .ref (am 0)), (3, .int i)] [] 1182) : zV X cells slots (zwM κ am M ++ zwC κ ad pT pR pX pF pB pP) [(0, .ref b), (1, .ref (ad 76)), (2, .ref (am 0)), (3, .int i)] [] 538 := by
  unfold xL_11 at h
  refine zr_aload_n (pc := 538) hC 1 rfl rfl dL_law_538 ?_
  refine zr_aload_n (pc := 539) hC 0 rfl rfl dL_law_539 ?_
  refine zr_iload_n (pc := 540) hC 3 rfl rfl dL_law_540 ?_
  refine zr_iconst (pc := 541) hC zki_1 dL_law_541 ?_
  refine zr_iadd (pc := 542) hC dL_law_542 ?_
  refine zr_sld (pc := 543) hC hB hin1 dL_law_543 ?_
  refine zr_aload_n (pc := 544) hC 0 rfl rfl dL_law_544 ?_
  refine zr_iload_n (pc := 545) hC 3 rfl rfl dL_law_545 ?_
  refine zr_iconst (pc := 546) hC zki_2 dL_law_546 ?_
  refine zr_iadd (pc := 547) hC dL_law_547 ?_
  refine zr_sld (pc := 548) hC hB hin2 dL_law_548 ?_
  obtain ⟨q0, hq0, h⟩ := zbd h
  refine zr_lV (pc := 549) hC hEk [.int (xs (i + (1 : Int32)).toNatClampNeg), .int (xs (i + (2 : Int32)).toNatClampNeg)] [] 76 2 (fun l D => tX11_run hEk hq0 l D) gL_X11_run rfl rfl rfl ⟨Nat.le_of_ble_eq_true rfl, Nat.le_of_ble_eq_true rfl⟩ hyX11_run (zNC (by decide)) entC_76 rfl rfl rfl (Nat.le_of_ble_eq_true rfl) ⟨by show cells + 0 ≤ 600000; omega, by show slots + 0 ≤ 7302250; omega⟩ dL_law_549 (fun rv w1 hpo => ?_)
  obtain ⟨rfl, rfl⟩ := hpo
  show zV X cells slots (zwM κ am M ++ zwC κ ad pT q0.2.1 pX pF q0.2.2 pP) [(0, .ref b), (1, .ref (ad 76)), (2, .ref (am 0)), (3, .int i)] [.int q0.1] 552
  refine zr_aload_n (pc := 552) hC 2 rfl rfl dL_law_552 ?_
  refine zr_aload_n (pc := 553) hC 0 rfl rfl dL_law_553 ?_
  refine zr_iload_n (pc := 554) hC 3 rfl rfl dL_law_554 ?_
  refine zr_iconst (pc := 555) hC zki_1 dL_law_555 ?_
  refine zr_iadd (pc := 556) hC dL_law_556 ?_
  refine zr_sld (pc := 557) hC hB hin1 dL_law_557 ?_
  refine zr_aload_n (pc := 558) hC 0 rfl rfl dL_law_558 ?_
  refine zr_iload_n (pc := 559) hC 3 rfl rfl dL_law_559 ?_
  refine zr_iconst (pc := 560) hC zki_2 dL_law_560 ?_
  refine zr_iadd (pc := 561) hC dL_law_561 ?_
  refine zr_sld (pc := 562) hC hB hin2 dL_law_562 ?_
  refine zr_swap ?_
  obtain ⟨q1, hq1, h⟩ := zbd h
  refine zr_lV (pc := 563) hC hEk [.int (xs (i + (1 : Int32)).toNatClampNeg), .int (xs (i + (2 : Int32)).toNatClampNeg)] [.int q0.1] 0 2 (fun l D => tX12_run hEk hq1 l D) gL_X12_run rfl rfl rfl ⟨Nat.le_of_ble_eq_true rfl, Nat.le_of_ble_eq_true rfl⟩ hyX12_run (by decide) entM_0 rfl rfl rfl (Nat.le_of_ble_eq_true rfl) ⟨by show cells + 0 ≤ 600000; omega, by show slots + 0 ≤ 7302250; omega⟩ dL_law_563 (fun rv w1 hpo => ?_)
  obtain ⟨rfl, rfl⟩ := hpo
  show zV X cells slots (zwC κ ad pT q0.2.1 pX pF q0.2.2 pP ++ zwM κ am q1.2) [(0, .ref b), (1, .ref (ad 76)), (2, .ref (am 0)), (3, .int i)] [.int q1.1, .int q0.1] 566
  refine zr_swap ?_
  refine zr_icmp_eq (pc := 566) (tgt := 1182) hC dL_law_566 (by decide) (fun c => ?_) (fun c => ?_)
  · replace h := zip h c
    obtain rfl := Option.some.inj h
    exact kk ad cells slots (by omega) (by omega)
  · replace h := zin h c
    cases h
def xL_12 (pT : zM) (pR : zM) (pX : zM) (pF : zM) (pB : zM) (pP : zP) (M : zM) (a1 a2 a3 : Int32) : Option zSt :=
  (xX11_wins pT pR pB pP a1 a2).bind fun q0 =>
  (xX12_wins M a1 a2).bind fun q1 =>
  if (lg_cmp q0.1 q1.1) = 0 then some (pT, q0.2.1, pX, pF, q0.2.2, pP, q1.2) else none
set_option maxHeartbeats 4000000 in
theorem tL_12 {X : zX} {κ : Nat → ClassId} {tg : Nat} {adK adV ad am : Nat → Nat} {b L : Nat} {xs : Nat → Int32} {i : Int32} {cells slots : Nat} {pT pR pX pF pB M : zM} {pP : zP} {S9 : zSt} (hC : zC X code RL lw_tbl vwCl (zty κ) (zE tg (zS adK adV)) 4 room_1) (hEk : zEk (zE tg (zS adK adV))) (hB : zB X b L xs) (hin1 : vp_in (i + (1 : Int32)) L) (hin2 : vp_in (i + (2 : Int32)) L) (hin3 : vp_in (i + (3 : Int32)) L) (hc1 : cells + 64 ≤ 600000) (hc2 : slots + 256 ≤ 7302250) (h : xL_12 pT pR pX pF pB pP M (xs (i + (1 : Int32)).toNatClampNeg) (xs (i + (2 : Int32)).toNatClampNeg) (xs (i + (3 : Int32)).toNatClampNeg) = some S9) (kk : ∀ (ad2 : Nat → Nat) (c2 s2 : Nat), c2 ≤ cells + 64 → s2 ≤ slots + 256 → zV X c2 s2 (zwM κ am S9.2.2.2.2.2.2 ++ zwC κ ad2 S9.1 S9.2.1 S9.2.2.1 S9.2.2.2.1 S9.2.2.2.2.1 S9.2.2.2.2.2.1) [(0, .ref b), (1, .ref (ad2 76)), (2, .ref (am 0)), (3, .int i)] [] 1182) : zV X cells slots (zwM κ am M ++ zwC κ ad pT pR pX pF pB pP) [(0, .ref b), (1, .ref (ad 76)), (2, .ref (am 0)), (3, .int i)] [] 571 := by
  unfold xL_12 at h
  refine zr_aload_n (pc := 571) hC 1 rfl rfl dL_law_571 ?_
  refine zr_aload_n (pc := 572) hC 0 rfl rfl dL_law_572 ?_
  refine zr_iload_n (pc := 573) hC 3 rfl rfl dL_law_573 ?_
  refine zr_iconst (pc := 574) hC zki_1 dL_law_574 ?_
  refine zr_iadd (pc := 575) hC dL_law_575 ?_
  refine zr_sld (pc := 576) hC hB hin1 dL_law_576 ?_
  refine zr_aload_n (pc := 577) hC 0 rfl rfl dL_law_577 ?_
  refine zr_iload_n (pc := 578) hC 3 rfl rfl dL_law_578 ?_
  refine zr_iconst (pc := 579) hC zki_2 dL_law_579 ?_
  refine zr_iadd (pc := 580) hC dL_law_580 ?_
  refine zr_sld (pc := 581) hC hB hin2 dL_law_581 ?_
  obtain ⟨q0, hq0, h⟩ := zbd h
  refine zr_lV (pc := 582) hC hEk [.int (xs (i + (1 : Int32)).toNatClampNeg), .int (xs (i + (2 : Int32)).toNatClampNeg)] [] 76 2 (fun l D => tX11_wins hEk hq0 l D) gL_X11_wins rfl rfl rfl ⟨Nat.le_of_ble_eq_true rfl, Nat.le_of_ble_eq_true rfl⟩ hyX11_wins (zNC (by decide)) entC_76 rfl rfl rfl (Nat.le_of_ble_eq_true rfl) ⟨by show cells + 0 ≤ 600000; omega, by show slots + 0 ≤ 7302250; omega⟩ dL_law_582 (fun rv w1 hpo => ?_)
  obtain ⟨rfl, rfl⟩ := hpo
  show zV X cells slots (zwM κ am M ++ zwC κ ad pT q0.2.1 pX pF q0.2.2 pP) [(0, .ref b), (1, .ref (ad 76)), (2, .ref (am 0)), (3, .int i)] [.long q0.1] 585
  refine zr_aload_n (pc := 585) hC 2 rfl rfl dL_law_585 ?_
  refine zr_aload_n (pc := 586) hC 0 rfl rfl dL_law_586 ?_
  refine zr_iload_n (pc := 587) hC 3 rfl rfl dL_law_587 ?_
  refine zr_iconst (pc := 588) hC zki_1 dL_law_588 ?_
  refine zr_iadd (pc := 589) hC dL_law_589 ?_
  refine zr_sld (pc := 590) hC hB hin1 dL_law_590 ?_
  refine zr_aload_n (pc := 591) hC 0 rfl rfl dL_law_591 ?_
  refine zr_iload_n (pc := 592) hC 3 rfl rfl dL_law_592 ?_
  refine zr_iconst (pc := 593) hC zki_2 dL_law_593 ?_
  refine zr_iadd (pc := 594) hC dL_law_594 ?_
  refine zr_sld (pc := 595) hC hB hin2 dL_law_595 ?_
  refine zr_swap ?_
  obtain ⟨q1, hq1, h⟩ := zbd h
  refine zr_lV (pc := 596) hC hEk [.int (xs (i + (1 : Int32)).toNatClampNeg), .int (xs (i + (2 : Int32)).toNatClampNeg)] [.long q0.1] 0 2 (fun l D => tX12_wins hEk hq1 l D) gL_X12_wins rfl rfl rfl ⟨Nat.le_of_ble_eq_true rfl, Nat.le_of_ble_eq_true rfl⟩ hyX12_wins (by decide) entM_0 rfl rfl rfl (Nat.le_of_ble_eq_true rfl) ⟨by show cells + 0 ≤ 600000; omega, by show slots + 0 ≤ 7302250; omega⟩ dL_law_596 (fun rv w1 hpo => ?_)
  obtain ⟨rfl, rfl⟩ := hpo
  show zV X cells slots (zwC κ ad pT q0.2.1 pX pF q0.2.2 pP ++ zwM κ am q1.2) [(0, .ref b), (1, .ref (ad 76)), (2, .ref (am 0)), (3, .int i)] [.long q1.1, .long q0.1] 599
  refine zr_swap ?_
  refine zr_lcmp (pc := 599) hC dL_law_599 ?_
  refine zr_if_eq (pc := 600) (tgt := 1182) hC dL_law_600 (by decide) (fun c => ?_) (fun c => ?_)
  · replace h := zip h c
    obtain rfl := Option.some.inj h
    exact kk ad cells slots (by omega) (by omega)
  · replace h := zin h c
    cases h
def xL_13 (pT : zM) (pR : zM) (pX : zM) (pF : zM) (pB : zM) (pP : zP) (M : zM) (a1 a2 a3 : Int32) : Option zSt :=
  (xX11_worth pT pR pB pP a1 a2).bind fun q0 =>
  (xX12_worth M a1 a2).bind fun q1 =>
  if (lg_cmp q0.1 q1.1) = 0 then some (pT, q0.2.1, pX, pF, q0.2.2, pP, q1.2) else none
set_option maxHeartbeats 4000000 in
theorem tL_13 {X : zX} {κ : Nat → ClassId} {tg : Nat} {adK adV ad am : Nat → Nat} {b L : Nat} {xs : Nat → Int32} {i : Int32} {cells slots : Nat} {pT pR pX pF pB M : zM} {pP : zP} {S9 : zSt} (hC : zC X code RL lw_tbl vwCl (zty κ) (zE tg (zS adK adV)) 4 room_1) (hEk : zEk (zE tg (zS adK adV))) (hB : zB X b L xs) (hin1 : vp_in (i + (1 : Int32)) L) (hin2 : vp_in (i + (2 : Int32)) L) (hin3 : vp_in (i + (3 : Int32)) L) (hc1 : cells + 64 ≤ 600000) (hc2 : slots + 256 ≤ 7302250) (h : xL_13 pT pR pX pF pB pP M (xs (i + (1 : Int32)).toNatClampNeg) (xs (i + (2 : Int32)).toNatClampNeg) (xs (i + (3 : Int32)).toNatClampNeg) = some S9) (kk : ∀ (ad2 : Nat → Nat) (c2 s2 : Nat), c2 ≤ cells + 64 → s2 ≤ slots + 256 → zV X c2 s2 (zwM κ am S9.2.2.2.2.2.2 ++ zwC κ ad2 S9.1 S9.2.1 S9.2.2.1 S9.2.2.2.1 S9.2.2.2.2.1 S9.2.2.2.2.2.1) [(0, .ref b), (1, .ref (ad2 76)), (2, .ref (am 0)), (3, .int i)] [] 1182) : zV X cells slots (zwM κ am M ++ zwC κ ad pT pR pX pF pB pP) [(0, .ref b), (1, .ref (ad 76)), (2, .ref (am 0)), (3, .int i)] [] 605 := by
  unfold xL_13 at h
  refine zr_aload_n (pc := 605) hC 1 rfl rfl dL_law_605 ?_
  refine zr_aload_n (pc := 606) hC 0 rfl rfl dL_law_606 ?_
  refine zr_iload_n (pc := 607) hC 3 rfl rfl dL_law_607 ?_
  refine zr_iconst (pc := 608) hC zki_1 dL_law_608 ?_
  refine zr_iadd (pc := 609) hC dL_law_609 ?_
  refine zr_sld (pc := 610) hC hB hin1 dL_law_610 ?_
  refine zr_aload_n (pc := 611) hC 0 rfl rfl dL_law_611 ?_
  refine zr_iload_n (pc := 612) hC 3 rfl rfl dL_law_612 ?_
  refine zr_iconst (pc := 613) hC zki_2 dL_law_613 ?_
  refine zr_iadd (pc := 614) hC dL_law_614 ?_
  refine zr_sld (pc := 615) hC hB hin2 dL_law_615 ?_
  obtain ⟨q0, hq0, h⟩ := zbd h
  refine zr_lV (pc := 616) hC hEk [.int (xs (i + (1 : Int32)).toNatClampNeg), .int (xs (i + (2 : Int32)).toNatClampNeg)] [] 76 2 (fun l D => tX11_worth hEk hq0 l D) gL_X11_worth rfl rfl rfl ⟨Nat.le_of_ble_eq_true rfl, Nat.le_of_ble_eq_true rfl⟩ hyX11_worth (zNC (by decide)) entC_76 rfl rfl rfl (Nat.le_of_ble_eq_true rfl) ⟨by show cells + 0 ≤ 600000; omega, by show slots + 0 ≤ 7302250; omega⟩ dL_law_616 (fun rv w1 hpo => ?_)
  obtain ⟨rfl, rfl⟩ := hpo
  show zV X cells slots (zwM κ am M ++ zwC κ ad pT q0.2.1 pX pF q0.2.2 pP) [(0, .ref b), (1, .ref (ad 76)), (2, .ref (am 0)), (3, .int i)] [.long q0.1] 619
  refine zr_aload_n (pc := 619) hC 2 rfl rfl dL_law_619 ?_
  refine zr_aload_n (pc := 620) hC 0 rfl rfl dL_law_620 ?_
  refine zr_iload_n (pc := 621) hC 3 rfl rfl dL_law_621 ?_
  refine zr_iconst (pc := 622) hC zki_1 dL_law_622 ?_
  refine zr_iadd (pc := 623) hC dL_law_623 ?_
  refine zr_sld (pc := 624) hC hB hin1 dL_law_624 ?_
  refine zr_aload_n (pc := 625) hC 0 rfl rfl dL_law_625 ?_
  refine zr_iload_n (pc := 626) hC 3 rfl rfl dL_law_626 ?_
  refine zr_iconst (pc := 627) hC zki_2 dL_law_627 ?_
  refine zr_iadd (pc := 628) hC dL_law_628 ?_
  refine zr_sld (pc := 629) hC hB hin2 dL_law_629 ?_
  refine zr_swap ?_
  obtain ⟨q1, hq1, h⟩ := zbd h
  refine zr_lV (pc := 630) hC hEk [.int (xs (i + (1 : Int32)).toNatClampNeg), .int (xs (i + (2 : Int32)).toNatClampNeg)] [.long q0.1] 0 2 (fun l D => tX12_worth hEk hq1 l D) gL_X12_worth rfl rfl rfl ⟨Nat.le_of_ble_eq_true rfl, Nat.le_of_ble_eq_true rfl⟩ hyX12_worth (by decide) entM_0 rfl rfl rfl (Nat.le_of_ble_eq_true rfl) ⟨by show cells + 0 ≤ 600000; omega, by show slots + 0 ≤ 7302250; omega⟩ dL_law_630 (fun rv w1 hpo => ?_)
  obtain ⟨rfl, rfl⟩ := hpo
  show zV X cells slots (zwC κ ad pT q0.2.1 pX pF q0.2.2 pP ++ zwM κ am q1.2) [(0, .ref b), (1, .ref (ad 76)), (2, .ref (am 0)), (3, .int i)] [.long q1.1, .long q0.1] 633
  refine zr_swap ?_
  refine zr_lcmp (pc := 633) hC dL_law_633 ?_
  refine zr_if_eq (pc := 634) (tgt := 1182) hC dL_law_634 (by decide) (fun c => ?_) (fun c => ?_)
  · replace h := zip h c
    obtain rfl := Option.some.inj h
    exact kk ad cells slots (by omega) (by omega)
  · replace h := zin h c
    cases h
def xL_14 (pT : zM) (pR : zM) (pX : zM) (pF : zM) (pB : zM) (pP : zP) (M : zM) (a1 a2 a3 : Int32) : Option zSt :=
  (xX11_nobody pT pR pB pP a1).bind fun q0 =>
  (xX12_nobody M a1).bind fun q1 =>
  if (lg_cmp q0.1 q1.1) = 0 then some (pT, q0.2.1, pX, pF, q0.2.2, pP, q1.2) else none
set_option maxHeartbeats 4000000 in
theorem tL_14 {X : zX} {κ : Nat → ClassId} {tg : Nat} {adK adV ad am : Nat → Nat} {b L : Nat} {xs : Nat → Int32} {i : Int32} {cells slots : Nat} {pT pR pX pF pB M : zM} {pP : zP} {S9 : zSt} (hC : zC X code RL lw_tbl vwCl (zty κ) (zE tg (zS adK adV)) 4 room_1) (hEk : zEk (zE tg (zS adK adV))) (hB : zB X b L xs) (hin1 : vp_in (i + (1 : Int32)) L) (hin2 : vp_in (i + (2 : Int32)) L) (hin3 : vp_in (i + (3 : Int32)) L) (hc1 : cells + 64 ≤ 600000) (hc2 : slots + 256 ≤ 7302250) (h : xL_14 pT pR pX pF pB pP M (xs (i + (1 : Int32)).toNatClampNeg) (xs (i + (2 : Int32)).toNatClampNeg) (xs (i + (3 : Int32)).toNatClampNeg) = some S9) (kk : ∀ (ad2 : Nat → Nat) (c2 s2 : Nat), c2 ≤ cells + 64 → s2 ≤ slots + 256 → zV X c2 s2 (zwM κ am S9.2.2.2.2.2.2 ++ zwC κ ad2 S9.1 S9.2.1 S9.2.2.1 S9.2.2.2.1 S9.2.2.2.2.1 S9.2.2.2.2.2.1) [(0, .ref b), (1, .ref (ad2 76)), (2, .ref (am 0)), (3, .int i)] [] 1182) : zV X cells slots (zwM κ am M ++ zwC κ ad pT pR pX pF pB pP) [(0, .ref b), (1, .ref (ad 76)), (2, .ref (am 0)), (3, .int i)] [] 639 := by
  unfold xL_14 at h
  refine zr_aload_n (pc := 639) hC 1 rfl rfl dL_law_639 ?_
  refine zr_aload_n (pc := 640) hC 0 rfl rfl dL_law_640 ?_
  refine zr_iload_n (pc := 641) hC 3 rfl rfl dL_law_641 ?_
  refine zr_iconst (pc := 642) hC zki_1 dL_law_642 ?_
  refine zr_iadd (pc := 643) hC dL_law_643 ?_
  refine zr_sld (pc := 644) hC hB hin1 dL_law_644 ?_
  obtain ⟨q0, hq0, h⟩ := zbd h
  refine zr_lV (pc := 645) hC hEk [.int (xs (i + (1 : Int32)).toNatClampNeg)] [] 76 1 (fun l D => tX11_nobody hEk hq0 l D) gL_X11_nobody rfl rfl rfl ⟨Nat.le_of_ble_eq_true rfl, Nat.le_of_ble_eq_true rfl⟩ hyX11_nobody (zNC (by decide)) entC_76 rfl rfl rfl (Nat.le_of_ble_eq_true rfl) ⟨by show cells + 0 ≤ 600000; omega, by show slots + 0 ≤ 7302250; omega⟩ dL_law_645 (fun rv w1 hpo => ?_)
  obtain ⟨rfl, rfl⟩ := hpo
  show zV X cells slots (zwM κ am M ++ zwC κ ad pT q0.2.1 pX pF q0.2.2 pP) [(0, .ref b), (1, .ref (ad 76)), (2, .ref (am 0)), (3, .int i)] [.long q0.1] 648
  refine zr_aload_n (pc := 648) hC 2 rfl rfl dL_law_648 ?_
  refine zr_aload_n (pc := 649) hC 0 rfl rfl dL_law_649 ?_
  refine zr_iload_n (pc := 650) hC 3 rfl rfl dL_law_650 ?_
  refine zr_iconst (pc := 651) hC zki_1 dL_law_651 ?_
  refine zr_iadd (pc := 652) hC dL_law_652 ?_
  refine zr_sld (pc := 653) hC hB hin1 dL_law_653 ?_
  refine zr_swap ?_
  obtain ⟨q1, hq1, h⟩ := zbd h
  refine zr_lV (pc := 654) hC hEk [.int (xs (i + (1 : Int32)).toNatClampNeg)] [.long q0.1] 0 1 (fun l D => tX12_nobody hEk hq1 l D) gL_X12_nobody rfl rfl rfl ⟨Nat.le_of_ble_eq_true rfl, Nat.le_of_ble_eq_true rfl⟩ hyX12_nobody (by decide) entM_0 rfl rfl rfl (Nat.le_of_ble_eq_true rfl) ⟨by show cells + 0 ≤ 600000; omega, by show slots + 0 ≤ 7302250; omega⟩ dL_law_654 (fun rv w1 hpo => ?_)
  obtain ⟨rfl, rfl⟩ := hpo
  show zV X cells slots (zwC κ ad pT q0.2.1 pX pF q0.2.2 pP ++ zwM κ am q1.2) [(0, .ref b), (1, .ref (ad 76)), (2, .ref (am 0)), (3, .int i)] [.long q1.1, .long q0.1] 657
  refine zr_swap ?_
  refine zr_lcmp (pc := 657) hC dL_law_657 ?_
  refine zr_if_eq (pc := 658) (tgt := 1182) hC dL_law_658 (by decide) (fun c => ?_) (fun c => ?_)
  · replace h := zip h c
    obtain rfl := Option.some.inj h
    exact kk ad cells slots (by omega) (by omega)
  · replace h := zin h c
    cases h
def xL_15 (pT : zM) (pR : zM) (pX : zM) (pF : zM) (pB : zM) (pP : zP) (M : zM) (a1 a2 a3 : Int32) : Option zSt :=
  (xX11_dull pT pR pB pP a1).bind fun q0 =>
  (xX12_dull M a1).bind fun q1 =>
  if (lg_cmp q0.1 q1.1) = 0 then some (pT, q0.2.1, pX, pF, q0.2.2, pP, q1.2) else none
set_option maxHeartbeats 4000000 in
theorem tL_15 {X : zX} {κ : Nat → ClassId} {tg : Nat} {adK adV ad am : Nat → Nat} {b L : Nat} {xs : Nat → Int32} {i : Int32} {cells slots : Nat} {pT pR pX pF pB M : zM} {pP : zP} {S9 : zSt} (hC : zC X code RL lw_tbl vwCl (zty κ) (zE tg (zS adK adV)) 4 room_1) (hEk : zEk (zE tg (zS adK adV))) (hB : zB X b L xs) (hin1 : vp_in (i + (1 : Int32)) L) (hin2 : vp_in (i + (2 : Int32)) L) (hin3 : vp_in (i + (3 : Int32)) L) (hc1 : cells + 64 ≤ 600000) (hc2 : slots + 256 ≤ 7302250) (h : xL_15 pT pR pX pF pB pP M (xs (i + (1 : Int32)).toNatClampNeg) (xs (i + (2 : Int32)).toNatClampNeg) (xs (i + (3 : Int32)).toNatClampNeg) = some S9) (kk : ∀ (ad2 : Nat → Nat) (c2 s2 : Nat), c2 ≤ cells + 64 → s2 ≤ slots + 256 → zV X c2 s2 (zwM κ am S9.2.2.2.2.2.2 ++ zwC κ ad2 S9.1 S9.2.1 S9.2.2.1 S9.2.2.2.1 S9.2.2.2.2.1 S9.2.2.2.2.2.1) [(0, .ref b), (1, .ref (ad2 76)), (2, .ref (am 0)), (3, .int i)] [] 1182) : zV X cells slots (zwM κ am M ++ zwC κ ad pT pR pX pF pB pP) [(0, .ref b), (1, .ref (ad 76)), (2, .ref (am 0)), (3, .int i)] [] 663 := by
  unfold xL_15 at h
  refine zr_aload_n (pc := 663) hC 1 rfl rfl dL_law_663 ?_
  refine zr_aload_n (pc := 664) hC 0 rfl rfl dL_law_664 ?_
  refine zr_iload_n (pc := 665) hC 3 rfl rfl dL_law_665 ?_
  refine zr_iconst (pc := 666) hC zki_1 dL_law_666 ?_
  refine zr_iadd (pc := 667) hC dL_law_667 ?_
  refine zr_sld (pc := 668) hC hB hin1 dL_law_668 ?_
  obtain ⟨q0, hq0, h⟩ := zbd h
  refine zr_lV (pc := 669) hC hEk [.int (xs (i + (1 : Int32)).toNatClampNeg)] [] 76 1 (fun l D => tX11_dull hEk hq0 l D) gL_X11_dull rfl rfl rfl ⟨Nat.le_of_ble_eq_true rfl, Nat.le_of_ble_eq_true rfl⟩ hyX11_dull (zNC (by decide)) entC_76 rfl rfl rfl (Nat.le_of_ble_eq_true rfl) ⟨by show cells + 0 ≤ 600000; omega, by show slots + 0 ≤ 7302250; omega⟩ dL_law_669 (fun rv w1 hpo => ?_)
  obtain ⟨rfl, rfl⟩ := hpo
  show zV X cells slots (zwM κ am M ++ zwC κ ad pT q0.2.1 pX pF q0.2.2 pP) [(0, .ref b), (1, .ref (ad 76)), (2, .ref (am 0)), (3, .int i)] [.long q0.1] 672
  refine zr_aload_n (pc := 672) hC 2 rfl rfl dL_law_672 ?_
  refine zr_aload_n (pc := 673) hC 0 rfl rfl dL_law_673 ?_
  refine zr_iload_n (pc := 674) hC 3 rfl rfl dL_law_674 ?_
  refine zr_iconst (pc := 675) hC zki_1 dL_law_675 ?_
  refine zr_iadd (pc := 676) hC dL_law_676 ?_
  refine zr_sld (pc := 677) hC hB hin1 dL_law_677 ?_
  refine zr_swap ?_
  obtain ⟨q1, hq1, h⟩ := zbd h
  refine zr_lV (pc := 678) hC hEk [.int (xs (i + (1 : Int32)).toNatClampNeg)] [.long q0.1] 0 1 (fun l D => tX12_dull hEk hq1 l D) gL_X12_dull rfl rfl rfl ⟨Nat.le_of_ble_eq_true rfl, Nat.le_of_ble_eq_true rfl⟩ hyX12_dull (by decide) entM_0 rfl rfl rfl (Nat.le_of_ble_eq_true rfl) ⟨by show cells + 0 ≤ 600000; omega, by show slots + 0 ≤ 7302250; omega⟩ dL_law_678 (fun rv w1 hpo => ?_)
  obtain ⟨rfl, rfl⟩ := hpo
  show zV X cells slots (zwC κ ad pT q0.2.1 pX pF q0.2.2 pP ++ zwM κ am q1.2) [(0, .ref b), (1, .ref (ad 76)), (2, .ref (am 0)), (3, .int i)] [.long q1.1, .long q0.1] 681
  refine zr_swap ?_
  refine zr_lcmp (pc := 681) hC dL_law_681 ?_
  refine zr_if_eq (pc := 682) (tgt := 1182) hC dL_law_682 (by decide) (fun c => ?_) (fun c => ?_)
  · replace h := zip h c
    obtain rfl := Option.some.inj h
    exact kk ad cells slots (by omega) (by omega)
  · replace h := zin h c
    cases h
def xL_16 (pT : zM) (pR : zM) (pX : zM) (pF : zM) (pB : zM) (pP : zP) (M : zM) (a1 a2 a3 : Int32) : Option zSt :=
  (xX11_value pT pR pB pP a1 a2 a3).bind fun q0 =>
  (xX12_value M a1 a2 a3).bind fun q1 =>
  if (lg_cmp q0.1 q1.1) = 0 then some (pT, q0.2.1, pX, pF, q0.2.2, pP, q1.2) else none
set_option maxHeartbeats 4000000 in
theorem tL_16 {X : zX} {κ : Nat → ClassId} {tg : Nat} {adK adV ad am : Nat → Nat} {b L : Nat} {xs : Nat → Int32} {i : Int32} {cells slots : Nat} {pT pR pX pF pB M : zM} {pP : zP} {S9 : zSt} (hC : zC X code RL lw_tbl vwCl (zty κ) (zE tg (zS adK adV)) 4 room_1) (hEk : zEk (zE tg (zS adK adV))) (hB : zB X b L xs) (hin1 : vp_in (i + (1 : Int32)) L) (hin2 : vp_in (i + (2 : Int32)) L) (hin3 : vp_in (i + (3 : Int32)) L) (hc1 : cells + 64 ≤ 600000) (hc2 : slots + 256 ≤ 7302250) (h : xL_16 pT pR pX pF pB pP M (xs (i + (1 : Int32)).toNatClampNeg) (xs (i + (2 : Int32)).toNatClampNeg) (xs (i + (3 : Int32)).toNatClampNeg) = some S9) (kk : ∀ (ad2 : Nat → Nat) (c2 s2 : Nat), c2 ≤ cells + 64 → s2 ≤ slots + 256 → zV X c2 s2 (zwM κ am S9.2.2.2.2.2.2 ++ zwC κ ad2 S9.1 S9.2.1 S9.2.2.1 S9.2.2.2.1 S9.2.2.2.2.1 S9.2.2.2.2.2.1) [(0, .ref b), (1, .ref (ad2 76)), (2, .ref (am 0)), (3, .int i)] [] 1182) : zV X cells slots (zwM κ am M ++ zwC κ ad pT pR pX pF pB pP) [(0, .ref b), (1, .ref (ad 76)), (2, .ref (am 0)), (3, .int i)] [] 687 := by
  unfold xL_16 at h
  refine zr_aload_n (pc := 687) hC 1 rfl rfl dL_law_687 ?_
  refine zr_aload_n (pc := 688) hC 0 rfl rfl dL_law_688 ?_
  refine zr_iload_n (pc := 689) hC 3 rfl rfl dL_law_689 ?_
  refine zr_iconst (pc := 690) hC zki_1 dL_law_690 ?_
  refine zr_iadd (pc := 691) hC dL_law_691 ?_
  refine zr_sld (pc := 692) hC hB hin1 dL_law_692 ?_
  refine zr_aload_n (pc := 693) hC 0 rfl rfl dL_law_693 ?_
  refine zr_iload_n (pc := 694) hC 3 rfl rfl dL_law_694 ?_
  refine zr_iconst (pc := 695) hC zki_2 dL_law_695 ?_
  refine zr_iadd (pc := 696) hC dL_law_696 ?_
  refine zr_sld (pc := 697) hC hB hin2 dL_law_697 ?_
  refine zr_aload_n (pc := 698) hC 0 rfl rfl dL_law_698 ?_
  refine zr_iload_n (pc := 699) hC 3 rfl rfl dL_law_699 ?_
  refine zr_iconst (pc := 700) hC zki_3 dL_law_700 ?_
  refine zr_iadd (pc := 701) hC dL_law_701 ?_
  refine zr_sld (pc := 702) hC hB hin3 dL_law_702 ?_
  obtain ⟨q0, hq0, h⟩ := zbd h
  refine zr_lV (pc := 703) hC hEk [.int (xs (i + (1 : Int32)).toNatClampNeg), .int (xs (i + (2 : Int32)).toNatClampNeg), .int (xs (i + (3 : Int32)).toNatClampNeg)] [] 76 3 (fun l D => tX11_value hEk hq0 l D) gL_X11_value rfl rfl rfl ⟨Nat.le_of_ble_eq_true rfl, Nat.le_of_ble_eq_true rfl⟩ hyX11_value (zNC (by decide)) entC_76 rfl rfl rfl (Nat.le_of_ble_eq_true rfl) ⟨by show cells + 0 ≤ 600000; omega, by show slots + 0 ≤ 7302250; omega⟩ dL_law_703 (fun rv w1 hpo => ?_)
  obtain ⟨rfl, rfl⟩ := hpo
  show zV X cells slots (zwM κ am M ++ zwC κ ad pT q0.2.1 pX pF q0.2.2 pP) [(0, .ref b), (1, .ref (ad 76)), (2, .ref (am 0)), (3, .int i)] [.long q0.1] 706
  refine zr_aload_n (pc := 706) hC 2 rfl rfl dL_law_706 ?_
  refine zr_aload_n (pc := 707) hC 0 rfl rfl dL_law_707 ?_
  refine zr_iload_n (pc := 708) hC 3 rfl rfl dL_law_708 ?_
  refine zr_iconst (pc := 709) hC zki_1 dL_law_709 ?_
  refine zr_iadd (pc := 710) hC dL_law_710 ?_
  refine zr_sld (pc := 711) hC hB hin1 dL_law_711 ?_
  refine zr_aload_n (pc := 712) hC 0 rfl rfl dL_law_712 ?_
  refine zr_iload_n (pc := 713) hC 3 rfl rfl dL_law_713 ?_
  refine zr_iconst (pc := 714) hC zki_2 dL_law_714 ?_
  refine zr_iadd (pc := 715) hC dL_law_715 ?_
  refine zr_sld (pc := 716) hC hB hin2 dL_law_716 ?_
  refine zr_aload_n (pc := 717) hC 0 rfl rfl dL_law_717 ?_
  refine zr_iload_n (pc := 718) hC 3 rfl rfl dL_law_718 ?_
  refine zr_iconst (pc := 719) hC zki_3 dL_law_719 ?_
  refine zr_iadd (pc := 720) hC dL_law_720 ?_
  refine zr_sld (pc := 721) hC hB hin3 dL_law_721 ?_
  refine zr_swap ?_
  obtain ⟨q1, hq1, h⟩ := zbd h
  refine zr_lV (pc := 722) hC hEk [.int (xs (i + (1 : Int32)).toNatClampNeg), .int (xs (i + (2 : Int32)).toNatClampNeg), .int (xs (i + (3 : Int32)).toNatClampNeg)] [.long q0.1] 0 3 (fun l D => tX12_value hEk hq1 l D) gL_X12_value rfl rfl rfl ⟨Nat.le_of_ble_eq_true rfl, Nat.le_of_ble_eq_true rfl⟩ hyX12_value (by decide) entM_0 rfl rfl rfl (Nat.le_of_ble_eq_true rfl) ⟨by show cells + 0 ≤ 600000; omega, by show slots + 0 ≤ 7302250; omega⟩ dL_law_722 (fun rv w1 hpo => ?_)
  obtain ⟨rfl, rfl⟩ := hpo
  show zV X cells slots (zwC κ ad pT q0.2.1 pX pF q0.2.2 pP ++ zwM κ am q1.2) [(0, .ref b), (1, .ref (ad 76)), (2, .ref (am 0)), (3, .int i)] [.long q1.1, .long q0.1] 725
  refine zr_swap ?_
  refine zr_lcmp (pc := 725) hC dL_law_725 ?_
  refine zr_if_eq (pc := 726) (tgt := 1182) hC dL_law_726 (by decide) (fun c => ?_) (fun c => ?_)
  · replace h := zip h c
    obtain rfl := Option.some.inj h
    exact kk ad cells slots (by omega) (by omega)
  · replace h := zin h c
    cases h
def xL_17 (pT : zM) (pR : zM) (pX : zM) (pF : zM) (pB : zM) (pP : zP) (M : zM) (a1 a2 a3 : Int32) : Option zSt :=
  (xX11_alone pT pR pB pP a1).bind fun q0 =>
  (xX12_alone M a1).bind fun q1 =>
  if q0.1 = q1.1 then some (pT, q0.2.1, pX, pF, q0.2.2, pP, q1.2) else none
set_option maxHeartbeats 4000000 in
theorem tL_17 {X : zX} {κ : Nat → ClassId} {tg : Nat} {adK adV ad am : Nat → Nat} {b L : Nat} {xs : Nat → Int32} {i : Int32} {cells slots : Nat} {pT pR pX pF pB M : zM} {pP : zP} {S9 : zSt} (hC : zC X code RL lw_tbl vwCl (zty κ) (zE tg (zS adK adV)) 4 room_1) (hEk : zEk (zE tg (zS adK adV))) (hB : zB X b L xs) (hin1 : vp_in (i + (1 : Int32)) L) (hin2 : vp_in (i + (2 : Int32)) L) (hin3 : vp_in (i + (3 : Int32)) L) (hc1 : cells + 64 ≤ 600000) (hc2 : slots + 256 ≤ 7302250) (h : xL_17 pT pR pX pF pB pP M (xs (i + (1 : Int32)).toNatClampNeg) (xs (i + (2 : Int32)).toNatClampNeg) (xs (i + (3 : Int32)).toNatClampNeg) = some S9) (kk : ∀ (ad2 : Nat → Nat) (c2 s2 : Nat), c2 ≤ cells + 64 → s2 ≤ slots + 256 → zV X c2 s2 (zwM κ am S9.2.2.2.2.2.2 ++ zwC κ ad2 S9.1 S9.2.1 S9.2.2.1 S9.2.2.2.1 S9.2.2.2.2.1 S9.2.2.2.2.2.1) [(0, .ref b), (1, .ref (ad2 76)), (2, .ref (am 0)), (3, .int i)] [] 1182) : zV X cells slots (zwM κ am M ++ zwC κ ad pT pR pX pF pB pP) [(0, .ref b), (1, .ref (ad 76)), (2, .ref (am 0)), (3, .int i)] [] 731 := by
  unfold xL_17 at h
  refine zr_aload_n (pc := 731) hC 1 rfl rfl dL_law_731 ?_
  refine zr_aload_n (pc := 732) hC 0 rfl rfl dL_law_732 ?_
  refine zr_iload_n (pc := 733) hC 3 rfl rfl dL_law_733 ?_
  refine zr_iconst (pc := 734) hC zki_1 dL_law_734 ?_
  refine zr_iadd (pc := 735) hC dL_law_735 ?_
  refine zr_sld (pc := 736) hC hB hin1 dL_law_736 ?_
  obtain ⟨q0, hq0, h⟩ := zbd h
  refine zr_lV (pc := 737) hC hEk [.int (xs (i + (1 : Int32)).toNatClampNeg)] [] 76 1 (fun l D => tX11_alone hEk hq0 l D) gL_X11_alone rfl rfl rfl ⟨Nat.le_of_ble_eq_true rfl, Nat.le_of_ble_eq_true rfl⟩ hyX11_alone (zNC (by decide)) entC_76 rfl rfl rfl (Nat.le_of_ble_eq_true rfl) ⟨by show cells + 0 ≤ 600000; omega, by show slots + 0 ≤ 7302250; omega⟩ dL_law_737 (fun rv w1 hpo => ?_)
  obtain ⟨rfl, rfl⟩ := hpo
  show zV X cells slots (zwM κ am M ++ zwC κ ad pT q0.2.1 pX pF q0.2.2 pP) [(0, .ref b), (1, .ref (ad 76)), (2, .ref (am 0)), (3, .int i)] [.int q0.1] 740
  refine zr_aload_n (pc := 740) hC 2 rfl rfl dL_law_740 ?_
  refine zr_aload_n (pc := 741) hC 0 rfl rfl dL_law_741 ?_
  refine zr_iload_n (pc := 742) hC 3 rfl rfl dL_law_742 ?_
  refine zr_iconst (pc := 743) hC zki_1 dL_law_743 ?_
  refine zr_iadd (pc := 744) hC dL_law_744 ?_
  refine zr_sld (pc := 745) hC hB hin1 dL_law_745 ?_
  refine zr_swap ?_
  obtain ⟨q1, hq1, h⟩ := zbd h
  refine zr_lV (pc := 746) hC hEk [.int (xs (i + (1 : Int32)).toNatClampNeg)] [.int q0.1] 0 1 (fun l D => tX12_alone hEk hq1 l D) gL_X12_alone rfl rfl rfl ⟨Nat.le_of_ble_eq_true rfl, Nat.le_of_ble_eq_true rfl⟩ hyX12_alone (by decide) entM_0 rfl rfl rfl (Nat.le_of_ble_eq_true rfl) ⟨by show cells + 0 ≤ 600000; omega, by show slots + 0 ≤ 7302250; omega⟩ dL_law_746 (fun rv w1 hpo => ?_)
  obtain ⟨rfl, rfl⟩ := hpo
  show zV X cells slots (zwC κ ad pT q0.2.1 pX pF q0.2.2 pP ++ zwM κ am q1.2) [(0, .ref b), (1, .ref (ad 76)), (2, .ref (am 0)), (3, .int i)] [.int q1.1, .int q0.1] 749
  refine zr_swap ?_
  refine zr_icmp_eq (pc := 749) (tgt := 1182) hC dL_law_749 (by decide) (fun c => ?_) (fun c => ?_)
  · replace h := zip h c
    obtain rfl := Option.some.inj h
    exact kk ad cells slots (by omega) (by omega)
  · replace h := zin h c
    cases h
def xL_18 (pT : zM) (pR : zM) (pX : zM) (pF : zM) (pB : zM) (pP : zP) (M : zM) (a1 a2 a3 : Int32) : Option zSt :=
  (xX11_reply pT pR pB pP a1 a2).bind fun q0 =>
  (xX12_reply M a1 a2).bind fun q1 =>
  if q0.1 = q1.1 then some (pT, q0.2.1, pX, pF, q0.2.2, pP, q1.2) else none
set_option maxHeartbeats 4000000 in
theorem tL_18 {X : zX} {κ : Nat → ClassId} {tg : Nat} {adK adV ad am : Nat → Nat} {b L : Nat} {xs : Nat → Int32} {i : Int32} {cells slots : Nat} {pT pR pX pF pB M : zM} {pP : zP} {S9 : zSt} (hC : zC X code RL lw_tbl vwCl (zty κ) (zE tg (zS adK adV)) 4 room_1) (hEk : zEk (zE tg (zS adK adV))) (hB : zB X b L xs) (hin1 : vp_in (i + (1 : Int32)) L) (hin2 : vp_in (i + (2 : Int32)) L) (hin3 : vp_in (i + (3 : Int32)) L) (hc1 : cells + 64 ≤ 600000) (hc2 : slots + 256 ≤ 7302250) (h : xL_18 pT pR pX pF pB pP M (xs (i + (1 : Int32)).toNatClampNeg) (xs (i + (2 : Int32)).toNatClampNeg) (xs (i + (3 : Int32)).toNatClampNeg) = some S9) (kk : ∀ (ad2 : Nat → Nat) (c2 s2 : Nat), c2 ≤ cells + 64 → s2 ≤ slots + 256 → zV X c2 s2 (zwM κ am S9.2.2.2.2.2.2 ++ zwC κ ad2 S9.1 S9.2.1 S9.2.2.1 S9.2.2.2.1 S9.2.2.2.2.1 S9.2.2.2.2.2.1) [(0, .ref b), (1, .ref (ad2 76)), (2, .ref (am 0)), (3, .int i)] [] 1182) : zV X cells slots (zwM κ am M ++ zwC κ ad pT pR pX pF pB pP) [(0, .ref b), (1, .ref (ad 76)), (2, .ref (am 0)), (3, .int i)] [] 754 := by
  unfold xL_18 at h
  refine zr_aload_n (pc := 754) hC 1 rfl rfl dL_law_754 ?_
  refine zr_aload_n (pc := 755) hC 0 rfl rfl dL_law_755 ?_
  refine zr_iload_n (pc := 756) hC 3 rfl rfl dL_law_756 ?_
  refine zr_iconst (pc := 757) hC zki_1 dL_law_757 ?_
  refine zr_iadd (pc := 758) hC dL_law_758 ?_
  refine zr_sld (pc := 759) hC hB hin1 dL_law_759 ?_
  refine zr_aload_n (pc := 760) hC 0 rfl rfl dL_law_760 ?_
  refine zr_iload_n (pc := 761) hC 3 rfl rfl dL_law_761 ?_
  refine zr_iconst (pc := 762) hC zki_2 dL_law_762 ?_
  refine zr_iadd (pc := 763) hC dL_law_763 ?_
  refine zr_sld (pc := 764) hC hB hin2 dL_law_764 ?_
  obtain ⟨q0, hq0, h⟩ := zbd h
  refine zr_lV (pc := 765) hC hEk [.int (xs (i + (1 : Int32)).toNatClampNeg), .int (xs (i + (2 : Int32)).toNatClampNeg)] [] 76 2 (fun l D => tX11_reply hEk hq0 l D) gL_X11_reply rfl rfl rfl ⟨Nat.le_of_ble_eq_true rfl, Nat.le_of_ble_eq_true rfl⟩ hyX11_reply (zNC (by decide)) entC_76 rfl rfl rfl (Nat.le_of_ble_eq_true rfl) ⟨by show cells + 0 ≤ 600000; omega, by show slots + 0 ≤ 7302250; omega⟩ dL_law_765 (fun rv w1 hpo => ?_)
  obtain ⟨rfl, rfl⟩ := hpo
  show zV X cells slots (zwM κ am M ++ zwC κ ad pT q0.2.1 pX pF q0.2.2 pP) [(0, .ref b), (1, .ref (ad 76)), (2, .ref (am 0)), (3, .int i)] [.int q0.1] 768
  refine zr_aload_n (pc := 768) hC 2 rfl rfl dL_law_768 ?_
  refine zr_aload_n (pc := 769) hC 0 rfl rfl dL_law_769 ?_
  refine zr_iload_n (pc := 770) hC 3 rfl rfl dL_law_770 ?_
  refine zr_iconst (pc := 771) hC zki_1 dL_law_771 ?_
  refine zr_iadd (pc := 772) hC dL_law_772 ?_
  refine zr_sld (pc := 773) hC hB hin1 dL_law_773 ?_
  refine zr_aload_n (pc := 774) hC 0 rfl rfl dL_law_774 ?_
  refine zr_iload_n (pc := 775) hC 3 rfl rfl dL_law_775 ?_
  refine zr_iconst (pc := 776) hC zki_2 dL_law_776 ?_
  refine zr_iadd (pc := 777) hC dL_law_777 ?_
  refine zr_sld (pc := 778) hC hB hin2 dL_law_778 ?_
  refine zr_swap ?_
  obtain ⟨q1, hq1, h⟩ := zbd h
  refine zr_lV (pc := 779) hC hEk [.int (xs (i + (1 : Int32)).toNatClampNeg), .int (xs (i + (2 : Int32)).toNatClampNeg)] [.int q0.1] 0 2 (fun l D => tX12_reply hEk hq1 l D) gL_X12_reply rfl rfl rfl ⟨Nat.le_of_ble_eq_true rfl, Nat.le_of_ble_eq_true rfl⟩ hyX12_reply (by decide) entM_0 rfl rfl rfl (Nat.le_of_ble_eq_true rfl) ⟨by show cells + 0 ≤ 600000; omega, by show slots + 0 ≤ 7302250; omega⟩ dL_law_779 (fun rv w1 hpo => ?_)
  obtain ⟨rfl, rfl⟩ := hpo
  show zV X cells slots (zwC κ ad pT q0.2.1 pX pF q0.2.2 pP ++ zwM κ am q1.2) [(0, .ref b), (1, .ref (ad 76)), (2, .ref (am 0)), (3, .int i)] [.int q1.1, .int q0.1] 782
  refine zr_swap ?_
  refine zr_icmp_eq (pc := 782) (tgt := 1182) hC dL_law_782 (by decide) (fun c => ?_) (fun c => ?_)
  · replace h := zip h c
    obtain rfl := Option.some.inj h
    exact kk ad cells slots (by omega) (by omega)
  · replace h := zin h c
    cases h
def xL_19 (pT : zM) (pR : zM) (pX : zM) (pF : zM) (pB : zM) (pP : zP) (M : zM) (a1 a2 a3 : Int32) : Option zSt :=
  (xX11_rest pT pR pB pP a1 a2).bind fun q0 =>
  (xX12_rest M a1 a2).bind fun q1 =>
  if q0.1 = q1.1 then some (pT, q0.2.1, pX, pF, q0.2.2.1, q0.2.2.2, q1.2) else none
set_option maxHeartbeats 4000000 in
theorem tL_19 {X : zX} {κ : Nat → ClassId} {tg : Nat} {adK adV ad am : Nat → Nat} {b L : Nat} {xs : Nat → Int32} {i : Int32} {cells slots : Nat} {pT pR pX pF pB M : zM} {pP : zP} {S9 : zSt} (hC : zC X code RL lw_tbl vwCl (zty κ) (zE tg (zS adK adV)) 4 room_1) (hEk : zEk (zE tg (zS adK adV))) (hB : zB X b L xs) (hin1 : vp_in (i + (1 : Int32)) L) (hin2 : vp_in (i + (2 : Int32)) L) (hin3 : vp_in (i + (3 : Int32)) L) (hc1 : cells + 64 ≤ 600000) (hc2 : slots + 256 ≤ 7302250) (h : xL_19 pT pR pX pF pB pP M (xs (i + (1 : Int32)).toNatClampNeg) (xs (i + (2 : Int32)).toNatClampNeg) (xs (i + (3 : Int32)).toNatClampNeg) = some S9) (kk : ∀ (ad2 : Nat → Nat) (c2 s2 : Nat), c2 ≤ cells + 64 → s2 ≤ slots + 256 → zV X c2 s2 (zwM κ am S9.2.2.2.2.2.2 ++ zwC κ ad2 S9.1 S9.2.1 S9.2.2.1 S9.2.2.2.1 S9.2.2.2.2.1 S9.2.2.2.2.2.1) [(0, .ref b), (1, .ref (ad2 76)), (2, .ref (am 0)), (3, .int i)] [] 1182) : zV X cells slots (zwM κ am M ++ zwC κ ad pT pR pX pF pB pP) [(0, .ref b), (1, .ref (ad 76)), (2, .ref (am 0)), (3, .int i)] [] 787 := by
  unfold xL_19 at h
  refine zr_aload_n (pc := 787) hC 1 rfl rfl dL_law_787 ?_
  refine zr_aload_n (pc := 788) hC 0 rfl rfl dL_law_788 ?_
  refine zr_iload_n (pc := 789) hC 3 rfl rfl dL_law_789 ?_
  refine zr_iconst (pc := 790) hC zki_1 dL_law_790 ?_
  refine zr_iadd (pc := 791) hC dL_law_791 ?_
  refine zr_sld (pc := 792) hC hB hin1 dL_law_792 ?_
  refine zr_aload_n (pc := 793) hC 0 rfl rfl dL_law_793 ?_
  refine zr_iload_n (pc := 794) hC 3 rfl rfl dL_law_794 ?_
  refine zr_iconst (pc := 795) hC zki_2 dL_law_795 ?_
  refine zr_iadd (pc := 796) hC dL_law_796 ?_
  refine zr_sld (pc := 797) hC hB hin2 dL_law_797 ?_
  obtain ⟨q0, hq0, h⟩ := zbd h
  refine zr_lV (pc := 798) hC hEk [.int (xs (i + (1 : Int32)).toNatClampNeg), .int (xs (i + (2 : Int32)).toNatClampNeg)] [] 76 2 (fun l D => tX11_rest hEk hq0 l D) gL_X11_rest rfl rfl rfl ⟨Nat.le_of_ble_eq_true rfl, Nat.le_of_ble_eq_true rfl⟩ hyX11_rest (zNC (by decide)) entC_76 rfl rfl rfl (Nat.le_of_ble_eq_true rfl) ⟨by show cells + 0 ≤ 600000; omega, by show slots + 0 ≤ 7302250; omega⟩ dL_law_798 (fun rv w1 hpo => ?_)
  obtain ⟨rfl, rfl⟩ := hpo
  show zV X cells slots (zwM κ am M ++ zwC κ ad pT q0.2.1 pX pF q0.2.2.1 q0.2.2.2) [(0, .ref b), (1, .ref (ad 76)), (2, .ref (am 0)), (3, .int i)] [.int q0.1] 801
  refine zr_aload_n (pc := 801) hC 2 rfl rfl dL_law_801 ?_
  refine zr_aload_n (pc := 802) hC 0 rfl rfl dL_law_802 ?_
  refine zr_iload_n (pc := 803) hC 3 rfl rfl dL_law_803 ?_
  refine zr_iconst (pc := 804) hC zki_1 dL_law_804 ?_
  refine zr_iadd (pc := 805) hC dL_law_805 ?_
  refine zr_sld (pc := 806) hC hB hin1 dL_law_806 ?_
  refine zr_aload_n (pc := 807) hC 0 rfl rfl dL_law_807 ?_
  refine zr_iload_n (pc := 808) hC 3 rfl rfl dL_law_808 ?_
  refine zr_iconst (pc := 809) hC zki_2 dL_law_809 ?_
  refine zr_iadd (pc := 810) hC dL_law_810 ?_
  refine zr_sld (pc := 811) hC hB hin2 dL_law_811 ?_
  refine zr_swap ?_
  obtain ⟨q1, hq1, h⟩ := zbd h
  refine zr_lV (pc := 812) hC hEk [.int (xs (i + (1 : Int32)).toNatClampNeg), .int (xs (i + (2 : Int32)).toNatClampNeg)] [.int q0.1] 0 2 (fun l D => tX12_rest hEk hq1 l D) gL_X12_rest rfl rfl rfl ⟨Nat.le_of_ble_eq_true rfl, Nat.le_of_ble_eq_true rfl⟩ hyX12_rest (by decide) entM_0 rfl rfl rfl (Nat.le_of_ble_eq_true rfl) ⟨by show cells + 0 ≤ 600000; omega, by show slots + 0 ≤ 7302250; omega⟩ dL_law_812 (fun rv w1 hpo => ?_)
  obtain ⟨rfl, rfl⟩ := hpo
  show zV X cells slots (zwC κ ad pT q0.2.1 pX pF q0.2.2.1 q0.2.2.2 ++ zwM κ am q1.2) [(0, .ref b), (1, .ref (ad 76)), (2, .ref (am 0)), (3, .int i)] [.int q1.1, .int q0.1] 815
  refine zr_swap ?_
  refine zr_icmp_eq (pc := 815) (tgt := 1182) hC dL_law_815 (by decide) (fun c => ?_) (fun c => ?_)
  · replace h := zip h c
    obtain rfl := Option.some.inj h
    exact kk ad cells slots (by omega) (by omega)
  · replace h := zin h c
    cases h
def xL_20 (pT : zM) (pR : zM) (pX : zM) (pF : zM) (pB : zM) (pP : zP) (M : zM) (a1 a2 a3 : Int32) : Option zSt :=
  (xX11_law pT pR pB pP a1).bind fun q0 =>
  (xX12_law M a1).bind fun q1 =>
  if q0.1 = q1.1 then some (pT, q0.2.1, pX, pF, q0.2.2, pP, q1.2) else none
set_option maxHeartbeats 4000000 in
theorem tL_20 {X : zX} {κ : Nat → ClassId} {tg : Nat} {adK adV ad am : Nat → Nat} {b L : Nat} {xs : Nat → Int32} {i : Int32} {cells slots : Nat} {pT pR pX pF pB M : zM} {pP : zP} {S9 : zSt} (hC : zC X code RL lw_tbl vwCl (zty κ) (zE tg (zS adK adV)) 4 room_1) (hEk : zEk (zE tg (zS adK adV))) (hB : zB X b L xs) (hin1 : vp_in (i + (1 : Int32)) L) (hin2 : vp_in (i + (2 : Int32)) L) (hin3 : vp_in (i + (3 : Int32)) L) (hc1 : cells + 64 ≤ 600000) (hc2 : slots + 256 ≤ 7302250) (h : xL_20 pT pR pX pF pB pP M (xs (i + (1 : Int32)).toNatClampNeg) (xs (i + (2 : Int32)).toNatClampNeg) (xs (i + (3 : Int32)).toNatClampNeg) = some S9) (kk : ∀ (ad2 : Nat → Nat) (c2 s2 : Nat), c2 ≤ cells + 64 → s2 ≤ slots + 256 → zV X c2 s2 (zwM κ am S9.2.2.2.2.2.2 ++ zwC κ ad2 S9.1 S9.2.1 S9.2.2.1 S9.2.2.2.1 S9.2.2.2.2.1 S9.2.2.2.2.2.1) [(0, .ref b), (1, .ref (ad2 76)), (2, .ref (am 0)), (3, .int i)] [] 1182) : zV X cells slots (zwM κ am M ++ zwC κ ad pT pR pX pF pB pP) [(0, .ref b), (1, .ref (ad 76)), (2, .ref (am 0)), (3, .int i)] [] 820 := by
  unfold xL_20 at h
  refine zr_aload_n (pc := 820) hC 1 rfl rfl dL_law_820 ?_
  refine zr_aload_n (pc := 821) hC 0 rfl rfl dL_law_821 ?_
  refine zr_iload_n (pc := 822) hC 3 rfl rfl dL_law_822 ?_
  refine zr_iconst (pc := 823) hC zki_1 dL_law_823 ?_
  refine zr_iadd (pc := 824) hC dL_law_824 ?_
  refine zr_sld (pc := 825) hC hB hin1 dL_law_825 ?_
  obtain ⟨q0, hq0, h⟩ := zbd h
  refine zr_lV (pc := 826) hC hEk [.int (xs (i + (1 : Int32)).toNatClampNeg)] [] 76 1 (fun l D => tX11_law hEk hq0 l D) gL_X11_law rfl rfl rfl ⟨Nat.le_of_ble_eq_true rfl, Nat.le_of_ble_eq_true rfl⟩ hyX11_law (zNC (by decide)) entC_76 rfl rfl rfl (Nat.le_of_ble_eq_true rfl) ⟨by show cells + 0 ≤ 600000; omega, by show slots + 0 ≤ 7302250; omega⟩ dL_law_826 (fun rv w1 hpo => ?_)
  obtain ⟨rfl, rfl⟩ := hpo
  show zV X cells slots (zwM κ am M ++ zwC κ ad pT q0.2.1 pX pF q0.2.2 pP) [(0, .ref b), (1, .ref (ad 76)), (2, .ref (am 0)), (3, .int i)] [.int q0.1] 829
  refine zr_aload_n (pc := 829) hC 2 rfl rfl dL_law_829 ?_
  refine zr_aload_n (pc := 830) hC 0 rfl rfl dL_law_830 ?_
  refine zr_iload_n (pc := 831) hC 3 rfl rfl dL_law_831 ?_
  refine zr_iconst (pc := 832) hC zki_1 dL_law_832 ?_
  refine zr_iadd (pc := 833) hC dL_law_833 ?_
  refine zr_sld (pc := 834) hC hB hin1 dL_law_834 ?_
  refine zr_swap ?_
  obtain ⟨q1, hq1, h⟩ := zbd h
  refine zr_lV (pc := 835) hC hEk [.int (xs (i + (1 : Int32)).toNatClampNeg)] [.int q0.1] 0 1 (fun l D => tX12_law hEk hq1 l D) gL_X12_law rfl rfl rfl ⟨Nat.le_of_ble_eq_true rfl, Nat.le_of_ble_eq_true rfl⟩ hyX12_law (by decide) entM_0 rfl rfl rfl (Nat.le_of_ble_eq_true rfl) ⟨by show cells + 0 ≤ 600000; omega, by show slots + 0 ≤ 7302250; omega⟩ dL_law_835 (fun rv w1 hpo => ?_)
  obtain ⟨rfl, rfl⟩ := hpo
  show zV X cells slots (zwC κ ad pT q0.2.1 pX pF q0.2.2 pP ++ zwM κ am q1.2) [(0, .ref b), (1, .ref (ad 76)), (2, .ref (am 0)), (3, .int i)] [.int q1.1, .int q0.1] 838
  refine zr_swap ?_
  refine zr_icmp_eq (pc := 838) (tgt := 1182) hC dL_law_838 (by decide) (fun c => ?_) (fun c => ?_)
  · replace h := zip h c
    obtain rfl := Option.some.inj h
    exact kk ad cells slots (by omega) (by omega)
  · replace h := zin h c
    cases h
def xL_21 (pT : zM) (pR : zM) (pX : zM) (pF : zM) (pB : zM) (pP : zP) (M : zM) (a1 a2 a3 : Int32) : Option zSt :=
  (xX11_mostEarly pT pR pB pP a1).bind fun q0 =>
  (xX12_mostEarly M a1).bind fun q1 =>
  if q0.1 = q1.1 then some (pT, q0.2.1, pX, pF, q0.2.2, pP, q1.2) else none
set_option maxHeartbeats 4000000 in
theorem tL_21 {X : zX} {κ : Nat → ClassId} {tg : Nat} {adK adV ad am : Nat → Nat} {b L : Nat} {xs : Nat → Int32} {i : Int32} {cells slots : Nat} {pT pR pX pF pB M : zM} {pP : zP} {S9 : zSt} (hC : zC X code RL lw_tbl vwCl (zty κ) (zE tg (zS adK adV)) 4 room_1) (hEk : zEk (zE tg (zS adK adV))) (hB : zB X b L xs) (hin1 : vp_in (i + (1 : Int32)) L) (hin2 : vp_in (i + (2 : Int32)) L) (hin3 : vp_in (i + (3 : Int32)) L) (hc1 : cells + 64 ≤ 600000) (hc2 : slots + 256 ≤ 7302250) (h : xL_21 pT pR pX pF pB pP M (xs (i + (1 : Int32)).toNatClampNeg) (xs (i + (2 : Int32)).toNatClampNeg) (xs (i + (3 : Int32)).toNatClampNeg) = some S9) (kk : ∀ (ad2 : Nat → Nat) (c2 s2 : Nat), c2 ≤ cells + 64 → s2 ≤ slots + 256 → zV X c2 s2 (zwM κ am S9.2.2.2.2.2.2 ++ zwC κ ad2 S9.1 S9.2.1 S9.2.2.1 S9.2.2.2.1 S9.2.2.2.2.1 S9.2.2.2.2.2.1) [(0, .ref b), (1, .ref (ad2 76)), (2, .ref (am 0)), (3, .int i)] [] 1182) : zV X cells slots (zwM κ am M ++ zwC κ ad pT pR pX pF pB pP) [(0, .ref b), (1, .ref (ad 76)), (2, .ref (am 0)), (3, .int i)] [] 843 := by
  unfold xL_21 at h
  refine zr_aload_n (pc := 843) hC 1 rfl rfl dL_law_843 ?_
  refine zr_aload_n (pc := 844) hC 0 rfl rfl dL_law_844 ?_
  refine zr_iload_n (pc := 845) hC 3 rfl rfl dL_law_845 ?_
  refine zr_iconst (pc := 846) hC zki_1 dL_law_846 ?_
  refine zr_iadd (pc := 847) hC dL_law_847 ?_
  refine zr_sld (pc := 848) hC hB hin1 dL_law_848 ?_
  obtain ⟨q0, hq0, h⟩ := zbd h
  refine zr_lV (pc := 849) hC hEk [.int (xs (i + (1 : Int32)).toNatClampNeg)] [] 76 1 (fun l D => tX11_mostEarly hEk hq0 l D) gL_X11_mostEarly rfl rfl rfl ⟨Nat.le_of_ble_eq_true rfl, Nat.le_of_ble_eq_true rfl⟩ hyX11_mostEarly (zNC (by decide)) entC_76 rfl rfl rfl (Nat.le_of_ble_eq_true rfl) ⟨by show cells + 0 ≤ 600000; omega, by show slots + 0 ≤ 7302250; omega⟩ dL_law_849 (fun rv w1 hpo => ?_)
  obtain ⟨rfl, rfl⟩ := hpo
  show zV X cells slots (zwM κ am M ++ zwC κ ad pT q0.2.1 pX pF q0.2.2 pP) [(0, .ref b), (1, .ref (ad 76)), (2, .ref (am 0)), (3, .int i)] [.int q0.1] 852
  refine zr_aload_n (pc := 852) hC 2 rfl rfl dL_law_852 ?_
  refine zr_aload_n (pc := 853) hC 0 rfl rfl dL_law_853 ?_
  refine zr_iload_n (pc := 854) hC 3 rfl rfl dL_law_854 ?_
  refine zr_iconst (pc := 855) hC zki_1 dL_law_855 ?_
  refine zr_iadd (pc := 856) hC dL_law_856 ?_
  refine zr_sld (pc := 857) hC hB hin1 dL_law_857 ?_
  refine zr_swap ?_
  obtain ⟨q1, hq1, h⟩ := zbd h
  refine zr_lV (pc := 858) hC hEk [.int (xs (i + (1 : Int32)).toNatClampNeg)] [.int q0.1] 0 1 (fun l D => tX12_mostEarly hEk hq1 l D) gL_X12_mostEarly rfl rfl rfl ⟨Nat.le_of_ble_eq_true rfl, Nat.le_of_ble_eq_true rfl⟩ hyX12_mostEarly (by decide) entM_0 rfl rfl rfl (Nat.le_of_ble_eq_true rfl) ⟨by show cells + 0 ≤ 600000; omega, by show slots + 0 ≤ 7302250; omega⟩ dL_law_858 (fun rv w1 hpo => ?_)
  obtain ⟨rfl, rfl⟩ := hpo
  show zV X cells slots (zwC κ ad pT q0.2.1 pX pF q0.2.2 pP ++ zwM κ am q1.2) [(0, .ref b), (1, .ref (ad 76)), (2, .ref (am 0)), (3, .int i)] [.int q1.1, .int q0.1] 861
  refine zr_swap ?_
  refine zr_icmp_eq (pc := 861) (tgt := 1182) hC dL_law_861 (by decide) (fun c => ?_) (fun c => ?_)
  · replace h := zip h c
    obtain rfl := Option.some.inj h
    exact kk ad cells slots (by omega) (by omega)
  · replace h := zin h c
    cases h
def xL_22 (pT : zM) (pR : zM) (pX : zM) (pF : zM) (pB : zM) (pP : zP) (M : zM) (a1 a2 a3 : Int32) : Option zSt :=
  (xX11_silent pT pR pB pP a1 a2).bind fun q0 =>
  (xX12_silent M a1 a2).bind fun q1 =>
  if q0.1 = q1.1 then some (pT, q0.2.1, pX, pF, q0.2.2, pP, q1.2) else none
set_option maxHeartbeats 4000000 in
theorem tL_22 {X : zX} {κ : Nat → ClassId} {tg : Nat} {adK adV ad am : Nat → Nat} {b L : Nat} {xs : Nat → Int32} {i : Int32} {cells slots : Nat} {pT pR pX pF pB M : zM} {pP : zP} {S9 : zSt} (hC : zC X code RL lw_tbl vwCl (zty κ) (zE tg (zS adK adV)) 4 room_1) (hEk : zEk (zE tg (zS adK adV))) (hB : zB X b L xs) (hin1 : vp_in (i + (1 : Int32)) L) (hin2 : vp_in (i + (2 : Int32)) L) (hin3 : vp_in (i + (3 : Int32)) L) (hc1 : cells + 64 ≤ 600000) (hc2 : slots + 256 ≤ 7302250) (h : xL_22 pT pR pX pF pB pP M (xs (i + (1 : Int32)).toNatClampNeg) (xs (i + (2 : Int32)).toNatClampNeg) (xs (i + (3 : Int32)).toNatClampNeg) = some S9) (kk : ∀ (ad2 : Nat → Nat) (c2 s2 : Nat), c2 ≤ cells + 64 → s2 ≤ slots + 256 → zV X c2 s2 (zwM κ am S9.2.2.2.2.2.2 ++ zwC κ ad2 S9.1 S9.2.1 S9.2.2.1 S9.2.2.2.1 S9.2.2.2.2.1 S9.2.2.2.2.2.1) [(0, .ref b), (1, .ref (ad2 76)), (2, .ref (am 0)), (3, .int i)] [] 1182) : zV X cells slots (zwM κ am M ++ zwC κ ad pT pR pX pF pB pP) [(0, .ref b), (1, .ref (ad 76)), (2, .ref (am 0)), (3, .int i)] [] 866 := by
  unfold xL_22 at h
  refine zr_aload_n (pc := 866) hC 1 rfl rfl dL_law_866 ?_
  refine zr_aload_n (pc := 867) hC 0 rfl rfl dL_law_867 ?_
  refine zr_iload_n (pc := 868) hC 3 rfl rfl dL_law_868 ?_
  refine zr_iconst (pc := 869) hC zki_1 dL_law_869 ?_
  refine zr_iadd (pc := 870) hC dL_law_870 ?_
  refine zr_sld (pc := 871) hC hB hin1 dL_law_871 ?_
  refine zr_aload_n (pc := 872) hC 0 rfl rfl dL_law_872 ?_
  refine zr_iload_n (pc := 873) hC 3 rfl rfl dL_law_873 ?_
  refine zr_iconst (pc := 874) hC zki_2 dL_law_874 ?_
  refine zr_iadd (pc := 875) hC dL_law_875 ?_
  refine zr_sld (pc := 876) hC hB hin2 dL_law_876 ?_
  obtain ⟨q0, hq0, h⟩ := zbd h
  refine zr_lV (pc := 877) hC hEk [.int (xs (i + (1 : Int32)).toNatClampNeg), .int (xs (i + (2 : Int32)).toNatClampNeg)] [] 76 2 (fun l D => tX11_silent hEk hq0 l D) gL_X11_silent rfl rfl rfl ⟨Nat.le_of_ble_eq_true rfl, Nat.le_of_ble_eq_true rfl⟩ hyX11_silent (zNC (by decide)) entC_76 rfl rfl rfl (Nat.le_of_ble_eq_true rfl) ⟨by show cells + 0 ≤ 600000; omega, by show slots + 0 ≤ 7302250; omega⟩ dL_law_877 (fun rv w1 hpo => ?_)
  obtain ⟨rfl, rfl⟩ := hpo
  show zV X cells slots (zwM κ am M ++ zwC κ ad pT q0.2.1 pX pF q0.2.2 pP) [(0, .ref b), (1, .ref (ad 76)), (2, .ref (am 0)), (3, .int i)] [.int q0.1] 880
  refine zr_aload_n (pc := 880) hC 2 rfl rfl dL_law_880 ?_
  refine zr_aload_n (pc := 881) hC 0 rfl rfl dL_law_881 ?_
  refine zr_iload_n (pc := 882) hC 3 rfl rfl dL_law_882 ?_
  refine zr_iconst (pc := 883) hC zki_1 dL_law_883 ?_
  refine zr_iadd (pc := 884) hC dL_law_884 ?_
  refine zr_sld (pc := 885) hC hB hin1 dL_law_885 ?_
  refine zr_aload_n (pc := 886) hC 0 rfl rfl dL_law_886 ?_
  refine zr_iload_n (pc := 887) hC 3 rfl rfl dL_law_887 ?_
  refine zr_iconst (pc := 888) hC zki_2 dL_law_888 ?_
  refine zr_iadd (pc := 889) hC dL_law_889 ?_
  refine zr_sld (pc := 890) hC hB hin2 dL_law_890 ?_
  refine zr_swap ?_
  obtain ⟨q1, hq1, h⟩ := zbd h
  refine zr_lV (pc := 891) hC hEk [.int (xs (i + (1 : Int32)).toNatClampNeg), .int (xs (i + (2 : Int32)).toNatClampNeg)] [.int q0.1] 0 2 (fun l D => tX12_silent hEk hq1 l D) gL_X12_silent rfl rfl rfl ⟨Nat.le_of_ble_eq_true rfl, Nat.le_of_ble_eq_true rfl⟩ hyX12_silent (by decide) entM_0 rfl rfl rfl (Nat.le_of_ble_eq_true rfl) ⟨by show cells + 0 ≤ 600000; omega, by show slots + 0 ≤ 7302250; omega⟩ dL_law_891 (fun rv w1 hpo => ?_)
  obtain ⟨rfl, rfl⟩ := hpo
  show zV X cells slots (zwC κ ad pT q0.2.1 pX pF q0.2.2 pP ++ zwM κ am q1.2) [(0, .ref b), (1, .ref (ad 76)), (2, .ref (am 0)), (3, .int i)] [.int q1.1, .int q0.1] 894
  refine zr_swap ?_
  refine zr_icmp_eq (pc := 894) (tgt := 1182) hC dL_law_894 (by decide) (fun c => ?_) (fun c => ?_)
  · replace h := zip h c
    obtain rfl := Option.some.inj h
    exact kk ad cells slots (by omega) (by omega)
  · replace h := zin h c
    cases h
def xL_23 (pT : zM) (pR : zM) (pX : zM) (pF : zM) (pB : zM) (pP : zP) (M : zM) (a1 a2 a3 : Int32) : Option zSt :=
  (xX11_partners pT pR pB pP a1 a2 a3).bind fun q0 =>
  (xX12_partners M a1 a2 a3).bind fun q1 =>
  if q0.1 = q1.1 then some (pT, pR, pX, pF, q0.2, pP, q1.2) else none
set_option maxHeartbeats 4000000 in
theorem tL_23 {X : zX} {κ : Nat → ClassId} {tg : Nat} {adK adV ad am : Nat → Nat} {b L : Nat} {xs : Nat → Int32} {i : Int32} {cells slots : Nat} {pT pR pX pF pB M : zM} {pP : zP} {S9 : zSt} (hC : zC X code RL lw_tbl vwCl (zty κ) (zE tg (zS adK adV)) 4 room_1) (hEk : zEk (zE tg (zS adK adV))) (hB : zB X b L xs) (hin1 : vp_in (i + (1 : Int32)) L) (hin2 : vp_in (i + (2 : Int32)) L) (hin3 : vp_in (i + (3 : Int32)) L) (hc1 : cells + 64 ≤ 600000) (hc2 : slots + 256 ≤ 7302250) (h : xL_23 pT pR pX pF pB pP M (xs (i + (1 : Int32)).toNatClampNeg) (xs (i + (2 : Int32)).toNatClampNeg) (xs (i + (3 : Int32)).toNatClampNeg) = some S9) (kk : ∀ (ad2 : Nat → Nat) (c2 s2 : Nat), c2 ≤ cells + 64 → s2 ≤ slots + 256 → zV X c2 s2 (zwM κ am S9.2.2.2.2.2.2 ++ zwC κ ad2 S9.1 S9.2.1 S9.2.2.1 S9.2.2.2.1 S9.2.2.2.2.1 S9.2.2.2.2.2.1) [(0, .ref b), (1, .ref (ad2 76)), (2, .ref (am 0)), (3, .int i)] [] 1182) : zV X cells slots (zwM κ am M ++ zwC κ ad pT pR pX pF pB pP) [(0, .ref b), (1, .ref (ad 76)), (2, .ref (am 0)), (3, .int i)] [] 899 := by
  unfold xL_23 at h
  refine zr_aload_n (pc := 899) hC 1 rfl rfl dL_law_899 ?_
  refine zr_aload_n (pc := 900) hC 0 rfl rfl dL_law_900 ?_
  refine zr_iload_n (pc := 901) hC 3 rfl rfl dL_law_901 ?_
  refine zr_iconst (pc := 902) hC zki_1 dL_law_902 ?_
  refine zr_iadd (pc := 903) hC dL_law_903 ?_
  refine zr_sld (pc := 904) hC hB hin1 dL_law_904 ?_
  refine zr_aload_n (pc := 905) hC 0 rfl rfl dL_law_905 ?_
  refine zr_iload_n (pc := 906) hC 3 rfl rfl dL_law_906 ?_
  refine zr_iconst (pc := 907) hC zki_2 dL_law_907 ?_
  refine zr_iadd (pc := 908) hC dL_law_908 ?_
  refine zr_sld (pc := 909) hC hB hin2 dL_law_909 ?_
  refine zr_aload_n (pc := 910) hC 0 rfl rfl dL_law_910 ?_
  refine zr_iload_n (pc := 911) hC 3 rfl rfl dL_law_911 ?_
  refine zr_iconst (pc := 912) hC zki_3 dL_law_912 ?_
  refine zr_iadd (pc := 913) hC dL_law_913 ?_
  refine zr_sld (pc := 914) hC hB hin3 dL_law_914 ?_
  obtain ⟨q0, hq0, h⟩ := zbd h
  refine zr_lV (pc := 915) hC hEk [.int (xs (i + (1 : Int32)).toNatClampNeg), .int (xs (i + (2 : Int32)).toNatClampNeg), .int (xs (i + (3 : Int32)).toNatClampNeg)] [] 76 3 (fun l D => tX11_partners hEk hq0 l D) gL_X11_partners rfl rfl rfl ⟨Nat.le_of_ble_eq_true rfl, Nat.le_of_ble_eq_true rfl⟩ hyX11_partners (zNC (by decide)) entC_76 rfl rfl rfl (Nat.le_of_ble_eq_true rfl) ⟨by show cells + 0 ≤ 600000; omega, by show slots + 0 ≤ 7302250; omega⟩ dL_law_915 (fun rv w1 hpo => ?_)
  obtain ⟨rfl, rfl⟩ := hpo
  show zV X cells slots (zwM κ am M ++ zwC κ ad pT pR pX pF q0.2 pP) [(0, .ref b), (1, .ref (ad 76)), (2, .ref (am 0)), (3, .int i)] [.int q0.1] 918
  refine zr_aload_n (pc := 918) hC 2 rfl rfl dL_law_918 ?_
  refine zr_aload_n (pc := 919) hC 0 rfl rfl dL_law_919 ?_
  refine zr_iload_n (pc := 920) hC 3 rfl rfl dL_law_920 ?_
  refine zr_iconst (pc := 921) hC zki_1 dL_law_921 ?_
  refine zr_iadd (pc := 922) hC dL_law_922 ?_
  refine zr_sld (pc := 923) hC hB hin1 dL_law_923 ?_
  refine zr_aload_n (pc := 924) hC 0 rfl rfl dL_law_924 ?_
  refine zr_iload_n (pc := 925) hC 3 rfl rfl dL_law_925 ?_
  refine zr_iconst (pc := 926) hC zki_2 dL_law_926 ?_
  refine zr_iadd (pc := 927) hC dL_law_927 ?_
  refine zr_sld (pc := 928) hC hB hin2 dL_law_928 ?_
  refine zr_aload_n (pc := 929) hC 0 rfl rfl dL_law_929 ?_
  refine zr_iload_n (pc := 930) hC 3 rfl rfl dL_law_930 ?_
  refine zr_iconst (pc := 931) hC zki_3 dL_law_931 ?_
  refine zr_iadd (pc := 932) hC dL_law_932 ?_
  refine zr_sld (pc := 933) hC hB hin3 dL_law_933 ?_
  refine zr_swap ?_
  obtain ⟨q1, hq1, h⟩ := zbd h
  refine zr_lV (pc := 934) hC hEk [.int (xs (i + (1 : Int32)).toNatClampNeg), .int (xs (i + (2 : Int32)).toNatClampNeg), .int (xs (i + (3 : Int32)).toNatClampNeg)] [.int q0.1] 0 3 (fun l D => tX12_partners hEk hq1 l D) gL_X12_partners rfl rfl rfl ⟨Nat.le_of_ble_eq_true rfl, Nat.le_of_ble_eq_true rfl⟩ hyX12_partners (by decide) entM_0 rfl rfl rfl (Nat.le_of_ble_eq_true rfl) ⟨by show cells + 0 ≤ 600000; omega, by show slots + 0 ≤ 7302250; omega⟩ dL_law_934 (fun rv w1 hpo => ?_)
  obtain ⟨rfl, rfl⟩ := hpo
  show zV X cells slots (zwC κ ad pT pR pX pF q0.2 pP ++ zwM κ am q1.2) [(0, .ref b), (1, .ref (ad 76)), (2, .ref (am 0)), (3, .int i)] [.int q1.1, .int q0.1] 937
  refine zr_swap ?_
  refine zr_icmp_eq (pc := 937) (tgt := 1182) hC dL_law_937 (by decide) (fun c => ?_) (fun c => ?_)
  · replace h := zip h c
    obtain rfl := Option.some.inj h
    exact kk ad cells slots (by omega) (by omega)
  · replace h := zin h c
    cases h
def xL_24 (pT : zM) (pR : zM) (pX : zM) (pF : zM) (pB : zM) (pP : zP) (M : zM) (a1 a2 a3 : Int32) : Option zSt :=
  (xX11_fact pF pB a1).bind fun q0 =>
  (xX12_fact M a1).bind fun q1 =>
  if q0.1 = q1.1 then some (pT, pR, pX, q0.2.1, q0.2.2, pP, q1.2) else none
set_option maxHeartbeats 4000000 in
theorem tL_24 {X : zX} {κ : Nat → ClassId} {tg : Nat} {adK adV ad am : Nat → Nat} {b L : Nat} {xs : Nat → Int32} {i : Int32} {cells slots : Nat} {pT pR pX pF pB M : zM} {pP : zP} {S9 : zSt} (hC : zC X code RL lw_tbl vwCl (zty κ) (zE tg (zS adK adV)) 4 room_1) (hEk : zEk (zE tg (zS adK adV))) (hB : zB X b L xs) (hin1 : vp_in (i + (1 : Int32)) L) (hin2 : vp_in (i + (2 : Int32)) L) (hin3 : vp_in (i + (3 : Int32)) L) (hc1 : cells + 64 ≤ 600000) (hc2 : slots + 256 ≤ 7302250) (h : xL_24 pT pR pX pF pB pP M (xs (i + (1 : Int32)).toNatClampNeg) (xs (i + (2 : Int32)).toNatClampNeg) (xs (i + (3 : Int32)).toNatClampNeg) = some S9) (kk : ∀ (ad2 : Nat → Nat) (c2 s2 : Nat), c2 ≤ cells + 64 → s2 ≤ slots + 256 → zV X c2 s2 (zwM κ am S9.2.2.2.2.2.2 ++ zwC κ ad2 S9.1 S9.2.1 S9.2.2.1 S9.2.2.2.1 S9.2.2.2.2.1 S9.2.2.2.2.2.1) [(0, .ref b), (1, .ref (ad2 76)), (2, .ref (am 0)), (3, .int i)] [] 1182) : zV X cells slots (zwM κ am M ++ zwC κ ad pT pR pX pF pB pP) [(0, .ref b), (1, .ref (ad 76)), (2, .ref (am 0)), (3, .int i)] [] 942 := by
  unfold xL_24 at h
  refine zr_aload_n (pc := 942) hC 1 rfl rfl dL_law_942 ?_
  refine zr_aload_n (pc := 943) hC 0 rfl rfl dL_law_943 ?_
  refine zr_iload_n (pc := 944) hC 3 rfl rfl dL_law_944 ?_
  refine zr_iconst (pc := 945) hC zki_1 dL_law_945 ?_
  refine zr_iadd (pc := 946) hC dL_law_946 ?_
  refine zr_sld (pc := 947) hC hB hin1 dL_law_947 ?_
  obtain ⟨q0, hq0, h⟩ := zbd h
  refine zr_lV (pc := 948) hC hEk [.int (xs (i + (1 : Int32)).toNatClampNeg)] [] 76 1 (fun l D => tX11_fact hEk hq0 l D) gL_X11_fact rfl rfl rfl ⟨Nat.le_of_ble_eq_true rfl, Nat.le_of_ble_eq_true rfl⟩ hyX11_fact (zNC (by decide)) entC_76 rfl rfl rfl (Nat.le_of_ble_eq_true rfl) ⟨by show cells + 0 ≤ 600000; omega, by show slots + 0 ≤ 7302250; omega⟩ dL_law_948 (fun rv w1 hpo => ?_)
  obtain ⟨rfl, rfl⟩ := hpo
  show zV X cells slots (zwM κ am M ++ zwC κ ad pT pR pX q0.2.1 q0.2.2 pP) [(0, .ref b), (1, .ref (ad 76)), (2, .ref (am 0)), (3, .int i)] [.int q0.1] 951
  refine zr_aload_n (pc := 951) hC 2 rfl rfl dL_law_951 ?_
  refine zr_aload_n (pc := 952) hC 0 rfl rfl dL_law_952 ?_
  refine zr_iload_n (pc := 953) hC 3 rfl rfl dL_law_953 ?_
  refine zr_iconst (pc := 954) hC zki_1 dL_law_954 ?_
  refine zr_iadd (pc := 955) hC dL_law_955 ?_
  refine zr_sld (pc := 956) hC hB hin1 dL_law_956 ?_
  refine zr_swap ?_
  obtain ⟨q1, hq1, h⟩ := zbd h
  refine zr_lV (pc := 957) hC hEk [.int (xs (i + (1 : Int32)).toNatClampNeg)] [.int q0.1] 0 1 (fun l D => tX12_fact hEk hq1 l D) gL_X12_fact rfl rfl rfl ⟨Nat.le_of_ble_eq_true rfl, Nat.le_of_ble_eq_true rfl⟩ hyX12_fact (by decide) entM_0 rfl rfl rfl (Nat.le_of_ble_eq_true rfl) ⟨by show cells + 0 ≤ 600000; omega, by show slots + 0 ≤ 7302250; omega⟩ dL_law_957 (fun rv w1 hpo => ?_)
  obtain ⟨rfl, rfl⟩ := hpo
  show zV X cells slots (zwC κ ad pT pR pX q0.2.1 q0.2.2 pP ++ zwM κ am q1.2) [(0, .ref b), (1, .ref (ad 76)), (2, .ref (am 0)), (3, .int i)] [.int q1.1, .int q0.1] 960
  refine zr_swap ?_
  refine zr_icmp_eq (pc := 960) (tgt := 1182) hC dL_law_960 (by decide) (fun c => ?_) (fun c => ?_)
  · replace h := zip h c
    obtain rfl := Option.some.inj h
    exact kk ad cells slots (by omega) (by omega)
  · replace h := zin h c
    cases h
def xL_25 (pT : zM) (pR : zM) (pX : zM) (pF : zM) (pB : zM) (pP : zP) (M : zM) (a1 a2 a3 : Int32) : Option zSt :=
  (xX11_had pF pB a1 a2).bind fun q0 =>
  (xX12_had M a1 a2).bind fun q1 =>
  if q0.1 = q1.1 then some (pT, pR, pX, q0.2.1, q0.2.2, pP, q1.2) else none
set_option maxHeartbeats 4000000 in
theorem tL_25 {X : zX} {κ : Nat → ClassId} {tg : Nat} {adK adV ad am : Nat → Nat} {b L : Nat} {xs : Nat → Int32} {i : Int32} {cells slots : Nat} {pT pR pX pF pB M : zM} {pP : zP} {S9 : zSt} (hC : zC X code RL lw_tbl vwCl (zty κ) (zE tg (zS adK adV)) 4 room_1) (hEk : zEk (zE tg (zS adK adV))) (hB : zB X b L xs) (hin1 : vp_in (i + (1 : Int32)) L) (hin2 : vp_in (i + (2 : Int32)) L) (hin3 : vp_in (i + (3 : Int32)) L) (hc1 : cells + 64 ≤ 600000) (hc2 : slots + 256 ≤ 7302250) (h : xL_25 pT pR pX pF pB pP M (xs (i + (1 : Int32)).toNatClampNeg) (xs (i + (2 : Int32)).toNatClampNeg) (xs (i + (3 : Int32)).toNatClampNeg) = some S9) (kk : ∀ (ad2 : Nat → Nat) (c2 s2 : Nat), c2 ≤ cells + 64 → s2 ≤ slots + 256 → zV X c2 s2 (zwM κ am S9.2.2.2.2.2.2 ++ zwC κ ad2 S9.1 S9.2.1 S9.2.2.1 S9.2.2.2.1 S9.2.2.2.2.1 S9.2.2.2.2.2.1) [(0, .ref b), (1, .ref (ad2 76)), (2, .ref (am 0)), (3, .int i)] [] 1182) : zV X cells slots (zwM κ am M ++ zwC κ ad pT pR pX pF pB pP) [(0, .ref b), (1, .ref (ad 76)), (2, .ref (am 0)), (3, .int i)] [] 965 := by
  unfold xL_25 at h
  refine zr_aload_n (pc := 965) hC 1 rfl rfl dL_law_965 ?_
  refine zr_aload_n (pc := 966) hC 0 rfl rfl dL_law_966 ?_
  refine zr_iload_n (pc := 967) hC 3 rfl rfl dL_law_967 ?_
  refine zr_iconst (pc := 968) hC zki_1 dL_law_968 ?_
  refine zr_iadd (pc := 969) hC dL_law_969 ?_
  refine zr_sld (pc := 970) hC hB hin1 dL_law_970 ?_
  refine zr_aload_n (pc := 971) hC 0 rfl rfl dL_law_971 ?_
  refine zr_iload_n (pc := 972) hC 3 rfl rfl dL_law_972 ?_
  refine zr_iconst (pc := 973) hC zki_2 dL_law_973 ?_
  refine zr_iadd (pc := 974) hC dL_law_974 ?_
  refine zr_sld (pc := 975) hC hB hin2 dL_law_975 ?_
  obtain ⟨q0, hq0, h⟩ := zbd h
  refine zr_lV (pc := 976) hC hEk [.int (xs (i + (1 : Int32)).toNatClampNeg), .int (xs (i + (2 : Int32)).toNatClampNeg)] [] 76 2 (fun l D => tX11_had hEk hq0 l D) gL_X11_had rfl rfl rfl ⟨Nat.le_of_ble_eq_true rfl, Nat.le_of_ble_eq_true rfl⟩ hyX11_had (zNC (by decide)) entC_76 rfl rfl rfl (Nat.le_of_ble_eq_true rfl) ⟨by show cells + 0 ≤ 600000; omega, by show slots + 0 ≤ 7302250; omega⟩ dL_law_976 (fun rv w1 hpo => ?_)
  obtain ⟨rfl, rfl⟩ := hpo
  show zV X cells slots (zwM κ am M ++ zwC κ ad pT pR pX q0.2.1 q0.2.2 pP) [(0, .ref b), (1, .ref (ad 76)), (2, .ref (am 0)), (3, .int i)] [.int q0.1] 979
  refine zr_aload_n (pc := 979) hC 2 rfl rfl dL_law_979 ?_
  refine zr_aload_n (pc := 980) hC 0 rfl rfl dL_law_980 ?_
  refine zr_iload_n (pc := 981) hC 3 rfl rfl dL_law_981 ?_
  refine zr_iconst (pc := 982) hC zki_1 dL_law_982 ?_
  refine zr_iadd (pc := 983) hC dL_law_983 ?_
  refine zr_sld (pc := 984) hC hB hin1 dL_law_984 ?_
  refine zr_aload_n (pc := 985) hC 0 rfl rfl dL_law_985 ?_
  refine zr_iload_n (pc := 986) hC 3 rfl rfl dL_law_986 ?_
  refine zr_iconst (pc := 987) hC zki_2 dL_law_987 ?_
  refine zr_iadd (pc := 988) hC dL_law_988 ?_
  refine zr_sld (pc := 989) hC hB hin2 dL_law_989 ?_
  refine zr_swap ?_
  obtain ⟨q1, hq1, h⟩ := zbd h
  refine zr_lV (pc := 990) hC hEk [.int (xs (i + (1 : Int32)).toNatClampNeg), .int (xs (i + (2 : Int32)).toNatClampNeg)] [.int q0.1] 0 2 (fun l D => tX12_had hEk hq1 l D) gL_X12_had rfl rfl rfl ⟨Nat.le_of_ble_eq_true rfl, Nat.le_of_ble_eq_true rfl⟩ hyX12_had (by decide) entM_0 rfl rfl rfl (Nat.le_of_ble_eq_true rfl) ⟨by show cells + 0 ≤ 600000; omega, by show slots + 0 ≤ 7302250; omega⟩ dL_law_990 (fun rv w1 hpo => ?_)
  obtain ⟨rfl, rfl⟩ := hpo
  show zV X cells slots (zwC κ ad pT pR pX q0.2.1 q0.2.2 pP ++ zwM κ am q1.2) [(0, .ref b), (1, .ref (ad 76)), (2, .ref (am 0)), (3, .int i)] [.int q1.1, .int q0.1] 993
  refine zr_swap ?_
  refine zr_icmp_eq (pc := 993) (tgt := 1182) hC dL_law_993 (by decide) (fun c => ?_) (fun c => ?_)
  · replace h := zip h c
    obtain rfl := Option.some.inj h
    exact kk ad cells slots (by omega) (by omega)
  · replace h := zin h c
    cases h
def xL_26 (pT : zM) (pR : zM) (pX : zM) (pF : zM) (pB : zM) (pP : zP) (M : zM) (a1 a2 a3 : Int32) : Option zSt :=
  (xX11_late pF pB a1).bind fun q0 =>
  (xX12_late M a1).bind fun q1 =>
  if q0.1 = q1.1 then some (pT, pR, pX, q0.2.1, q0.2.2, pP, q1.2) else none
set_option maxHeartbeats 4000000 in
theorem tL_26 {X : zX} {κ : Nat → ClassId} {tg : Nat} {adK adV ad am : Nat → Nat} {b L : Nat} {xs : Nat → Int32} {i : Int32} {cells slots : Nat} {pT pR pX pF pB M : zM} {pP : zP} {S9 : zSt} (hC : zC X code RL lw_tbl vwCl (zty κ) (zE tg (zS adK adV)) 4 room_1) (hEk : zEk (zE tg (zS adK adV))) (hB : zB X b L xs) (hin1 : vp_in (i + (1 : Int32)) L) (hin2 : vp_in (i + (2 : Int32)) L) (hin3 : vp_in (i + (3 : Int32)) L) (hc1 : cells + 64 ≤ 600000) (hc2 : slots + 256 ≤ 7302250) (h : xL_26 pT pR pX pF pB pP M (xs (i + (1 : Int32)).toNatClampNeg) (xs (i + (2 : Int32)).toNatClampNeg) (xs (i + (3 : Int32)).toNatClampNeg) = some S9) (kk : ∀ (ad2 : Nat → Nat) (c2 s2 : Nat), c2 ≤ cells + 64 → s2 ≤ slots + 256 → zV X c2 s2 (zwM κ am S9.2.2.2.2.2.2 ++ zwC κ ad2 S9.1 S9.2.1 S9.2.2.1 S9.2.2.2.1 S9.2.2.2.2.1 S9.2.2.2.2.2.1) [(0, .ref b), (1, .ref (ad2 76)), (2, .ref (am 0)), (3, .int i)] [] 1182) : zV X cells slots (zwM κ am M ++ zwC κ ad pT pR pX pF pB pP) [(0, .ref b), (1, .ref (ad 76)), (2, .ref (am 0)), (3, .int i)] [] 998 := by
  unfold xL_26 at h
  refine zr_aload_n (pc := 998) hC 1 rfl rfl dL_law_998 ?_
  refine zr_aload_n (pc := 999) hC 0 rfl rfl dL_law_999 ?_
  refine zr_iload_n (pc := 1000) hC 3 rfl rfl dL_law_1000 ?_
  refine zr_iconst (pc := 1001) hC zki_1 dL_law_1001 ?_
  refine zr_iadd (pc := 1002) hC dL_law_1002 ?_
  refine zr_sld (pc := 1003) hC hB hin1 dL_law_1003 ?_
  obtain ⟨q0, hq0, h⟩ := zbd h
  refine zr_lV (pc := 1004) hC hEk [.int (xs (i + (1 : Int32)).toNatClampNeg)] [] 76 1 (fun l D => tX11_late hEk hq0 l D) gL_X11_late rfl rfl rfl ⟨Nat.le_of_ble_eq_true rfl, Nat.le_of_ble_eq_true rfl⟩ hyX11_late (zNC (by decide)) entC_76 rfl rfl rfl (Nat.le_of_ble_eq_true rfl) ⟨by show cells + 0 ≤ 600000; omega, by show slots + 0 ≤ 7302250; omega⟩ dL_law_1004 (fun rv w1 hpo => ?_)
  obtain ⟨rfl, rfl⟩ := hpo
  show zV X cells slots (zwM κ am M ++ zwC κ ad pT pR pX q0.2.1 q0.2.2 pP) [(0, .ref b), (1, .ref (ad 76)), (2, .ref (am 0)), (3, .int i)] [.int q0.1] 1007
  refine zr_aload_n (pc := 1007) hC 2 rfl rfl dL_law_1007 ?_
  refine zr_aload_n (pc := 1008) hC 0 rfl rfl dL_law_1008 ?_
  refine zr_iload_n (pc := 1009) hC 3 rfl rfl dL_law_1009 ?_
  refine zr_iconst (pc := 1010) hC zki_1 dL_law_1010 ?_
  refine zr_iadd (pc := 1011) hC dL_law_1011 ?_
  refine zr_sld (pc := 1012) hC hB hin1 dL_law_1012 ?_
  refine zr_swap ?_
  obtain ⟨q1, hq1, h⟩ := zbd h
  refine zr_lV (pc := 1013) hC hEk [.int (xs (i + (1 : Int32)).toNatClampNeg)] [.int q0.1] 0 1 (fun l D => tX12_late hEk hq1 l D) gL_X12_late rfl rfl rfl ⟨Nat.le_of_ble_eq_true rfl, Nat.le_of_ble_eq_true rfl⟩ hyX12_late (by decide) entM_0 rfl rfl rfl (Nat.le_of_ble_eq_true rfl) ⟨by show cells + 0 ≤ 600000; omega, by show slots + 0 ≤ 7302250; omega⟩ dL_law_1013 (fun rv w1 hpo => ?_)
  obtain ⟨rfl, rfl⟩ := hpo
  show zV X cells slots (zwC κ ad pT pR pX q0.2.1 q0.2.2 pP ++ zwM κ am q1.2) [(0, .ref b), (1, .ref (ad 76)), (2, .ref (am 0)), (3, .int i)] [.int q1.1, .int q0.1] 1016
  refine zr_swap ?_
  refine zr_icmp_eq (pc := 1016) (tgt := 1182) hC dL_law_1016 (by decide) (fun c => ?_) (fun c => ?_)
  · replace h := zip h c
    obtain rfl := Option.some.inj h
    exact kk ad cells slots (by omega) (by omega)
  · replace h := zin h c
    cases h
def xL_27 (pT : zM) (pR : zM) (pX : zM) (pF : zM) (pB : zM) (pP : zP) (M : zM) (a1 a2 a3 : Int32) : Option zSt :=
  (xX11_soon pF pB a1).bind fun q0 =>
  (xX12_soon M a1).bind fun q1 =>
  if q0.1 = q1.1 then some (pT, pR, pX, q0.2.1, q0.2.2, pP, q1.2) else none
set_option maxHeartbeats 4000000 in
theorem tL_27 {X : zX} {κ : Nat → ClassId} {tg : Nat} {adK adV ad am : Nat → Nat} {b L : Nat} {xs : Nat → Int32} {i : Int32} {cells slots : Nat} {pT pR pX pF pB M : zM} {pP : zP} {S9 : zSt} (hC : zC X code RL lw_tbl vwCl (zty κ) (zE tg (zS adK adV)) 4 room_1) (hEk : zEk (zE tg (zS adK adV))) (hB : zB X b L xs) (hin1 : vp_in (i + (1 : Int32)) L) (hin2 : vp_in (i + (2 : Int32)) L) (hin3 : vp_in (i + (3 : Int32)) L) (hc1 : cells + 64 ≤ 600000) (hc2 : slots + 256 ≤ 7302250) (h : xL_27 pT pR pX pF pB pP M (xs (i + (1 : Int32)).toNatClampNeg) (xs (i + (2 : Int32)).toNatClampNeg) (xs (i + (3 : Int32)).toNatClampNeg) = some S9) (kk : ∀ (ad2 : Nat → Nat) (c2 s2 : Nat), c2 ≤ cells + 64 → s2 ≤ slots + 256 → zV X c2 s2 (zwM κ am S9.2.2.2.2.2.2 ++ zwC κ ad2 S9.1 S9.2.1 S9.2.2.1 S9.2.2.2.1 S9.2.2.2.2.1 S9.2.2.2.2.2.1) [(0, .ref b), (1, .ref (ad2 76)), (2, .ref (am 0)), (3, .int i)] [] 1182) : zV X cells slots (zwM κ am M ++ zwC κ ad pT pR pX pF pB pP) [(0, .ref b), (1, .ref (ad 76)), (2, .ref (am 0)), (3, .int i)] [] 1021 := by
  unfold xL_27 at h
  refine zr_aload_n (pc := 1021) hC 1 rfl rfl dL_law_1021 ?_
  refine zr_aload_n (pc := 1022) hC 0 rfl rfl dL_law_1022 ?_
  refine zr_iload_n (pc := 1023) hC 3 rfl rfl dL_law_1023 ?_
  refine zr_iconst (pc := 1024) hC zki_1 dL_law_1024 ?_
  refine zr_iadd (pc := 1025) hC dL_law_1025 ?_
  refine zr_sld (pc := 1026) hC hB hin1 dL_law_1026 ?_
  obtain ⟨q0, hq0, h⟩ := zbd h
  refine zr_lV (pc := 1027) hC hEk [.int (xs (i + (1 : Int32)).toNatClampNeg)] [] 76 1 (fun l D => tX11_soon hEk hq0 l D) gL_X11_soon rfl rfl rfl ⟨Nat.le_of_ble_eq_true rfl, Nat.le_of_ble_eq_true rfl⟩ hyX11_soon (zNC (by decide)) entC_76 rfl rfl rfl (Nat.le_of_ble_eq_true rfl) ⟨by show cells + 0 ≤ 600000; omega, by show slots + 0 ≤ 7302250; omega⟩ dL_law_1027 (fun rv w1 hpo => ?_)
  obtain ⟨rfl, rfl⟩ := hpo
  show zV X cells slots (zwM κ am M ++ zwC κ ad pT pR pX q0.2.1 q0.2.2 pP) [(0, .ref b), (1, .ref (ad 76)), (2, .ref (am 0)), (3, .int i)] [.int q0.1] 1030
  refine zr_aload_n (pc := 1030) hC 2 rfl rfl dL_law_1030 ?_
  refine zr_aload_n (pc := 1031) hC 0 rfl rfl dL_law_1031 ?_
  refine zr_iload_n (pc := 1032) hC 3 rfl rfl dL_law_1032 ?_
  refine zr_iconst (pc := 1033) hC zki_1 dL_law_1033 ?_
  refine zr_iadd (pc := 1034) hC dL_law_1034 ?_
  refine zr_sld (pc := 1035) hC hB hin1 dL_law_1035 ?_
  refine zr_swap ?_
  obtain ⟨q1, hq1, h⟩ := zbd h
  refine zr_lV (pc := 1036) hC hEk [.int (xs (i + (1 : Int32)).toNatClampNeg)] [.int q0.1] 0 1 (fun l D => tX12_soon hEk hq1 l D) gL_X12_soon rfl rfl rfl ⟨Nat.le_of_ble_eq_true rfl, Nat.le_of_ble_eq_true rfl⟩ hyX12_soon (by decide) entM_0 rfl rfl rfl (Nat.le_of_ble_eq_true rfl) ⟨by show cells + 0 ≤ 600000; omega, by show slots + 0 ≤ 7302250; omega⟩ dL_law_1036 (fun rv w1 hpo => ?_)
  obtain ⟨rfl, rfl⟩ := hpo
  show zV X cells slots (zwC κ ad pT pR pX q0.2.1 q0.2.2 pP ++ zwM κ am q1.2) [(0, .ref b), (1, .ref (ad 76)), (2, .ref (am 0)), (3, .int i)] [.int q1.1, .int q0.1] 1039
  refine zr_swap ?_
  refine zr_icmp_eq (pc := 1039) (tgt := 1182) hC dL_law_1039 (by decide) (fun c => ?_) (fun c => ?_)
  · replace h := zip h c
    obtain rfl := Option.some.inj h
    exact kk ad cells slots (by omega) (by omega)
  · replace h := zin h c
    cases h
def xL_28 (pT : zM) (pR : zM) (pX : zM) (pF : zM) (pB : zM) (pP : zP) (M : zM) (a1 a2 a3 : Int32) : Option zSt :=
  (xX11_evening pT pR pB pP a1 a2 a3).bind fun q0 =>
  (xX12_evening M a1 a2 a3).bind fun q1 =>
  if q0.1 = q1.1 then some (pT, q0.2.1, pX, pF, q0.2.2, pP, q1.2) else none
set_option maxHeartbeats 4000000 in
theorem tL_28 {X : zX} {κ : Nat → ClassId} {tg : Nat} {adK adV ad am : Nat → Nat} {b L : Nat} {xs : Nat → Int32} {i : Int32} {cells slots : Nat} {pT pR pX pF pB M : zM} {pP : zP} {S9 : zSt} (hC : zC X code RL lw_tbl vwCl (zty κ) (zE tg (zS adK adV)) 4 room_1) (hEk : zEk (zE tg (zS adK adV))) (hB : zB X b L xs) (hin1 : vp_in (i + (1 : Int32)) L) (hin2 : vp_in (i + (2 : Int32)) L) (hin3 : vp_in (i + (3 : Int32)) L) (hc1 : cells + 64 ≤ 600000) (hc2 : slots + 256 ≤ 7302250) (h : xL_28 pT pR pX pF pB pP M (xs (i + (1 : Int32)).toNatClampNeg) (xs (i + (2 : Int32)).toNatClampNeg) (xs (i + (3 : Int32)).toNatClampNeg) = some S9) (kk : ∀ (ad2 : Nat → Nat) (c2 s2 : Nat), c2 ≤ cells + 64 → s2 ≤ slots + 256 → zV X c2 s2 (zwM κ am S9.2.2.2.2.2.2 ++ zwC κ ad2 S9.1 S9.2.1 S9.2.2.1 S9.2.2.2.1 S9.2.2.2.2.1 S9.2.2.2.2.2.1) [(0, .ref b), (1, .ref (ad2 76)), (2, .ref (am 0)), (3, .int i)] [] 1182) : zV X cells slots (zwM κ am M ++ zwC κ ad pT pR pX pF pB pP) [(0, .ref b), (1, .ref (ad 76)), (2, .ref (am 0)), (3, .int i)] [] 1044 := by
  unfold xL_28 at h
  refine zr_aload_n (pc := 1044) hC 1 rfl rfl dL_law_1044 ?_
  refine zr_aload_n (pc := 1045) hC 0 rfl rfl dL_law_1045 ?_
  refine zr_iload_n (pc := 1046) hC 3 rfl rfl dL_law_1046 ?_
  refine zr_iconst (pc := 1047) hC zki_1 dL_law_1047 ?_
  refine zr_iadd (pc := 1048) hC dL_law_1048 ?_
  refine zr_sld (pc := 1049) hC hB hin1 dL_law_1049 ?_
  refine zr_aload_n (pc := 1050) hC 0 rfl rfl dL_law_1050 ?_
  refine zr_iload_n (pc := 1051) hC 3 rfl rfl dL_law_1051 ?_
  refine zr_iconst (pc := 1052) hC zki_2 dL_law_1052 ?_
  refine zr_iadd (pc := 1053) hC dL_law_1053 ?_
  refine zr_sld (pc := 1054) hC hB hin2 dL_law_1054 ?_
  refine zr_aload_n (pc := 1055) hC 0 rfl rfl dL_law_1055 ?_
  refine zr_iload_n (pc := 1056) hC 3 rfl rfl dL_law_1056 ?_
  refine zr_iconst (pc := 1057) hC zki_3 dL_law_1057 ?_
  refine zr_iadd (pc := 1058) hC dL_law_1058 ?_
  refine zr_sld (pc := 1059) hC hB hin3 dL_law_1059 ?_
  obtain ⟨q0, hq0, h⟩ := zbd h
  refine zr_lV (pc := 1060) hC hEk [.int (xs (i + (1 : Int32)).toNatClampNeg), .int (xs (i + (2 : Int32)).toNatClampNeg), .int (xs (i + (3 : Int32)).toNatClampNeg)] [] 76 3 (fun l D => tX11_evening hEk hq0 l D) gL_X11_evening rfl rfl rfl ⟨Nat.le_of_ble_eq_true rfl, Nat.le_of_ble_eq_true rfl⟩ hyX11_evening (zNC (by decide)) entC_76 rfl rfl rfl (Nat.le_of_ble_eq_true rfl) ⟨by show cells + 0 ≤ 600000; omega, by show slots + 0 ≤ 7302250; omega⟩ dL_law_1060 (fun rv w1 hpo => ?_)
  obtain ⟨rfl, rfl⟩ := hpo
  show zV X cells slots (zwM κ am M ++ zwC κ ad pT q0.2.1 pX pF q0.2.2 pP) [(0, .ref b), (1, .ref (ad 76)), (2, .ref (am 0)), (3, .int i)] [.int q0.1] 1063
  refine zr_aload_n (pc := 1063) hC 2 rfl rfl dL_law_1063 ?_
  refine zr_aload_n (pc := 1064) hC 0 rfl rfl dL_law_1064 ?_
  refine zr_iload_n (pc := 1065) hC 3 rfl rfl dL_law_1065 ?_
  refine zr_iconst (pc := 1066) hC zki_1 dL_law_1066 ?_
  refine zr_iadd (pc := 1067) hC dL_law_1067 ?_
  refine zr_sld (pc := 1068) hC hB hin1 dL_law_1068 ?_
  refine zr_aload_n (pc := 1069) hC 0 rfl rfl dL_law_1069 ?_
  refine zr_iload_n (pc := 1070) hC 3 rfl rfl dL_law_1070 ?_
  refine zr_iconst (pc := 1071) hC zki_2 dL_law_1071 ?_
  refine zr_iadd (pc := 1072) hC dL_law_1072 ?_
  refine zr_sld (pc := 1073) hC hB hin2 dL_law_1073 ?_
  refine zr_aload_n (pc := 1074) hC 0 rfl rfl dL_law_1074 ?_
  refine zr_iload_n (pc := 1075) hC 3 rfl rfl dL_law_1075 ?_
  refine zr_iconst (pc := 1076) hC zki_3 dL_law_1076 ?_
  refine zr_iadd (pc := 1077) hC dL_law_1077 ?_
  refine zr_sld (pc := 1078) hC hB hin3 dL_law_1078 ?_
  refine zr_swap ?_
  obtain ⟨q1, hq1, h⟩ := zbd h
  refine zr_lV (pc := 1079) hC hEk [.int (xs (i + (1 : Int32)).toNatClampNeg), .int (xs (i + (2 : Int32)).toNatClampNeg), .int (xs (i + (3 : Int32)).toNatClampNeg)] [.int q0.1] 0 3 (fun l D => tX12_evening hEk hq1 l D) gL_X12_evening rfl rfl rfl ⟨Nat.le_of_ble_eq_true rfl, Nat.le_of_ble_eq_true rfl⟩ hyX12_evening (by decide) entM_0 rfl rfl rfl (Nat.le_of_ble_eq_true rfl) ⟨by show cells + 0 ≤ 600000; omega, by show slots + 0 ≤ 7302250; omega⟩ dL_law_1079 (fun rv w1 hpo => ?_)
  obtain ⟨rfl, rfl⟩ := hpo
  show zV X cells slots (zwC κ ad pT q0.2.1 pX pF q0.2.2 pP ++ zwM κ am q1.2) [(0, .ref b), (1, .ref (ad 76)), (2, .ref (am 0)), (3, .int i)] [.int q1.1, .int q0.1] 1082
  refine zr_swap ?_
  refine zr_icmp_eq (pc := 1082) (tgt := 1182) hC dL_law_1082 (by decide) (fun c => ?_) (fun c => ?_)
  · replace h := zip h c
    obtain rfl := Option.some.inj h
    exact kk ad cells slots (by omega) (by omega)
  · replace h := zin h c
    cases h
def xL_29 (pT : zM) (pR : zM) (pX : zM) (pF : zM) (pB : zM) (pP : zP) (M : zM) (a1 a2 a3 : Int32) : Option zSt :=
  (xX11_row pB a1).bind fun q0 =>
  (xX12_row M a1).bind fun q1 =>
  if q0.1 = q1.1 then some (pT, pR, pX, pF, q0.2, pP, q1.2) else none
set_option maxHeartbeats 4000000 in
theorem tL_29 {X : zX} {κ : Nat → ClassId} {tg : Nat} {adK adV ad am : Nat → Nat} {b L : Nat} {xs : Nat → Int32} {i : Int32} {cells slots : Nat} {pT pR pX pF pB M : zM} {pP : zP} {S9 : zSt} (hC : zC X code RL lw_tbl vwCl (zty κ) (zE tg (zS adK adV)) 4 room_1) (hEk : zEk (zE tg (zS adK adV))) (hB : zB X b L xs) (hin1 : vp_in (i + (1 : Int32)) L) (hin2 : vp_in (i + (2 : Int32)) L) (hin3 : vp_in (i + (3 : Int32)) L) (hc1 : cells + 64 ≤ 600000) (hc2 : slots + 256 ≤ 7302250) (h : xL_29 pT pR pX pF pB pP M (xs (i + (1 : Int32)).toNatClampNeg) (xs (i + (2 : Int32)).toNatClampNeg) (xs (i + (3 : Int32)).toNatClampNeg) = some S9) (kk : ∀ (ad2 : Nat → Nat) (c2 s2 : Nat), c2 ≤ cells + 64 → s2 ≤ slots + 256 → zV X c2 s2 (zwM κ am S9.2.2.2.2.2.2 ++ zwC κ ad2 S9.1 S9.2.1 S9.2.2.1 S9.2.2.2.1 S9.2.2.2.2.1 S9.2.2.2.2.2.1) [(0, .ref b), (1, .ref (ad2 76)), (2, .ref (am 0)), (3, .int i)] [] 1182) : zV X cells slots (zwM κ am M ++ zwC κ ad pT pR pX pF pB pP) [(0, .ref b), (1, .ref (ad 76)), (2, .ref (am 0)), (3, .int i)] [] 1087 := by
  unfold xL_29 at h
  refine zr_aload_n (pc := 1087) hC 1 rfl rfl dL_law_1087 ?_
  refine zr_aload_n (pc := 1088) hC 0 rfl rfl dL_law_1088 ?_
  refine zr_iload_n (pc := 1089) hC 3 rfl rfl dL_law_1089 ?_
  refine zr_iconst (pc := 1090) hC zki_1 dL_law_1090 ?_
  refine zr_iadd (pc := 1091) hC dL_law_1091 ?_
  refine zr_sld (pc := 1092) hC hB hin1 dL_law_1092 ?_
  obtain ⟨q0, hq0, h⟩ := zbd h
  refine zr_lV (pc := 1093) hC hEk [.int (xs (i + (1 : Int32)).toNatClampNeg)] [] 76 1 (fun l D => tX11_row hEk hq0 l D) gL_X11_row rfl rfl rfl ⟨Nat.le_of_ble_eq_true rfl, Nat.le_of_ble_eq_true rfl⟩ hyX11_row (zNC (by decide)) entC_76 rfl rfl rfl (Nat.le_of_ble_eq_true rfl) ⟨by show cells + 0 ≤ 600000; omega, by show slots + 0 ≤ 7302250; omega⟩ dL_law_1093 (fun rv w1 hpo => ?_)
  obtain ⟨rfl, rfl⟩ := hpo
  show zV X cells slots (zwM κ am M ++ zwC κ ad pT pR pX pF q0.2 pP) [(0, .ref b), (1, .ref (ad 76)), (2, .ref (am 0)), (3, .int i)] [.int q0.1] 1096
  refine zr_aload_n (pc := 1096) hC 2 rfl rfl dL_law_1096 ?_
  refine zr_aload_n (pc := 1097) hC 0 rfl rfl dL_law_1097 ?_
  refine zr_iload_n (pc := 1098) hC 3 rfl rfl dL_law_1098 ?_
  refine zr_iconst (pc := 1099) hC zki_1 dL_law_1099 ?_
  refine zr_iadd (pc := 1100) hC dL_law_1100 ?_
  refine zr_sld (pc := 1101) hC hB hin1 dL_law_1101 ?_
  refine zr_swap ?_
  obtain ⟨q1, hq1, h⟩ := zbd h
  refine zr_lV (pc := 1102) hC hEk [.int (xs (i + (1 : Int32)).toNatClampNeg)] [.int q0.1] 0 1 (fun l D => tX12_row hEk hq1 l D) gL_X12_row rfl rfl rfl ⟨Nat.le_of_ble_eq_true rfl, Nat.le_of_ble_eq_true rfl⟩ hyX12_row (by decide) entM_0 rfl rfl rfl (Nat.le_of_ble_eq_true rfl) ⟨by show cells + 0 ≤ 600000; omega, by show slots + 0 ≤ 7302250; omega⟩ dL_law_1102 (fun rv w1 hpo => ?_)
  obtain ⟨rfl, rfl⟩ := hpo
  show zV X cells slots (zwC κ ad pT pR pX pF q0.2 pP ++ zwM κ am q1.2) [(0, .ref b), (1, .ref (ad 76)), (2, .ref (am 0)), (3, .int i)] [.int q1.1, .int q0.1] 1105
  refine zr_swap ?_
  refine zr_icmp_eq (pc := 1105) (tgt := 1182) hC dL_law_1105 (by decide) (fun c => ?_) (fun c => ?_)
  · replace h := zip h c
    obtain rfl := Option.some.inj h
    exact kk ad cells slots (by omega) (by omega)
  · replace h := zin h c
    cases h
def xL_30 (pT : zM) (pR : zM) (pX : zM) (pF : zM) (pB : zM) (pP : zP) (M : zM) (a1 a2 a3 : Int32) : Option zSt :=
  (xX11_judge pT pR pB pP a1).bind fun q0 =>
  (xX12_judge M a1).bind fun q1 =>
  if q0.1 = q1.1 then some (pT, q0.2.1, pX, pF, q0.2.2, pP, q1.2) else none
set_option maxHeartbeats 4000000 in
theorem tL_30 {X : zX} {κ : Nat → ClassId} {tg : Nat} {adK adV ad am : Nat → Nat} {b L : Nat} {xs : Nat → Int32} {i : Int32} {cells slots : Nat} {pT pR pX pF pB M : zM} {pP : zP} {S9 : zSt} (hC : zC X code RL lw_tbl vwCl (zty κ) (zE tg (zS adK adV)) 4 room_1) (hEk : zEk (zE tg (zS adK adV))) (hB : zB X b L xs) (hin1 : vp_in (i + (1 : Int32)) L) (hin2 : vp_in (i + (2 : Int32)) L) (hin3 : vp_in (i + (3 : Int32)) L) (hc1 : cells + 64 ≤ 600000) (hc2 : slots + 256 ≤ 7302250) (h : xL_30 pT pR pX pF pB pP M (xs (i + (1 : Int32)).toNatClampNeg) (xs (i + (2 : Int32)).toNatClampNeg) (xs (i + (3 : Int32)).toNatClampNeg) = some S9) (kk : ∀ (ad2 : Nat → Nat) (c2 s2 : Nat), c2 ≤ cells + 64 → s2 ≤ slots + 256 → zV X c2 s2 (zwM κ am S9.2.2.2.2.2.2 ++ zwC κ ad2 S9.1 S9.2.1 S9.2.2.1 S9.2.2.2.1 S9.2.2.2.2.1 S9.2.2.2.2.2.1) [(0, .ref b), (1, .ref (ad2 76)), (2, .ref (am 0)), (3, .int i)] [] 1182) : zV X cells slots (zwM κ am M ++ zwC κ ad pT pR pX pF pB pP) [(0, .ref b), (1, .ref (ad 76)), (2, .ref (am 0)), (3, .int i)] [] 1110 := by
  unfold xL_30 at h
  refine zr_aload_n (pc := 1110) hC 1 rfl rfl dL_law_1110 ?_
  refine zr_aload_n (pc := 1111) hC 0 rfl rfl dL_law_1111 ?_
  refine zr_iload_n (pc := 1112) hC 3 rfl rfl dL_law_1112 ?_
  refine zr_iconst (pc := 1113) hC zki_1 dL_law_1113 ?_
  refine zr_iadd (pc := 1114) hC dL_law_1114 ?_
  refine zr_sld (pc := 1115) hC hB hin1 dL_law_1115 ?_
  obtain ⟨q0, hq0, h⟩ := zbd h
  refine zr_lV (pc := 1116) hC hEk [.int (xs (i + (1 : Int32)).toNatClampNeg)] [] 76 1 (fun l D => tX11_judge hEk hq0 l D) gL_X11_judge rfl rfl rfl ⟨Nat.le_of_ble_eq_true rfl, Nat.le_of_ble_eq_true rfl⟩ hyX11_judge (zNC (by decide)) entC_76 rfl rfl rfl (Nat.le_of_ble_eq_true rfl) ⟨by show cells + 0 ≤ 600000; omega, by show slots + 0 ≤ 7302250; omega⟩ dL_law_1116 (fun rv w1 hpo => ?_)
  obtain ⟨rfl, rfl⟩ := hpo
  show zV X cells slots (zwM κ am M ++ zwC κ ad pT q0.2.1 pX pF q0.2.2 pP) [(0, .ref b), (1, .ref (ad 76)), (2, .ref (am 0)), (3, .int i)] [.int q0.1] 1119
  refine zr_aload_n (pc := 1119) hC 2 rfl rfl dL_law_1119 ?_
  refine zr_aload_n (pc := 1120) hC 0 rfl rfl dL_law_1120 ?_
  refine zr_iload_n (pc := 1121) hC 3 rfl rfl dL_law_1121 ?_
  refine zr_iconst (pc := 1122) hC zki_1 dL_law_1122 ?_
  refine zr_iadd (pc := 1123) hC dL_law_1123 ?_
  refine zr_sld (pc := 1124) hC hB hin1 dL_law_1124 ?_
  refine zr_swap ?_
  obtain ⟨q1, hq1, h⟩ := zbd h
  refine zr_lV (pc := 1125) hC hEk [.int (xs (i + (1 : Int32)).toNatClampNeg)] [.int q0.1] 0 1 (fun l D => tX12_judge hEk hq1 l D) gL_X12_judge rfl rfl rfl ⟨Nat.le_of_ble_eq_true rfl, Nat.le_of_ble_eq_true rfl⟩ hyX12_judge (by decide) entM_0 rfl rfl rfl (Nat.le_of_ble_eq_true rfl) ⟨by show cells + 0 ≤ 600000; omega, by show slots + 0 ≤ 7302250; omega⟩ dL_law_1125 (fun rv w1 hpo => ?_)
  obtain ⟨rfl, rfl⟩ := hpo
  show zV X cells slots (zwC κ ad pT q0.2.1 pX pF q0.2.2 pP ++ zwM κ am q1.2) [(0, .ref b), (1, .ref (ad 76)), (2, .ref (am 0)), (3, .int i)] [.int q1.1, .int q0.1] 1128
  refine zr_swap ?_
  refine zr_icmp_eq (pc := 1128) (tgt := 1182) hC dL_law_1128 (by decide) (fun c => ?_) (fun c => ?_)
  · replace h := zip h c
    obtain rfl := Option.some.inj h
    exact kk ad cells slots (by omega) (by omega)
  · replace h := zin h c
    cases h
def xL_31 (pT : zM) (pR : zM) (pX : zM) (pF : zM) (pB : zM) (pP : zP) (M : zM) (a1 a2 a3 : Int32) : Option zSt :=
  (xX11_image pT pR pF pB pP).bind fun q0 =>
  (xX12_image M).bind fun q1 =>
  if q0.1 = q1.1 then some (pT, pR, pX, pF, q0.2, pP, q1.2) else none
set_option maxHeartbeats 4000000 in
theorem tL_31 {X : zX} {κ : Nat → ClassId} {tg : Nat} {adK adV ad am : Nat → Nat} {b L : Nat} {xs : Nat → Int32} {i : Int32} {cells slots : Nat} {pT pR pX pF pB M : zM} {pP : zP} {S9 : zSt} (hC : zC X code RL lw_tbl vwCl (zty κ) (zE tg (zS adK adV)) 4 room_1) (hEk : zEk (zE tg (zS adK adV))) (hB : zB X b L xs) (hin1 : vp_in (i + (1 : Int32)) L) (hin2 : vp_in (i + (2 : Int32)) L) (hin3 : vp_in (i + (3 : Int32)) L) (hc1 : cells + 64 ≤ 600000) (hc2 : slots + 256 ≤ 7302250) (h : xL_31 pT pR pX pF pB pP M (xs (i + (1 : Int32)).toNatClampNeg) (xs (i + (2 : Int32)).toNatClampNeg) (xs (i + (3 : Int32)).toNatClampNeg) = some S9) (kk : ∀ (ad2 : Nat → Nat) (c2 s2 : Nat), c2 ≤ cells + 64 → s2 ≤ slots + 256 → zV X c2 s2 (zwM κ am S9.2.2.2.2.2.2 ++ zwC κ ad2 S9.1 S9.2.1 S9.2.2.1 S9.2.2.2.1 S9.2.2.2.2.1 S9.2.2.2.2.2.1) [(0, .ref b), (1, .ref (ad2 76)), (2, .ref (am 0)), (3, .int i)] [] 1182) : zV X cells slots (zwM κ am M ++ zwC κ ad pT pR pX pF pB pP) [(0, .ref b), (1, .ref (ad 76)), (2, .ref (am 0)), (3, .int i)] [] 1133 := by
  unfold xL_31 at h
  refine zr_aload_n (pc := 1133) hC 1 rfl rfl dL_law_1133 ?_
  obtain ⟨q0, hq0, h⟩ := zbd h
  refine zr_lV (pc := 1134) hC hEk [] [] 76 0 (fun l D => tX11_image hEk hq0 l D) gL_X11_image rfl rfl rfl ⟨Nat.le_of_ble_eq_true rfl, Nat.le_of_ble_eq_true rfl⟩ hyX11_image (zNC (by decide)) entC_76 rfl rfl rfl (Nat.le_of_ble_eq_true rfl) ⟨by show cells + 0 ≤ 600000; omega, by show slots + 0 ≤ 7302250; omega⟩ dL_law_1134 (fun rv w1 hpo => ?_)
  obtain ⟨rfl, rfl⟩ := hpo
  show zV X cells slots (zwM κ am M ++ zwC κ ad pT pR pX pF q0.2 pP) [(0, .ref b), (1, .ref (ad 76)), (2, .ref (am 0)), (3, .int i)] [.int q0.1] 1137
  refine zr_aload_n (pc := 1137) hC 2 rfl rfl dL_law_1137 ?_
  refine zr_swap ?_
  obtain ⟨q1, hq1, h⟩ := zbd h
  refine zr_lV (pc := 1138) hC hEk [] [.int q0.1] 0 0 (fun l D => tX12_image hEk hq1 l D) gL_X12_image rfl rfl rfl ⟨Nat.le_of_ble_eq_true rfl, Nat.le_of_ble_eq_true rfl⟩ hyX12_image (by decide) entM_0 rfl rfl rfl (Nat.le_of_ble_eq_true rfl) ⟨by show cells + 0 ≤ 600000; omega, by show slots + 0 ≤ 7302250; omega⟩ dL_law_1138 (fun rv w1 hpo => ?_)
  obtain ⟨rfl, rfl⟩ := hpo
  show zV X cells slots (zwC κ ad pT pR pX pF q0.2 pP ++ zwM κ am q1.2) [(0, .ref b), (1, .ref (ad 76)), (2, .ref (am 0)), (3, .int i)] [.int q1.1, .int q0.1] 1141
  refine zr_swap ?_
  refine zr_icmp_eq (pc := 1141) (tgt := 1182) hC dL_law_1141 (by decide) (fun c => ?_) (fun c => ?_)
  · replace h := zip h c
    obtain rfl := Option.some.inj h
    exact kk ad cells slots (by omega) (by omega)
  · replace h := zin h c
    cases h
def xL_32 (pT : zM) (pR : zM) (pX : zM) (pF : zM) (pB : zM) (pP : zP) (M : zM) (a1 a2 a3 : Int32) : Option zSt :=
  (xX11_on pT pR pF pB pP).bind fun q0 =>
  (xX12_on M).bind fun q1 =>
  if q0.1 = q1.1 then some (q0.2.1, q0.2.2.1, pX, q0.2.2.2.1, q0.2.2.2.2.1, q0.2.2.2.2.2, q1.2) else none
set_option maxHeartbeats 4000000 in
theorem tL_32 {X : zX} {κ : Nat → ClassId} {tg : Nat} {adK adV ad am : Nat → Nat} {b L : Nat} {xs : Nat → Int32} {i : Int32} {cells slots : Nat} {pT pR pX pF pB M : zM} {pP : zP} {S9 : zSt} (hC : zC X code RL lw_tbl vwCl (zty κ) (zE tg (zS adK adV)) 4 room_1) (hEk : zEk (zE tg (zS adK adV))) (hB : zB X b L xs) (hin1 : vp_in (i + (1 : Int32)) L) (hin2 : vp_in (i + (2 : Int32)) L) (hin3 : vp_in (i + (3 : Int32)) L) (hc1 : cells + 64 ≤ 600000) (hc2 : slots + 256 ≤ 7302250) (h : xL_32 pT pR pX pF pB pP M (xs (i + (1 : Int32)).toNatClampNeg) (xs (i + (2 : Int32)).toNatClampNeg) (xs (i + (3 : Int32)).toNatClampNeg) = some S9) (kk : ∀ (ad2 : Nat → Nat) (c2 s2 : Nat), c2 ≤ cells + 64 → s2 ≤ slots + 256 → zV X c2 s2 (zwM κ am S9.2.2.2.2.2.2 ++ zwC κ ad2 S9.1 S9.2.1 S9.2.2.1 S9.2.2.2.1 S9.2.2.2.2.1 S9.2.2.2.2.2.1) [(0, .ref b), (1, .ref (ad2 76)), (2, .ref (am 0)), (3, .int i)] [] 1182) : zV X cells slots (zwM κ am M ++ zwC κ ad pT pR pX pF pB pP) [(0, .ref b), (1, .ref (ad 76)), (2, .ref (am 0)), (3, .int i)] [] 1146 := by
  unfold xL_32 at h
  refine zr_aload_n (pc := 1146) hC 1 rfl rfl dL_law_1146 ?_
  obtain ⟨q0, hq0, h⟩ := zbd h
  refine zr_lV (pc := 1147) hC hEk [] [] 76 0 (fun l D => tX11_on hEk hq0 l D) gL_X11_on rfl rfl rfl ⟨Nat.le_of_ble_eq_true rfl, Nat.le_of_ble_eq_true rfl⟩ hyX11_on (zNC (by decide)) entC_76 rfl rfl rfl (Nat.le_of_ble_eq_true rfl) ⟨by show cells + 0 ≤ 600000; omega, by show slots + 0 ≤ 7302250; omega⟩ dL_law_1147 (fun rv w1 hpo => ?_)
  obtain ⟨rfl, rfl⟩ := hpo
  show zV X cells slots (zwM κ am M ++ zwC κ ad q0.2.1 q0.2.2.1 pX q0.2.2.2.1 q0.2.2.2.2.1 q0.2.2.2.2.2) [(0, .ref b), (1, .ref (ad 76)), (2, .ref (am 0)), (3, .int i)] [.int q0.1] 1150
  refine zr_aload_n (pc := 1150) hC 2 rfl rfl dL_law_1150 ?_
  refine zr_swap ?_
  obtain ⟨q1, hq1, h⟩ := zbd h
  refine zr_lV (pc := 1151) hC hEk [] [.int q0.1] 0 0 (fun l D => tX12_on hEk hq1 l D) gL_X12_on rfl rfl rfl ⟨Nat.le_of_ble_eq_true rfl, Nat.le_of_ble_eq_true rfl⟩ hyX12_on (by decide) entM_0 rfl rfl rfl (Nat.le_of_ble_eq_true rfl) ⟨by show cells + 0 ≤ 600000; omega, by show slots + 0 ≤ 7302250; omega⟩ dL_law_1151 (fun rv w1 hpo => ?_)
  obtain ⟨rfl, rfl⟩ := hpo
  show zV X cells slots (zwC κ ad q0.2.1 q0.2.2.1 pX q0.2.2.2.1 q0.2.2.2.2.1 q0.2.2.2.2.2 ++ zwM κ am q1.2) [(0, .ref b), (1, .ref (ad 76)), (2, .ref (am 0)), (3, .int i)] [.int q1.1, .int q0.1] 1154
  refine zr_swap ?_
  refine zr_icmp_eq (pc := 1154) (tgt := 1182) hC dL_law_1154 (by decide) (fun c => ?_) (fun c => ?_)
  · replace h := zip h c
    obtain rfl := Option.some.inj h
    exact kk ad cells slots (by omega) (by omega)
  · replace h := zin h c
    cases h
def xL_33 (pT : zM) (pR : zM) (pX : zM) (pF : zM) (pB : zM) (pP : zP) (M : zM) (a1 a2 a3 : Int32) : Option zSt :=
  (xX11_count pT pR pX pF pB a1).bind fun q0 =>
  (xX12_count M a1).bind fun q1 =>
  if q0 = q1 then some (pT, pR, pX, pF, pB, pP, M) else none
set_option maxHeartbeats 4000000 in
theorem tL_33 {X : zX} {κ : Nat → ClassId} {tg : Nat} {adK adV ad am : Nat → Nat} {b L : Nat} {xs : Nat → Int32} {i : Int32} {cells slots : Nat} {pT pR pX pF pB M : zM} {pP : zP} {S9 : zSt} (hC : zC X code RL lw_tbl vwCl (zty κ) (zE tg (zS adK adV)) 4 room_1) (hEk : zEk (zE tg (zS adK adV))) (hB : zB X b L xs) (hin1 : vp_in (i + (1 : Int32)) L) (hin2 : vp_in (i + (2 : Int32)) L) (hin3 : vp_in (i + (3 : Int32)) L) (hc1 : cells + 64 ≤ 600000) (hc2 : slots + 256 ≤ 7302250) (h : xL_33 pT pR pX pF pB pP M (xs (i + (1 : Int32)).toNatClampNeg) (xs (i + (2 : Int32)).toNatClampNeg) (xs (i + (3 : Int32)).toNatClampNeg) = some S9) (kk : ∀ (ad2 : Nat → Nat) (c2 s2 : Nat), c2 ≤ cells + 64 → s2 ≤ slots + 256 → zV X c2 s2 (zwM κ am S9.2.2.2.2.2.2 ++ zwC κ ad2 S9.1 S9.2.1 S9.2.2.1 S9.2.2.2.1 S9.2.2.2.2.1 S9.2.2.2.2.2.1) [(0, .ref b), (1, .ref (ad2 76)), (2, .ref (am 0)), (3, .int i)] [] 1182) : zV X cells slots (zwM κ am M ++ zwC κ ad pT pR pX pF pB pP) [(0, .ref b), (1, .ref (ad 76)), (2, .ref (am 0)), (3, .int i)] [] 1159 := by
  unfold xL_33 at h
  refine zr_aload_n (pc := 1159) hC 1 rfl rfl dL_law_1159 ?_
  refine zr_aload_n (pc := 1160) hC 0 rfl rfl dL_law_1160 ?_
  refine zr_iload_n (pc := 1161) hC 3 rfl rfl dL_law_1161 ?_
  refine zr_iconst (pc := 1162) hC zki_1 dL_law_1162 ?_
  refine zr_iadd (pc := 1163) hC dL_law_1163 ?_
  refine zr_sld (pc := 1164) hC hB hin1 dL_law_1164 ?_
  obtain ⟨q0, hq0, h⟩ := zbd h
  refine zr_lV (pc := 1165) hC hEk [.int (xs (i + (1 : Int32)).toNatClampNeg)] [] 76 1 (fun l D => tX11_count hEk hq0 l D) gL_X11_count rfl rfl rfl ⟨Nat.le_of_ble_eq_true rfl, Nat.le_of_ble_eq_true rfl⟩ hyX11_count (zNC (by decide)) entC_76 rfl rfl rfl (Nat.le_of_ble_eq_true rfl) ⟨by show cells + 0 ≤ 600000; omega, by show slots + 0 ≤ 7302250; omega⟩ dL_law_1165 (fun rv w1 hpo => ?_)
  obtain ⟨rfl, rfl⟩ := hpo
  show zV X cells slots (zwM κ am M ++ zwC κ ad pT pR pX pF pB pP) [(0, .ref b), (1, .ref (ad 76)), (2, .ref (am 0)), (3, .int i)] [.int q0] 1168
  refine zr_aload_n (pc := 1168) hC 2 rfl rfl dL_law_1168 ?_
  refine zr_aload_n (pc := 1169) hC 0 rfl rfl dL_law_1169 ?_
  refine zr_iload_n (pc := 1170) hC 3 rfl rfl dL_law_1170 ?_
  refine zr_iconst (pc := 1171) hC zki_1 dL_law_1171 ?_
  refine zr_iadd (pc := 1172) hC dL_law_1172 ?_
  refine zr_sld (pc := 1173) hC hB hin1 dL_law_1173 ?_
  refine zr_swap ?_
  obtain ⟨q1, hq1, h⟩ := zbd h
  refine zr_lV (pc := 1174) hC hEk [.int (xs (i + (1 : Int32)).toNatClampNeg)] [.int q0] 0 1 (fun l D => tX12_count hEk hq1 l D) gL_X12_count rfl rfl rfl ⟨Nat.le_of_ble_eq_true rfl, Nat.le_of_ble_eq_true rfl⟩ hyX12_count (by decide) entM_0 rfl rfl rfl (Nat.le_of_ble_eq_true rfl) ⟨by show cells + 0 ≤ 600000; omega, by show slots + 0 ≤ 7302250; omega⟩ dL_law_1174 (fun rv w1 hpo => ?_)
  obtain ⟨rfl, rfl⟩ := hpo
  show zV X cells slots (zwC κ ad pT pR pX pF pB pP ++ zwM κ am M) [(0, .ref b), (1, .ref (ad 76)), (2, .ref (am 0)), (3, .int i)] [.int q1, .int q0] 1177
  refine zr_swap ?_
  refine zr_icmp_eq (pc := 1177) (tgt := 1182) hC dL_law_1177 (by decide) (fun c => ?_) (fun c => ?_)
  · replace h := zip h c
    obtain rfl := Option.some.inj h
    exact kk ad cells slots (by omega) (by omega)
  · replace h := zin h c
    cases h
