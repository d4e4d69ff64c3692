set_option maxHeartbeats 4000000 in
set_option maxRecDepth 100000 in
theorem wc_0 {cI cS : ClassId} {X : CX} {Qf : Unit → State → Prop} (C : Cx X RL cL_law 4 ret room_1 (tyz cI cS)) {b L : Nat} {sc : Nat → Int32} (hX : Scr X b L sc) {q qS qC p : Nat → Nat} (i : Int32) (kk : (Nat → Nat) → (Nat → Nat) → Int32 → Int32 → Option Nat → Int32 → Int32 → Int32 → Int32 → (Nat → Int32) → (Nat → Int32) → (Nat → Nat → Int32) → (Nat → Int32) → (Nat → Nat → Int32) → (Nat → Int32) → (Nat → Int32) → (Nat → Nat → Int32) → (Nat → Int32) → (Nat → Nat → Int32) → Option Unit) (hk : ∀ (qb : Nat → Nat) (qs : Nat → Nat) (tr : Int32) (fa : Int32) (fr : Option Nat) (rb : Int32) (rl : Int32) (ra : Int32) (wl : Int32) (WS : Nat → Int32) (BI : Nat → Int32) (BA : Nat → Nat → Int32) (SI : Nat → Int32) (SA : Nat → Nat → Int32) (LN : Nat → Int32) (SZ : Nat → Int32) (CE : Nat → Nat → Int32) (MI : Nat → Int32) (MA : Nat → Nat → Int32), JR X Qf 4 room_1.cells room_1.slots (kk qb qs tr fa fr rb rl ra wl WS BI BA SI SA LN SZ CE MI MA) (wdX cI cS q qb qs qS qC (qb 0) (qs 0) tr fa fr rb rl ra wl WS BI BA SI SA LN SZ CE ++ wdM cI p MI MA) [(0, .ref b), (1, .ref (q 0)), (2, .ref (p 0)), (3, .int i)] 1250 []) : ∀ (qb : Nat → Nat) (qs : Nat → Nat) (tr : Int32) (fa : Int32) (fr : Option Nat) (rb : Int32) (rl : Int32) (ra : Int32) (wl : Int32) (WS : Nat → Int32) (BI : Nat → Int32) (BA : Nat → Nat → Int32) (SI : Nat → Int32) (SA : Nat → Nat → Int32) (LN : Nat → Int32) (SZ : Nat → Int32) (CE : Nat → Nat → Int32) (MI : Nat → Int32) (MA : Nat → Nat → Int32), JR X Qf 4 room_1.cells room_1.slots (lc_0 kk L sc qS i qb qs tr fa fr rb rl ra wl WS BI BA SI SA LN SZ CE MI MA) (wdX cI cS q qb qs qS qC (qb 0) (qs 0) tr fa fr rb rl ra wl WS BI BA SI SA LN SZ CE ++ wdM cI p MI MA) [(0, .ref b), (1, .ref (q 0)), (2, .ref (p 0)), (3, .int i)] 180 [] := by
  intro qb qs tr fa fr rb rl ra wl WS BI BA SI SA LN SZ CE MI MA
  unfold lc_0
  refine r_aload_n (pc := 180) C 1 dL_law_180 rfl rfl ?_
  refine r_aload_n (pc := 181) C 0 dL_law_181 rfl rfl ?_
  refine r_iload_n (pc := 182) C 3 dL_law_182 rfl rfl ?_
  refine r_iconst (pc := 183) C dL_law_183 (ci_1) ?_
  refine r_iadd (pc := 184) C dL_law_184 ?_
  refine r_sld (pc := 185) C hX dL_law_185 ?_
  refine r_aload_n (pc := 186) C 0 dL_law_186 rfl rfl ?_
  refine r_iload_n (pc := 187) C 3 dL_law_187 rfl rfl ?_
  refine r_iconst (pc := 188) C dL_law_188 (ci_2) ?_
  refine r_iadd (pc := 189) C dL_law_189 ?_
  refine r_sld (pc := 190) C hX dL_law_190 ?_
  refine r_aload_n (pc := 191) C 0 dL_law_191 rfl rfl ?_
  refine r_iload_n (pc := 192) C 3 dL_law_192 rfl rfl ?_
  refine r_iconst (pc := 193) C dL_law_193 (ci_3) ?_
  refine r_iadd (pc := 194) C dL_law_194 ?_
  refine r_sld (pc := 195) C hX dL_law_195 ?_
  refine r_aload_n (pc := 196) C 0 dL_law_196 rfl rfl ?_
  refine r_iload_n (pc := 197) C 3 dL_law_197 rfl rfl ?_
  refine r_iconst (pc := 198) C dL_law_198 (ci_4) ?_
  refine r_iadd (pc := 199) C dL_law_199 ?_
  refine r_sld (pc := 200) C hX dL_law_200 ?_
  refine r_callV (pc := 201) (rest := []) C isX (fun r201 => wdX cI cS q qb qs qS qC r201.2.2.2.2.2.2.2.2.1 r201.2.2.2.2.2.2.2.2.2 tr r201.2.1 r201.2.2.1 r201.2.2.2.1 r201.2.2.2.2.1 r201.2.2.2.2.2.1 wl WS BI BA r201.2.2.2.2.2.2.1 r201.2.2.2.2.2.2.2.1 LN SZ CE ++ wdM cI p MI MA) (m_X4_frontier (xl X) (xD X) cI cS q qb qs qS qC tr fa fr rb rl ra wl WS BI BA SI SA LN SZ CE (sc (i + (1 : Int32)).toNatClampNeg) (sc (i + (2 : Int32)).toNatClampNeg) (sc (i + (3 : Int32)).toNatClampNeg) (sc (i + (4 : Int32)).toNatClampNeg)) mv_L_13 cutX ndX (fun _ => setX) (fun _ => adrX) rfl rfl rfl ⟨Nat.le_refl _, Nat.le_refl _⟩ rfl rfl (Nat.le_of_ble_eq_true rfl) dL_law_201 (fun r201 => ?_)
  refine r_aload_n (pc := 204) C 2 dL_law_204 rfl rfl ?_
  refine r_aload_n (pc := 205) C 0 dL_law_205 rfl rfl ?_
  refine r_iload_n (pc := 206) C 3 dL_law_206 rfl rfl ?_
  refine r_iconst (pc := 207) C dL_law_207 (ci_1) ?_
  refine r_iadd (pc := 208) C dL_law_208 ?_
  refine r_sld (pc := 209) C hX dL_law_209 ?_
  refine r_aload_n (pc := 210) C 0 dL_law_210 rfl rfl ?_
  refine r_iload_n (pc := 211) C 3 dL_law_211 rfl rfl ?_
  refine r_iconst (pc := 212) C dL_law_212 (ci_2) ?_
  refine r_iadd (pc := 213) C dL_law_213 ?_
  refine r_sld (pc := 214) C hX dL_law_214 ?_
  refine r_aload_n (pc := 215) C 0 dL_law_215 rfl rfl ?_
  refine r_iload_n (pc := 216) C 3 dL_law_216 rfl rfl ?_
  refine r_iconst (pc := 217) C dL_law_217 (ci_3) ?_
  refine r_iadd (pc := 218) C dL_law_218 ?_
  refine r_sld (pc := 219) C hX dL_law_219 ?_
  refine r_aload_n (pc := 220) C 0 dL_law_220 rfl rfl ?_
  refine r_iload_n (pc := 221) C 3 dL_law_221 rfl rfl ?_
  refine r_iconst (pc := 222) C dL_law_222 (ci_4) ?_
  refine r_iadd (pc := 223) C dL_law_223 ?_
  refine r_sld (pc := 224) C hX dL_law_224 ?_
  refine r_callV (pc := 225) (rest := [.int r201.1]) C isM (fun r225 => wdX cI cS q qb qs qS qC r201.2.2.2.2.2.2.2.2.1 r201.2.2.2.2.2.2.2.2.2 tr r201.2.1 r201.2.2.1 r201.2.2.2.1 r201.2.2.2.2.1 r201.2.2.2.2.2.1 wl WS BI BA r201.2.2.2.2.2.2.1 r201.2.2.2.2.2.2.2.1 LN SZ CE ++ wdM cI p r225.2.1 r225.2.2) (m_X5_frontier (xl X) (xD X) cI cS p MI MA (sc (i + (1 : Int32)).toNatClampNeg) (sc (i + (2 : Int32)).toNatClampNeg) (sc (i + (3 : Int32)).toNatClampNeg) (sc (i + (4 : Int32)).toNatClampNeg)) mv_L_17 cutM ndM (fun _ => setM) (fun _ => adrM) rfl rfl rfl ⟨Nat.le_refl _, Nat.le_refl _⟩ rfl rfl (Nat.le_of_ble_eq_true rfl) dL_law_225 (fun r225 => ?_)
  refine r_icmp_eq (pc := 228) (tgt := 1250) C dL_law_228 (by decide) ?_ ?_
  · refine r_ite (fun hs => ?_) (fun hs => r_ite (fun ht => ?_) (fun _ => r_none))
    · refine r_ws (ws' := wdX cI cS q qb qs qS qC (qs 0) (qb 0) tr r201.2.1 r201.2.2.1 r201.2.2.2.1 r201.2.2.2.2.1 r201.2.2.2.2.2.1 wl WS BI BA r201.2.2.2.2.2.2.1 r201.2.2.2.2.2.2.2.1 LN SZ CE ++ wdM cI p r225.2.1 r225.2.2) (by rw [hs.1, hs.2]) ?_
      refine r_perm (ws' := wdX cI cS q qs qb qS qC (qs 0) (qb 0) tr r201.2.1 r201.2.2.1 r201.2.2.2.1 r201.2.2.2.2.1 r201.2.2.2.2.2.1 wl WS r201.2.2.2.2.2.2.1 r201.2.2.2.2.2.2.2.1 BI BA LN SZ CE ++ wdM cI p r225.2.1 r225.2.2) isP permX ndP ?_
      exact r_sub [0, 1, 2, 3] rfl (hk qs qb tr r201.2.1 r201.2.2.1 r201.2.2.2.1 r201.2.2.2.2.1 r201.2.2.2.2.2.1 wl WS r201.2.2.2.2.2.2.1 r201.2.2.2.2.2.2.2.1 BI BA LN SZ CE r225.2.1 r225.2.2)
    · refine r_ws (ws' := wdX cI cS q qb qs qS qC (qb 0) (qs 0) tr r201.2.1 r201.2.2.1 r201.2.2.2.1 r201.2.2.2.2.1 r201.2.2.2.2.2.1 wl WS BI BA r201.2.2.2.2.2.2.1 r201.2.2.2.2.2.2.2.1 LN SZ CE ++ wdM cI p r225.2.1 r225.2.2) (by rw [ht.1, ht.2]) ?_
      exact r_sub [0, 1, 2, 3] rfl (hk qb qs tr r201.2.1 r201.2.2.1 r201.2.2.2.1 r201.2.2.2.2.1 r201.2.2.2.2.2.1 wl WS BI BA r201.2.2.2.2.2.2.1 r201.2.2.2.2.2.2.2.1 LN SZ CE r225.2.1 r225.2.2)
  · exact r_none
set_option maxHeartbeats 4000000 in
set_option maxRecDepth 100000 in
theorem wc_1 {cI cS : ClassId} {X : CX} {Qf : Unit → State → Prop} (C : Cx X RL cL_law 4 ret room_1 (tyz cI cS)) {b L : Nat} {sc : Nat → Int32} (hX : Scr X b L sc) {q qS qC p : Nat → Nat} (i : Int32) (kk : (Nat → Nat) → (Nat → Nat) → Int32 → Int32 → Option Nat → Int32 → Int32 → Int32 → Int32 → (Nat → Int32) → (Nat → Int32) → (Nat → Nat → Int32) → (Nat → Int32) → (Nat → Nat → Int32) → (Nat → Int32) → (Nat → Int32) → (Nat → Nat → Int32) → (Nat → Int32) → (Nat → Nat → Int32) → Option Unit) (hk : ∀ (qb : Nat → Nat) (qs : Nat → Nat) (tr : Int32) (fa : Int32) (fr : Option Nat) (rb : Int32) (rl : Int32) (ra : Int32) (wl : Int32) (WS : Nat → Int32) (BI : Nat → Int32) (BA : Nat → Nat → Int32) (SI : Nat → Int32) (SA : Nat → Nat → Int32) (LN : Nat → Int32) (SZ : Nat → Int32) (CE : Nat → Nat → Int32) (MI : Nat → Int32) (MA : Nat → Nat → Int32), JR X Qf 4 room_1.cells room_1.slots (kk qb qs tr fa fr rb rl ra wl WS BI BA SI SA LN SZ CE MI MA) (wdX cI cS q qb qs qS qC (qb 0) (qs 0) tr fa fr rb rl ra wl WS BI BA SI SA LN SZ CE ++ wdM cI p MI MA) [(0, .ref b), (1, .ref (q 0)), (2, .ref (p 0)), (3, .int i)] 1250 []) : ∀ (qb : Nat → Nat) (qs : Nat → Nat) (tr : Int32) (fa : Int32) (fr : Option Nat) (rb : Int32) (rl : Int32) (ra : Int32) (wl : Int32) (WS : Nat → Int32) (BI : Nat → Int32) (BA : Nat → Nat → Int32) (SI : Nat → Int32) (SA : Nat → Nat → Int32) (LN : Nat → Int32) (SZ : Nat → Int32) (CE : Nat → Nat → Int32) (MI : Nat → Int32) (MA : Nat → Nat → Int32), JR X Qf 4 room_1.cells room_1.slots (lc_1 kk L sc qS i qb qs tr fa fr rb rl ra wl WS BI BA SI SA LN SZ CE MI MA) (wdX cI cS q qb qs qS qC (qb 0) (qs 0) tr fa fr rb rl ra wl WS BI BA SI SA LN SZ CE ++ wdM cI p MI MA) [(0, .ref b), (1, .ref (q 0)), (2, .ref (p 0)), (3, .int i)] 233 [] := by
  intro qb qs tr fa fr rb rl ra wl WS BI BA SI SA LN SZ CE MI MA
  unfold lc_1
  refine r_aload_n (pc := 233) C 1 dL_law_233 rfl rfl ?_
  refine r_aload_n (pc := 234) C 0 dL_law_234 rfl rfl ?_
  refine r_iload_n (pc := 235) C 3 dL_law_235 rfl rfl ?_
  refine r_iconst (pc := 236) C dL_law_236 (ci_1) ?_
  refine r_iadd (pc := 237) C dL_law_237 ?_
  refine r_sld (pc := 238) C hX dL_law_238 ?_
  refine r_aload_n (pc := 239) C 0 dL_law_239 rfl rfl ?_
  refine r_iload_n (pc := 240) C 3 dL_law_240 rfl rfl ?_
  refine r_iconst (pc := 241) C dL_law_241 (ci_2) ?_
  refine r_iadd (pc := 242) C dL_law_242 ?_
  refine r_sld (pc := 243) C hX dL_law_243 ?_
  refine r_callVr (pc := 244) (rest := []) C isX (m_X4_ofPost (xl X) (xD X) cI cS q qb qs qS qC tr fa fr rb rl ra wl WS BI BA SI SA LN SZ CE (sc (i + (1 : Int32)).toNatClampNeg) (sc (i + (2 : Int32)).toNatClampNeg)) mv_L_18 cutX ndX rfl rfl rfl ⟨Nat.le_refl _, Nat.le_refl _⟩ rfl rfl (Nat.le_of_ble_eq_true rfl) dL_law_244 (fun r244 => ?_)
  refine r_aload_n (pc := 247) C 2 dL_law_247 rfl rfl ?_
  refine r_aload_n (pc := 248) C 0 dL_law_248 rfl rfl ?_
  refine r_iload_n (pc := 249) C 3 dL_law_249 rfl rfl ?_
  refine r_iconst (pc := 250) C dL_law_250 (ci_1) ?_
  refine r_iadd (pc := 251) C dL_law_251 ?_
  refine r_sld (pc := 252) C hX dL_law_252 ?_
  refine r_aload_n (pc := 253) C 0 dL_law_253 rfl rfl ?_
  refine r_iload_n (pc := 254) C 3 dL_law_254 rfl rfl ?_
  refine r_iconst (pc := 255) C dL_law_255 (ci_2) ?_
  refine r_iadd (pc := 256) C dL_law_256 ?_
  refine r_sld (pc := 257) C hX dL_law_257 ?_
  refine r_callVr (pc := 258) (rest := [.int r244]) C isM (m_X5_ofPost (xl X) (xD X) cI cS p MI MA (sc (i + (1 : Int32)).toNatClampNeg) (sc (i + (2 : Int32)).toNatClampNeg)) mv_L_22 cutM ndM rfl rfl rfl ⟨Nat.le_refl _, Nat.le_refl _⟩ rfl rfl (Nat.le_of_ble_eq_true rfl) dL_law_258 (fun r258 => ?_)
  refine r_icmp_eq (pc := 261) (tgt := 1250) C dL_law_261 (by decide) ?_ ?_
  · exact r_sub [0, 1, 2, 3] rfl (hk qb qs tr fa fr rb rl ra wl WS BI BA SI SA LN SZ CE MI MA)
  · exact r_none
set_option maxHeartbeats 4000000 in
set_option maxRecDepth 100000 in
theorem wc_2 {cI cS : ClassId} {X : CX} {Qf : Unit → State → Prop} (C : Cx X RL cL_law 4 ret room_1 (tyz cI cS)) {b L : Nat} {sc : Nat → Int32} (hX : Scr X b L sc) {q qS qC p : Nat → Nat} (i : Int32) (kk : (Nat → Nat) → (Nat → Nat) → Int32 → Int32 → Option Nat → Int32 → Int32 → Int32 → Int32 → (Nat → Int32) → (Nat → Int32) → (Nat → Nat → Int32) → (Nat → Int32) → (Nat → Nat → Int32) → (Nat → Int32) → (Nat → Int32) → (Nat → Nat → Int32) → (Nat → Int32) → (Nat → Nat → Int32) → Option Unit) (hk : ∀ (qb : Nat → Nat) (qs : Nat → Nat) (tr : Int32) (fa : Int32) (fr : Option Nat) (rb : Int32) (rl : Int32) (ra : Int32) (wl : Int32) (WS : Nat → Int32) (BI : Nat → Int32) (BA : Nat → Nat → Int32) (SI : Nat → Int32) (SA : Nat → Nat → Int32) (LN : Nat → Int32) (SZ : Nat → Int32) (CE : Nat → Nat → Int32) (MI : Nat → Int32) (MA : Nat → Nat → Int32), JR X Qf 4 room_1.cells room_1.slots (kk qb qs tr fa fr rb rl ra wl WS BI BA SI SA LN SZ CE MI MA) (wdX cI cS q qb qs qS qC (qb 0) (qs 0) tr fa fr rb rl ra wl WS BI BA SI SA LN SZ CE ++ wdM cI p MI MA) [(0, .ref b), (1, .ref (q 0)), (2, .ref (p 0)), (3, .int i)] 1250 []) : ∀ (qb : Nat → Nat) (qs : Nat → Nat) (tr : Int32) (fa : Int32) (fr : Option Nat) (rb : Int32) (rl : Int32) (ra : Int32) (wl : Int32) (WS : Nat → Int32) (BI : Nat → Int32) (BA : Nat → Nat → Int32) (SI : Nat → Int32) (SA : Nat → Nat → Int32) (LN : Nat → Int32) (SZ : Nat → Int32) (CE : Nat → Nat → Int32) (MI : Nat → Int32) (MA : Nat → Nat → Int32), JR X Qf 4 room_1.cells room_1.slots (lc_2 kk L sc qS i qb qs tr fa fr rb rl ra wl WS BI BA SI SA LN SZ CE MI MA) (wdX cI cS q qb qs qS qC (qb 0) (qs 0) tr fa fr rb rl ra wl WS BI BA SI SA LN SZ CE ++ wdM cI p MI MA) [(0, .ref b), (1, .ref (q 0)), (2, .ref (p 0)), (3, .int i)] 266 [] := by
  intro qb qs tr fa fr rb rl ra wl WS BI BA SI SA LN SZ CE MI MA
  unfold lc_2
  refine r_aload_n (pc := 266) C 1 dL_law_266 rfl rfl ?_
  refine r_aload_n (pc := 267) C 0 dL_law_267 rfl rfl ?_
  refine r_iload_n (pc := 268) C 3 dL_law_268 rfl rfl ?_
  refine r_iconst (pc := 269) C dL_law_269 (ci_1) ?_
  refine r_iadd (pc := 270) C dL_law_270 ?_
  refine r_sld (pc := 271) C hX dL_law_271 ?_
  refine r_aload_n (pc := 272) C 0 dL_law_272 rfl rfl ?_
  refine r_iload_n (pc := 273) C 3 dL_law_273 rfl rfl ?_
  refine r_iconst (pc := 274) C dL_law_274 (ci_2) ?_
  refine r_iadd (pc := 275) C dL_law_275 ?_
  refine r_sld (pc := 276) C hX dL_law_276 ?_
  refine r_callVr (pc := 277) (rest := []) C isX (m_X4_ofSilence (xl X) (xD X) cI cS q qb qs qS qC tr fa fr rb rl ra wl WS BI BA SI SA LN SZ CE (sc (i + (1 : Int32)).toNatClampNeg) (sc (i + (2 : Int32)).toNatClampNeg)) mv_L_23 cutX ndX rfl rfl rfl ⟨Nat.le_refl _, Nat.le_refl _⟩ rfl rfl (Nat.le_of_ble_eq_true rfl) dL_law_277 (fun r277 => ?_)
  refine r_aload_n (pc := 280) C 2 dL_law_280 rfl rfl ?_
  refine r_aload_n (pc := 281) C 0 dL_law_281 rfl rfl ?_
  refine r_iload_n (pc := 282) C 3 dL_law_282 rfl rfl ?_
  refine r_iconst (pc := 283) C dL_law_283 (ci_1) ?_
  refine r_iadd (pc := 284) C dL_law_284 ?_
  refine r_sld (pc := 285) C hX dL_law_285 ?_
  refine r_aload_n (pc := 286) C 0 dL_law_286 rfl rfl ?_
  refine r_iload_n (pc := 287) C 3 dL_law_287 rfl rfl ?_
  refine r_iconst (pc := 288) C dL_law_288 (ci_2) ?_
  refine r_iadd (pc := 289) C dL_law_289 ?_
  refine r_sld (pc := 290) C hX dL_law_290 ?_
  refine r_callVr (pc := 291) (rest := [.int r277]) C isM (m_X5_ofSilence (xl X) (xD X) cI cS p MI MA (sc (i + (1 : Int32)).toNatClampNeg) (sc (i + (2 : Int32)).toNatClampNeg)) mv_L_26 cutM ndM rfl rfl rfl ⟨Nat.le_refl _, Nat.le_refl _⟩ rfl rfl (Nat.le_of_ble_eq_true rfl) dL_law_291 (fun r291 => ?_)
  refine r_icmp_eq (pc := 294) (tgt := 1250) C dL_law_294 (by decide) ?_ ?_
  · exact r_sub [0, 1, 2, 3] rfl (hk qb qs tr fa fr rb rl ra wl WS BI BA SI SA LN SZ CE MI MA)
  · exact r_none
set_option maxHeartbeats 4000000 in
set_option maxRecDepth 100000 in
theorem wc_3 {cI cS : ClassId} {X : CX} {Qf : Unit → State → Prop} (C : Cx X RL cL_law 4 ret room_1 (tyz cI cS)) {b L : Nat} {sc : Nat → Int32} (hX : Scr X b L sc) {q qS qC p : Nat → Nat} (i : Int32) (kk : (Nat → Nat) → (Nat → Nat) → Int32 → Int32 → Option Nat → Int32 → Int32 → Int32 → Int32 → (Nat → Int32) → (Nat → Int32) → (Nat → Nat → Int32) → (Nat → Int32) → (Nat → Nat → Int32) → (Nat → Int32) → (Nat → Int32) → (Nat → Nat → Int32) → (Nat → Int32) → (Nat → Nat → Int32) → Option Unit) (hk : ∀ (qb : Nat → Nat) (qs : Nat → Nat) (tr : Int32) (fa : Int32) (fr : Option Nat) (rb : Int32) (rl : Int32) (ra : Int32) (wl : Int32) (WS : Nat → Int32) (BI : Nat → Int32) (BA : Nat → Nat → Int32) (SI : Nat → Int32) (SA : Nat → Nat → Int32) (LN : Nat → Int32) (SZ : Nat → Int32) (CE : Nat → Nat → Int32) (MI : Nat → Int32) (MA : Nat → Nat → Int32), JR X Qf 4 room_1.cells room_1.slots (kk qb qs tr fa fr rb rl ra wl WS BI BA SI SA LN SZ CE MI MA) (wdX cI cS q qb qs qS qC (qb 0) (qs 0) tr fa fr rb rl ra wl WS BI BA SI SA LN SZ CE ++ wdM cI p MI MA) [(0, .ref b), (1, .ref (q 0)), (2, .ref (p 0)), (3, .int i)] 1250 []) : ∀ (qb : Nat → Nat) (qs : Nat → Nat) (tr : Int32) (fa : Int32) (fr : Option Nat) (rb : Int32) (rl : Int32) (ra : Int32) (wl : Int32) (WS : Nat → Int32) (BI : Nat → Int32) (BA : Nat → Nat → Int32) (SI : Nat → Int32) (SA : Nat → Nat → Int32) (LN : Nat → Int32) (SZ : Nat → Int32) (CE : Nat → Nat → Int32) (MI : Nat → Int32) (MA : Nat → Nat → Int32), JR X Qf 4 room_1.cells room_1.slots (lc_3 kk L sc qS i qb qs tr fa fr rb rl ra wl WS BI BA SI SA LN SZ CE MI MA) (wdX cI cS q qb qs qS qC (qb 0) (qs 0) tr fa fr rb rl ra wl WS BI BA SI SA LN SZ CE ++ wdM cI p MI MA) [(0, .ref b), (1, .ref (q 0)), (2, .ref (p 0)), (3, .int i)] 299 [] := by
  intro qb qs tr fa fr rb rl ra wl WS BI BA SI SA LN SZ CE MI MA
  unfold lc_3
  refine r_aload_n (pc := 299) C 1 dL_law_299 rfl rfl ?_
  refine r_aload_n (pc := 300) C 0 dL_law_300 rfl rfl ?_
  refine r_iload_n (pc := 301) C 3 dL_law_301 rfl rfl ?_
  refine r_iconst (pc := 302) C dL_law_302 (ci_1) ?_
  refine r_iadd (pc := 303) C dL_law_303 ?_
  refine r_sld (pc := 304) C hX dL_law_304 ?_
  refine r_callV (pc := 305) (rest := []) C isX (fun r305 => wdX cI cS q qb qs qS qC (qb 0) (qs 0) tr fa fr rb rl ra wl WS r305.2 BA SI SA LN SZ CE ++ wdM cI p MI MA) (m_X4_free (xl X) (xD X) cI cS q qb qs qS qC tr fa fr rb rl ra wl WS BI BA SI SA LN SZ CE (sc (i + (1 : Int32)).toNatClampNeg)) mv_L_27 cutX ndX (fun _ => setX) (fun _ => adrX) rfl rfl rfl ⟨Nat.le_refl _, Nat.le_refl _⟩ rfl rfl (Nat.le_of_ble_eq_true rfl) dL_law_305 (fun r305 => ?_)
  refine r_aload_n (pc := 308) C 2 dL_law_308 rfl rfl ?_
  refine r_aload_n (pc := 309) C 0 dL_law_309 rfl rfl ?_
  refine r_iload_n (pc := 310) C 3 dL_law_310 rfl rfl ?_
  refine r_iconst (pc := 311) C dL_law_311 (ci_1) ?_
  refine r_iadd (pc := 312) C dL_law_312 ?_
  refine r_sld (pc := 313) C hX dL_law_313 ?_
  refine r_callV (pc := 314) (rest := [.int r305.1]) C isM (fun r314 => wdX cI cS q qb qs qS qC (qb 0) (qs 0) tr fa fr rb rl ra wl WS r305.2 BA SI SA LN SZ CE ++ wdM cI p r314.2 MA) (m_X5_free (xl X) (xD X) cI cS p MI MA (sc (i + (1 : Int32)).toNatClampNeg)) mv_L_31 cutM ndM (fun _ => setM) (fun _ => adrM) rfl rfl rfl ⟨Nat.le_refl _, Nat.le_refl _⟩ rfl rfl (Nat.le_of_ble_eq_true rfl) dL_law_314 (fun r314 => ?_)
  refine r_icmp_eq (pc := 317) (tgt := 1250) C dL_law_317 (by decide) ?_ ?_
  · exact r_sub [0, 1, 2, 3] rfl (hk qb qs tr fa fr rb rl ra wl WS r305.2 BA SI SA LN SZ CE r314.2 MA)
  · exact r_none
set_option maxHeartbeats 4000000 in
set_option maxRecDepth 100000 in
theorem wc_4 {cI cS : ClassId} {X : CX} {Qf : Unit → State → Prop} (C : Cx X RL cL_law 4 ret room_1 (tyz cI cS)) {b L : Nat} {sc : Nat → Int32} (hX : Scr X b L sc) {q qS qC p : Nat → Nat} (i : Int32) (kk : (Nat → Nat) → (Nat → Nat) → Int32 → Int32 → Option Nat → Int32 → Int32 → Int32 → Int32 → (Nat → Int32) → (Nat → Int32) → (Nat → Nat → Int32) → (Nat → Int32) → (Nat → Nat → Int32) → (Nat → Int32) → (Nat → Int32) → (Nat → Nat → Int32) → (Nat → Int32) → (Nat → Nat → Int32) → Option Unit) (hk : ∀ (qb : Nat → Nat) (qs : Nat → Nat) (tr : Int32) (fa : Int32) (fr : Option Nat) (rb : Int32) (rl : Int32) (ra : Int32) (wl : Int32) (WS : Nat → Int32) (BI : Nat → Int32) (BA : Nat → Nat → Int32) (SI : Nat → Int32) (SA : Nat → Nat → Int32) (LN : Nat → Int32) (SZ : Nat → Int32) (CE : Nat → Nat → Int32) (MI : Nat → Int32) (MA : Nat → Nat → Int32), JR X Qf 4 room_1.cells room_1.slots (kk qb qs tr fa fr rb rl ra wl WS BI BA SI SA LN SZ CE MI MA) (wdX cI cS q qb qs qS qC (qb 0) (qs 0) tr fa fr rb rl ra wl WS BI BA SI SA LN SZ CE ++ wdM cI p MI MA) [(0, .ref b), (1, .ref (q 0)), (2, .ref (p 0)), (3, .int i)] 1250 []) : ∀ (qb : Nat → Nat) (qs : Nat → Nat) (tr : Int32) (fa : Int32) (fr : Option Nat) (rb : Int32) (rl : Int32) (ra : Int32) (wl : Int32) (WS : Nat → Int32) (BI : Nat → Int32) (BA : Nat → Nat → Int32) (SI : Nat → Int32) (SA : Nat → Nat → Int32) (LN : Nat → Int32) (SZ : Nat → Int32) (CE : Nat → Nat → Int32) (MI : Nat → Int32) (MA : Nat → Nat → Int32), JR X Qf 4 room_1.cells room_1.slots (lc_4 kk L sc qS i qb qs tr fa fr rb rl ra wl WS BI BA SI SA LN SZ CE MI MA) (wdX cI cS q qb qs qS qC (qb 0) (qs 0) tr fa fr rb rl ra wl WS BI BA SI SA LN SZ CE ++ wdM cI p MI MA) [(0, .ref b), (1, .ref (q 0)), (2, .ref (p 0)), (3, .int i)] 322 [] := by
  intro qb qs tr fa fr rb rl ra wl WS BI BA SI SA LN SZ CE MI MA
  unfold lc_4
  refine r_aload_n (pc := 322) C 1 dL_law_322 rfl rfl ?_
  refine r_aload_n (pc := 323) C 0 dL_law_323 rfl rfl ?_
  refine r_iload_n (pc := 324) C 3 dL_law_324 rfl rfl ?_
  refine r_iconst (pc := 325) C dL_law_325 (ci_1) ?_
  refine r_iadd (pc := 326) C dL_law_326 ?_
  refine r_sld (pc := 327) C hX dL_law_327 ?_
  refine r_callV (pc := 328) (rest := []) C isX (fun r328 => wdX cI cS q qb qs qS qC (qb 0) (qs 0) tr fa fr rb rl ra wl WS r328.2 BA SI SA LN SZ CE ++ wdM cI p MI MA) (m_X4_law (xl X) (xD X) cI cS q qb qs qS qC tr fa fr rb rl ra wl WS BI BA SI SA LN SZ CE (sc (i + (1 : Int32)).toNatClampNeg)) mv_L_32 cutX ndX (fun _ => setX) (fun _ => adrX) rfl rfl rfl ⟨Nat.le_refl _, Nat.le_refl _⟩ rfl rfl (Nat.le_of_ble_eq_true rfl) dL_law_328 (fun r328 => ?_)
  refine r_aload_n (pc := 331) C 2 dL_law_331 rfl rfl ?_
  refine r_aload_n (pc := 332) C 0 dL_law_332 rfl rfl ?_
  refine r_iload_n (pc := 333) C 3 dL_law_333 rfl rfl ?_
  refine r_iconst (pc := 334) C dL_law_334 (ci_1) ?_
  refine r_iadd (pc := 335) C dL_law_335 ?_
  refine r_sld (pc := 336) C hX dL_law_336 ?_
  refine r_callV (pc := 337) (rest := [.int r328.1]) C isM (fun r337 => wdX cI cS q qb qs qS qC (qb 0) (qs 0) tr fa fr rb rl ra wl WS r328.2 BA SI SA LN SZ CE ++ wdM cI p r337.2 MA) (m_X5_law (xl X) (xD X) cI cS p MI MA (sc (i + (1 : Int32)).toNatClampNeg)) mv_L_35 cutM ndM (fun _ => setM) (fun _ => adrM) rfl rfl rfl ⟨Nat.le_refl _, Nat.le_refl _⟩ rfl rfl (Nat.le_of_ble_eq_true rfl) dL_law_337 (fun r337 => ?_)
  refine r_icmp_eq (pc := 340) (tgt := 1250) C dL_law_340 (by decide) ?_ ?_
  · exact r_sub [0, 1, 2, 3] rfl (hk qb qs tr fa fr rb rl ra wl WS r328.2 BA SI SA LN SZ CE r337.2 MA)
  · exact r_none
set_option maxHeartbeats 4000000 in
set_option maxRecDepth 100000 in
theorem wc_5 {cI cS : ClassId} {X : CX} {Qf : Unit → State → Prop} (C : Cx X RL cL_law 4 ret room_1 (tyz cI cS)) {b L : Nat} {sc : Nat → Int32} (hX : Scr X b L sc) {q qS qC p : Nat → Nat} (i : Int32) (kk : (Nat → Nat) → (Nat → Nat) → Int32 → Int32 → Option Nat → Int32 → Int32 → Int32 → Int32 → (Nat → Int32) → (Nat → Int32) → (Nat → Nat → Int32) → (Nat → Int32) → (Nat → Nat → Int32) → (Nat → Int32) → (Nat → Int32) → (Nat → Nat → Int32) → (Nat → Int32) → (Nat → Nat → Int32) → Option Unit) (hk : ∀ (qb : Nat → Nat) (qs : Nat → Nat) (tr : Int32) (fa : Int32) (fr : Option Nat) (rb : Int32) (rl : Int32) (ra : Int32) (wl : Int32) (WS : Nat → Int32) (BI : Nat → Int32) (BA : Nat → Nat → Int32) (SI : Nat → Int32) (SA : Nat → Nat → Int32) (LN : Nat → Int32) (SZ : Nat → Int32) (CE : Nat → Nat → Int32) (MI : Nat → Int32) (MA : Nat → Nat → Int32), JR X Qf 4 room_1.cells room_1.slots (kk qb qs tr fa fr rb rl ra wl WS BI BA SI SA LN SZ CE MI MA) (wdX cI cS q qb qs qS qC (qb 0) (qs 0) tr fa fr rb rl ra wl WS BI BA SI SA LN SZ CE ++ wdM cI p MI MA) [(0, .ref b), (1, .ref (q 0)), (2, .ref (p 0)), (3, .int i)] 1250 []) : ∀ (qb : Nat → Nat) (qs : Nat → Nat) (tr : Int32) (fa : Int32) (fr : Option Nat) (rb : Int32) (rl : Int32) (ra : Int32) (wl : Int32) (WS : Nat → Int32) (BI : Nat → Int32) (BA : Nat → Nat → Int32) (SI : Nat → Int32) (SA : Nat → Nat → Int32) (LN : Nat → Int32) (SZ : Nat → Int32) (CE : Nat → Nat → Int32) (MI : Nat → Int32) (MA : Nat → Nat → Int32), JR X Qf 4 room_1.cells room_1.slots (lc_5 kk L sc qS i qb qs tr fa fr rb rl ra wl WS BI BA SI SA LN SZ CE MI MA) (wdX cI cS q qb qs qS qC (qb 0) (qs 0) tr fa fr rb rl ra wl WS BI BA SI SA LN SZ CE ++ wdM cI p MI MA) [(0, .ref b), (1, .ref (q 0)), (2, .ref (p 0)), (3, .int i)] 345 [] := by
  intro qb qs tr fa fr rb rl ra wl WS BI BA SI SA LN SZ CE MI MA
  unfold lc_5
  refine r_aload_n (pc := 345) C 1 dL_law_345 rfl rfl ?_
  refine r_aload_n (pc := 346) C 0 dL_law_346 rfl rfl ?_
  refine r_iload_n (pc := 347) C 3 dL_law_347 rfl rfl ?_
  refine r_iconst (pc := 348) C dL_law_348 (ci_1) ?_
  refine r_iadd (pc := 349) C dL_law_349 ?_
  refine r_sld (pc := 350) C hX dL_law_350 ?_
  refine r_aload_n (pc := 351) C 0 dL_law_351 rfl rfl ?_
  refine r_iload_n (pc := 352) C 3 dL_law_352 rfl rfl ?_
  refine r_iconst (pc := 353) C dL_law_353 (ci_2) ?_
  refine r_iadd (pc := 354) C dL_law_354 ?_
  refine r_sld (pc := 355) C hX dL_law_355 ?_
  refine r_callV (pc := 356) (rest := []) C isX (fun r356 => wdX cI cS q qb qs qS qC (qb 0) (qs 0) tr fa fr rb rl ra wl WS BI r356.2 SI SA LN SZ CE ++ wdM cI p MI MA) (m_X4_carry (xl X) (xD X) cI cS q qb qs qS qC tr fa fr rb rl ra wl WS BI BA SI SA LN SZ CE (sc (i + (1 : Int32)).toNatClampNeg) (sc (i + (2 : Int32)).toNatClampNeg)) mv_L_36 cutX ndX (fun _ => setX) (fun _ => adrX) rfl rfl rfl ⟨Nat.le_refl _, Nat.le_refl _⟩ rfl rfl (Nat.le_of_ble_eq_true rfl) dL_law_356 (fun r356 => ?_)
  refine r_aload_n (pc := 359) C 2 dL_law_359 rfl rfl ?_
  refine r_aload_n (pc := 360) C 0 dL_law_360 rfl rfl ?_
  refine r_iload_n (pc := 361) C 3 dL_law_361 rfl rfl ?_
  refine r_iconst (pc := 362) C dL_law_362 (ci_1) ?_
  refine r_iadd (pc := 363) C dL_law_363 ?_
  refine r_sld (pc := 364) C hX dL_law_364 ?_
  refine r_aload_n (pc := 365) C 0 dL_law_365 rfl rfl ?_
  refine r_iload_n (pc := 366) C 3 dL_law_366 rfl rfl ?_
  refine r_iconst (pc := 367) C dL_law_367 (ci_2) ?_
  refine r_iadd (pc := 368) C dL_law_368 ?_
  refine r_sld (pc := 369) C hX dL_law_369 ?_
  refine r_callV (pc := 370) (rest := [.int r356.1]) C isM (fun r370 => wdX cI cS q qb qs qS qC (qb 0) (qs 0) tr fa fr rb rl ra wl WS BI r356.2 SI SA LN SZ CE ++ wdM cI p MI r370.2) (m_X5_carry (xl X) (xD X) cI cS p MI MA (sc (i + (1 : Int32)).toNatClampNeg) (sc (i + (2 : Int32)).toNatClampNeg)) mv_L_39 cutM ndM (fun _ => setM) (fun _ => adrM) rfl rfl rfl ⟨Nat.le_refl _, Nat.le_refl _⟩ rfl rfl (Nat.le_of_ble_eq_true rfl) dL_law_370 (fun r370 => ?_)
  refine r_icmp_eq (pc := 373) (tgt := 1250) C dL_law_373 (by decide) ?_ ?_
  · exact r_sub [0, 1, 2, 3] rfl (hk qb qs tr fa fr rb rl ra wl WS BI r356.2 SI SA LN SZ CE MI r370.2)
  · exact r_none
set_option maxHeartbeats 4000000 in
set_option maxRecDepth 100000 in
theorem wc_6 {cI cS : ClassId} {X : CX} {Qf : Unit → State → Prop} (C : Cx X RL cL_law 4 ret room_1 (tyz cI cS)) {b L : Nat} {sc : Nat → Int32} (hX : Scr X b L sc) {q qS qC p : Nat → Nat} (i : Int32) (kk : (Nat → Nat) → (Nat → Nat) → Int32 → Int32 → Option Nat → Int32 → Int32 → Int32 → Int32 → (Nat → Int32) → (Nat → Int32) → (Nat → Nat → Int32) → (Nat → Int32) → (Nat → Nat → Int32) → (Nat → Int32) → (Nat → Int32) → (Nat → Nat → Int32) → (Nat → Int32) → (Nat → Nat → Int32) → Option Unit) (hk : ∀ (qb : Nat → Nat) (qs : Nat → Nat) (tr : Int32) (fa : Int32) (fr : Option Nat) (rb : Int32) (rl : Int32) (ra : Int32) (wl : Int32) (WS : Nat → Int32) (BI : Nat → Int32) (BA : Nat → Nat → Int32) (SI : Nat → Int32) (SA : Nat → Nat → Int32) (LN : Nat → Int32) (SZ : Nat → Int32) (CE : Nat → Nat → Int32) (MI : Nat → Int32) (MA : Nat → Nat → Int32), JR X Qf 4 room_1.cells room_1.slots (kk qb qs tr fa fr rb rl ra wl WS BI BA SI SA LN SZ CE MI MA) (wdX cI cS q qb qs qS qC (qb 0) (qs 0) tr fa fr rb rl ra wl WS BI BA SI SA LN SZ CE ++ wdM cI p MI MA) [(0, .ref b), (1, .ref (q 0)), (2, .ref (p 0)), (3, .int i)] 1250 []) : ∀ (qb : Nat → Nat) (qs : Nat → Nat) (tr : Int32) (fa : Int32) (fr : Option Nat) (rb : Int32) (rl : Int32) (ra : Int32) (wl : Int32) (WS : Nat → Int32) (BI : Nat → Int32) (BA : Nat → Nat → Int32) (SI : Nat → Int32) (SA : Nat → Nat → Int32) (LN : Nat → Int32) (SZ : Nat → Int32) (CE : Nat → Nat → Int32) (MI : Nat → Int32) (MA : Nat → Nat → Int32), JR X Qf 4 room_1.cells room_1.slots (lc_6 kk L sc qS i qb qs tr fa fr rb rl ra wl WS BI BA SI SA LN SZ CE MI MA) (wdX cI cS q qb qs qS qC (qb 0) (qs 0) tr fa fr rb rl ra wl WS BI BA SI SA LN SZ CE ++ wdM cI p MI MA) [(0, .ref b), (1, .ref (q 0)), (2, .ref (p 0)), (3, .int i)] 378 [] := by
  intro qb qs tr fa fr rb rl ra wl WS BI BA SI SA LN SZ CE MI MA
  unfold lc_6
  refine r_aload_n (pc := 378) C 1 dL_law_378 rfl rfl ?_
  refine r_aload_n (pc := 379) C 0 dL_law_379 rfl rfl ?_
  refine r_iload_n (pc := 380) C 3 dL_law_380 rfl rfl ?_
  refine r_iconst (pc := 381) C dL_law_381 (ci_1) ?_
  refine r_iadd (pc := 382) C dL_law_382 ?_
  refine r_sld (pc := 383) C hX dL_law_383 ?_
  refine r_aload_n (pc := 384) C 0 dL_law_384 rfl rfl ?_
  refine r_iload_n (pc := 385) C 3 dL_law_385 rfl rfl ?_
  refine r_iconst (pc := 386) C dL_law_386 (ci_2) ?_
  refine r_iadd (pc := 387) C dL_law_387 ?_
  refine r_sld (pc := 388) C hX dL_law_388 ?_
  refine r_if_eq (pc := 389) (tgt := 396) C dL_law_389 (by decide) ?_ ?_
  · refine r_iconst (pc := 396) C dL_law_396 (ci_0) ?_
    refine r_callV (pc := 397) (rest := []) C isX (fun r397 => wdX cI cS q qb qs qS qC (qb 0) (qs 0) tr fa fr rb rl ra wl WS r397.2 BA SI SA LN SZ CE ++ wdM cI p MI MA) (m_X4_declare (xl X) (xD X) cI cS q qb qs qS qC tr fa fr rb rl ra wl WS BI BA SI SA LN SZ CE (sc (i + (1 : Int32)).toNatClampNeg) (0 : Int32)) mv_L_40 cutX ndX (fun _ => setX) (fun _ => adrX) rfl rfl rfl ⟨Nat.le_refl _, Nat.le_refl _⟩ rfl rfl (Nat.le_of_ble_eq_true rfl) dL_law_397 (fun r397 => ?_)
    refine r_aload_n (pc := 400) C 2 dL_law_400 rfl rfl ?_
    refine r_aload_n (pc := 401) C 0 dL_law_401 rfl rfl ?_
    refine r_iload_n (pc := 402) C 3 dL_law_402 rfl rfl ?_
    refine r_iconst (pc := 403) C dL_law_403 (ci_1) ?_
    refine r_iadd (pc := 404) C dL_law_404 ?_
    refine r_sld (pc := 405) C hX dL_law_405 ?_
    refine r_aload_n (pc := 406) C 0 dL_law_406 rfl rfl ?_
    refine r_iload_n (pc := 407) C 3 dL_law_407 rfl rfl ?_
    refine r_iconst (pc := 408) C dL_law_408 (ci_2) ?_
    refine r_iadd (pc := 409) C dL_law_409 ?_
    refine r_sld (pc := 410) C hX dL_law_410 ?_
    refine r_if_eq (pc := 411) (tgt := 418) C dL_law_411 (by decide) ?_ ?_
    · refine r_iconst (pc := 418) C dL_law_418 (ci_0) ?_
      refine r_callV (pc := 419) (rest := [.int r397.1]) C isM (fun r419 => wdX cI cS q qb qs qS qC (qb 0) (qs 0) tr fa fr rb rl ra wl WS r397.2 BA SI SA LN SZ CE ++ wdM cI p r419.2 MA) (m_X5_declare (xl X) (xD X) cI cS p MI MA (sc (i + (1 : Int32)).toNatClampNeg) (0 : Int32)) mv_L_44 cutM ndM (fun _ => setM) (fun _ => adrM) rfl rfl rfl ⟨Nat.le_refl _, Nat.le_refl _⟩ rfl rfl (Nat.le_of_ble_eq_true rfl) dL_law_419 (fun r419 => ?_)
      refine r_icmp_eq (pc := 422) (tgt := 1250) C dL_law_422 (by decide) ?_ ?_
      · exact r_sub [0, 1, 2, 3] rfl (hk qb qs tr fa fr rb rl ra wl WS r397.2 BA SI SA LN SZ CE r419.2 MA)
      · exact r_none
    · refine r_iconst (pc := 414) C dL_law_414 (ci_1) ?_
      refine r_goto (pc := 415) (tgt := 419) C dL_law_415 (by decide) ?_
      refine r_callV (pc := 419) (rest := [.int r397.1]) C isM (fun r419 => wdX cI cS q qb qs qS qC (qb 0) (qs 0) tr fa fr rb rl ra wl WS r397.2 BA SI SA LN SZ CE ++ wdM cI p r419.2 MA) (m_X5_declare (xl X) (xD X) cI cS p MI MA (sc (i + (1 : Int32)).toNatClampNeg) (1 : Int32)) mv_L_44 cutM ndM (fun _ => setM) (fun _ => adrM) rfl rfl rfl ⟨Nat.le_refl _, Nat.le_refl _⟩ rfl rfl (Nat.le_of_ble_eq_true rfl) dL_law_419 (fun r419 => ?_)
      refine r_icmp_eq (pc := 422) (tgt := 1250) C dL_law_422 (by decide) ?_ ?_
      · exact r_sub [0, 1, 2, 3] rfl (hk qb qs tr fa fr rb rl ra wl WS r397.2 BA SI SA LN SZ CE r419.2 MA)
      · exact r_none
  · refine r_iconst (pc := 392) C dL_law_392 (ci_1) ?_
    refine r_goto (pc := 393) (tgt := 397) C dL_law_393 (by decide) ?_
    refine r_callV (pc := 397) (rest := []) C isX (fun r397 => wdX cI cS q qb qs qS qC (qb 0) (qs 0) tr fa fr rb rl ra wl WS r397.2 BA SI SA LN SZ CE ++ wdM cI p MI MA) (m_X4_declare (xl X) (xD X) cI cS q qb qs qS qC tr fa fr rb rl ra wl WS BI BA SI SA LN SZ CE (sc (i + (1 : Int32)).toNatClampNeg) (1 : Int32)) mv_L_40 cutX ndX (fun _ => setX) (fun _ => adrX) rfl rfl rfl ⟨Nat.le_refl _, Nat.le_refl _⟩ rfl rfl (Nat.le_of_ble_eq_true rfl) dL_law_397 (fun r397 => ?_)
    refine r_aload_n (pc := 400) C 2 dL_law_400 rfl rfl ?_
    refine r_aload_n (pc := 401) C 0 dL_law_401 rfl rfl ?_
    refine r_iload_n (pc := 402) C 3 dL_law_402 rfl rfl ?_
    refine r_iconst (pc := 403) C dL_law_403 (ci_1) ?_
    refine r_iadd (pc := 404) C dL_law_404 ?_
    refine r_sld (pc := 405) C hX dL_law_405 ?_
    refine r_aload_n (pc := 406) C 0 dL_law_406 rfl rfl ?_
    refine r_iload_n (pc := 407) C 3 dL_law_407 rfl rfl ?_
    refine r_iconst (pc := 408) C dL_law_408 (ci_2) ?_
    refine r_iadd (pc := 409) C dL_law_409 ?_
    refine r_sld (pc := 410) C hX dL_law_410 ?_
    refine r_if_eq (pc := 411) (tgt := 418) C dL_law_411 (by decide) ?_ ?_
    · refine r_iconst (pc := 418) C dL_law_418 (ci_0) ?_
      refine r_callV (pc := 419) (rest := [.int r397.1]) C isM (fun r419 => wdX cI cS q qb qs qS qC (qb 0) (qs 0) tr fa fr rb rl ra wl WS r397.2 BA SI SA LN SZ CE ++ wdM cI p r419.2 MA) (m_X5_declare (xl X) (xD X) cI cS p MI MA (sc (i + (1 : Int32)).toNatClampNeg) (0 : Int32)) mv_L_44 cutM ndM (fun _ => setM) (fun _ => adrM) rfl rfl rfl ⟨Nat.le_refl _, Nat.le_refl _⟩ rfl rfl (Nat.le_of_ble_eq_true rfl) dL_law_419 (fun r419 => ?_)
      refine r_icmp_eq (pc := 422) (tgt := 1250) C dL_law_422 (by decide) ?_ ?_
      · exact r_sub [0, 1, 2, 3] rfl (hk qb qs tr fa fr rb rl ra wl WS r397.2 BA SI SA LN SZ CE r419.2 MA)
      · exact r_none
    · refine r_iconst (pc := 414) C dL_law_414 (ci_1) ?_
      refine r_goto (pc := 415) (tgt := 419) C dL_law_415 (by decide) ?_
      refine r_callV (pc := 419) (rest := [.int r397.1]) C isM (fun r419 => wdX cI cS q qb qs qS qC (qb 0) (qs 0) tr fa fr rb rl ra wl WS r397.2 BA SI SA LN SZ CE ++ wdM cI p r419.2 MA) (m_X5_declare (xl X) (xD X) cI cS p MI MA (sc (i + (1 : Int32)).toNatClampNeg) (1 : Int32)) mv_L_44 cutM ndM (fun _ => setM) (fun _ => adrM) rfl rfl rfl ⟨Nat.le_refl _, Nat.le_refl _⟩ rfl rfl (Nat.le_of_ble_eq_true rfl) dL_law_419 (fun r419 => ?_)
      refine r_icmp_eq (pc := 422) (tgt := 1250) C dL_law_422 (by decide) ?_ ?_
      · exact r_sub [0, 1, 2, 3] rfl (hk qb qs tr fa fr rb rl ra wl WS r397.2 BA SI SA LN SZ CE r419.2 MA)
      · exact r_none
set_option maxHeartbeats 4000000 in
set_option maxRecDepth 100000 in
theorem wc_7 {cI cS : ClassId} {X : CX} {Qf : Unit → State → Prop} (C : Cx X RL cL_law 4 ret room_1 (tyz cI cS)) {b L : Nat} {sc : Nat → Int32} (hX : Scr X b L sc) {q qS qC p : Nat → Nat} (i : Int32) (kk : (Nat → Nat) → (Nat → Nat) → Int32 → Int32 → Option Nat → Int32 → Int32 → Int32 → Int32 → (Nat → Int32) → (Nat → Int32) → (Nat → Nat → Int32) → (Nat → Int32) → (Nat → Nat → Int32) → (Nat → Int32) → (Nat → Int32) → (Nat → Nat → Int32) → (Nat → Int32) → (Nat → Nat → Int32) → Option Unit) (hk : ∀ (qb : Nat → Nat) (qs : Nat → Nat) (tr : Int32) (fa : Int32) (fr : Option Nat) (rb : Int32) (rl : Int32) (ra : Int32) (wl : Int32) (WS : Nat → Int32) (BI : Nat → Int32) (BA : Nat → Nat → Int32) (SI : Nat → Int32) (SA : Nat → Nat → Int32) (LN : Nat → Int32) (SZ : Nat → Int32) (CE : Nat → Nat → Int32) (MI : Nat → Int32) (MA : Nat → Nat → Int32), JR X Qf 4 room_1.cells room_1.slots (kk qb qs tr fa fr rb rl ra wl WS BI BA SI SA LN SZ CE MI MA) (wdX cI cS q qb qs qS qC (qb 0) (qs 0) tr fa fr rb rl ra wl WS BI BA SI SA LN SZ CE ++ wdM cI p MI MA) [(0, .ref b), (1, .ref (q 0)), (2, .ref (p 0)), (3, .int i)] 1250 []) : ∀ (qb : Nat → Nat) (qs : Nat → Nat) (tr : Int32) (fa : Int32) (fr : Option Nat) (rb : Int32) (rl : Int32) (ra : Int32) (wl : Int32) (WS : Nat → Int32) (BI : Nat → Int32) (BA : Nat → Nat → Int32) (SI : Nat → Int32) (SA : Nat → Nat → Int32) (LN : Nat → Int32) (SZ : Nat → Int32) (CE : Nat → Nat → Int32) (MI : Nat → Int32) (MA : Nat → Nat → Int32), JR X Qf 4 room_1.cells room_1.slots (lc_7 kk L sc qS i qb qs tr fa fr rb rl ra wl WS BI BA SI SA LN SZ CE MI MA) (wdX cI cS q qb qs qS qC (qb 0) (qs 0) tr fa fr rb rl ra wl WS BI BA SI SA LN SZ CE ++ wdM cI p MI MA) [(0, .ref b), (1, .ref (q 0)), (2, .ref (p 0)), (3, .int i)] 427 [] := by
  intro qb qs tr fa fr rb rl ra wl WS BI BA SI SA LN SZ CE MI MA
  unfold lc_7
  refine r_aload_n (pc := 427) C 1 dL_law_427 rfl rfl ?_
  refine r_aload_n (pc := 428) C 0 dL_law_428 rfl rfl ?_
  refine r_iload_n (pc := 429) C 3 dL_law_429 rfl rfl ?_
  refine r_iconst (pc := 430) C dL_law_430 (ci_1) ?_
  refine r_iadd (pc := 431) C dL_law_431 ?_
  refine r_sld (pc := 432) C hX dL_law_432 ?_
  refine r_aload_n (pc := 433) C 0 dL_law_433 rfl rfl ?_
  refine r_iload_n (pc := 434) C 3 dL_law_434 rfl rfl ?_
  refine r_iconst (pc := 435) C dL_law_435 (ci_2) ?_
  refine r_iadd (pc := 436) C dL_law_436 ?_
  refine r_sld (pc := 437) C hX dL_law_437 ?_
  refine r_callV (pc := 438) (rest := []) C isX (fun r438 => wdX cI cS q qb qs qS qC (qb 0) (qs 0) tr fa fr rb rl ra wl WS BI r438.2 SI SA LN SZ CE ++ wdM cI p MI MA) (m_X4_hum (xl X) (xD X) cI cS q qb qs qS qC tr fa fr rb rl ra wl WS BI BA SI SA LN SZ CE (sc (i + (1 : Int32)).toNatClampNeg) (sc (i + (2 : Int32)).toNatClampNeg)) mv_L_45 cutX ndX (fun _ => setX) (fun _ => adrX) rfl rfl rfl ⟨Nat.le_refl _, Nat.le_refl _⟩ rfl rfl (Nat.le_of_ble_eq_true rfl) dL_law_438 (fun r438 => ?_)
  refine r_aload_n (pc := 441) C 2 dL_law_441 rfl rfl ?_
  refine r_aload_n (pc := 442) C 0 dL_law_442 rfl rfl ?_
  refine r_iload_n (pc := 443) C 3 dL_law_443 rfl rfl ?_
  refine r_iconst (pc := 444) C dL_law_444 (ci_1) ?_
  refine r_iadd (pc := 445) C dL_law_445 ?_
  refine r_sld (pc := 446) C hX dL_law_446 ?_
  refine r_aload_n (pc := 447) C 0 dL_law_447 rfl rfl ?_
  refine r_iload_n (pc := 448) C 3 dL_law_448 rfl rfl ?_
  refine r_iconst (pc := 449) C dL_law_449 (ci_2) ?_
  refine r_iadd (pc := 450) C dL_law_450 ?_
  refine r_sld (pc := 451) C hX dL_law_451 ?_
  refine r_callV (pc := 452) (rest := [.int r438.1]) C isM (fun r452 => wdX cI cS q qb qs qS qC (qb 0) (qs 0) tr fa fr rb rl ra wl WS BI r438.2 SI SA LN SZ CE ++ wdM cI p MI r452.2) (m_X5_hum (xl X) (xD X) cI cS p MI MA (sc (i + (1 : Int32)).toNatClampNeg) (sc (i + (2 : Int32)).toNatClampNeg)) mv_L_48 cutM ndM (fun _ => setM) (fun _ => adrM) rfl rfl rfl ⟨Nat.le_refl _, Nat.le_refl _⟩ rfl rfl (Nat.le_of_ble_eq_true rfl) dL_law_452 (fun r452 => ?_)
  refine r_icmp_eq (pc := 455) (tgt := 1250) C dL_law_455 (by decide) ?_ ?_
  · exact r_sub [0, 1, 2, 3] rfl (hk qb qs tr fa fr rb rl ra wl WS BI r438.2 SI SA LN SZ CE MI r452.2)
  · exact r_none
set_option maxHeartbeats 4000000 in
set_option maxRecDepth 100000 in
theorem wc_8 {cI cS : ClassId} {X : CX} {Qf : Unit → State → Prop} (C : Cx X RL cL_law 4 ret room_1 (tyz cI cS)) {b L : Nat} {sc : Nat → Int32} (hX : Scr X b L sc) {q qS qC p : Nat → Nat} (i : Int32) (kk : (Nat → Nat) → (Nat → Nat) → Int32 → Int32 → Option Nat → Int32 → Int32 → Int32 → Int32 → (Nat → Int32) → (Nat → Int32) → (Nat → Nat → Int32) → (Nat → Int32) → (Nat → Nat → Int32) → (Nat → Int32) → (Nat → Int32) → (Nat → Nat → Int32) → (Nat → Int32) → (Nat → Nat → Int32) → Option Unit) (hk : ∀ (qb : Nat → Nat) (qs : Nat → Nat) (tr : Int32) (fa : Int32) (fr : Option Nat) (rb : Int32) (rl : Int32) (ra : Int32) (wl : Int32) (WS : Nat → Int32) (BI : Nat → Int32) (BA : Nat → Nat → Int32) (SI : Nat → Int32) (SA : Nat → Nat → Int32) (LN : Nat → Int32) (SZ : Nat → Int32) (CE : Nat → Nat → Int32) (MI : Nat → Int32) (MA : Nat → Nat → Int32), JR X Qf 4 room_1.cells room_1.slots (kk qb qs tr fa fr rb rl ra wl WS BI BA SI SA LN SZ CE MI MA) (wdX cI cS q qb qs qS qC (qb 0) (qs 0) tr fa fr rb rl ra wl WS BI BA SI SA LN SZ CE ++ wdM cI p MI MA) [(0, .ref b), (1, .ref (q 0)), (2, .ref (p 0)), (3, .int i)] 1250 []) : ∀ (qb : Nat → Nat) (qs : Nat → Nat) (tr : Int32) (fa : Int32) (fr : Option Nat) (rb : Int32) (rl : Int32) (ra : Int32) (wl : Int32) (WS : Nat → Int32) (BI : Nat → Int32) (BA : Nat → Nat → Int32) (SI : Nat → Int32) (SA : Nat → Nat → Int32) (LN : Nat → Int32) (SZ : Nat → Int32) (CE : Nat → Nat → Int32) (MI : Nat → Int32) (MA : Nat → Nat → Int32), JR X Qf 4 room_1.cells room_1.slots (lc_8 kk L sc qS i qb qs tr fa fr rb rl ra wl WS BI BA SI SA LN SZ CE MI MA) (wdX cI cS q qb qs qS qC (qb 0) (qs 0) tr fa fr rb rl ra wl WS BI BA SI SA LN SZ CE ++ wdM cI p MI MA) [(0, .ref b), (1, .ref (q 0)), (2, .ref (p 0)), (3, .int i)] 460 [] := by
  intro qb qs tr fa fr rb rl ra wl WS BI BA SI SA LN SZ CE MI MA
  unfold lc_8
  refine r_aload_n (pc := 460) C 1 dL_law_460 rfl rfl ?_
  refine r_aload_n (pc := 461) C 0 dL_law_461 rfl rfl ?_
  refine r_iload_n (pc := 462) C 3 dL_law_462 rfl rfl ?_
  refine r_iconst (pc := 463) C dL_law_463 (ci_1) ?_
  refine r_iadd (pc := 464) C dL_law_464 ?_
  refine r_sld (pc := 465) C hX dL_law_465 ?_
  refine r_callVr (pc := 466) (rest := []) C isX (m_X4_duty (xl X) (xD X) cI cS q qb qs qS qC tr fa fr rb rl ra wl WS BI BA SI SA LN SZ CE (sc (i + (1 : Int32)).toNatClampNeg)) mv_L_49 cutX ndX rfl rfl rfl ⟨Nat.le_refl _, Nat.le_refl _⟩ rfl rfl (Nat.le_of_ble_eq_true rfl) dL_law_466 (fun r466 => ?_)
  refine r_aload_n (pc := 469) C 2 dL_law_469 rfl rfl ?_
  refine r_aload_n (pc := 470) C 0 dL_law_470 rfl rfl ?_
  refine r_iload_n (pc := 471) C 3 dL_law_471 rfl rfl ?_
  refine r_iconst (pc := 472) C dL_law_472 (ci_1) ?_
  refine r_iadd (pc := 473) C dL_law_473 ?_
  refine r_sld (pc := 474) C hX dL_law_474 ?_
  refine r_callVr (pc := 475) (rest := [.int r466]) C isM (m_X5_duty (xl X) (xD X) cI cS p MI MA (sc (i + (1 : Int32)).toNatClampNeg)) mv_L_52 cutM ndM rfl rfl rfl ⟨Nat.le_refl _, Nat.le_refl _⟩ rfl rfl (Nat.le_of_ble_eq_true rfl) dL_law_475 (fun r475 => ?_)
  refine r_icmp_eq (pc := 478) (tgt := 1250) C dL_law_478 (by decide) ?_ ?_
  · exact r_sub [0, 1, 2, 3] rfl (hk qb qs tr fa fr rb rl ra wl WS BI BA SI SA LN SZ CE MI MA)
  · exact r_none
set_option maxHeartbeats 4000000 in
set_option maxRecDepth 100000 in
theorem wc_9 {cI cS : ClassId} {X : CX} {Qf : Unit → State → Prop} (C : Cx X RL cL_law 4 ret room_1 (tyz cI cS)) {b L : Nat} {sc : Nat → Int32} (hX : Scr X b L sc) {q qS qC p : Nat → Nat} (i : Int32) (kk : (Nat → Nat) → (Nat → Nat) → Int32 → Int32 → Option Nat → Int32 → Int32 → Int32 → Int32 → (Nat → Int32) → (Nat → Int32) → (Nat → Nat → Int32) → (Nat → Int32) → (Nat → Nat → Int32) → (Nat → Int32) → (Nat → Int32) → (Nat → Nat → Int32) → (Nat → Int32) → (Nat → Nat → Int32) → Option Unit) (hk : ∀ (qb : Nat → Nat) (qs : Nat → Nat) (tr : Int32) (fa : Int32) (fr : Option Nat) (rb : Int32) (rl : Int32) (ra : Int32) (wl : Int32) (WS : Nat → Int32) (BI : Nat → Int32) (BA : Nat → Nat → Int32) (SI : Nat → Int32) (SA : Nat → Nat → Int32) (LN : Nat → Int32) (SZ : Nat → Int32) (CE : Nat → Nat → Int32) (MI : Nat → Int32) (MA : Nat → Nat → Int32), JR X Qf 4 room_1.cells room_1.slots (kk qb qs tr fa fr rb rl ra wl WS BI BA SI SA LN SZ CE MI MA) (wdX cI cS q qb qs qS qC (qb 0) (qs 0) tr fa fr rb rl ra wl WS BI BA SI SA LN SZ CE ++ wdM cI p MI MA) [(0, .ref b), (1, .ref (q 0)), (2, .ref (p 0)), (3, .int i)] 1250 []) : ∀ (qb : Nat → Nat) (qs : Nat → Nat) (tr : Int32) (fa : Int32) (fr : Option Nat) (rb : Int32) (rl : Int32) (ra : Int32) (wl : Int32) (WS : Nat → Int32) (BI : Nat → Int32) (BA : Nat → Nat → Int32) (SI : Nat → Int32) (SA : Nat → Nat → Int32) (LN : Nat → Int32) (SZ : Nat → Int32) (CE : Nat → Nat → Int32) (MI : Nat → Int32) (MA : Nat → Nat → Int32), JR X Qf 4 room_1.cells room_1.slots (lc_9 kk L sc qS i qb qs tr fa fr rb rl ra wl WS BI BA SI SA LN SZ CE MI MA) (wdX cI cS q qb qs qS qC (qb 0) (qs 0) tr fa fr rb rl ra wl WS BI BA SI SA LN SZ CE ++ wdM cI p MI MA) [(0, .ref b), (1, .ref (q 0)), (2, .ref (p 0)), (3, .int i)] 483 [] := by
  intro qb qs tr fa fr rb rl ra wl WS BI BA SI SA LN SZ CE MI MA
  unfold lc_9
  refine r_aload_n (pc := 483) C 1 dL_law_483 rfl rfl ?_
  refine r_aload_n (pc := 484) C 0 dL_law_484 rfl rfl ?_
  refine r_iload_n (pc := 485) C 3 dL_law_485 rfl rfl ?_
  refine r_iconst (pc := 486) C dL_law_486 (ci_1) ?_
  refine r_iadd (pc := 487) C dL_law_487 ?_
  refine r_sld (pc := 488) C hX dL_law_488 ?_
  refine r_aload_n (pc := 489) C 0 dL_law_489 rfl rfl ?_
  refine r_iload_n (pc := 490) C 3 dL_law_490 rfl rfl ?_
  refine r_iconst (pc := 491) C dL_law_491 (ci_2) ?_
  refine r_iadd (pc := 492) C dL_law_492 ?_
  refine r_sld (pc := 493) C hX dL_law_493 ?_
  refine r_callVr (pc := 494) (rest := []) C isX (m_X4_clear (xl X) (xD X) cI cS q qb qs qS qC tr fa fr rb rl ra wl WS BI BA SI SA LN SZ CE (sc (i + (1 : Int32)).toNatClampNeg) (sc (i + (2 : Int32)).toNatClampNeg)) mv_L_53 cutX ndX rfl rfl rfl ⟨Nat.le_refl _, Nat.le_refl _⟩ rfl rfl (Nat.le_of_ble_eq_true rfl) dL_law_494 (fun r494 => ?_)
  refine r_aload_n (pc := 497) C 2 dL_law_497 rfl rfl ?_
  refine r_aload_n (pc := 498) C 0 dL_law_498 rfl rfl ?_
  refine r_iload_n (pc := 499) C 3 dL_law_499 rfl rfl ?_
  refine r_iconst (pc := 500) C dL_law_500 (ci_1) ?_
  refine r_iadd (pc := 501) C dL_law_501 ?_
  refine r_sld (pc := 502) C hX dL_law_502 ?_
  refine r_aload_n (pc := 503) C 0 dL_law_503 rfl rfl ?_
  refine r_iload_n (pc := 504) C 3 dL_law_504 rfl rfl ?_
  refine r_iconst (pc := 505) C dL_law_505 (ci_2) ?_
  refine r_iadd (pc := 506) C dL_law_506 ?_
  refine r_sld (pc := 507) C hX dL_law_507 ?_
  refine r_callVr (pc := 508) (rest := [.long r494]) C isM (m_X5_clear (xl X) (xD X) cI cS p MI MA (sc (i + (1 : Int32)).toNatClampNeg) (sc (i + (2 : Int32)).toNatClampNeg)) mv_L_57 cutM ndM rfl rfl rfl ⟨Nat.le_refl _, Nat.le_refl _⟩ rfl rfl (Nat.le_of_ble_eq_true rfl) dL_law_508 (fun r508 => ?_)
  refine r_lcmp (pc := 511) C dL_law_511 ?_
  refine r_if_eq (pc := 512) (tgt := 1250) C dL_law_512 (by decide) ?_ ?_
  · exact r_sub [0, 1, 2, 3] rfl (hk qb qs tr fa fr rb rl ra wl WS BI BA SI SA LN SZ CE MI MA)
  · exact r_none
set_option maxHeartbeats 4000000 in
set_option maxRecDepth 100000 in
theorem wc_10 {cI cS : ClassId} {X : CX} {Qf : Unit → State → Prop} (C : Cx X RL cL_law 4 ret room_1 (tyz cI cS)) {b L : Nat} {sc : Nat → Int32} (hX : Scr X b L sc) {q qS qC p : Nat → Nat} (i : Int32) (kk : (Nat → Nat) → (Nat → Nat) → Int32 → Int32 → Option Nat → Int32 → Int32 → Int32 → Int32 → (Nat → Int32) → (Nat → Int32) → (Nat → Nat → Int32) → (Nat → Int32) → (Nat → Nat → Int32) → (Nat → Int32) → (Nat → Int32) → (Nat → Nat → Int32) → (Nat → Int32) → (Nat → Nat → Int32) → Option Unit) (hk : ∀ (qb : Nat → Nat) (qs : Nat → Nat) (tr : Int32) (fa : Int32) (fr : Option Nat) (rb : Int32) (rl : Int32) (ra : Int32) (wl : Int32) (WS : Nat → Int32) (BI : Nat → Int32) (BA : Nat → Nat → Int32) (SI : Nat → Int32) (SA : Nat → Nat → Int32) (LN : Nat → Int32) (SZ : Nat → Int32) (CE : Nat → Nat → Int32) (MI : Nat → Int32) (MA : Nat → Nat → Int32), JR X Qf 4 room_1.cells room_1.slots (kk qb qs tr fa fr rb rl ra wl WS BI BA SI SA LN SZ CE MI MA) (wdX cI cS q qb qs qS qC (qb 0) (qs 0) tr fa fr rb rl ra wl WS BI BA SI SA LN SZ CE ++ wdM cI p MI MA) [(0, .ref b), (1, .ref (q 0)), (2, .ref (p 0)), (3, .int i)] 1250 []) : ∀ (qb : Nat → Nat) (qs : Nat → Nat) (tr : Int32) (fa : Int32) (fr : Option Nat) (rb : Int32) (rl : Int32) (ra : Int32) (wl : Int32) (WS : Nat → Int32) (BI : Nat → Int32) (BA : Nat → Nat → Int32) (SI : Nat → Int32) (SA : Nat → Nat → Int32) (LN : Nat → Int32) (SZ : Nat → Int32) (CE : Nat → Nat → Int32) (MI : Nat → Int32) (MA : Nat → Nat → Int32), JR X Qf 4 room_1.cells room_1.slots (lc_10 kk L sc qS i qb qs tr fa fr rb rl ra wl WS BI BA SI SA LN SZ CE MI MA) (wdX cI cS q qb qs qS qC (qb 0) (qs 0) tr fa fr rb rl ra wl WS BI BA SI SA LN SZ CE ++ wdM cI p MI MA) [(0, .ref b), (1, .ref (q 0)), (2, .ref (p 0)), (3, .int i)] 517 [] := by
  intro qb qs tr fa fr rb rl ra wl WS BI BA SI SA LN SZ CE MI MA
  unfold lc_10
  refine r_aload_n (pc := 517) C 1 dL_law_517 rfl rfl ?_
  refine r_aload_n (pc := 518) C 0 dL_law_518 rfl rfl ?_
  refine r_iload_n (pc := 519) C 3 dL_law_519 rfl rfl ?_
  refine r_iconst (pc := 520) C dL_law_520 (ci_1) ?_
  refine r_iadd (pc := 521) C dL_law_521 ?_
  refine r_sld (pc := 522) C hX dL_law_522 ?_
  refine r_aload_n (pc := 523) C 0 dL_law_523 rfl rfl ?_
  refine r_iload_n (pc := 524) C 3 dL_law_524 rfl rfl ?_
  refine r_iconst (pc := 525) C dL_law_525 (ci_2) ?_
  refine r_iadd (pc := 526) C dL_law_526 ?_
  refine r_sld (pc := 527) C hX dL_law_527 ?_
  refine r_aload_n (pc := 528) C 0 dL_law_528 rfl rfl ?_
  refine r_iload_n (pc := 529) C 3 dL_law_529 rfl rfl ?_
  refine r_iconst (pc := 530) C dL_law_530 (ci_3) ?_
  refine r_iadd (pc := 531) C dL_law_531 ?_
  refine r_sld (pc := 532) C hX dL_law_532 ?_
  refine r_aload_n (pc := 533) C 0 dL_law_533 rfl rfl ?_
  refine r_iload_n (pc := 534) C 3 dL_law_534 rfl rfl ?_
  refine r_iconst (pc := 535) C dL_law_535 (ci_4) ?_
  refine r_iadd (pc := 536) C dL_law_536 ?_
  refine r_sld (pc := 537) C hX dL_law_537 ?_
  refine r_aload_n (pc := 538) C 0 dL_law_538 rfl rfl ?_
  refine r_iload_n (pc := 539) C 3 dL_law_539 rfl rfl ?_
  refine r_iconst (pc := 540) C dL_law_540 (ci_5) ?_
  refine r_iadd (pc := 541) C dL_law_541 ?_
  refine r_sld (pc := 542) C hX dL_law_542 ?_
  refine r_callV (pc := 543) (rest := []) C isX (fun r543 => wdX cI cS q qb qs qS qC (qb 0) (qs 0) tr r543.2.1 fr rb rl ra r543.2.2.1 r543.2.2.2 BI BA SI SA LN SZ CE ++ wdM cI p MI MA) (m_X4_cost (xl X) (xD X) cI cS q qb qs qS qC tr fa fr rb rl ra wl WS BI BA SI SA LN SZ CE (sc (i + (1 : Int32)).toNatClampNeg) (sc (i + (2 : Int32)).toNatClampNeg) (sc (i + (3 : Int32)).toNatClampNeg) (sc (i + (4 : Int32)).toNatClampNeg) (sc (i + (5 : Int32)).toNatClampNeg)) mv_L_58 cutX ndX (fun _ => setX) (fun _ => adrX) rfl rfl rfl ⟨Nat.le_refl _, Nat.le_refl _⟩ rfl rfl (Nat.le_of_ble_eq_true rfl) dL_law_543 (fun r543 => ?_)
  refine r_aload_n (pc := 546) C 2 dL_law_546 rfl rfl ?_
  refine r_aload_n (pc := 547) C 0 dL_law_547 rfl rfl ?_
  refine r_iload_n (pc := 548) C 3 dL_law_548 rfl rfl ?_
  refine r_iconst (pc := 549) C dL_law_549 (ci_1) ?_
  refine r_iadd (pc := 550) C dL_law_550 ?_
  refine r_sld (pc := 551) C hX dL_law_551 ?_
  refine r_aload_n (pc := 552) C 0 dL_law_552 rfl rfl ?_
  refine r_iload_n (pc := 553) C 3 dL_law_553 rfl rfl ?_
  refine r_iconst (pc := 554) C dL_law_554 (ci_2) ?_
  refine r_iadd (pc := 555) C dL_law_555 ?_
  refine r_sld (pc := 556) C hX dL_law_556 ?_
  refine r_aload_n (pc := 557) C 0 dL_law_557 rfl rfl ?_
  refine r_iload_n (pc := 558) C 3 dL_law_558 rfl rfl ?_
  refine r_iconst (pc := 559) C dL_law_559 (ci_3) ?_
  refine r_iadd (pc := 560) C dL_law_560 ?_
  refine r_sld (pc := 561) C hX dL_law_561 ?_
  refine r_aload_n (pc := 562) C 0 dL_law_562 rfl rfl ?_
  refine r_iload_n (pc := 563) C 3 dL_law_563 rfl rfl ?_
  refine r_iconst (pc := 564) C dL_law_564 (ci_4) ?_
  refine r_iadd (pc := 565) C dL_law_565 ?_
  refine r_sld (pc := 566) C hX dL_law_566 ?_
  refine r_aload_n (pc := 567) C 0 dL_law_567 rfl rfl ?_
  refine r_iload_n (pc := 568) C 3 dL_law_568 rfl rfl ?_
  refine r_iconst (pc := 569) C dL_law_569 (ci_5) ?_
  refine r_iadd (pc := 570) C dL_law_570 ?_
  refine r_sld (pc := 571) C hX dL_law_571 ?_
  refine r_callV (pc := 572) (rest := [.long r543.1]) C isM (fun r572 => wdX cI cS q qb qs qS qC (qb 0) (qs 0) tr r543.2.1 fr rb rl ra r543.2.2.1 r543.2.2.2 BI BA SI SA LN SZ CE ++ wdM cI p r572.2.1 r572.2.2) (m_X5_cost (xl X) (xD X) cI cS p MI MA (sc (i + (1 : Int32)).toNatClampNeg) (sc (i + (2 : Int32)).toNatClampNeg) (sc (i + (3 : Int32)).toNatClampNeg) (sc (i + (4 : Int32)).toNatClampNeg) (sc (i + (5 : Int32)).toNatClampNeg)) mv_L_62 cutM ndM (fun _ => setM) (fun _ => adrM) rfl rfl rfl ⟨Nat.le_refl _, Nat.le_refl _⟩ rfl rfl (Nat.le_of_ble_eq_true rfl) dL_law_572 (fun r572 => ?_)
  refine r_lcmp (pc := 575) C dL_law_575 ?_
  refine r_if_eq (pc := 576) (tgt := 1250) C dL_law_576 (by decide) ?_ ?_
  · exact r_sub [0, 1, 2, 3] rfl (hk qb qs tr r543.2.1 fr rb rl ra r543.2.2.1 r543.2.2.2 BI BA SI SA LN SZ CE r572.2.1 r572.2.2)
  · exact r_none
set_option maxHeartbeats 4000000 in
set_option maxRecDepth 100000 in
theorem wc_11 {cI cS : ClassId} {X : CX} {Qf : Unit → State → Prop} (C : Cx X RL cL_law 4 ret room_1 (tyz cI cS)) {b L : Nat} {sc : Nat → Int32} (hX : Scr X b L sc) {q qS qC p : Nat → Nat} (i : Int32) (kk : (Nat → Nat) → (Nat → Nat) → Int32 → Int32 → Option Nat → Int32 → Int32 → Int32 → Int32 → (Nat → Int32) → (Nat → Int32) → (Nat → Nat → Int32) → (Nat → Int32) → (Nat → Nat → Int32) → (Nat → Int32) → (Nat → Int32) → (Nat → Nat → Int32) → (Nat → Int32) → (Nat → Nat → Int32) → Option Unit) (hk : ∀ (qb : Nat → Nat) (qs : Nat → Nat) (tr : Int32) (fa : Int32) (fr : Option Nat) (rb : Int32) (rl : Int32) (ra : Int32) (wl : Int32) (WS : Nat → Int32) (BI : Nat → Int32) (BA : Nat → Nat → Int32) (SI : Nat → Int32) (SA : Nat → Nat → Int32) (LN : Nat → Int32) (SZ : Nat → Int32) (CE : Nat → Nat → Int32) (MI : Nat → Int32) (MA : Nat → Nat → Int32), JR X Qf 4 room_1.cells room_1.slots (kk qb qs tr fa fr rb rl ra wl WS BI BA SI SA LN SZ CE MI MA) (wdX cI cS q qb qs qS qC (qb 0) (qs 0) tr fa fr rb rl ra wl WS BI BA SI SA LN SZ CE ++ wdM cI p MI MA) [(0, .ref b), (1, .ref (q 0)), (2, .ref (p 0)), (3, .int i)] 1250 []) : ∀ (qb : Nat → Nat) (qs : Nat → Nat) (tr : Int32) (fa : Int32) (fr : Option Nat) (rb : Int32) (rl : Int32) (ra : Int32) (wl : Int32) (WS : Nat → Int32) (BI : Nat → Int32) (BA : Nat → Nat → Int32) (SI : Nat → Int32) (SA : Nat → Nat → Int32) (LN : Nat → Int32) (SZ : Nat → Int32) (CE : Nat → Nat → Int32) (MI : Nat → Int32) (MA : Nat → Nat → Int32), JR X Qf 4 room_1.cells room_1.slots (lc_11 kk L sc qS i qb qs tr fa fr rb rl ra wl WS BI BA SI SA LN SZ CE MI MA) (wdX cI cS q qb qs qS qC (qb 0) (qs 0) tr fa fr rb rl ra wl WS BI BA SI SA LN SZ CE ++ wdM cI p MI MA) [(0, .ref b), (1, .ref (q 0)), (2, .ref (p 0)), (3, .int i)] 581 [] := by
  intro qb qs tr fa fr rb rl ra wl WS BI BA SI SA LN SZ CE MI MA
  unfold lc_11
  refine r_aload_n (pc := 581) C 1 dL_law_581 rfl rfl ?_
  refine r_aload_n (pc := 582) C 0 dL_law_582 rfl rfl ?_
  refine r_iload_n (pc := 583) C 3 dL_law_583 rfl rfl ?_
  refine r_iconst (pc := 584) C dL_law_584 (ci_1) ?_
  refine r_iadd (pc := 585) C dL_law_585 ?_
  refine r_sld (pc := 586) C hX dL_law_586 ?_
  refine r_aload_n (pc := 587) C 0 dL_law_587 rfl rfl ?_
  refine r_iload_n (pc := 588) C 3 dL_law_588 rfl rfl ?_
  refine r_iconst (pc := 589) C dL_law_589 (ci_2) ?_
  refine r_iadd (pc := 590) C dL_law_590 ?_
  refine r_sld (pc := 591) C hX dL_law_591 ?_
  refine r_aload_n (pc := 592) C 0 dL_law_592 rfl rfl ?_
  refine r_iload_n (pc := 593) C 3 dL_law_593 rfl rfl ?_
  refine r_iconst (pc := 594) C dL_law_594 (ci_3) ?_
  refine r_iadd (pc := 595) C dL_law_595 ?_
  refine r_sld (pc := 596) C hX dL_law_596 ?_
  refine r_aload_n (pc := 597) C 0 dL_law_597 rfl rfl ?_
  refine r_iload_n (pc := 598) C 3 dL_law_598 rfl rfl ?_
  refine r_iconst (pc := 599) C dL_law_599 (ci_4) ?_
  refine r_iadd (pc := 600) C dL_law_600 ?_
  refine r_sld (pc := 601) C hX dL_law_601 ?_
  refine r_callV (pc := 602) (rest := []) C isX (fun r602 => wdX cI cS q qb qs qS qC (qb 0) (qs 0) tr r602.2.1 fr rb rl ra r602.2.2.1 r602.2.2.2.1 r602.2.2.2.2 BA SI SA LN SZ CE ++ wdM cI p MI MA) (m_X4_say (xl X) (xD X) cI cS q qb qs qS qC tr fa fr rb rl ra wl WS BI BA SI SA LN SZ CE (sc (i + (1 : Int32)).toNatClampNeg) (sc (i + (2 : Int32)).toNatClampNeg) (sc (i + (3 : Int32)).toNatClampNeg) (sc (i + (4 : Int32)).toNatClampNeg)) mv_L_63 cutX ndX (fun _ => setX) (fun _ => adrX) rfl rfl rfl ⟨Nat.le_refl _, Nat.le_refl _⟩ rfl rfl (Nat.le_of_ble_eq_true rfl) dL_law_602 (fun r602 => ?_)
  refine r_aload_n (pc := 605) C 2 dL_law_605 rfl rfl ?_
  refine r_aload_n (pc := 606) C 0 dL_law_606 rfl rfl ?_
  refine r_iload_n (pc := 607) C 3 dL_law_607 rfl rfl ?_
  refine r_iconst (pc := 608) C dL_law_608 (ci_1) ?_
  refine r_iadd (pc := 609) C dL_law_609 ?_
  refine r_sld (pc := 610) C hX dL_law_610 ?_
  refine r_aload_n (pc := 611) C 0 dL_law_611 rfl rfl ?_
  refine r_iload_n (pc := 612) C 3 dL_law_612 rfl rfl ?_
  refine r_iconst (pc := 613) C dL_law_613 (ci_2) ?_
  refine r_iadd (pc := 614) C dL_law_614 ?_
  refine r_sld (pc := 615) C hX dL_law_615 ?_
  refine r_aload_n (pc := 616) C 0 dL_law_616 rfl rfl ?_
  refine r_iload_n (pc := 617) C 3 dL_law_617 rfl rfl ?_
  refine r_iconst (pc := 618) C dL_law_618 (ci_3) ?_
  refine r_iadd (pc := 619) C dL_law_619 ?_
  refine r_sld (pc := 620) C hX dL_law_620 ?_
  refine r_aload_n (pc := 621) C 0 dL_law_621 rfl rfl ?_
  refine r_iload_n (pc := 622) C 3 dL_law_622 rfl rfl ?_
  refine r_iconst (pc := 623) C dL_law_623 (ci_4) ?_
  refine r_iadd (pc := 624) C dL_law_624 ?_
  refine r_sld (pc := 625) C hX dL_law_625 ?_
  refine r_callV (pc := 626) (rest := [.int r602.1]) C isM (fun r626 => wdX cI cS q qb qs qS qC (qb 0) (qs 0) tr r602.2.1 fr rb rl ra r602.2.2.1 r602.2.2.2.1 r602.2.2.2.2 BA SI SA LN SZ CE ++ wdM cI p r626.2.1 r626.2.2) (m_X5_say (xl X) (xD X) cI cS p MI MA (sc (i + (1 : Int32)).toNatClampNeg) (sc (i + (2 : Int32)).toNatClampNeg) (sc (i + (3 : Int32)).toNatClampNeg) (sc (i + (4 : Int32)).toNatClampNeg)) mv_L_66 cutM ndM (fun _ => setM) (fun _ => adrM) rfl rfl rfl ⟨Nat.le_refl _, Nat.le_refl _⟩ rfl rfl (Nat.le_of_ble_eq_true rfl) dL_law_626 (fun r626 => ?_)
  refine r_icmp_eq (pc := 629) (tgt := 1250) C dL_law_629 (by decide) ?_ ?_
  · exact r_sub [0, 1, 2, 3] rfl (hk qb qs tr r602.2.1 fr rb rl ra r602.2.2.1 r602.2.2.2.1 r602.2.2.2.2 BA SI SA LN SZ CE r626.2.1 r626.2.2)
  · exact r_none
set_option maxHeartbeats 4000000 in
set_option maxRecDepth 100000 in
theorem wc_12 {cI cS : ClassId} {X : CX} {Qf : Unit → State → Prop} (C : Cx X RL cL_law 4 ret room_1 (tyz cI cS)) {b L : Nat} {sc : Nat → Int32} (hX : Scr X b L sc) {q qS qC p : Nat → Nat} (i : Int32) (kk : (Nat → Nat) → (Nat → Nat) → Int32 → Int32 → Option Nat → Int32 → Int32 → Int32 → Int32 → (Nat → Int32) → (Nat → Int32) → (Nat → Nat → Int32) → (Nat → Int32) → (Nat → Nat → Int32) → (Nat → Int32) → (Nat → Int32) → (Nat → Nat → Int32) → (Nat → Int32) → (Nat → Nat → Int32) → Option Unit) (hk : ∀ (qb : Nat → Nat) (qs : Nat → Nat) (tr : Int32) (fa : Int32) (fr : Option Nat) (rb : Int32) (rl : Int32) (ra : Int32) (wl : Int32) (WS : Nat → Int32) (BI : Nat → Int32) (BA : Nat → Nat → Int32) (SI : Nat → Int32) (SA : Nat → Nat → Int32) (LN : Nat → Int32) (SZ : Nat → Int32) (CE : Nat → Nat → Int32) (MI : Nat → Int32) (MA : Nat → Nat → Int32), JR X Qf 4 room_1.cells room_1.slots (kk qb qs tr fa fr rb rl ra wl WS BI BA SI SA LN SZ CE MI MA) (wdX cI cS q qb qs qS qC (qb 0) (qs 0) tr fa fr rb rl ra wl WS BI BA SI SA LN SZ CE ++ wdM cI p MI MA) [(0, .ref b), (1, .ref (q 0)), (2, .ref (p 0)), (3, .int i)] 1250 []) : ∀ (qb : Nat → Nat) (qs : Nat → Nat) (tr : Int32) (fa : Int32) (fr : Option Nat) (rb : Int32) (rl : Int32) (ra : Int32) (wl : Int32) (WS : Nat → Int32) (BI : Nat → Int32) (BA : Nat → Nat → Int32) (SI : Nat → Int32) (SA : Nat → Nat → Int32) (LN : Nat → Int32) (SZ : Nat → Int32) (CE : Nat → Nat → Int32) (MI : Nat → Int32) (MA : Nat → Nat → Int32), JR X Qf 4 room_1.cells room_1.slots (lc_12 kk L sc qS i qb qs tr fa fr rb rl ra wl WS BI BA SI SA LN SZ CE MI MA) (wdX cI cS q qb qs qS qC (qb 0) (qs 0) tr fa fr rb rl ra wl WS BI BA SI SA LN SZ CE ++ wdM cI p MI MA) [(0, .ref b), (1, .ref (q 0)), (2, .ref (p 0)), (3, .int i)] 634 [] := by
  intro qb qs tr fa fr rb rl ra wl WS BI BA SI SA LN SZ CE MI MA
  unfold lc_12
  refine r_aload_n (pc := 634) C 1 dL_law_634 rfl rfl ?_
  refine r_aload_n (pc := 635) C 0 dL_law_635 rfl rfl ?_
  refine r_iload_n (pc := 636) C 3 dL_law_636 rfl rfl ?_
  refine r_iconst (pc := 637) C dL_law_637 (ci_1) ?_
  refine r_iadd (pc := 638) C dL_law_638 ?_
  refine r_sld (pc := 639) C hX dL_law_639 ?_
  refine r_callV (pc := 640) (rest := []) C isX (fun r640 => wdX cI cS q qb qs qS qC (qb 0) (qs 0) tr fa fr rb rl ra wl WS BI r640.2 SI SA LN SZ CE ++ wdM cI p MI MA) (m_X4_pack (xl X) (xD X) cI cS q qb qs qS qC tr fa fr rb rl ra wl WS BI BA SI SA LN SZ CE (sc (i + (1 : Int32)).toNatClampNeg)) mv_L_67 cutX ndX (fun _ => setX) (fun _ => adrX) rfl rfl rfl ⟨Nat.le_refl _, Nat.le_refl _⟩ rfl rfl (Nat.le_of_ble_eq_true rfl) dL_law_640 (fun r640 => ?_)
  refine r_aload_n (pc := 643) C 2 dL_law_643 rfl rfl ?_
  refine r_aload_n (pc := 644) C 0 dL_law_644 rfl rfl ?_
  refine r_iload_n (pc := 645) C 3 dL_law_645 rfl rfl ?_
  refine r_iconst (pc := 646) C dL_law_646 (ci_1) ?_
  refine r_iadd (pc := 647) C dL_law_647 ?_
  refine r_sld (pc := 648) C hX dL_law_648 ?_
  refine r_callV (pc := 649) (rest := [.int r640.1]) C isM (fun r649 => wdX cI cS q qb qs qS qC (qb 0) (qs 0) tr fa fr rb rl ra wl WS BI r640.2 SI SA LN SZ CE ++ wdM cI p MI r649.2) (m_X5_pack (xl X) (xD X) cI cS p MI MA (sc (i + (1 : Int32)).toNatClampNeg)) mv_L_70 cutM ndM (fun _ => setM) (fun _ => adrM) rfl rfl rfl ⟨Nat.le_refl _, Nat.le_refl _⟩ rfl rfl (Nat.le_of_ble_eq_true rfl) dL_law_649 (fun r649 => ?_)
  refine r_icmp_eq (pc := 652) (tgt := 1250) C dL_law_652 (by decide) ?_ ?_
  · exact r_sub [0, 1, 2, 3] rfl (hk qb qs tr fa fr rb rl ra wl WS BI r640.2 SI SA LN SZ CE MI r649.2)
  · exact r_none
set_option maxHeartbeats 4000000 in
set_option maxRecDepth 100000 in
theorem wc_13 {cI cS : ClassId} {X : CX} {Qf : Unit → State → Prop} (C : Cx X RL cL_law 4 ret room_1 (tyz cI cS)) {b L : Nat} {sc : Nat → Int32} (hX : Scr X b L sc) {q qS qC p : Nat → Nat} (i : Int32) (kk : (Nat → Nat) → (Nat → Nat) → Int32 → Int32 → Option Nat → Int32 → Int32 → Int32 → Int32 → (Nat → Int32) → (Nat → Int32) → (Nat → Nat → Int32) → (Nat → Int32) → (Nat → Nat → Int32) → (Nat → Int32) → (Nat → Int32) → (Nat → Nat → Int32) → (Nat → Int32) → (Nat → Nat → Int32) → Option Unit) (hk : ∀ (qb : Nat → Nat) (qs : Nat → Nat) (tr : Int32) (fa : Int32) (fr : Option Nat) (rb : Int32) (rl : Int32) (ra : Int32) (wl : Int32) (WS : Nat → Int32) (BI : Nat → Int32) (BA : Nat → Nat → Int32) (SI : Nat → Int32) (SA : Nat → Nat → Int32) (LN : Nat → Int32) (SZ : Nat → Int32) (CE : Nat → Nat → Int32) (MI : Nat → Int32) (MA : Nat → Nat → Int32), JR X Qf 4 room_1.cells room_1.slots (kk qb qs tr fa fr rb rl ra wl WS BI BA SI SA LN SZ CE MI MA) (wdX cI cS q qb qs qS qC (qb 0) (qs 0) tr fa fr rb rl ra wl WS BI BA SI SA LN SZ CE ++ wdM cI p MI MA) [(0, .ref b), (1, .ref (q 0)), (2, .ref (p 0)), (3, .int i)] 1250 []) : ∀ (qb : Nat → Nat) (qs : Nat → Nat) (tr : Int32) (fa : Int32) (fr : Option Nat) (rb : Int32) (rl : Int32) (ra : Int32) (wl : Int32) (WS : Nat → Int32) (BI : Nat → Int32) (BA : Nat → Nat → Int32) (SI : Nat → Int32) (SA : Nat → Nat → Int32) (LN : Nat → Int32) (SZ : Nat → Int32) (CE : Nat → Nat → Int32) (MI : Nat → Int32) (MA : Nat → Nat → Int32), JR X Qf 4 room_1.cells room_1.slots (lc_13 kk L sc qS i qb qs tr fa fr rb rl ra wl WS BI BA SI SA LN SZ CE MI MA) (wdX cI cS q qb qs qS qC (qb 0) (qs 0) tr fa fr rb rl ra wl WS BI BA SI SA LN SZ CE ++ wdM cI p MI MA) [(0, .ref b), (1, .ref (q 0)), (2, .ref (p 0)), (3, .int i)] 657 [] := by
  intro qb qs tr fa fr rb rl ra wl WS BI BA SI SA LN SZ CE MI MA
  unfold lc_13
  refine r_aload_n (pc := 657) C 1 dL_law_657 rfl rfl ?_
  refine r_callV (pc := 658) (rest := []) C isX (fun r658 => wdX cI cS q qb qs qS qC (qb 0) (qs 0) tr fa fr rb rl ra r658.2.1 r658.2.2 BI BA SI SA LN SZ CE ++ wdM cI p MI MA) (m_X4_road (xl X) (xD X) cI cS q qb qs qS qC tr fa fr rb rl ra wl WS BI BA SI SA LN SZ CE) mv_L_71 cutX ndX (fun _ => setX) (fun _ => adrX) rfl rfl rfl ⟨Nat.le_refl _, Nat.le_refl _⟩ rfl rfl (Nat.le_of_ble_eq_true rfl) dL_law_658 (fun r658 => ?_)
  refine r_aload_n (pc := 661) C 2 dL_law_661 rfl rfl ?_
  refine r_callV (pc := 662) (rest := [.int r658.1]) C isM (fun r662 => wdX cI cS q qb qs qS qC (qb 0) (qs 0) tr fa fr rb rl ra r658.2.1 r658.2.2 BI BA SI SA LN SZ CE ++ wdM cI p MI r662.2) (m_X5_road (xl X) (xD X) cI cS p MI MA) mv_L_75 cutM ndM (fun _ => setM) (fun _ => adrM) rfl rfl rfl ⟨Nat.le_refl _, Nat.le_refl _⟩ rfl rfl (Nat.le_of_ble_eq_true rfl) dL_law_662 (fun r662 => ?_)
  refine r_icmp_eq (pc := 665) (tgt := 1250) C dL_law_665 (by decide) ?_ ?_
  · exact r_sub [0, 1, 2, 3] rfl (hk qb qs tr fa fr rb rl ra r658.2.1 r658.2.2 BI BA SI SA LN SZ CE MI r662.2)
  · exact r_none
set_option maxHeartbeats 4000000 in
set_option maxRecDepth 100000 in
theorem wc_14 {cI cS : ClassId} {X : CX} {Qf : Unit → State → Prop} (C : Cx X RL cL_law 4 ret room_1 (tyz cI cS)) {b L : Nat} {sc : Nat → Int32} (hX : Scr X b L sc) {q qS qC p : Nat → Nat} (i : Int32) (kk : (Nat → Nat) → (Nat → Nat) → Int32 → Int32 → Option Nat → Int32 → Int32 → Int32 → Int32 → (Nat → Int32) → (Nat → Int32) → (Nat → Nat → Int32) → (Nat → Int32) → (Nat → Nat → Int32) → (Nat → Int32) → (Nat → Int32) → (Nat → Nat → Int32) → (Nat → Int32) → (Nat → Nat → Int32) → Option Unit) (hk : ∀ (qb : Nat → Nat) (qs : Nat → Nat) (tr : Int32) (fa : Int32) (fr : Option Nat) (rb : Int32) (rl : Int32) (ra : Int32) (wl : Int32) (WS : Nat → Int32) (BI : Nat → Int32) (BA : Nat → Nat → Int32) (SI : Nat → Int32) (SA : Nat → Nat → Int32) (LN : Nat → Int32) (SZ : Nat → Int32) (CE : Nat → Nat → Int32) (MI : Nat → Int32) (MA : Nat → Nat → Int32), JR X Qf 4 room_1.cells room_1.slots (kk qb qs tr fa fr rb rl ra wl WS BI BA SI SA LN SZ CE MI MA) (wdX cI cS q qb qs qS qC (qb 0) (qs 0) tr fa fr rb rl ra wl WS BI BA SI SA LN SZ CE ++ wdM cI p MI MA) [(0, .ref b), (1, .ref (q 0)), (2, .ref (p 0)), (3, .int i)] 1250 []) : ∀ (qb : Nat → Nat) (qs : Nat → Nat) (tr : Int32) (fa : Int32) (fr : Option Nat) (rb : Int32) (rl : Int32) (ra : Int32) (wl : Int32) (WS : Nat → Int32) (BI : Nat → Int32) (BA : Nat → Nat → Int32) (SI : Nat → Int32) (SA : Nat → Nat → Int32) (LN : Nat → Int32) (SZ : Nat → Int32) (CE : Nat → Nat → Int32) (MI : Nat → Int32) (MA : Nat → Nat → Int32), JR X Qf 4 room_1.cells room_1.slots (lc_14 kk L sc qS i qb qs tr fa fr rb rl ra wl WS BI BA SI SA LN SZ CE MI MA) (wdX cI cS q qb qs qS qC (qb 0) (qs 0) tr fa fr rb rl ra wl WS BI BA SI SA LN SZ CE ++ wdM cI p MI MA) [(0, .ref b), (1, .ref (q 0)), (2, .ref (p 0)), (3, .int i)] 670 [] := by
  intro qb qs tr fa fr rb rl ra wl WS BI BA SI SA LN SZ CE MI MA
  unfold lc_14
  refine r_aload_n (pc := 670) C 1 dL_law_670 rfl rfl ?_
  refine r_aload_n (pc := 671) C 0 dL_law_671 rfl rfl ?_
  refine r_iload_n (pc := 672) C 3 dL_law_672 rfl rfl ?_
  refine r_iconst (pc := 673) C dL_law_673 (ci_1) ?_
  refine r_iadd (pc := 674) C dL_law_674 ?_
  refine r_sld (pc := 675) C hX dL_law_675 ?_
  refine r_aload_n (pc := 676) C 0 dL_law_676 rfl rfl ?_
  refine r_iload_n (pc := 677) C 3 dL_law_677 rfl rfl ?_
  refine r_iconst (pc := 678) C dL_law_678 (ci_2) ?_
  refine r_iadd (pc := 679) C dL_law_679 ?_
  refine r_sld (pc := 680) C hX dL_law_680 ?_
  refine r_aload_n (pc := 681) C 0 dL_law_681 rfl rfl ?_
  refine r_iload_n (pc := 682) C 3 dL_law_682 rfl rfl ?_
  refine r_iconst (pc := 683) C dL_law_683 (ci_3) ?_
  refine r_iadd (pc := 684) C dL_law_684 ?_
  refine r_sld (pc := 685) C hX dL_law_685 ?_
  refine r_aload_n (pc := 686) C 0 dL_law_686 rfl rfl ?_
  refine r_iload_n (pc := 687) C 3 dL_law_687 rfl rfl ?_
  refine r_iconst (pc := 688) C dL_law_688 (ci_4) ?_
  refine r_iadd (pc := 689) C dL_law_689 ?_
  refine r_sld (pc := 690) C hX dL_law_690 ?_
  refine r_aload_n (pc := 691) C 0 dL_law_691 rfl rfl ?_
  refine r_iload_n (pc := 692) C 3 dL_law_692 rfl rfl ?_
  refine r_iconst (pc := 693) C dL_law_693 (ci_5) ?_
  refine r_iadd (pc := 694) C dL_law_694 ?_
  refine r_sld (pc := 695) C hX dL_law_695 ?_
  refine r_callV (pc := 696) (rest := []) C isX (fun r696 => wdX cI cS q qb qs qS qC (qb 0) (qs 0) tr r696.2.1 fr rb rl ra r696.2.2.1 r696.2.2.2.1 r696.2.2.2.2 BA SI SA LN SZ CE ++ wdM cI p MI MA) (m_X4_worth (xl X) (xD X) cI cS q qb qs qS qC tr fa fr rb rl ra wl WS BI BA SI SA LN SZ CE (sc (i + (1 : Int32)).toNatClampNeg) (sc (i + (2 : Int32)).toNatClampNeg) (sc (i + (3 : Int32)).toNatClampNeg) (sc (i + (4 : Int32)).toNatClampNeg) (sc (i + (5 : Int32)).toNatClampNeg)) mv_L_76 cutX ndX (fun _ => setX) (fun _ => adrX) rfl rfl rfl ⟨Nat.le_refl _, Nat.le_refl _⟩ rfl rfl (Nat.le_of_ble_eq_true rfl) dL_law_696 (fun r696 => ?_)
  refine r_aload_n (pc := 699) C 2 dL_law_699 rfl rfl ?_
  refine r_aload_n (pc := 700) C 0 dL_law_700 rfl rfl ?_
  refine r_iload_n (pc := 701) C 3 dL_law_701 rfl rfl ?_
  refine r_iconst (pc := 702) C dL_law_702 (ci_1) ?_
  refine r_iadd (pc := 703) C dL_law_703 ?_
  refine r_sld (pc := 704) C hX dL_law_704 ?_
  refine r_aload_n (pc := 705) C 0 dL_law_705 rfl rfl ?_
  refine r_iload_n (pc := 706) C 3 dL_law_706 rfl rfl ?_
  refine r_iconst (pc := 707) C dL_law_707 (ci_2) ?_
  refine r_iadd (pc := 708) C dL_law_708 ?_
  refine r_sld (pc := 709) C hX dL_law_709 ?_
  refine r_aload_n (pc := 710) C 0 dL_law_710 rfl rfl ?_
  refine r_iload_n (pc := 711) C 3 dL_law_711 rfl rfl ?_
  refine r_iconst (pc := 712) C dL_law_712 (ci_3) ?_
  refine r_iadd (pc := 713) C dL_law_713 ?_
  refine r_sld (pc := 714) C hX dL_law_714 ?_
  refine r_aload_n (pc := 715) C 0 dL_law_715 rfl rfl ?_
  refine r_iload_n (pc := 716) C 3 dL_law_716 rfl rfl ?_
  refine r_iconst (pc := 717) C dL_law_717 (ci_4) ?_
  refine r_iadd (pc := 718) C dL_law_718 ?_
  refine r_sld (pc := 719) C hX dL_law_719 ?_
  refine r_aload_n (pc := 720) C 0 dL_law_720 rfl rfl ?_
  refine r_iload_n (pc := 721) C 3 dL_law_721 rfl rfl ?_
  refine r_iconst (pc := 722) C dL_law_722 (ci_5) ?_
  refine r_iadd (pc := 723) C dL_law_723 ?_
  refine r_sld (pc := 724) C hX dL_law_724 ?_
  refine r_callV (pc := 725) (rest := [.long r696.1]) C isM (fun r725 => wdX cI cS q qb qs qS qC (qb 0) (qs 0) tr r696.2.1 fr rb rl ra r696.2.2.1 r696.2.2.2.1 r696.2.2.2.2 BA SI SA LN SZ CE ++ wdM cI p r725.2.1 r725.2.2) (m_X5_worth (xl X) (xD X) cI cS p MI MA (sc (i + (1 : Int32)).toNatClampNeg) (sc (i + (2 : Int32)).toNatClampNeg) (sc (i + (3 : Int32)).toNatClampNeg) (sc (i + (4 : Int32)).toNatClampNeg) (sc (i + (5 : Int32)).toNatClampNeg)) mv_L_79 cutM ndM (fun _ => setM) (fun _ => adrM) rfl rfl rfl ⟨Nat.le_refl _, Nat.le_refl _⟩ rfl rfl (Nat.le_of_ble_eq_true rfl) dL_law_725 (fun r725 => ?_)
  refine r_lcmp (pc := 728) C dL_law_728 ?_
  refine r_if_eq (pc := 729) (tgt := 1250) C dL_law_729 (by decide) ?_ ?_
  · exact r_sub [0, 1, 2, 3] rfl (hk qb qs tr r696.2.1 fr rb rl ra r696.2.2.1 r696.2.2.2.1 r696.2.2.2.2 BA SI SA LN SZ CE r725.2.1 r725.2.2)
  · exact r_none
set_option maxHeartbeats 4000000 in
set_option maxRecDepth 100000 in
theorem wc_15 {cI cS : ClassId} {X : CX} {Qf : Unit → State → Prop} (C : Cx X RL cL_law 4 ret room_1 (tyz cI cS)) {b L : Nat} {sc : Nat → Int32} (hX : Scr X b L sc) {q qS qC p : Nat → Nat} (i : Int32) (kk : (Nat → Nat) → (Nat → Nat) → Int32 → Int32 → Option Nat → Int32 → Int32 → Int32 → Int32 → (Nat → Int32) → (Nat → Int32) → (Nat → Nat → Int32) → (Nat → Int32) → (Nat → Nat → Int32) → (Nat → Int32) → (Nat → Int32) → (Nat → Nat → Int32) → (Nat → Int32) → (Nat → Nat → Int32) → Option Unit) (hk : ∀ (qb : Nat → Nat) (qs : Nat → Nat) (tr : Int32) (fa : Int32) (fr : Option Nat) (rb : Int32) (rl : Int32) (ra : Int32) (wl : Int32) (WS : Nat → Int32) (BI : Nat → Int32) (BA : Nat → Nat → Int32) (SI : Nat → Int32) (SA : Nat → Nat → Int32) (LN : Nat → Int32) (SZ : Nat → Int32) (CE : Nat → Nat → Int32) (MI : Nat → Int32) (MA : Nat → Nat → Int32), JR X Qf 4 room_1.cells room_1.slots (kk qb qs tr fa fr rb rl ra wl WS BI BA SI SA LN SZ CE MI MA) (wdX cI cS q qb qs qS qC (qb 0) (qs 0) tr fa fr rb rl ra wl WS BI BA SI SA LN SZ CE ++ wdM cI p MI MA) [(0, .ref b), (1, .ref (q 0)), (2, .ref (p 0)), (3, .int i)] 1250 []) : ∀ (qb : Nat → Nat) (qs : Nat → Nat) (tr : Int32) (fa : Int32) (fr : Option Nat) (rb : Int32) (rl : Int32) (ra : Int32) (wl : Int32) (WS : Nat → Int32) (BI : Nat → Int32) (BA : Nat → Nat → Int32) (SI : Nat → Int32) (SA : Nat → Nat → Int32) (LN : Nat → Int32) (SZ : Nat → Int32) (CE : Nat → Nat → Int32) (MI : Nat → Int32) (MA : Nat → Nat → Int32), JR X Qf 4 room_1.cells room_1.slots (lc_15 kk L sc qS i qb qs tr fa fr rb rl ra wl WS BI BA SI SA LN SZ CE MI MA) (wdX cI cS q qb qs qS qC (qb 0) (qs 0) tr fa fr rb rl ra wl WS BI BA SI SA LN SZ CE ++ wdM cI p MI MA) [(0, .ref b), (1, .ref (q 0)), (2, .ref (p 0)), (3, .int i)] 734 [] := by
  intro qb qs tr fa fr rb rl ra wl WS BI BA SI SA LN SZ CE MI MA
  unfold lc_15
  refine r_aload_n (pc := 734) C 1 dL_law_734 rfl rfl ?_
  refine r_aload_n (pc := 735) C 0 dL_law_735 rfl rfl ?_
  refine r_iload_n (pc := 736) C 3 dL_law_736 rfl rfl ?_
  refine r_iconst (pc := 737) C dL_law_737 (ci_1) ?_
  refine r_iadd (pc := 738) C dL_law_738 ?_
  refine r_sld (pc := 739) C hX dL_law_739 ?_
  refine r_aload_n (pc := 740) C 0 dL_law_740 rfl rfl ?_
  refine r_iload_n (pc := 741) C 3 dL_law_741 rfl rfl ?_
  refine r_iconst (pc := 742) C dL_law_742 (ci_2) ?_
  refine r_iadd (pc := 743) C dL_law_743 ?_
  refine r_sld (pc := 744) C hX dL_law_744 ?_
  refine r_callV (pc := 745) (rest := []) C isX (fun r745 => wdX cI cS q qb qs qS qC (qb 0) (qs 0) tr fa fr rb rl ra wl WS r745.2.1 r745.2.2 SI SA LN SZ CE ++ wdM cI p MI MA) (m_X4_reading (xl X) (xD X) cI cS q qb qs qS qC tr fa fr rb rl ra wl WS BI BA SI SA LN SZ CE (sc (i + (1 : Int32)).toNatClampNeg) (sc (i + (2 : Int32)).toNatClampNeg)) mv_L_80 cutX ndX (fun _ => setX) (fun _ => adrX) rfl rfl rfl ⟨Nat.le_refl _, Nat.le_refl _⟩ rfl rfl (Nat.le_of_ble_eq_true rfl) dL_law_745 (fun r745 => ?_)
  refine r_aload_n (pc := 748) C 2 dL_law_748 rfl rfl ?_
  refine r_aload_n (pc := 749) C 0 dL_law_749 rfl rfl ?_
  refine r_iload_n (pc := 750) C 3 dL_law_750 rfl rfl ?_
  refine r_iconst (pc := 751) C dL_law_751 (ci_1) ?_
  refine r_iadd (pc := 752) C dL_law_752 ?_
  refine r_sld (pc := 753) C hX dL_law_753 ?_
  refine r_aload_n (pc := 754) C 0 dL_law_754 rfl rfl ?_
  refine r_iload_n (pc := 755) C 3 dL_law_755 rfl rfl ?_
  refine r_iconst (pc := 756) C dL_law_756 (ci_2) ?_
  refine r_iadd (pc := 757) C dL_law_757 ?_
  refine r_sld (pc := 758) C hX dL_law_758 ?_
  refine r_callV (pc := 759) (rest := [.int r745.1]) C isM (fun r759 => wdX cI cS q qb qs qS qC (qb 0) (qs 0) tr fa fr rb rl ra wl WS r745.2.1 r745.2.2 SI SA LN SZ CE ++ wdM cI p r759.2.1 r759.2.2) (m_X5_reading (xl X) (xD X) cI cS p MI MA (sc (i + (1 : Int32)).toNatClampNeg) (sc (i + (2 : Int32)).toNatClampNeg)) mv_L_83 cutM ndM (fun _ => setM) (fun _ => adrM) rfl rfl rfl ⟨Nat.le_refl _, Nat.le_refl _⟩ rfl rfl (Nat.le_of_ble_eq_true rfl) dL_law_759 (fun r759 => ?_)
  refine r_icmp_eq (pc := 762) (tgt := 1250) C dL_law_762 (by decide) ?_ ?_
  · exact r_sub [0, 1, 2, 3] rfl (hk qb qs tr fa fr rb rl ra wl WS r745.2.1 r745.2.2 SI SA LN SZ CE r759.2.1 r759.2.2)
  · exact r_none
set_option maxHeartbeats 4000000 in
set_option maxRecDepth 100000 in
theorem wc_16 {cI cS : ClassId} {X : CX} {Qf : Unit → State → Prop} (C : Cx X RL cL_law 4 ret room_1 (tyz cI cS)) {b L : Nat} {sc : Nat → Int32} (hX : Scr X b L sc) {q qS qC p : Nat → Nat} (i : Int32) (kk : (Nat → Nat) → (Nat → Nat) → Int32 → Int32 → Option Nat → Int32 → Int32 → Int32 → Int32 → (Nat → Int32) → (Nat → Int32) → (Nat → Nat → Int32) → (Nat → Int32) → (Nat → Nat → Int32) → (Nat → Int32) → (Nat → Int32) → (Nat → Nat → Int32) → (Nat → Int32) → (Nat → Nat → Int32) → Option Unit) (hk : ∀ (qb : Nat → Nat) (qs : Nat → Nat) (tr : Int32) (fa : Int32) (fr : Option Nat) (rb : Int32) (rl : Int32) (ra : Int32) (wl : Int32) (WS : Nat → Int32) (BI : Nat → Int32) (BA : Nat → Nat → Int32) (SI : Nat → Int32) (SA : Nat → Nat → Int32) (LN : Nat → Int32) (SZ : Nat → Int32) (CE : Nat → Nat → Int32) (MI : Nat → Int32) (MA : Nat → Nat → Int32), JR X Qf 4 room_1.cells room_1.slots (kk qb qs tr fa fr rb rl ra wl WS BI BA SI SA LN SZ CE MI MA) (wdX cI cS q qb qs qS qC (qb 0) (qs 0) tr fa fr rb rl ra wl WS BI BA SI SA LN SZ CE ++ wdM cI p MI MA) [(0, .ref b), (1, .ref (q 0)), (2, .ref (p 0)), (3, .int i)] 1250 []) : ∀ (qb : Nat → Nat) (qs : Nat → Nat) (tr : Int32) (fa : Int32) (fr : Option Nat) (rb : Int32) (rl : Int32) (ra : Int32) (wl : Int32) (WS : Nat → Int32) (BI : Nat → Int32) (BA : Nat → Nat → Int32) (SI : Nat → Int32) (SA : Nat → Nat → Int32) (LN : Nat → Int32) (SZ : Nat → Int32) (CE : Nat → Nat → Int32) (MI : Nat → Int32) (MA : Nat → Nat → Int32), JR X Qf 4 room_1.cells room_1.slots (lc_16 kk L sc qS i qb qs tr fa fr rb rl ra wl WS BI BA SI SA LN SZ CE MI MA) (wdX cI cS q qb qs qS qC (qb 0) (qs 0) tr fa fr rb rl ra wl WS BI BA SI SA LN SZ CE ++ wdM cI p MI MA) [(0, .ref b), (1, .ref (q 0)), (2, .ref (p 0)), (3, .int i)] 767 [] := by
  intro qb qs tr fa fr rb rl ra wl WS BI BA SI SA LN SZ CE MI MA
  unfold lc_16
  refine r_aload_n (pc := 767) C 1 dL_law_767 rfl rfl ?_
  refine r_aload_n (pc := 768) C 0 dL_law_768 rfl rfl ?_
  refine r_iload_n (pc := 769) C 3 dL_law_769 rfl rfl ?_
  refine r_iconst (pc := 770) C dL_law_770 (ci_1) ?_
  refine r_iadd (pc := 771) C dL_law_771 ?_
  refine r_sld (pc := 772) C hX dL_law_772 ?_
  refine r_callV (pc := 773) (rest := []) C isX (fun r773 => wdX cI cS q qb qs qS qC (qb 0) (qs 0) tr fa fr rb rl ra wl WS r773.2 BA SI SA LN SZ CE ++ wdM cI p MI MA) (m_X4_back (xl X) (xD X) cI cS q qb qs qS qC tr fa fr rb rl ra wl WS BI BA SI SA LN SZ CE (sc (i + (1 : Int32)).toNatClampNeg)) mv_L_84 cutX ndX (fun _ => setX) (fun _ => adrX) rfl rfl rfl ⟨Nat.le_refl _, Nat.le_refl _⟩ rfl rfl (Nat.le_of_ble_eq_true rfl) dL_law_773 (fun r773 => ?_)
  refine r_aload_n (pc := 776) C 2 dL_law_776 rfl rfl ?_
  refine r_aload_n (pc := 777) C 0 dL_law_777 rfl rfl ?_
  refine r_iload_n (pc := 778) C 3 dL_law_778 rfl rfl ?_
  refine r_iconst (pc := 779) C dL_law_779 (ci_1) ?_
  refine r_iadd (pc := 780) C dL_law_780 ?_
  refine r_sld (pc := 781) C hX dL_law_781 ?_
  refine r_callV (pc := 782) (rest := [.int r773.1]) C isM (fun r782 => wdX cI cS q qb qs qS qC (qb 0) (qs 0) tr fa fr rb rl ra wl WS r773.2 BA SI SA LN SZ CE ++ wdM cI p r782.2 MA) (m_X5_back (xl X) (xD X) cI cS p MI MA (sc (i + (1 : Int32)).toNatClampNeg)) mv_L_87 cutM ndM (fun _ => setM) (fun _ => adrM) rfl rfl rfl ⟨Nat.le_refl _, Nat.le_refl _⟩ rfl rfl (Nat.le_of_ble_eq_true rfl) dL_law_782 (fun r782 => ?_)
  refine r_icmp_eq (pc := 785) (tgt := 1250) C dL_law_785 (by decide) ?_ ?_
  · exact r_sub [0, 1, 2, 3] rfl (hk qb qs tr fa fr rb rl ra wl WS r773.2 BA SI SA LN SZ CE r782.2 MA)
  · exact r_none
set_option maxHeartbeats 4000000 in
set_option maxRecDepth 100000 in
theorem wc_17 {cI cS : ClassId} {X : CX} {Qf : Unit → State → Prop} (C : Cx X RL cL_law 4 ret room_1 (tyz cI cS)) {b L : Nat} {sc : Nat → Int32} (hX : Scr X b L sc) {q qS qC p : Nat → Nat} (i : Int32) (kk : (Nat → Nat) → (Nat → Nat) → Int32 → Int32 → Option Nat → Int32 → Int32 → Int32 → Int32 → (Nat → Int32) → (Nat → Int32) → (Nat → Nat → Int32) → (Nat → Int32) → (Nat → Nat → Int32) → (Nat → Int32) → (Nat → Int32) → (Nat → Nat → Int32) → (Nat → Int32) → (Nat → Nat → Int32) → Option Unit) (hk : ∀ (qb : Nat → Nat) (qs : Nat → Nat) (tr : Int32) (fa : Int32) (fr : Option Nat) (rb : Int32) (rl : Int32) (ra : Int32) (wl : Int32) (WS : Nat → Int32) (BI : Nat → Int32) (BA : Nat → Nat → Int32) (SI : Nat → Int32) (SA : Nat → Nat → Int32) (LN : Nat → Int32) (SZ : Nat → Int32) (CE : Nat → Nat → Int32) (MI : Nat → Int32) (MA : Nat → Nat → Int32), JR X Qf 4 room_1.cells room_1.slots (kk qb qs tr fa fr rb rl ra wl WS BI BA SI SA LN SZ CE MI MA) (wdX cI cS q qb qs qS qC (qb 0) (qs 0) tr fa fr rb rl ra wl WS BI BA SI SA LN SZ CE ++ wdM cI p MI MA) [(0, .ref b), (1, .ref (q 0)), (2, .ref (p 0)), (3, .int i)] 1250 []) : ∀ (qb : Nat → Nat) (qs : Nat → Nat) (tr : Int32) (fa : Int32) (fr : Option Nat) (rb : Int32) (rl : Int32) (ra : Int32) (wl : Int32) (WS : Nat → Int32) (BI : Nat → Int32) (BA : Nat → Nat → Int32) (SI : Nat → Int32) (SA : Nat → Nat → Int32) (LN : Nat → Int32) (SZ : Nat → Int32) (CE : Nat → Nat → Int32) (MI : Nat → Int32) (MA : Nat → Nat → Int32), JR X Qf 4 room_1.cells room_1.slots (lc_17 kk L sc qS i qb qs tr fa fr rb rl ra wl WS BI BA SI SA LN SZ CE MI MA) (wdX cI cS q qb qs qS qC (qb 0) (qs 0) tr fa fr rb rl ra wl WS BI BA SI SA LN SZ CE ++ wdM cI p MI MA) [(0, .ref b), (1, .ref (q 0)), (2, .ref (p 0)), (3, .int i)] 790 [] := by
  intro qb qs tr fa fr rb rl ra wl WS BI BA SI SA LN SZ CE MI MA
  unfold lc_17
  refine r_aload_n (pc := 790) C 1 dL_law_790 rfl rfl ?_
  refine r_aload_n (pc := 791) C 0 dL_law_791 rfl rfl ?_
  refine r_iload_n (pc := 792) C 3 dL_law_792 rfl rfl ?_
  refine r_iconst (pc := 793) C dL_law_793 (ci_1) ?_
  refine r_iadd (pc := 794) C dL_law_794 ?_
  refine r_sld (pc := 795) C hX dL_law_795 ?_
  refine r_callV (pc := 796) (rest := []) C isX (fun r796 => wdX cI cS q qb qs qS qC (qb 0) (qs 0) tr fa fr rb rl ra wl WS r796.2 BA SI SA LN SZ CE ++ wdM cI p MI MA) (m_X4_said (xl X) (xD X) cI cS q qb qs qS qC tr fa fr rb rl ra wl WS BI BA SI SA LN SZ CE (sc (i + (1 : Int32)).toNatClampNeg)) mv_L_88 cutX ndX (fun _ => setX) (fun _ => adrX) rfl rfl rfl ⟨Nat.le_refl _, Nat.le_refl _⟩ rfl rfl (Nat.le_of_ble_eq_true rfl) dL_law_796 (fun r796 => ?_)
  refine r_aload_n (pc := 799) C 2 dL_law_799 rfl rfl ?_
  refine r_aload_n (pc := 800) C 0 dL_law_800 rfl rfl ?_
  refine r_iload_n (pc := 801) C 3 dL_law_801 rfl rfl ?_
  refine r_iconst (pc := 802) C dL_law_802 (ci_1) ?_
  refine r_iadd (pc := 803) C dL_law_803 ?_
  refine r_sld (pc := 804) C hX dL_law_804 ?_
  refine r_callV (pc := 805) (rest := [.int r796.1]) C isM (fun r805 => wdX cI cS q qb qs qS qC (qb 0) (qs 0) tr fa fr rb rl ra wl WS r796.2 BA SI SA LN SZ CE ++ wdM cI p r805.2 MA) (m_X5_said (xl X) (xD X) cI cS p MI MA (sc (i + (1 : Int32)).toNatClampNeg)) mv_L_91 cutM ndM (fun _ => setM) (fun _ => adrM) rfl rfl rfl ⟨Nat.le_refl _, Nat.le_refl _⟩ rfl rfl (Nat.le_of_ble_eq_true rfl) dL_law_805 (fun r805 => ?_)
  refine r_icmp_eq (pc := 808) (tgt := 1250) C dL_law_808 (by decide) ?_ ?_
  · exact r_sub [0, 1, 2, 3] rfl (hk qb qs tr fa fr rb rl ra wl WS r796.2 BA SI SA LN SZ CE r805.2 MA)
  · exact r_none
set_option maxHeartbeats 4000000 in
set_option maxRecDepth 100000 in
theorem wc_18 {cI cS : ClassId} {X : CX} {Qf : Unit → State → Prop} (C : Cx X RL cL_law 4 ret room_1 (tyz cI cS)) {b L : Nat} {sc : Nat → Int32} (hX : Scr X b L sc) {q qS qC p : Nat → Nat} (i : Int32) (kk : (Nat → Nat) → (Nat → Nat) → Int32 → Int32 → Option Nat → Int32 → Int32 → Int32 → Int32 → (Nat → Int32) → (Nat → Int32) → (Nat → Nat → Int32) → (Nat → Int32) → (Nat → Nat → Int32) → (Nat → Int32) → (Nat → Int32) → (Nat → Nat → Int32) → (Nat → Int32) → (Nat → Nat → Int32) → Option Unit) (hk : ∀ (qb : Nat → Nat) (qs : Nat → Nat) (tr : Int32) (fa : Int32) (fr : Option Nat) (rb : Int32) (rl : Int32) (ra : Int32) (wl : Int32) (WS : Nat → Int32) (BI : Nat → Int32) (BA : Nat → Nat → Int32) (SI : Nat → Int32) (SA : Nat → Nat → Int32) (LN : Nat → Int32) (SZ : Nat → Int32) (CE : Nat → Nat → Int32) (MI : Nat → Int32) (MA : Nat → Nat → Int32), JR X Qf 4 room_1.cells room_1.slots (kk qb qs tr fa fr rb rl ra wl WS BI BA SI SA LN SZ CE MI MA) (wdX cI cS q qb qs qS qC (qb 0) (qs 0) tr fa fr rb rl ra wl WS BI BA SI SA LN SZ CE ++ wdM cI p MI MA) [(0, .ref b), (1, .ref (q 0)), (2, .ref (p 0)), (3, .int i)] 1250 []) : ∀ (qb : Nat → Nat) (qs : Nat → Nat) (tr : Int32) (fa : Int32) (fr : Option Nat) (rb : Int32) (rl : Int32) (ra : Int32) (wl : Int32) (WS : Nat → Int32) (BI : Nat → Int32) (BA : Nat → Nat → Int32) (SI : Nat → Int32) (SA : Nat → Nat → Int32) (LN : Nat → Int32) (SZ : Nat → Int32) (CE : Nat → Nat → Int32) (MI : Nat → Int32) (MA : Nat → Nat → Int32), JR X Qf 4 room_1.cells room_1.slots (lc_18 kk L sc qS i qb qs tr fa fr rb rl ra wl WS BI BA SI SA LN SZ CE MI MA) (wdX cI cS q qb qs qS qC (qb 0) (qs 0) tr fa fr rb rl ra wl WS BI BA SI SA LN SZ CE ++ wdM cI p MI MA) [(0, .ref b), (1, .ref (q 0)), (2, .ref (p 0)), (3, .int i)] 813 [] := by
  intro qb qs tr fa fr rb rl ra wl WS BI BA SI SA LN SZ CE MI MA
  unfold lc_18
  refine r_aload_n (pc := 813) C 1 dL_law_813 rfl rfl ?_
  refine r_callV (pc := 814) (rest := []) C isX (fun r814 => wdX cI cS q qb qs qS qC (qb 0) (qs 0) tr fa fr rb rl ra wl WS r814.2 BA SI SA LN SZ CE ++ wdM cI p MI MA) (m_X4_frees (xl X) (xD X) cI cS q qb qs qS qC tr fa fr rb rl ra wl WS BI BA SI SA LN SZ CE) mv_L_92 cutX ndX (fun _ => setX) (fun _ => adrX) rfl rfl rfl ⟨Nat.le_refl _, Nat.le_refl _⟩ rfl rfl (Nat.le_of_ble_eq_true rfl) dL_law_814 (fun r814 => ?_)
  refine r_aload_n (pc := 817) C 2 dL_law_817 rfl rfl ?_
  refine r_callV (pc := 818) (rest := [.int r814.1]) C isM (fun r818 => wdX cI cS q qb qs qS qC (qb 0) (qs 0) tr fa fr rb rl ra wl WS r814.2 BA SI SA LN SZ CE ++ wdM cI p r818.2 MA) (m_X5_frees (xl X) (xD X) cI cS p MI MA) mv_L_95 cutM ndM (fun _ => setM) (fun _ => adrM) rfl rfl rfl ⟨Nat.le_refl _, Nat.le_refl _⟩ rfl rfl (Nat.le_of_ble_eq_true rfl) dL_law_818 (fun r818 => ?_)
  refine r_icmp_eq (pc := 821) (tgt := 1250) C dL_law_821 (by decide) ?_ ?_
  · exact r_sub [0, 1, 2, 3] rfl (hk qb qs tr fa fr rb rl ra wl WS r814.2 BA SI SA LN SZ CE r818.2 MA)
  · exact r_none
set_option maxHeartbeats 4000000 in
set_option maxRecDepth 100000 in
theorem wc_19 {cI cS : ClassId} {X : CX} {Qf : Unit → State → Prop} (C : Cx X RL cL_law 4 ret room_1 (tyz cI cS)) {b L : Nat} {sc : Nat → Int32} (hX : Scr X b L sc) {q qS qC p : Nat → Nat} (i : Int32) (kk : (Nat → Nat) → (Nat → Nat) → Int32 → Int32 → Option Nat → Int32 → Int32 → Int32 → Int32 → (Nat → Int32) → (Nat → Int32) → (Nat → Nat → Int32) → (Nat → Int32) → (Nat → Nat → Int32) → (Nat → Int32) → (Nat → Int32) → (Nat → Nat → Int32) → (Nat → Int32) → (Nat → Nat → Int32) → Option Unit) (hk : ∀ (qb : Nat → Nat) (qs : Nat → Nat) (tr : Int32) (fa : Int32) (fr : Option Nat) (rb : Int32) (rl : Int32) (ra : Int32) (wl : Int32) (WS : Nat → Int32) (BI : Nat → Int32) (BA : Nat → Nat → Int32) (SI : Nat → Int32) (SA : Nat → Nat → Int32) (LN : Nat → Int32) (SZ : Nat → Int32) (CE : Nat → Nat → Int32) (MI : Nat → Int32) (MA : Nat → Nat → Int32), JR X Qf 4 room_1.cells room_1.slots (kk qb qs tr fa fr rb rl ra wl WS BI BA SI SA LN SZ CE MI MA) (wdX cI cS q qb qs qS qC (qb 0) (qs 0) tr fa fr rb rl ra wl WS BI BA SI SA LN SZ CE ++ wdM cI p MI MA) [(0, .ref b), (1, .ref (q 0)), (2, .ref (p 0)), (3, .int i)] 1250 []) : ∀ (qb : Nat → Nat) (qs : Nat → Nat) (tr : Int32) (fa : Int32) (fr : Option Nat) (rb : Int32) (rl : Int32) (ra : Int32) (wl : Int32) (WS : Nat → Int32) (BI : Nat → Int32) (BA : Nat → Nat → Int32) (SI : Nat → Int32) (SA : Nat → Nat → Int32) (LN : Nat → Int32) (SZ : Nat → Int32) (CE : Nat → Nat → Int32) (MI : Nat → Int32) (MA : Nat → Nat → Int32), JR X Qf 4 room_1.cells room_1.slots (lc_19 kk L sc qS i qb qs tr fa fr rb rl ra wl WS BI BA SI SA LN SZ CE MI MA) (wdX cI cS q qb qs qS qC (qb 0) (qs 0) tr fa fr rb rl ra wl WS BI BA SI SA LN SZ CE ++ wdM cI p MI MA) [(0, .ref b), (1, .ref (q 0)), (2, .ref (p 0)), (3, .int i)] 826 [] := by
  intro qb qs tr fa fr rb rl ra wl WS BI BA SI SA LN SZ CE MI MA
  unfold lc_19
  refine r_aload_n (pc := 826) C 1 dL_law_826 rfl rfl ?_
  refine r_callV (pc := 827) (rest := []) C isX (fun r827 => wdX cI cS q qb qs qS qC (qb 0) (qs 0) tr fa fr rb rl ra wl WS r827.2 BA SI SA LN SZ CE ++ wdM cI p MI MA) (m_X4_laws (xl X) (xD X) cI cS q qb qs qS qC tr fa fr rb rl ra wl WS BI BA SI SA LN SZ CE) mv_L_96 cutX ndX (fun _ => setX) (fun _ => adrX) rfl rfl rfl ⟨Nat.le_refl _, Nat.le_refl _⟩ rfl rfl (Nat.le_of_ble_eq_true rfl) dL_law_827 (fun r827 => ?_)
  refine r_aload_n (pc := 830) C 2 dL_law_830 rfl rfl ?_
  refine r_callV (pc := 831) (rest := [.int r827.1]) C isM (fun r831 => wdX cI cS q qb qs qS qC (qb 0) (qs 0) tr fa fr rb rl ra wl WS r827.2 BA SI SA LN SZ CE ++ wdM cI p r831.2 MA) (m_X5_laws (xl X) (xD X) cI cS p MI MA) mv_L_99 cutM ndM (fun _ => setM) (fun _ => adrM) rfl rfl rfl ⟨Nat.le_refl _, Nat.le_refl _⟩ rfl rfl (Nat.le_of_ble_eq_true rfl) dL_law_831 (fun r831 => ?_)
  refine r_icmp_eq (pc := 834) (tgt := 1250) C dL_law_834 (by decide) ?_ ?_
  · exact r_sub [0, 1, 2, 3] rfl (hk qb qs tr fa fr rb rl ra wl WS r827.2 BA SI SA LN SZ CE r831.2 MA)
  · exact r_none
set_option maxHeartbeats 4000000 in
set_option maxRecDepth 100000 in
theorem wc_20 {cI cS : ClassId} {X : CX} {Qf : Unit → State → Prop} (C : Cx X RL cL_law 4 ret room_1 (tyz cI cS)) {b L : Nat} {sc : Nat → Int32} (hX : Scr X b L sc) {q qS qC p : Nat → Nat} (i : Int32) (kk : (Nat → Nat) → (Nat → Nat) → Int32 → Int32 → Option Nat → Int32 → Int32 → Int32 → Int32 → (Nat → Int32) → (Nat → Int32) → (Nat → Nat → Int32) → (Nat → Int32) → (Nat → Nat → Int32) → (Nat → Int32) → (Nat → Int32) → (Nat → Nat → Int32) → (Nat → Int32) → (Nat → Nat → Int32) → Option Unit) (hk : ∀ (qb : Nat → Nat) (qs : Nat → Nat) (tr : Int32) (fa : Int32) (fr : Option Nat) (rb : Int32) (rl : Int32) (ra : Int32) (wl : Int32) (WS : Nat → Int32) (BI : Nat → Int32) (BA : Nat → Nat → Int32) (SI : Nat → Int32) (SA : Nat → Nat → Int32) (LN : Nat → Int32) (SZ : Nat → Int32) (CE : Nat → Nat → Int32) (MI : Nat → Int32) (MA : Nat → Nat → Int32), JR X Qf 4 room_1.cells room_1.slots (kk qb qs tr fa fr rb rl ra wl WS BI BA SI SA LN SZ CE MI MA) (wdX cI cS q qb qs qS qC (qb 0) (qs 0) tr fa fr rb rl ra wl WS BI BA SI SA LN SZ CE ++ wdM cI p MI MA) [(0, .ref b), (1, .ref (q 0)), (2, .ref (p 0)), (3, .int i)] 1250 []) : ∀ (qb : Nat → Nat) (qs : Nat → Nat) (tr : Int32) (fa : Int32) (fr : Option Nat) (rb : Int32) (rl : Int32) (ra : Int32) (wl : Int32) (WS : Nat → Int32) (BI : Nat → Int32) (BA : Nat → Nat → Int32) (SI : Nat → Int32) (SA : Nat → Nat → Int32) (LN : Nat → Int32) (SZ : Nat → Int32) (CE : Nat → Nat → Int32) (MI : Nat → Int32) (MA : Nat → Nat → Int32), JR X Qf 4 room_1.cells room_1.slots (lc_20 kk L sc qS i qb qs tr fa fr rb rl ra wl WS BI BA SI SA LN SZ CE MI MA) (wdX cI cS q qb qs qS qC (qb 0) (qs 0) tr fa fr rb rl ra wl WS BI BA SI SA LN SZ CE ++ wdM cI p MI MA) [(0, .ref b), (1, .ref (q 0)), (2, .ref (p 0)), (3, .int i)] 839 [] := by
  intro qb qs tr fa fr rb rl ra wl WS BI BA SI SA LN SZ CE MI MA
  unfold lc_20
  refine r_aload_n (pc := 839) C 1 dL_law_839 rfl rfl ?_
  refine r_aload_n (pc := 840) C 0 dL_law_840 rfl rfl ?_
  refine r_iload_n (pc := 841) C 3 dL_law_841 rfl rfl ?_
  refine r_iconst (pc := 842) C dL_law_842 (ci_1) ?_
  refine r_iadd (pc := 843) C dL_law_843 ?_
  refine r_sld (pc := 844) C hX dL_law_844 ?_
  refine r_callV (pc := 845) (rest := []) C isX (fun r845 => wdX cI cS q qb qs qS qC (qb 0) (qs 0) tr fa fr rb rl ra wl WS BI r845.2 SI SA LN SZ CE ++ wdM cI p MI MA) (m_X4_kinds (xl X) (xD X) cI cS q qb qs qS qC tr fa fr rb rl ra wl WS BI BA SI SA LN SZ CE (sc (i + (1 : Int32)).toNatClampNeg)) mv_L_100 cutX ndX (fun _ => setX) (fun _ => adrX) rfl rfl rfl ⟨Nat.le_refl _, Nat.le_refl _⟩ rfl rfl (Nat.le_of_ble_eq_true rfl) dL_law_845 (fun r845 => ?_)
  refine r_aload_n (pc := 848) C 2 dL_law_848 rfl rfl ?_
  refine r_aload_n (pc := 849) C 0 dL_law_849 rfl rfl ?_
  refine r_iload_n (pc := 850) C 3 dL_law_850 rfl rfl ?_
  refine r_iconst (pc := 851) C dL_law_851 (ci_1) ?_
  refine r_iadd (pc := 852) C dL_law_852 ?_
  refine r_sld (pc := 853) C hX dL_law_853 ?_
  refine r_callV (pc := 854) (rest := [.int r845.1]) C isM (fun r854 => wdX cI cS q qb qs qS qC (qb 0) (qs 0) tr fa fr rb rl ra wl WS BI r845.2 SI SA LN SZ CE ++ wdM cI p MI r854.2) (m_X5_kinds (xl X) (xD X) cI cS p MI MA (sc (i + (1 : Int32)).toNatClampNeg)) mv_L_103 cutM ndM (fun _ => setM) (fun _ => adrM) rfl rfl rfl ⟨Nat.le_refl _, Nat.le_refl _⟩ rfl rfl (Nat.le_of_ble_eq_true rfl) dL_law_854 (fun r854 => ?_)
  refine r_icmp_eq (pc := 857) (tgt := 1250) C dL_law_857 (by decide) ?_ ?_
  · exact r_sub [0, 1, 2, 3] rfl (hk qb qs tr fa fr rb rl ra wl WS BI r845.2 SI SA LN SZ CE MI r854.2)
  · exact r_none
set_option maxHeartbeats 4000000 in
set_option maxRecDepth 100000 in
theorem wc_21 {cI cS : ClassId} {X : CX} {Qf : Unit → State → Prop} (C : Cx X RL cL_law 4 ret room_1 (tyz cI cS)) {b L : Nat} {sc : Nat → Int32} (hX : Scr X b L sc) {q qS qC p : Nat → Nat} (i : Int32) (kk : (Nat → Nat) → (Nat → Nat) → Int32 → Int32 → Option Nat → Int32 → Int32 → Int32 → Int32 → (Nat → Int32) → (Nat → Int32) → (Nat → Nat → Int32) → (Nat → Int32) → (Nat → Nat → Int32) → (Nat → Int32) → (Nat → Int32) → (Nat → Nat → Int32) → (Nat → Int32) → (Nat → Nat → Int32) → Option Unit) (hk : ∀ (qb : Nat → Nat) (qs : Nat → Nat) (tr : Int32) (fa : Int32) (fr : Option Nat) (rb : Int32) (rl : Int32) (ra : Int32) (wl : Int32) (WS : Nat → Int32) (BI : Nat → Int32) (BA : Nat → Nat → Int32) (SI : Nat → Int32) (SA : Nat → Nat → Int32) (LN : Nat → Int32) (SZ : Nat → Int32) (CE : Nat → Nat → Int32) (MI : Nat → Int32) (MA : Nat → Nat → Int32), JR X Qf 4 room_1.cells room_1.slots (kk qb qs tr fa fr rb rl ra wl WS BI BA SI SA LN SZ CE MI MA) (wdX cI cS q qb qs qS qC (qb 0) (qs 0) tr fa fr rb rl ra wl WS BI BA SI SA LN SZ CE ++ wdM cI p MI MA) [(0, .ref b), (1, .ref (q 0)), (2, .ref (p 0)), (3, .int i)] 1250 []) : ∀ (qb : Nat → Nat) (qs : Nat → Nat) (tr : Int32) (fa : Int32) (fr : Option Nat) (rb : Int32) (rl : Int32) (ra : Int32) (wl : Int32) (WS : Nat → Int32) (BI : Nat → Int32) (BA : Nat → Nat → Int32) (SI : Nat → Int32) (SA : Nat → Nat → Int32) (LN : Nat → Int32) (SZ : Nat → Int32) (CE : Nat → Nat → Int32) (MI : Nat → Int32) (MA : Nat → Nat → Int32), JR X Qf 4 room_1.cells room_1.slots (lc_21 kk L sc qS i qb qs tr fa fr rb rl ra wl WS BI BA SI SA LN SZ CE MI MA) (wdX cI cS q qb qs qS qC (qb 0) (qs 0) tr fa fr rb rl ra wl WS BI BA SI SA LN SZ CE ++ wdM cI p MI MA) [(0, .ref b), (1, .ref (q 0)), (2, .ref (p 0)), (3, .int i)] 862 [] := by
  intro qb qs tr fa fr rb rl ra wl WS BI BA SI SA LN SZ CE MI MA
  unfold lc_21
  refine r_aload_n (pc := 862) C 1 dL_law_862 rfl rfl ?_
  refine r_aload_n (pc := 863) C 0 dL_law_863 rfl rfl ?_
  refine r_iload_n (pc := 864) C 3 dL_law_864 rfl rfl ?_
  refine r_iconst (pc := 865) C dL_law_865 (ci_1) ?_
  refine r_iadd (pc := 866) C dL_law_866 ?_
  refine r_sld (pc := 867) C hX dL_law_867 ?_
  refine r_aload_n (pc := 868) C 0 dL_law_868 rfl rfl ?_
  refine r_iload_n (pc := 869) C 3 dL_law_869 rfl rfl ?_
  refine r_iconst (pc := 870) C dL_law_870 (ci_2) ?_
  refine r_iadd (pc := 871) C dL_law_871 ?_
  refine r_sld (pc := 872) C hX dL_law_872 ?_
  refine r_aload_n (pc := 873) C 0 dL_law_873 rfl rfl ?_
  refine r_iload_n (pc := 874) C 3 dL_law_874 rfl rfl ?_
  refine r_iconst (pc := 875) C dL_law_875 (ci_3) ?_
  refine r_iadd (pc := 876) C dL_law_876 ?_
  refine r_sld (pc := 877) C hX dL_law_877 ?_
  refine r_callV (pc := 878) (rest := []) C isX (fun r878 => wdX cI cS q qb qs qS qC (qb 0) (qs 0) tr fa fr rb rl ra wl WS r878.2 BA SI SA LN SZ CE ++ wdM cI p MI MA) (m_X4_odds (xl X) (xD X) cI cS q qb qs qS qC tr fa fr rb rl ra wl WS BI BA SI SA LN SZ CE (sc (i + (1 : Int32)).toNatClampNeg) (sc (i + (2 : Int32)).toNatClampNeg) (sc (i + (3 : Int32)).toNatClampNeg)) mv_L_104 cutX ndX (fun _ => setX) (fun _ => adrX) rfl rfl rfl ⟨Nat.le_refl _, Nat.le_refl _⟩ rfl rfl (Nat.le_of_ble_eq_true rfl) dL_law_878 (fun r878 => ?_)
  refine r_aload_n (pc := 881) C 2 dL_law_881 rfl rfl ?_
  refine r_aload_n (pc := 882) C 0 dL_law_882 rfl rfl ?_
  refine r_iload_n (pc := 883) C 3 dL_law_883 rfl rfl ?_
  refine r_iconst (pc := 884) C dL_law_884 (ci_1) ?_
  refine r_iadd (pc := 885) C dL_law_885 ?_
  refine r_sld (pc := 886) C hX dL_law_886 ?_
  refine r_aload_n (pc := 887) C 0 dL_law_887 rfl rfl ?_
  refine r_iload_n (pc := 888) C 3 dL_law_888 rfl rfl ?_
  refine r_iconst (pc := 889) C dL_law_889 (ci_2) ?_
  refine r_iadd (pc := 890) C dL_law_890 ?_
  refine r_sld (pc := 891) C hX dL_law_891 ?_
  refine r_aload_n (pc := 892) C 0 dL_law_892 rfl rfl ?_
  refine r_iload_n (pc := 893) C 3 dL_law_893 rfl rfl ?_
  refine r_iconst (pc := 894) C dL_law_894 (ci_3) ?_
  refine r_iadd (pc := 895) C dL_law_895 ?_
  refine r_sld (pc := 896) C hX dL_law_896 ?_
  refine r_callV (pc := 897) (rest := [.long r878.1]) C isM (fun r897 => wdX cI cS q qb qs qS qC (qb 0) (qs 0) tr fa fr rb rl ra wl WS r878.2 BA SI SA LN SZ CE ++ wdM cI p r897.2 MA) (m_X5_odds (xl X) (xD X) cI cS p MI MA (sc (i + (1 : Int32)).toNatClampNeg) (sc (i + (2 : Int32)).toNatClampNeg) (sc (i + (3 : Int32)).toNatClampNeg)) mv_L_108 cutM ndM (fun _ => setM) (fun _ => adrM) rfl rfl rfl ⟨Nat.le_refl _, Nat.le_refl _⟩ rfl rfl (Nat.le_of_ble_eq_true rfl) dL_law_897 (fun r897 => ?_)
  refine r_lcmp (pc := 900) C dL_law_900 ?_
  refine r_if_eq (pc := 901) (tgt := 1250) C dL_law_901 (by decide) ?_ ?_
  · exact r_sub [0, 1, 2, 3] rfl (hk qb qs tr fa fr rb rl ra wl WS r878.2 BA SI SA LN SZ CE r897.2 MA)
  · exact r_none
set_option maxHeartbeats 4000000 in
set_option maxRecDepth 100000 in
theorem wc_22 {cI cS : ClassId} {X : CX} {Qf : Unit → State → Prop} (C : Cx X RL cL_law 4 ret room_1 (tyz cI cS)) {b L : Nat} {sc : Nat → Int32} (hX : Scr X b L sc) {q qS qC p : Nat → Nat} (i : Int32) (kk : (Nat → Nat) → (Nat → Nat) → Int32 → Int32 → Option Nat → Int32 → Int32 → Int32 → Int32 → (Nat → Int32) → (Nat → Int32) → (Nat → Nat → Int32) → (Nat → Int32) → (Nat → Nat → Int32) → (Nat → Int32) → (Nat → Int32) → (Nat → Nat → Int32) → (Nat → Int32) → (Nat → Nat → Int32) → Option Unit) (hk : ∀ (qb : Nat → Nat) (qs : Nat → Nat) (tr : Int32) (fa : Int32) (fr : Option Nat) (rb : Int32) (rl : Int32) (ra : Int32) (wl : Int32) (WS : Nat → Int32) (BI : Nat → Int32) (BA : Nat → Nat → Int32) (SI : Nat → Int32) (SA : Nat → Nat → Int32) (LN : Nat → Int32) (SZ : Nat → Int32) (CE : Nat → Nat → Int32) (MI : Nat → Int32) (MA : Nat → Nat → Int32), JR X Qf 4 room_1.cells room_1.slots (kk qb qs tr fa fr rb rl ra wl WS BI BA SI SA LN SZ CE MI MA) (wdX cI cS q qb qs qS qC (qb 0) (qs 0) tr fa fr rb rl ra wl WS BI BA SI SA LN SZ CE ++ wdM cI p MI MA) [(0, .ref b), (1, .ref (q 0)), (2, .ref (p 0)), (3, .int i)] 1250 []) : ∀ (qb : Nat → Nat) (qs : Nat → Nat) (tr : Int32) (fa : Int32) (fr : Option Nat) (rb : Int32) (rl : Int32) (ra : Int32) (wl : Int32) (WS : Nat → Int32) (BI : Nat → Int32) (BA : Nat → Nat → Int32) (SI : Nat → Int32) (SA : Nat → Nat → Int32) (LN : Nat → Int32) (SZ : Nat → Int32) (CE : Nat → Nat → Int32) (MI : Nat → Int32) (MA : Nat → Nat → Int32), JR X Qf 4 room_1.cells room_1.slots (lc_22 kk L sc qS i qb qs tr fa fr rb rl ra wl WS BI BA SI SA LN SZ CE MI MA) (wdX cI cS q qb qs qS qC (qb 0) (qs 0) tr fa fr rb rl ra wl WS BI BA SI SA LN SZ CE ++ wdM cI p MI MA) [(0, .ref b), (1, .ref (q 0)), (2, .ref (p 0)), (3, .int i)] 906 [] := by
  intro qb qs tr fa fr rb rl ra wl WS BI BA SI SA LN SZ CE MI MA
  unfold lc_22
  refine r_aload_n (pc := 906) C 1 dL_law_906 rfl rfl ?_
  refine r_aload_n (pc := 907) C 0 dL_law_907 rfl rfl ?_
  refine r_iload_n (pc := 908) C 3 dL_law_908 rfl rfl ?_
  refine r_iconst (pc := 909) C dL_law_909 (ci_1) ?_
  refine r_iadd (pc := 910) C dL_law_910 ?_
  refine r_sld (pc := 911) C hX dL_law_911 ?_
  refine r_aload_n (pc := 912) C 0 dL_law_912 rfl rfl ?_
  refine r_iload_n (pc := 913) C 3 dL_law_913 rfl rfl ?_
  refine r_iconst (pc := 914) C dL_law_914 (ci_2) ?_
  refine r_iadd (pc := 915) C dL_law_915 ?_
  refine r_sld (pc := 916) C hX dL_law_916 ?_
  refine r_aload_n (pc := 917) C 0 dL_law_917 rfl rfl ?_
  refine r_iload_n (pc := 918) C 3 dL_law_918 rfl rfl ?_
  refine r_iconst (pc := 919) C dL_law_919 (ci_3) ?_
  refine r_iadd (pc := 920) C dL_law_920 ?_
  refine r_sld (pc := 921) C hX dL_law_921 ?_
  refine r_callV (pc := 922) (rest := []) C isX (fun r922 => wdX cI cS q qb qs qS qC (qb 0) (qs 0) tr r922.2.1 fr rb rl ra wl WS BI BA SI SA r922.2.2.1 r922.2.2.2.1 r922.2.2.2.2 ++ wdM cI p MI MA) (m_X4_sheet (xl X) (xD X) cI cS q qb qs qS qC tr fa fr rb rl ra wl WS BI BA SI SA LN SZ CE (sc (i + (1 : Int32)).toNatClampNeg) (sc (i + (2 : Int32)).toNatClampNeg) (sc (i + (3 : Int32)).toNatClampNeg)) mv_L_109 cutX ndX (fun _ => setX) (fun _ => adrX) rfl rfl rfl ⟨Nat.le_refl _, Nat.le_refl _⟩ rfl rfl (Nat.le_of_ble_eq_true rfl) dL_law_922 (fun r922 => ?_)
  refine r_aload_n (pc := 925) C 2 dL_law_925 rfl rfl ?_
  refine r_aload_n (pc := 926) C 0 dL_law_926 rfl rfl ?_
  refine r_iload_n (pc := 927) C 3 dL_law_927 rfl rfl ?_
  refine r_iconst (pc := 928) C dL_law_928 (ci_1) ?_
  refine r_iadd (pc := 929) C dL_law_929 ?_
  refine r_sld (pc := 930) C hX dL_law_930 ?_
  refine r_aload_n (pc := 931) C 0 dL_law_931 rfl rfl ?_
  refine r_iload_n (pc := 932) C 3 dL_law_932 rfl rfl ?_
  refine r_iconst (pc := 933) C dL_law_933 (ci_2) ?_
  refine r_iadd (pc := 934) C dL_law_934 ?_
  refine r_sld (pc := 935) C hX dL_law_935 ?_
  refine r_aload_n (pc := 936) C 0 dL_law_936 rfl rfl ?_
  refine r_iload_n (pc := 937) C 3 dL_law_937 rfl rfl ?_
  refine r_iconst (pc := 938) C dL_law_938 (ci_3) ?_
  refine r_iadd (pc := 939) C dL_law_939 ?_
  refine r_sld (pc := 940) C hX dL_law_940 ?_
  refine r_callV (pc := 941) (rest := [.int r922.1]) C isM (fun r941 => wdX cI cS q qb qs qS qC (qb 0) (qs 0) tr r922.2.1 fr rb rl ra wl WS BI BA SI SA r922.2.2.1 r922.2.2.2.1 r922.2.2.2.2 ++ wdM cI p r941.2.1 r941.2.2) (m_X5_sheet (xl X) (xD X) cI cS p MI MA (sc (i + (1 : Int32)).toNatClampNeg) (sc (i + (2 : Int32)).toNatClampNeg) (sc (i + (3 : Int32)).toNatClampNeg)) mv_L_113 cutM ndM (fun _ => setM) (fun _ => adrM) rfl rfl rfl ⟨Nat.le_refl _, Nat.le_refl _⟩ rfl rfl (Nat.le_of_ble_eq_true rfl) dL_law_941 (fun r941 => ?_)
  refine r_icmp_eq (pc := 944) (tgt := 1250) C dL_law_944 (by decide) ?_ ?_
  · exact r_sub [0, 1, 2, 3] rfl (hk qb qs tr r922.2.1 fr rb rl ra wl WS BI BA SI SA r922.2.2.1 r922.2.2.2.1 r922.2.2.2.2 r941.2.1 r941.2.2)
  · exact r_none
set_option maxHeartbeats 4000000 in
set_option maxRecDepth 100000 in
theorem wc_23 {cI cS : ClassId} {X : CX} {Qf : Unit → State → Prop} (C : Cx X RL cL_law 4 ret room_1 (tyz cI cS)) {b L : Nat} {sc : Nat → Int32} (hX : Scr X b L sc) {q qS qC p : Nat → Nat} (i : Int32) (kk : (Nat → Nat) → (Nat → Nat) → Int32 → Int32 → Option Nat → Int32 → Int32 → Int32 → Int32 → (Nat → Int32) → (Nat → Int32) → (Nat → Nat → Int32) → (Nat → Int32) → (Nat → Nat → Int32) → (Nat → Int32) → (Nat → Int32) → (Nat → Nat → Int32) → (Nat → Int32) → (Nat → Nat → Int32) → Option Unit) (hk : ∀ (qb : Nat → Nat) (qs : Nat → Nat) (tr : Int32) (fa : Int32) (fr : Option Nat) (rb : Int32) (rl : Int32) (ra : Int32) (wl : Int32) (WS : Nat → Int32) (BI : Nat → Int32) (BA : Nat → Nat → Int32) (SI : Nat → Int32) (SA : Nat → Nat → Int32) (LN : Nat → Int32) (SZ : Nat → Int32) (CE : Nat → Nat → Int32) (MI : Nat → Int32) (MA : Nat → Nat → Int32), JR X Qf 4 room_1.cells room_1.slots (kk qb qs tr fa fr rb rl ra wl WS BI BA SI SA LN SZ CE MI MA) (wdX cI cS q qb qs qS qC (qb 0) (qs 0) tr fa fr rb rl ra wl WS BI BA SI SA LN SZ CE ++ wdM cI p MI MA) [(0, .ref b), (1, .ref (q 0)), (2, .ref (p 0)), (3, .int i)] 1250 []) : ∀ (qb : Nat → Nat) (qs : Nat → Nat) (tr : Int32) (fa : Int32) (fr : Option Nat) (rb : Int32) (rl : Int32) (ra : Int32) (wl : Int32) (WS : Nat → Int32) (BI : Nat → Int32) (BA : Nat → Nat → Int32) (SI : Nat → Int32) (SA : Nat → Nat → Int32) (LN : Nat → Int32) (SZ : Nat → Int32) (CE : Nat → Nat → Int32) (MI : Nat → Int32) (MA : Nat → Nat → Int32), JR X Qf 4 room_1.cells room_1.slots (lc_23 kk L sc qS i qb qs tr fa fr rb rl ra wl WS BI BA SI SA LN SZ CE MI MA) (wdX cI cS q qb qs qS qC (qb 0) (qs 0) tr fa fr rb rl ra wl WS BI BA SI SA LN SZ CE ++ wdM cI p MI MA) [(0, .ref b), (1, .ref (q 0)), (2, .ref (p 0)), (3, .int i)] 949 [] := by
  intro qb qs tr fa fr rb rl ra wl WS BI BA SI SA LN SZ CE MI MA
  unfold lc_23
  refine r_aload_n (pc := 949) C 1 dL_law_949 rfl rfl ?_
  refine r_aload_n (pc := 950) C 0 dL_law_950 rfl rfl ?_
  refine r_iload_n (pc := 951) C 3 dL_law_951 rfl rfl ?_
  refine r_iconst (pc := 952) C dL_law_952 (ci_1) ?_
  refine r_iadd (pc := 953) C dL_law_953 ?_
  refine r_sld (pc := 954) C hX dL_law_954 ?_
  refine r_callV (pc := 955) (rest := []) C isX (fun r955 => wdX cI cS q qb qs qS qC (qb 0) (qs 0) tr fa fr rb rl ra wl WS BI BA SI SA r955.2.1 r955.2.2 CE ++ wdM cI p MI MA) (m_X4_lose (xl X) (xD X) cI cS q qb qs qS qC tr fa fr rb rl ra wl WS BI BA SI SA LN SZ CE (sc (i + (1 : Int32)).toNatClampNeg)) mv_L_114 cutX ndX (fun _ => setX) (fun _ => adrX) rfl rfl rfl ⟨Nat.le_refl _, Nat.le_refl _⟩ rfl rfl (Nat.le_of_ble_eq_true rfl) dL_law_955 (fun r955 => ?_)
  refine r_aload_n (pc := 958) C 2 dL_law_958 rfl rfl ?_
  refine r_aload_n (pc := 959) C 0 dL_law_959 rfl rfl ?_
  refine r_iload_n (pc := 960) C 3 dL_law_960 rfl rfl ?_
  refine r_iconst (pc := 961) C dL_law_961 (ci_1) ?_
  refine r_iadd (pc := 962) C dL_law_962 ?_
  refine r_sld (pc := 963) C hX dL_law_963 ?_
  refine r_callV (pc := 964) (rest := [.int r955.1]) C isM (fun r964 => wdX cI cS q qb qs qS qC (qb 0) (qs 0) tr fa fr rb rl ra wl WS BI BA SI SA r955.2.1 r955.2.2 CE ++ wdM cI p MI r964.2) (m_X5_lose (xl X) (xD X) cI cS p MI MA (sc (i + (1 : Int32)).toNatClampNeg)) mv_L_117 cutM ndM (fun _ => setM) (fun _ => adrM) rfl rfl rfl ⟨Nat.le_refl _, Nat.le_refl _⟩ rfl rfl (Nat.le_of_ble_eq_true rfl) dL_law_964 (fun r964 => ?_)
  refine r_icmp_eq (pc := 967) (tgt := 1250) C dL_law_967 (by decide) ?_ ?_
  · exact r_sub [0, 1, 2, 3] rfl (hk qb qs tr fa fr rb rl ra wl WS BI BA SI SA r955.2.1 r955.2.2 CE MI r964.2)
  · exact r_none
set_option maxHeartbeats 4000000 in
set_option maxRecDepth 100000 in
theorem wc_24 {cI cS : ClassId} {X : CX} {Qf : Unit → State → Prop} (C : Cx X RL cL_law 4 ret room_1 (tyz cI cS)) {b L : Nat} {sc : Nat → Int32} (hX : Scr X b L sc) {q qS qC p : Nat → Nat} (i : Int32) (kk : (Nat → Nat) → (Nat → Nat) → Int32 → Int32 → Option Nat → Int32 → Int32 → Int32 → Int32 → (Nat → Int32) → (Nat → Int32) → (Nat → Nat → Int32) → (Nat → Int32) → (Nat → Nat → Int32) → (Nat → Int32) → (Nat → Int32) → (Nat → Nat → Int32) → (Nat → Int32) → (Nat → Nat → Int32) → Option Unit) (hk : ∀ (qb : Nat → Nat) (qs : Nat → Nat) (tr : Int32) (fa : Int32) (fr : Option Nat) (rb : Int32) (rl : Int32) (ra : Int32) (wl : Int32) (WS : Nat → Int32) (BI : Nat → Int32) (BA : Nat → Nat → Int32) (SI : Nat → Int32) (SA : Nat → Nat → Int32) (LN : Nat → Int32) (SZ : Nat → Int32) (CE : Nat → Nat → Int32) (MI : Nat → Int32) (MA : Nat → Nat → Int32), JR X Qf 4 room_1.cells room_1.slots (kk qb qs tr fa fr rb rl ra wl WS BI BA SI SA LN SZ CE MI MA) (wdX cI cS q qb qs qS qC (qb 0) (qs 0) tr fa fr rb rl ra wl WS BI BA SI SA LN SZ CE ++ wdM cI p MI MA) [(0, .ref b), (1, .ref (q 0)), (2, .ref (p 0)), (3, .int i)] 1250 []) : ∀ (qb : Nat → Nat) (qs : Nat → Nat) (tr : Int32) (fa : Int32) (fr : Option Nat) (rb : Int32) (rl : Int32) (ra : Int32) (wl : Int32) (WS : Nat → Int32) (BI : Nat → Int32) (BA : Nat → Nat → Int32) (SI : Nat → Int32) (SA : Nat → Nat → Int32) (LN : Nat → Int32) (SZ : Nat → Int32) (CE : Nat → Nat → Int32) (MI : Nat → Int32) (MA : Nat → Nat → Int32), JR X Qf 4 room_1.cells room_1.slots (lc_24 kk L sc qS i qb qs tr fa fr rb rl ra wl WS BI BA SI SA LN SZ CE MI MA) (wdX cI cS q qb qs qS qC (qb 0) (qs 0) tr fa fr rb rl ra wl WS BI BA SI SA LN SZ CE ++ wdM cI p MI MA) [(0, .ref b), (1, .ref (q 0)), (2, .ref (p 0)), (3, .int i)] 972 [] := by
  intro qb qs tr fa fr rb rl ra wl WS BI BA SI SA LN SZ CE MI MA
  unfold lc_24
  refine r_aload_n (pc := 972) C 1 dL_law_972 rfl rfl ?_
  refine r_aload_n (pc := 973) C 0 dL_law_973 rfl rfl ?_
  refine r_iload_n (pc := 974) C 3 dL_law_974 rfl rfl ?_
  refine r_iconst (pc := 975) C dL_law_975 (ci_1) ?_
  refine r_iadd (pc := 976) C dL_law_976 ?_
  refine r_sld (pc := 977) C hX dL_law_977 ?_
  refine r_aload_n (pc := 978) C 0 dL_law_978 rfl rfl ?_
  refine r_iload_n (pc := 979) C 3 dL_law_979 rfl rfl ?_
  refine r_iconst (pc := 980) C dL_law_980 (ci_2) ?_
  refine r_iadd (pc := 981) C dL_law_981 ?_
  refine r_sld (pc := 982) C hX dL_law_982 ?_
  refine r_aload_n (pc := 983) C 0 dL_law_983 rfl rfl ?_
  refine r_iload_n (pc := 984) C 3 dL_law_984 rfl rfl ?_
  refine r_iconst (pc := 985) C dL_law_985 (ci_3) ?_
  refine r_iadd (pc := 986) C dL_law_986 ?_
  refine r_sld (pc := 987) C hX dL_law_987 ?_
  refine r_callV (pc := 988) (rest := []) C isX (fun r988 => wdX cI cS q qb qs qS qC (qb 0) (qs 0) tr r988.2.1 fr rb rl ra wl WS BI BA SI SA LN SZ r988.2.2 ++ wdM cI p MI MA) (m_X4_put (xl X) (xD X) cI cS q qb qs qS qC tr fa fr rb rl ra wl WS BI BA SI SA LN SZ CE (sc (i + (1 : Int32)).toNatClampNeg) (sc (i + (2 : Int32)).toNatClampNeg) (sc (i + (3 : Int32)).toNatClampNeg)) mv_L_118 cutX ndX (fun _ => setX) (fun _ => adrX) rfl rfl rfl ⟨Nat.le_refl _, Nat.le_refl _⟩ rfl rfl (Nat.le_of_ble_eq_true rfl) dL_law_988 (fun r988 => ?_)
  refine r_aload_n (pc := 991) C 2 dL_law_991 rfl rfl ?_
  refine r_aload_n (pc := 992) C 0 dL_law_992 rfl rfl ?_
  refine r_iload_n (pc := 993) C 3 dL_law_993 rfl rfl ?_
  refine r_iconst (pc := 994) C dL_law_994 (ci_1) ?_
  refine r_iadd (pc := 995) C dL_law_995 ?_
  refine r_sld (pc := 996) C hX dL_law_996 ?_
  refine r_aload_n (pc := 997) C 0 dL_law_997 rfl rfl ?_
  refine r_iload_n (pc := 998) C 3 dL_law_998 rfl rfl ?_
  refine r_iconst (pc := 999) C dL_law_999 (ci_2) ?_
  refine r_iadd (pc := 1000) C dL_law_1000 ?_
  refine r_sld (pc := 1001) C hX dL_law_1001 ?_
  refine r_aload_n (pc := 1002) C 0 dL_law_1002 rfl rfl ?_
  refine r_iload_n (pc := 1003) C 3 dL_law_1003 rfl rfl ?_
  refine r_iconst (pc := 1004) C dL_law_1004 (ci_3) ?_
  refine r_iadd (pc := 1005) C dL_law_1005 ?_
  refine r_sld (pc := 1006) C hX dL_law_1006 ?_
  refine r_callV (pc := 1007) (rest := [.int r988.1]) C isM (fun r1007 => wdX cI cS q qb qs qS qC (qb 0) (qs 0) tr r988.2.1 fr rb rl ra wl WS BI BA SI SA LN SZ r988.2.2 ++ wdM cI p r1007.2.1 r1007.2.2) (m_X5_put (xl X) (xD X) cI cS p MI MA (sc (i + (1 : Int32)).toNatClampNeg) (sc (i + (2 : Int32)).toNatClampNeg) (sc (i + (3 : Int32)).toNatClampNeg)) mv_L_121 cutM ndM (fun _ => setM) (fun _ => adrM) rfl rfl rfl ⟨Nat.le_refl _, Nat.le_refl _⟩ rfl rfl (Nat.le_of_ble_eq_true rfl) dL_law_1007 (fun r1007 => ?_)
  refine r_icmp_eq (pc := 1010) (tgt := 1250) C dL_law_1010 (by decide) ?_ ?_
  · exact r_sub [0, 1, 2, 3] rfl (hk qb qs tr r988.2.1 fr rb rl ra wl WS BI BA SI SA LN SZ r988.2.2 r1007.2.1 r1007.2.2)
  · exact r_none
set_option maxHeartbeats 4000000 in
set_option maxRecDepth 100000 in
theorem wc_25 {cI cS : ClassId} {X : CX} {Qf : Unit → State → Prop} (C : Cx X RL cL_law 4 ret room_1 (tyz cI cS)) {b L : Nat} {sc : Nat → Int32} (hX : Scr X b L sc) {q qS qC p : Nat → Nat} (i : Int32) (kk : (Nat → Nat) → (Nat → Nat) → Int32 → Int32 → Option Nat → Int32 → Int32 → Int32 → Int32 → (Nat → Int32) → (Nat → Int32) → (Nat → Nat → Int32) → (Nat → Int32) → (Nat → Nat → Int32) → (Nat → Int32) → (Nat → Int32) → (Nat → Nat → Int32) → (Nat → Int32) → (Nat → Nat → Int32) → Option Unit) (hk : ∀ (qb : Nat → Nat) (qs : Nat → Nat) (tr : Int32) (fa : Int32) (fr : Option Nat) (rb : Int32) (rl : Int32) (ra : Int32) (wl : Int32) (WS : Nat → Int32) (BI : Nat → Int32) (BA : Nat → Nat → Int32) (SI : Nat → Int32) (SA : Nat → Nat → Int32) (LN : Nat → Int32) (SZ : Nat → Int32) (CE : Nat → Nat → Int32) (MI : Nat → Int32) (MA : Nat → Nat → Int32), JR X Qf 4 room_1.cells room_1.slots (kk qb qs tr fa fr rb rl ra wl WS BI BA SI SA LN SZ CE MI MA) (wdX cI cS q qb qs qS qC (qb 0) (qs 0) tr fa fr rb rl ra wl WS BI BA SI SA LN SZ CE ++ wdM cI p MI MA) [(0, .ref b), (1, .ref (q 0)), (2, .ref (p 0)), (3, .int i)] 1250 []) : ∀ (qb : Nat → Nat) (qs : Nat → Nat) (tr : Int32) (fa : Int32) (fr : Option Nat) (rb : Int32) (rl : Int32) (ra : Int32) (wl : Int32) (WS : Nat → Int32) (BI : Nat → Int32) (BA : Nat → Nat → Int32) (SI : Nat → Int32) (SA : Nat → Nat → Int32) (LN : Nat → Int32) (SZ : Nat → Int32) (CE : Nat → Nat → Int32) (MI : Nat → Int32) (MA : Nat → Nat → Int32), JR X Qf 4 room_1.cells room_1.slots (lc_25 kk L sc qS i qb qs tr fa fr rb rl ra wl WS BI BA SI SA LN SZ CE MI MA) (wdX cI cS q qb qs qS qC (qb 0) (qs 0) tr fa fr rb rl ra wl WS BI BA SI SA LN SZ CE ++ wdM cI p MI MA) [(0, .ref b), (1, .ref (q 0)), (2, .ref (p 0)), (3, .int i)] 1015 [] := by
  intro qb qs tr fa fr rb rl ra wl WS BI BA SI SA LN SZ CE MI MA
  unfold lc_25
  refine r_aload_n (pc := 1015) C 1 dL_law_1015 rfl rfl ?_
  refine r_aload_n (pc := 1016) C 0 dL_law_1016 rfl rfl ?_
  refine r_iload_n (pc := 1017) C 3 dL_law_1017 rfl rfl ?_
  refine r_iconst (pc := 1018) C dL_law_1018 (ci_1) ?_
  refine r_iadd (pc := 1019) C dL_law_1019 ?_
  refine r_sld (pc := 1020) C hX dL_law_1020 ?_
  refine r_aload_n (pc := 1021) C 0 dL_law_1021 rfl rfl ?_
  refine r_iload_n (pc := 1022) C 3 dL_law_1022 rfl rfl ?_
  refine r_iconst (pc := 1023) C dL_law_1023 (ci_2) ?_
  refine r_iadd (pc := 1024) C dL_law_1024 ?_
  refine r_sld (pc := 1025) C hX dL_law_1025 ?_
  refine r_aload_n (pc := 1026) C 0 dL_law_1026 rfl rfl ?_
  refine r_iload_n (pc := 1027) C 3 dL_law_1027 rfl rfl ?_
  refine r_iconst (pc := 1028) C dL_law_1028 (ci_3) ?_
  refine r_iadd (pc := 1029) C dL_law_1029 ?_
  refine r_sld (pc := 1030) C hX dL_law_1030 ?_
  refine r_callV (pc := 1031) (rest := []) C isX (fun r1031 => wdX cI cS q qb qs qS qC (qb 0) (qs 0) tr r1031.2 fr rb rl ra wl WS BI BA SI SA LN SZ CE ++ wdM cI p MI MA) (m_X4_cell (xl X) (xD X) cI cS q qb qs qS qC tr fa fr rb rl ra wl WS BI BA SI SA LN SZ CE (sc (i + (1 : Int32)).toNatClampNeg) (sc (i + (2 : Int32)).toNatClampNeg) (sc (i + (3 : Int32)).toNatClampNeg)) mv_L_122 cutX ndX (fun _ => setX) (fun _ => adrX) rfl rfl rfl ⟨Nat.le_refl _, Nat.le_refl _⟩ rfl rfl (Nat.le_of_ble_eq_true rfl) dL_law_1031 (fun r1031 => ?_)
  refine r_aload_n (pc := 1034) C 2 dL_law_1034 rfl rfl ?_
  refine r_aload_n (pc := 1035) C 0 dL_law_1035 rfl rfl ?_
  refine r_iload_n (pc := 1036) C 3 dL_law_1036 rfl rfl ?_
  refine r_iconst (pc := 1037) C dL_law_1037 (ci_1) ?_
  refine r_iadd (pc := 1038) C dL_law_1038 ?_
  refine r_sld (pc := 1039) C hX dL_law_1039 ?_
  refine r_aload_n (pc := 1040) C 0 dL_law_1040 rfl rfl ?_
  refine r_iload_n (pc := 1041) C 3 dL_law_1041 rfl rfl ?_
  refine r_iconst (pc := 1042) C dL_law_1042 (ci_2) ?_
  refine r_iadd (pc := 1043) C dL_law_1043 ?_
  refine r_sld (pc := 1044) C hX dL_law_1044 ?_
  refine r_aload_n (pc := 1045) C 0 dL_law_1045 rfl rfl ?_
  refine r_iload_n (pc := 1046) C 3 dL_law_1046 rfl rfl ?_
  refine r_iconst (pc := 1047) C dL_law_1047 (ci_3) ?_
  refine r_iadd (pc := 1048) C dL_law_1048 ?_
  refine r_sld (pc := 1049) C hX dL_law_1049 ?_
  refine r_callV (pc := 1050) (rest := [.long r1031.1]) C isM (fun r1050 => wdX cI cS q qb qs qS qC (qb 0) (qs 0) tr r1031.2 fr rb rl ra wl WS BI BA SI SA LN SZ CE ++ wdM cI p r1050.2 MA) (m_X5_cell (xl X) (xD X) cI cS p MI MA (sc (i + (1 : Int32)).toNatClampNeg) (sc (i + (2 : Int32)).toNatClampNeg) (sc (i + (3 : Int32)).toNatClampNeg)) mv_L_125 cutM ndM (fun _ => setM) (fun _ => adrM) rfl rfl rfl ⟨Nat.le_refl _, Nat.le_refl _⟩ rfl rfl (Nat.le_of_ble_eq_true rfl) dL_law_1050 (fun r1050 => ?_)
  refine r_lcmp (pc := 1053) C dL_law_1053 ?_
  refine r_if_eq (pc := 1054) (tgt := 1250) C dL_law_1054 (by decide) ?_ ?_
  · exact r_sub [0, 1, 2, 3] rfl (hk qb qs tr r1031.2 fr rb rl ra wl WS BI BA SI SA LN SZ CE r1050.2 MA)
  · exact r_none
set_option maxHeartbeats 4000000 in
set_option maxRecDepth 100000 in
theorem wc_26 {cI cS : ClassId} {X : CX} {Qf : Unit → State → Prop} (C : Cx X RL cL_law 4 ret room_1 (tyz cI cS)) {b L : Nat} {sc : Nat → Int32} (hX : Scr X b L sc) {q qS qC p : Nat → Nat} (i : Int32) (kk : (Nat → Nat) → (Nat → Nat) → Int32 → Int32 → Option Nat → Int32 → Int32 → Int32 → Int32 → (Nat → Int32) → (Nat → Int32) → (Nat → Nat → Int32) → (Nat → Int32) → (Nat → Nat → Int32) → (Nat → Int32) → (Nat → Int32) → (Nat → Nat → Int32) → (Nat → Int32) → (Nat → Nat → Int32) → Option Unit) (hk : ∀ (qb : Nat → Nat) (qs : Nat → Nat) (tr : Int32) (fa : Int32) (fr : Option Nat) (rb : Int32) (rl : Int32) (ra : Int32) (wl : Int32) (WS : Nat → Int32) (BI : Nat → Int32) (BA : Nat → Nat → Int32) (SI : Nat → Int32) (SA : Nat → Nat → Int32) (LN : Nat → Int32) (SZ : Nat → Int32) (CE : Nat → Nat → Int32) (MI : Nat → Int32) (MA : Nat → Nat → Int32), JR X Qf 4 room_1.cells room_1.slots (kk qb qs tr fa fr rb rl ra wl WS BI BA SI SA LN SZ CE MI MA) (wdX cI cS q qb qs qS qC (qb 0) (qs 0) tr fa fr rb rl ra wl WS BI BA SI SA LN SZ CE ++ wdM cI p MI MA) [(0, .ref b), (1, .ref (q 0)), (2, .ref (p 0)), (3, .int i)] 1250 []) : ∀ (qb : Nat → Nat) (qs : Nat → Nat) (tr : Int32) (fa : Int32) (fr : Option Nat) (rb : Int32) (rl : Int32) (ra : Int32) (wl : Int32) (WS : Nat → Int32) (BI : Nat → Int32) (BA : Nat → Nat → Int32) (SI : Nat → Int32) (SA : Nat → Nat → Int32) (LN : Nat → Int32) (SZ : Nat → Int32) (CE : Nat → Nat → Int32) (MI : Nat → Int32) (MA : Nat → Nat → Int32), JR X Qf 4 room_1.cells room_1.slots (lc_26 kk L sc qS i qb qs tr fa fr rb rl ra wl WS BI BA SI SA LN SZ CE MI MA) (wdX cI cS q qb qs qS qC (qb 0) (qs 0) tr fa fr rb rl ra wl WS BI BA SI SA LN SZ CE ++ wdM cI p MI MA) [(0, .ref b), (1, .ref (q 0)), (2, .ref (p 0)), (3, .int i)] 1059 [] := by
  intro qb qs tr fa fr rb rl ra wl WS BI BA SI SA LN SZ CE MI MA
  unfold lc_26
  refine r_aload_n (pc := 1059) C 1 dL_law_1059 rfl rfl ?_
  refine r_aload_n (pc := 1060) C 0 dL_law_1060 rfl rfl ?_
  refine r_iload_n (pc := 1061) C 3 dL_law_1061 rfl rfl ?_
  refine r_iconst (pc := 1062) C dL_law_1062 (ci_1) ?_
  refine r_iadd (pc := 1063) C dL_law_1063 ?_
  refine r_sld (pc := 1064) C hX dL_law_1064 ?_
  refine r_aload_n (pc := 1065) C 0 dL_law_1065 rfl rfl ?_
  refine r_iload_n (pc := 1066) C 3 dL_law_1066 rfl rfl ?_
  refine r_iconst (pc := 1067) C dL_law_1067 (ci_2) ?_
  refine r_iadd (pc := 1068) C dL_law_1068 ?_
  refine r_sld (pc := 1069) C hX dL_law_1069 ?_
  refine r_aload_n (pc := 1070) C 0 dL_law_1070 rfl rfl ?_
  refine r_iload_n (pc := 1071) C 3 dL_law_1071 rfl rfl ?_
  refine r_iconst (pc := 1072) C dL_law_1072 (ci_3) ?_
  refine r_iadd (pc := 1073) C dL_law_1073 ?_
  refine r_sld (pc := 1074) C hX dL_law_1074 ?_
  refine r_aload_n (pc := 1075) C 0 dL_law_1075 rfl rfl ?_
  refine r_iload_n (pc := 1076) C 3 dL_law_1076 rfl rfl ?_
  refine r_iconst (pc := 1077) C dL_law_1077 (ci_4) ?_
  refine r_iadd (pc := 1078) C dL_law_1078 ?_
  refine r_sld (pc := 1079) C hX dL_law_1079 ?_
  refine r_aload_n (pc := 1080) C 0 dL_law_1080 rfl rfl ?_
  refine r_iload_n (pc := 1081) C 3 dL_law_1081 rfl rfl ?_
  refine r_iconst (pc := 1082) C dL_law_1082 (ci_5) ?_
  refine r_iadd (pc := 1083) C dL_law_1083 ?_
  refine r_sld (pc := 1084) C hX dL_law_1084 ?_
  refine r_callV (pc := 1085) (rest := []) C isX (fun r1085 => wdX cI cS q qb qs qS qC (qb 0) (qs 0) tr r1085.2.1 fr rb rl ra wl WS BI BA SI SA LN SZ r1085.2.2 ++ wdM cI p MI MA) (m_X4_copy (xl X) (xD X) cI cS q qb qs qS qC tr fa fr rb rl ra wl WS BI BA SI SA LN SZ CE (sc (i + (1 : Int32)).toNatClampNeg) (sc (i + (2 : Int32)).toNatClampNeg) (sc (i + (3 : Int32)).toNatClampNeg) (sc (i + (4 : Int32)).toNatClampNeg) (sc (i + (5 : Int32)).toNatClampNeg)) mv_L_126 cutX ndX (fun _ => setX) (fun _ => adrX) rfl rfl rfl ⟨Nat.le_refl _, Nat.le_refl _⟩ rfl rfl (Nat.le_of_ble_eq_true rfl) dL_law_1085 (fun r1085 => ?_)
  refine r_aload_n (pc := 1088) C 2 dL_law_1088 rfl rfl ?_
  refine r_aload_n (pc := 1089) C 0 dL_law_1089 rfl rfl ?_
  refine r_iload_n (pc := 1090) C 3 dL_law_1090 rfl rfl ?_
  refine r_iconst (pc := 1091) C dL_law_1091 (ci_1) ?_
  refine r_iadd (pc := 1092) C dL_law_1092 ?_
  refine r_sld (pc := 1093) C hX dL_law_1093 ?_
  refine r_aload_n (pc := 1094) C 0 dL_law_1094 rfl rfl ?_
  refine r_iload_n (pc := 1095) C 3 dL_law_1095 rfl rfl ?_
  refine r_iconst (pc := 1096) C dL_law_1096 (ci_2) ?_
  refine r_iadd (pc := 1097) C dL_law_1097 ?_
  refine r_sld (pc := 1098) C hX dL_law_1098 ?_
  refine r_aload_n (pc := 1099) C 0 dL_law_1099 rfl rfl ?_
  refine r_iload_n (pc := 1100) C 3 dL_law_1100 rfl rfl ?_
  refine r_iconst (pc := 1101) C dL_law_1101 (ci_3) ?_
  refine r_iadd (pc := 1102) C dL_law_1102 ?_
  refine r_sld (pc := 1103) C hX dL_law_1103 ?_
  refine r_aload_n (pc := 1104) C 0 dL_law_1104 rfl rfl ?_
  refine r_iload_n (pc := 1105) C 3 dL_law_1105 rfl rfl ?_
  refine r_iconst (pc := 1106) C dL_law_1106 (ci_4) ?_
  refine r_iadd (pc := 1107) C dL_law_1107 ?_
  refine r_sld (pc := 1108) C hX dL_law_1108 ?_
  refine r_aload_n (pc := 1109) C 0 dL_law_1109 rfl rfl ?_
  refine r_iload_n (pc := 1110) C 3 dL_law_1110 rfl rfl ?_
  refine r_iconst (pc := 1111) C dL_law_1111 (ci_5) ?_
  refine r_iadd (pc := 1112) C dL_law_1112 ?_
  refine r_sld (pc := 1113) C hX dL_law_1113 ?_
  refine r_callV (pc := 1114) (rest := [.int r1085.1]) C isM (fun r1114 => wdX cI cS q qb qs qS qC (qb 0) (qs 0) tr r1085.2.1 fr rb rl ra wl WS BI BA SI SA LN SZ r1085.2.2 ++ wdM cI p r1114.2.1 r1114.2.2) (m_X5_copy (xl X) (xD X) cI cS p MI MA (sc (i + (1 : Int32)).toNatClampNeg) (sc (i + (2 : Int32)).toNatClampNeg) (sc (i + (3 : Int32)).toNatClampNeg) (sc (i + (4 : Int32)).toNatClampNeg) (sc (i + (5 : Int32)).toNatClampNeg)) mv_L_130 cutM ndM (fun _ => setM) (fun _ => adrM) rfl rfl rfl ⟨Nat.le_refl _, Nat.le_refl _⟩ rfl rfl (Nat.le_of_ble_eq_true rfl) dL_law_1114 (fun r1114 => ?_)
  refine r_icmp_eq (pc := 1117) (tgt := 1250) C dL_law_1117 (by decide) ?_ ?_
  · exact r_sub [0, 1, 2, 3] rfl (hk qb qs tr r1085.2.1 fr rb rl ra wl WS BI BA SI SA LN SZ r1085.2.2 r1114.2.1 r1114.2.2)
  · exact r_none
set_option maxHeartbeats 4000000 in
set_option maxRecDepth 100000 in
theorem wc_27 {cI cS : ClassId} {X : CX} {Qf : Unit → State → Prop} (C : Cx X RL cL_law 4 ret room_1 (tyz cI cS)) {b L : Nat} {sc : Nat → Int32} (hX : Scr X b L sc) {q qS qC p : Nat → Nat} (i : Int32) (kk : (Nat → Nat) → (Nat → Nat) → Int32 → Int32 → Option Nat → Int32 → Int32 → Int32 → Int32 → (Nat → Int32) → (Nat → Int32) → (Nat → Nat → Int32) → (Nat → Int32) → (Nat → Nat → Int32) → (Nat → Int32) → (Nat → Int32) → (Nat → Nat → Int32) → (Nat → Int32) → (Nat → Nat → Int32) → Option Unit) (hk : ∀ (qb : Nat → Nat) (qs : Nat → Nat) (tr : Int32) (fa : Int32) (fr : Option Nat) (rb : Int32) (rl : Int32) (ra : Int32) (wl : Int32) (WS : Nat → Int32) (BI : Nat → Int32) (BA : Nat → Nat → Int32) (SI : Nat → Int32) (SA : Nat → Nat → Int32) (LN : Nat → Int32) (SZ : Nat → Int32) (CE : Nat → Nat → Int32) (MI : Nat → Int32) (MA : Nat → Nat → Int32), JR X Qf 4 room_1.cells room_1.slots (kk qb qs tr fa fr rb rl ra wl WS BI BA SI SA LN SZ CE MI MA) (wdX cI cS q qb qs qS qC (qb 0) (qs 0) tr fa fr rb rl ra wl WS BI BA SI SA LN SZ CE ++ wdM cI p MI MA) [(0, .ref b), (1, .ref (q 0)), (2, .ref (p 0)), (3, .int i)] 1250 []) : ∀ (qb : Nat → Nat) (qs : Nat → Nat) (tr : Int32) (fa : Int32) (fr : Option Nat) (rb : Int32) (rl : Int32) (ra : Int32) (wl : Int32) (WS : Nat → Int32) (BI : Nat → Int32) (BA : Nat → Nat → Int32) (SI : Nat → Int32) (SA : Nat → Nat → Int32) (LN : Nat → Int32) (SZ : Nat → Int32) (CE : Nat → Nat → Int32) (MI : Nat → Int32) (MA : Nat → Nat → Int32), JR X Qf 4 room_1.cells room_1.slots (lc_27 kk L sc qS i qb qs tr fa fr rb rl ra wl WS BI BA SI SA LN SZ CE MI MA) (wdX cI cS q qb qs qS qC (qb 0) (qs 0) tr fa fr rb rl ra wl WS BI BA SI SA LN SZ CE ++ wdM cI p MI MA) [(0, .ref b), (1, .ref (q 0)), (2, .ref (p 0)), (3, .int i)] 1122 [] := by
  intro qb qs tr fa fr rb rl ra wl WS BI BA SI SA LN SZ CE MI MA
  unfold lc_27
  refine r_aload_n (pc := 1122) C 1 dL_law_1122 rfl rfl ?_
  refine r_aload_n (pc := 1123) C 0 dL_law_1123 rfl rfl ?_
  refine r_iload_n (pc := 1124) C 3 dL_law_1124 rfl rfl ?_
  refine r_iconst (pc := 1125) C dL_law_1125 (ci_1) ?_
  refine r_iadd (pc := 1126) C dL_law_1126 ?_
  refine r_sld (pc := 1127) C hX dL_law_1127 ?_
  refine r_callV (pc := 1128) (rest := []) C isX (fun r1128 => wdX cI cS q qb qs qS qC (qb 0) (qs 0) r1128.2 fa fr rb rl ra wl WS BI BA SI SA LN SZ CE ++ wdM cI p MI MA) (m_X4_tell (xl X) (xD X) cI cS q qb qs qS qC tr fa fr rb rl ra wl WS BI BA SI SA LN SZ CE (sc (i + (1 : Int32)).toNatClampNeg)) mv_L_131 cutX ndX (fun _ => setX) (fun _ => adrX) rfl rfl rfl ⟨Nat.le_refl _, Nat.le_refl _⟩ rfl rfl (Nat.le_of_ble_eq_true rfl) dL_law_1128 (fun r1128 => ?_)
  refine r_aload_n (pc := 1131) C 2 dL_law_1131 rfl rfl ?_
  refine r_aload_n (pc := 1132) C 0 dL_law_1132 rfl rfl ?_
  refine r_iload_n (pc := 1133) C 3 dL_law_1133 rfl rfl ?_
  refine r_iconst (pc := 1134) C dL_law_1134 (ci_1) ?_
  refine r_iadd (pc := 1135) C dL_law_1135 ?_
  refine r_sld (pc := 1136) C hX dL_law_1136 ?_
  refine r_callV (pc := 1137) (rest := [.int r1128.1]) C isM (fun r1137 => wdX cI cS q qb qs qS qC (qb 0) (qs 0) r1128.2 fa fr rb rl ra wl WS BI BA SI SA LN SZ CE ++ wdM cI p r1137.2 MA) (m_X5_tell (xl X) (xD X) cI cS p MI MA (sc (i + (1 : Int32)).toNatClampNeg)) mv_L_134 cutM ndM (fun _ => setM) (fun _ => adrM) rfl rfl rfl ⟨Nat.le_refl _, Nat.le_refl _⟩ rfl rfl (Nat.le_of_ble_eq_true rfl) dL_law_1137 (fun r1137 => ?_)
  refine r_icmp_eq (pc := 1140) (tgt := 1250) C dL_law_1140 (by decide) ?_ ?_
  · exact r_sub [0, 1, 2, 3] rfl (hk qb qs r1128.2 fa fr rb rl ra wl WS BI BA SI SA LN SZ CE r1137.2 MA)
  · exact r_none
set_option maxHeartbeats 4000000 in
set_option maxRecDepth 100000 in
theorem wc_28 {cI cS : ClassId} {X : CX} {Qf : Unit → State → Prop} (C : Cx X RL cL_law 4 ret room_1 (tyz cI cS)) {b L : Nat} {sc : Nat → Int32} (hX : Scr X b L sc) {q qS qC p : Nat → Nat} (i : Int32) (kk : (Nat → Nat) → (Nat → Nat) → Int32 → Int32 → Option Nat → Int32 → Int32 → Int32 → Int32 → (Nat → Int32) → (Nat → Int32) → (Nat → Nat → Int32) → (Nat → Int32) → (Nat → Nat → Int32) → (Nat → Int32) → (Nat → Int32) → (Nat → Nat → Int32) → (Nat → Int32) → (Nat → Nat → Int32) → Option Unit) (hk : ∀ (qb : Nat → Nat) (qs : Nat → Nat) (tr : Int32) (fa : Int32) (fr : Option Nat) (rb : Int32) (rl : Int32) (ra : Int32) (wl : Int32) (WS : Nat → Int32) (BI : Nat → Int32) (BA : Nat → Nat → Int32) (SI : Nat → Int32) (SA : Nat → Nat → Int32) (LN : Nat → Int32) (SZ : Nat → Int32) (CE : Nat → Nat → Int32) (MI : Nat → Int32) (MA : Nat → Nat → Int32), JR X Qf 4 room_1.cells room_1.slots (kk qb qs tr fa fr rb rl ra wl WS BI BA SI SA LN SZ CE MI MA) (wdX cI cS q qb qs qS qC (qb 0) (qs 0) tr fa fr rb rl ra wl WS BI BA SI SA LN SZ CE ++ wdM cI p MI MA) [(0, .ref b), (1, .ref (q 0)), (2, .ref (p 0)), (3, .int i)] 1250 []) : ∀ (qb : Nat → Nat) (qs : Nat → Nat) (tr : Int32) (fa : Int32) (fr : Option Nat) (rb : Int32) (rl : Int32) (ra : Int32) (wl : Int32) (WS : Nat → Int32) (BI : Nat → Int32) (BA : Nat → Nat → Int32) (SI : Nat → Int32) (SA : Nat → Nat → Int32) (LN : Nat → Int32) (SZ : Nat → Int32) (CE : Nat → Nat → Int32) (MI : Nat → Int32) (MA : Nat → Nat → Int32), JR X Qf 4 room_1.cells room_1.slots (lc_28 kk L sc qS i qb qs tr fa fr rb rl ra wl WS BI BA SI SA LN SZ CE MI MA) (wdX cI cS q qb qs qS qC (qb 0) (qs 0) tr fa fr rb rl ra wl WS BI BA SI SA LN SZ CE ++ wdM cI p MI MA) [(0, .ref b), (1, .ref (q 0)), (2, .ref (p 0)), (3, .int i)] 1145 [] := by
  intro qb qs tr fa fr rb rl ra wl WS BI BA SI SA LN SZ CE MI MA
  unfold lc_28
  refine r_aload_n (pc := 1145) C 1 dL_law_1145 rfl rfl ?_
  refine r_aload_n (pc := 1146) C 0 dL_law_1146 rfl rfl ?_
  refine r_iload_n (pc := 1147) C 3 dL_law_1147 rfl rfl ?_
  refine r_iconst (pc := 1148) C dL_law_1148 (ci_1) ?_
  refine r_iadd (pc := 1149) C dL_law_1149 ?_
  refine r_sld (pc := 1150) C hX dL_law_1150 ?_
  refine r_callV (pc := 1151) (rest := []) C isX (fun r1151 => wdX cI cS q qb qs qS qC (qb 0) (qs 0) r1151.2 fa fr rb rl ra wl WS BI BA SI SA LN SZ CE ++ wdM cI p MI MA) (m_X4_hush (xl X) (xD X) cI cS q qb qs qS qC tr fa fr rb rl ra wl WS BI BA SI SA LN SZ CE (sc (i + (1 : Int32)).toNatClampNeg)) mv_L_135 cutX ndX (fun _ => setX) (fun _ => adrX) rfl rfl rfl ⟨Nat.le_refl _, Nat.le_refl _⟩ rfl rfl (Nat.le_of_ble_eq_true rfl) dL_law_1151 (fun r1151 => ?_)
  refine r_aload_n (pc := 1154) C 2 dL_law_1154 rfl rfl ?_
  refine r_aload_n (pc := 1155) C 0 dL_law_1155 rfl rfl ?_
  refine r_iload_n (pc := 1156) C 3 dL_law_1156 rfl rfl ?_
  refine r_iconst (pc := 1157) C dL_law_1157 (ci_1) ?_
  refine r_iadd (pc := 1158) C dL_law_1158 ?_
  refine r_sld (pc := 1159) C hX dL_law_1159 ?_
  refine r_callV (pc := 1160) (rest := [.int r1151.1]) C isM (fun r1160 => wdX cI cS q qb qs qS qC (qb 0) (qs 0) r1151.2 fa fr rb rl ra wl WS BI BA SI SA LN SZ CE ++ wdM cI p r1160.2 MA) (m_X5_hush (xl X) (xD X) cI cS p MI MA (sc (i + (1 : Int32)).toNatClampNeg)) mv_L_138 cutM ndM (fun _ => setM) (fun _ => adrM) rfl rfl rfl ⟨Nat.le_refl _, Nat.le_refl _⟩ rfl rfl (Nat.le_of_ble_eq_true rfl) dL_law_1160 (fun r1160 => ?_)
  refine r_icmp_eq (pc := 1163) (tgt := 1250) C dL_law_1163 (by decide) ?_ ?_
  · exact r_sub [0, 1, 2, 3] rfl (hk qb qs r1151.2 fa fr rb rl ra wl WS BI BA SI SA LN SZ CE r1160.2 MA)
  · exact r_none
set_option maxHeartbeats 4000000 in
set_option maxRecDepth 100000 in
theorem wc_29 {cI cS : ClassId} {X : CX} {Qf : Unit → State → Prop} (C : Cx X RL cL_law 4 ret room_1 (tyz cI cS)) {b L : Nat} {sc : Nat → Int32} (hX : Scr X b L sc) {q qS qC p : Nat → Nat} (i : Int32) (kk : (Nat → Nat) → (Nat → Nat) → Int32 → Int32 → Option Nat → Int32 → Int32 → Int32 → Int32 → (Nat → Int32) → (Nat → Int32) → (Nat → Nat → Int32) → (Nat → Int32) → (Nat → Nat → Int32) → (Nat → Int32) → (Nat → Int32) → (Nat → Nat → Int32) → (Nat → Int32) → (Nat → Nat → Int32) → Option Unit) (hk : ∀ (qb : Nat → Nat) (qs : Nat → Nat) (tr : Int32) (fa : Int32) (fr : Option Nat) (rb : Int32) (rl : Int32) (ra : Int32) (wl : Int32) (WS : Nat → Int32) (BI : Nat → Int32) (BA : Nat → Nat → Int32) (SI : Nat → Int32) (SA : Nat → Nat → Int32) (LN : Nat → Int32) (SZ : Nat → Int32) (CE : Nat → Nat → Int32) (MI : Nat → Int32) (MA : Nat → Nat → Int32), JR X Qf 4 room_1.cells room_1.slots (kk qb qs tr fa fr rb rl ra wl WS BI BA SI SA LN SZ CE MI MA) (wdX cI cS q qb qs qS qC (qb 0) (qs 0) tr fa fr rb rl ra wl WS BI BA SI SA LN SZ CE ++ wdM cI p MI MA) [(0, .ref b), (1, .ref (q 0)), (2, .ref (p 0)), (3, .int i)] 1250 []) : ∀ (qb : Nat → Nat) (qs : Nat → Nat) (tr : Int32) (fa : Int32) (fr : Option Nat) (rb : Int32) (rl : Int32) (ra : Int32) (wl : Int32) (WS : Nat → Int32) (BI : Nat → Int32) (BA : Nat → Nat → Int32) (SI : Nat → Int32) (SA : Nat → Nat → Int32) (LN : Nat → Int32) (SZ : Nat → Int32) (CE : Nat → Nat → Int32) (MI : Nat → Int32) (MA : Nat → Nat → Int32), JR X Qf 4 room_1.cells room_1.slots (lc_29 kk L sc qS i qb qs tr fa fr rb rl ra wl WS BI BA SI SA LN SZ CE MI MA) (wdX cI cS q qb qs qS qC (qb 0) (qs 0) tr fa fr rb rl ra wl WS BI BA SI SA LN SZ CE ++ wdM cI p MI MA) [(0, .ref b), (1, .ref (q 0)), (2, .ref (p 0)), (3, .int i)] 1168 [] := by
  intro qb qs tr fa fr rb rl ra wl WS BI BA SI SA LN SZ CE MI MA
  unfold lc_29
  refine r_aload_n (pc := 1168) C 1 dL_law_1168 rfl rfl ?_
  refine r_aload_n (pc := 1169) C 0 dL_law_1169 rfl rfl ?_
  refine r_iload_n (pc := 1170) C 3 dL_law_1170 rfl rfl ?_
  refine r_iconst (pc := 1171) C dL_law_1171 (ci_1) ?_
  refine r_iadd (pc := 1172) C dL_law_1172 ?_
  refine r_sld (pc := 1173) C hX dL_law_1173 ?_
  refine r_aload_n (pc := 1174) C 0 dL_law_1174 rfl rfl ?_
  refine r_iload_n (pc := 1175) C 3 dL_law_1175 rfl rfl ?_
  refine r_iconst (pc := 1176) C dL_law_1176 (ci_2) ?_
  refine r_iadd (pc := 1177) C dL_law_1177 ?_
  refine r_sld (pc := 1178) C hX dL_law_1178 ?_
  refine r_callV (pc := 1179) (rest := []) C isX (fun r1179 => wdX cI cS q qb qs qS qC (qb 0) (qs 0) tr r1179.2 fr rb rl ra wl WS BI BA SI SA LN SZ CE ++ wdM cI p MI MA) (m_X4_as (xl X) (xD X) cI cS q qb qs qS qC tr fa fr rb rl ra wl WS BI BA SI SA LN SZ CE (sc (i + (1 : Int32)).toNatClampNeg) (sc (i + (2 : Int32)).toNatClampNeg)) mv_L_139 cutX ndX (fun _ => setX) (fun _ => adrX) rfl rfl rfl ⟨Nat.le_refl _, Nat.le_refl _⟩ rfl rfl (Nat.le_of_ble_eq_true rfl) dL_law_1179 (fun r1179 => ?_)
  refine r_aload_n (pc := 1182) C 2 dL_law_1182 rfl rfl ?_
  refine r_aload_n (pc := 1183) C 0 dL_law_1183 rfl rfl ?_
  refine r_iload_n (pc := 1184) C 3 dL_law_1184 rfl rfl ?_
  refine r_iconst (pc := 1185) C dL_law_1185 (ci_1) ?_
  refine r_iadd (pc := 1186) C dL_law_1186 ?_
  refine r_sld (pc := 1187) C hX dL_law_1187 ?_
  refine r_aload_n (pc := 1188) C 0 dL_law_1188 rfl rfl ?_
  refine r_iload_n (pc := 1189) C 3 dL_law_1189 rfl rfl ?_
  refine r_iconst (pc := 1190) C dL_law_1190 (ci_2) ?_
  refine r_iadd (pc := 1191) C dL_law_1191 ?_
  refine r_sld (pc := 1192) C hX dL_law_1192 ?_
  refine r_callV (pc := 1193) (rest := [.int r1179.1]) C isM (fun r1193 => wdX cI cS q qb qs qS qC (qb 0) (qs 0) tr r1179.2 fr rb rl ra wl WS BI BA SI SA LN SZ CE ++ wdM cI p r1193.2 MA) (m_X5_as (xl X) (xD X) cI cS p MI MA (sc (i + (1 : Int32)).toNatClampNeg) (sc (i + (2 : Int32)).toNatClampNeg)) mv_L_142 cutM ndM (fun _ => setM) (fun _ => adrM) rfl rfl rfl ⟨Nat.le_refl _, Nat.le_refl _⟩ rfl rfl (Nat.le_of_ble_eq_true rfl) dL_law_1193 (fun r1193 => ?_)
  refine r_icmp_eq (pc := 1196) (tgt := 1250) C dL_law_1196 (by decide) ?_ ?_
  · exact r_sub [0, 1, 2, 3] rfl (hk qb qs tr r1179.2 fr rb rl ra wl WS BI BA SI SA LN SZ CE r1193.2 MA)
  · exact r_none
set_option maxHeartbeats 4000000 in
set_option maxRecDepth 100000 in
theorem wc_30 {cI cS : ClassId} {X : CX} {Qf : Unit → State → Prop} (C : Cx X RL cL_law 4 ret room_1 (tyz cI cS)) {b L : Nat} {sc : Nat → Int32} (hX : Scr X b L sc) {q qS qC p : Nat → Nat} (i : Int32) (kk : (Nat → Nat) → (Nat → Nat) → Int32 → Int32 → Option Nat → Int32 → Int32 → Int32 → Int32 → (Nat → Int32) → (Nat → Int32) → (Nat → Nat → Int32) → (Nat → Int32) → (Nat → Nat → Int32) → (Nat → Int32) → (Nat → Int32) → (Nat → Nat → Int32) → (Nat → Int32) → (Nat → Nat → Int32) → Option Unit) (hk : ∀ (qb : Nat → Nat) (qs : Nat → Nat) (tr : Int32) (fa : Int32) (fr : Option Nat) (rb : Int32) (rl : Int32) (ra : Int32) (wl : Int32) (WS : Nat → Int32) (BI : Nat → Int32) (BA : Nat → Nat → Int32) (SI : Nat → Int32) (SA : Nat → Nat → Int32) (LN : Nat → Int32) (SZ : Nat → Int32) (CE : Nat → Nat → Int32) (MI : Nat → Int32) (MA : Nat → Nat → Int32), JR X Qf 4 room_1.cells room_1.slots (kk qb qs tr fa fr rb rl ra wl WS BI BA SI SA LN SZ CE MI MA) (wdX cI cS q qb qs qS qC (qb 0) (qs 0) tr fa fr rb rl ra wl WS BI BA SI SA LN SZ CE ++ wdM cI p MI MA) [(0, .ref b), (1, .ref (q 0)), (2, .ref (p 0)), (3, .int i)] 1250 []) : ∀ (qb : Nat → Nat) (qs : Nat → Nat) (tr : Int32) (fa : Int32) (fr : Option Nat) (rb : Int32) (rl : Int32) (ra : Int32) (wl : Int32) (WS : Nat → Int32) (BI : Nat → Int32) (BA : Nat → Nat → Int32) (SI : Nat → Int32) (SA : Nat → Nat → Int32) (LN : Nat → Int32) (SZ : Nat → Int32) (CE : Nat → Nat → Int32) (MI : Nat → Int32) (MA : Nat → Nat → Int32), JR X Qf 4 room_1.cells room_1.slots (lc_30 kk L sc qS i qb qs tr fa fr rb rl ra wl WS BI BA SI SA LN SZ CE MI MA) (wdX cI cS q qb qs qS qC (qb 0) (qs 0) tr fa fr rb rl ra wl WS BI BA SI SA LN SZ CE ++ wdM cI p MI MA) [(0, .ref b), (1, .ref (q 0)), (2, .ref (p 0)), (3, .int i)] 1201 [] := by
  intro qb qs tr fa fr rb rl ra wl WS BI BA SI SA LN SZ CE MI MA
  unfold lc_30
  refine r_aload_n (pc := 1201) C 1 dL_law_1201 rfl rfl ?_
  refine r_callVr (pc := 1202) (rest := []) C isX (m_X4_trace (xl X) (xD X) cI cS q qb qs qS qC tr fa fr rb rl ra wl WS BI BA SI SA LN SZ CE) mv_L_143 cutX ndX rfl rfl rfl ⟨Nat.le_refl _, Nat.le_refl _⟩ rfl rfl (Nat.le_of_ble_eq_true rfl) dL_law_1202 (fun r1202 => ?_)
  refine r_aload_n (pc := 1205) C 2 dL_law_1205 rfl rfl ?_
  refine r_callVr (pc := 1206) (rest := [.int r1202]) C isM (m_X5_trace (xl X) (xD X) cI cS p MI MA) mv_L_146 cutM ndM rfl rfl rfl ⟨Nat.le_refl _, Nat.le_refl _⟩ rfl rfl (Nat.le_of_ble_eq_true rfl) dL_law_1206 (fun r1206 => ?_)
  refine r_icmp_eq (pc := 1209) (tgt := 1250) C dL_law_1209 (by decide) ?_ ?_
  · exact r_sub [0, 1, 2, 3] rfl (hk qb qs tr fa fr rb rl ra wl WS BI BA SI SA LN SZ CE MI MA)
  · exact r_none
set_option maxHeartbeats 4000000 in
set_option maxRecDepth 100000 in
theorem wc_31 {cI cS : ClassId} {X : CX} {Qf : Unit → State → Prop} (C : Cx X RL cL_law 4 ret room_1 (tyz cI cS)) {b L : Nat} {sc : Nat → Int32} (hX : Scr X b L sc) {q qS qC p : Nat → Nat} (i : Int32) (kk : (Nat → Nat) → (Nat → Nat) → Int32 → Int32 → Option Nat → Int32 → Int32 → Int32 → Int32 → (Nat → Int32) → (Nat → Int32) → (Nat → Nat → Int32) → (Nat → Int32) → (Nat → Nat → Int32) → (Nat → Int32) → (Nat → Int32) → (Nat → Nat → Int32) → (Nat → Int32) → (Nat → Nat → Int32) → Option Unit) (hk : ∀ (qb : Nat → Nat) (qs : Nat → Nat) (tr : Int32) (fa : Int32) (fr : Option Nat) (rb : Int32) (rl : Int32) (ra : Int32) (wl : Int32) (WS : Nat → Int32) (BI : Nat → Int32) (BA : Nat → Nat → Int32) (SI : Nat → Int32) (SA : Nat → Nat → Int32) (LN : Nat → Int32) (SZ : Nat → Int32) (CE : Nat → Nat → Int32) (MI : Nat → Int32) (MA : Nat → Nat → Int32), JR X Qf 4 room_1.cells room_1.slots (kk qb qs tr fa fr rb rl ra wl WS BI BA SI SA LN SZ CE MI MA) (wdX cI cS q qb qs qS qC (qb 0) (qs 0) tr fa fr rb rl ra wl WS BI BA SI SA LN SZ CE ++ wdM cI p MI MA) [(0, .ref b), (1, .ref (q 0)), (2, .ref (p 0)), (3, .int i)] 1250 []) : ∀ (qb : Nat → Nat) (qs : Nat → Nat) (tr : Int32) (fa : Int32) (fr : Option Nat) (rb : Int32) (rl : Int32) (ra : Int32) (wl : Int32) (WS : Nat → Int32) (BI : Nat → Int32) (BA : Nat → Nat → Int32) (SI : Nat → Int32) (SA : Nat → Nat → Int32) (LN : Nat → Int32) (SZ : Nat → Int32) (CE : Nat → Nat → Int32) (MI : Nat → Int32) (MA : Nat → Nat → Int32), JR X Qf 4 room_1.cells room_1.slots (lc_31 kk L sc qS i qb qs tr fa fr rb rl ra wl WS BI BA SI SA LN SZ CE MI MA) (wdX cI cS q qb qs qS qC (qb 0) (qs 0) tr fa fr rb rl ra wl WS BI BA SI SA LN SZ CE ++ wdM cI p MI MA) [(0, .ref b), (1, .ref (q 0)), (2, .ref (p 0)), (3, .int i)] 1214 [] := by
  intro qb qs tr fa fr rb rl ra wl WS BI BA SI SA LN SZ CE MI MA
  unfold lc_31
  refine r_aload_n (pc := 1214) C 1 dL_law_1214 rfl rfl ?_
  refine r_callVr (pc := 1215) (rest := []) C isX (m_X4_fault (xl X) (xD X) cI cS q qb qs qS qC tr fa fr rb rl ra wl WS BI BA SI SA LN SZ CE) mv_L_147 cutX ndX rfl rfl rfl ⟨Nat.le_refl _, Nat.le_refl _⟩ rfl rfl (Nat.le_of_ble_eq_true rfl) dL_law_1215 (fun r1215 => ?_)
  refine r_aload_n (pc := 1218) C 2 dL_law_1218 rfl rfl ?_
  refine r_callVr (pc := 1219) (rest := [.int r1215]) C isM (m_X5_fault (xl X) (xD X) cI cS p MI MA) mv_L_150 cutM ndM rfl rfl rfl ⟨Nat.le_refl _, Nat.le_refl _⟩ rfl rfl (Nat.le_of_ble_eq_true rfl) dL_law_1219 (fun r1219 => ?_)
  refine r_icmp_eq (pc := 1222) (tgt := 1250) C dL_law_1222 (by decide) ?_ ?_
  · exact r_sub [0, 1, 2, 3] rfl (hk qb qs tr fa fr rb rl ra wl WS BI BA SI SA LN SZ CE MI MA)
  · exact r_none
set_option maxHeartbeats 4000000 in
set_option maxRecDepth 100000 in
theorem wc_32 {cI cS : ClassId} {X : CX} {Qf : Unit → State → Prop} (C : Cx X RL cL_law 4 ret room_1 (tyz cI cS)) {b L : Nat} {sc : Nat → Int32} (hX : Scr X b L sc) {q qS qC p : Nat → Nat} (i : Int32) (kk : (Nat → Nat) → (Nat → Nat) → Int32 → Int32 → Option Nat → Int32 → Int32 → Int32 → Int32 → (Nat → Int32) → (Nat → Int32) → (Nat → Nat → Int32) → (Nat → Int32) → (Nat → Nat → Int32) → (Nat → Int32) → (Nat → Int32) → (Nat → Nat → Int32) → (Nat → Int32) → (Nat → Nat → Int32) → Option Unit) (hk : ∀ (qb : Nat → Nat) (qs : Nat → Nat) (tr : Int32) (fa : Int32) (fr : Option Nat) (rb : Int32) (rl : Int32) (ra : Int32) (wl : Int32) (WS : Nat → Int32) (BI : Nat → Int32) (BA : Nat → Nat → Int32) (SI : Nat → Int32) (SA : Nat → Nat → Int32) (LN : Nat → Int32) (SZ : Nat → Int32) (CE : Nat → Nat → Int32) (MI : Nat → Int32) (MA : Nat → Nat → Int32), JR X Qf 4 room_1.cells room_1.slots (kk qb qs tr fa fr rb rl ra wl WS BI BA SI SA LN SZ CE MI MA) (wdX cI cS q qb qs qS qC (qb 0) (qs 0) tr fa fr rb rl ra wl WS BI BA SI SA LN SZ CE ++ wdM cI p MI MA) [(0, .ref b), (1, .ref (q 0)), (2, .ref (p 0)), (3, .int i)] 1250 []) : ∀ (qb : Nat → Nat) (qs : Nat → Nat) (tr : Int32) (fa : Int32) (fr : Option Nat) (rb : Int32) (rl : Int32) (ra : Int32) (wl : Int32) (WS : Nat → Int32) (BI : Nat → Int32) (BA : Nat → Nat → Int32) (SI : Nat → Int32) (SA : Nat → Nat → Int32) (LN : Nat → Int32) (SZ : Nat → Int32) (CE : Nat → Nat → Int32) (MI : Nat → Int32) (MA : Nat → Nat → Int32), JR X Qf 4 room_1.cells room_1.slots (lc_32 kk L sc qS i qb qs tr fa fr rb rl ra wl WS BI BA SI SA LN SZ CE MI MA) (wdX cI cS q qb qs qS qC (qb 0) (qs 0) tr fa fr rb rl ra wl WS BI BA SI SA LN SZ CE ++ wdM cI p MI MA) [(0, .ref b), (1, .ref (q 0)), (2, .ref (p 0)), (3, .int i)] 1227 [] := by
  intro qb qs tr fa fr rb rl ra wl WS BI BA SI SA LN SZ CE MI MA
  unfold lc_32
  refine r_aload_n (pc := 1227) C 1 dL_law_1227 rfl rfl ?_
  refine r_aload_n (pc := 1228) C 0 dL_law_1228 rfl rfl ?_
  refine r_iload_n (pc := 1229) C 3 dL_law_1229 rfl rfl ?_
  refine r_iconst (pc := 1230) C dL_law_1230 (ci_1) ?_
  refine r_iadd (pc := 1231) C dL_law_1231 ?_
  refine r_sld (pc := 1232) C hX dL_law_1232 ?_
  refine r_callVr (pc := 1233) (rest := []) C isX (m_X4_many (xl X) (xD X) cI cS q qb qs qS qC tr fa fr rb rl ra wl WS BI BA SI SA LN SZ CE (sc (i + (1 : Int32)).toNatClampNeg)) mv_L_151 cutX ndX rfl rfl rfl ⟨Nat.le_refl _, Nat.le_refl _⟩ rfl rfl (Nat.le_of_ble_eq_true rfl) dL_law_1233 (fun r1233 => ?_)
  refine r_aload_n (pc := 1236) C 2 dL_law_1236 rfl rfl ?_
  refine r_aload_n (pc := 1237) C 0 dL_law_1237 rfl rfl ?_
  refine r_iload_n (pc := 1238) C 3 dL_law_1238 rfl rfl ?_
  refine r_iconst (pc := 1239) C dL_law_1239 (ci_1) ?_
  refine r_iadd (pc := 1240) C dL_law_1240 ?_
  refine r_sld (pc := 1241) C hX dL_law_1241 ?_
  refine r_callVr (pc := 1242) (rest := [.int r1233]) C isM (m_X5_many (xl X) (xD X) cI cS p MI MA (sc (i + (1 : Int32)).toNatClampNeg)) mv_L_154 cutM ndM rfl rfl rfl ⟨Nat.le_refl _, Nat.le_refl _⟩ rfl rfl (Nat.le_of_ble_eq_true rfl) dL_law_1242 (fun r1242 => ?_)
  refine r_icmp_eq (pc := 1245) (tgt := 1250) C dL_law_1245 (by decide) ?_ ?_
  · exact r_sub [0, 1, 2, 3] rfl (hk qb qs tr fa fr rb rl ra wl WS BI BA SI SA LN SZ CE MI MA)
  · exact r_none
set_option maxHeartbeats 4000000 in
set_option maxRecDepth 100000 in
theorem wl_law {cI cS : ClassId} {X : CX} {Qf : Unit → State → Prop} (C : Cx X RL cL_law 4 ret room_1 (tyz cI cS)) {b L : Nat} {sc : Nat → Int32} (hX : Scr X b L sc) {q qS qC p : Nat → Nat} (hend : ∀ (ws : va_W) (lv : List (Nat × Value)), JR X Qf 4 room_1.cells room_1.slots (some ()) ws lv 1256 []) : ∀ (fuel : Nat) (i : Int32) (qb : Nat → Nat) (qs : Nat → Nat) (tr : Int32) (fa : Int32) (fr : Option Nat) (rb : Int32) (rl : Int32) (ra : Int32) (wl : Int32) (WS : Nat → Int32) (BI : Nat → Int32) (BA : Nat → Nat → Int32) (SI : Nat → Int32) (SA : Nat → Nat → Int32) (LN : Nat → Int32) (SZ : Nat → Int32) (CE : Nat → Nat → Int32) (MI : Nat → Int32) (MA : Nat → Nat → Int32), JR X Qf 4 room_1.cells room_1.slots (lawL L sc qS fuel i qb qs tr fa fr rb rl ra wl WS BI BA SI SA LN SZ CE MI MA) (wdX cI cS q qb qs qS qC (qb 0) (qs 0) tr fa fr rb rl ra wl WS BI BA SI SA LN SZ CE ++ wdM cI p MI MA) [(0, .ref b), (1, .ref (q 0)), (2, .ref (p 0)), (3, .int i)] 18 [] := by
  intro fuel
  induction fuel with
  | zero => intro i qb qs tr fa fr rb rl ra wl WS BI BA SI SA LN SZ CE MI MA; exact r_none
  | succ fu ih =>
    intro i qb qs tr fa fr rb rl ra wl WS BI BA SI SA LN SZ CE MI MA
    have hk : ∀ (qb : Nat → Nat) (qs : Nat → Nat) (tr : Int32) (fa : Int32) (fr : Option Nat) (rb : Int32) (rl : Int32) (ra : Int32) (wl : Int32) (WS : Nat → Int32) (BI : Nat → Int32) (BA : Nat → Nat → Int32) (SI : Nat → Int32) (SA : Nat → Nat → Int32) (LN : Nat → Int32) (SZ : Nat → Int32) (CE : Nat → Nat → Int32) (MI : Nat → Int32) (MA : Nat → Nat → Int32), JR X Qf 4 room_1.cells room_1.slots (lawL L sc qS fu (i + (6 : Int32)) qb qs tr fa fr rb rl ra wl WS BI BA SI SA LN SZ CE MI MA) (wdX cI cS q qb qs qS qC (qb 0) (qs 0) tr fa fr rb rl ra wl WS BI BA SI SA LN SZ CE ++ wdM cI p MI MA) [(0, .ref b), (1, .ref (q 0)), (2, .ref (p 0)), (3, .int i)] 1250 [] := by
      intro qb qs tr fa fr rb rl ra wl WS BI BA SI SA LN SZ CE MI MA
      refine r_iinc (pc := 1250) C 3 dL_law_1250 rfl (ci_6) (by decide) (lv' := [(3, .int (i + (6 : Int32))), (0, .ref b), (1, .ref (q 0)), (2, .ref (p 0))]) rfl ?_
      refine r_goto (pc := 1253) (tgt := 18) C dL_law_1253 (by decide) ?_
      exact r_sub [1, 2, 3, 0] rfl (ih (i + (6 : Int32)) qb qs tr fa fr rb rl ra wl WS BI BA SI SA LN SZ CE MI MA)
    unfold lawL
    refine r_iload_n (pc := 18) C 3 dL_law_18 rfl rfl ?_
    refine r_aload_n (pc := 19) C 0 dL_law_19 rfl rfl ?_
    refine r_slen (pc := 20) C hX dL_law_20 ?_
    refine r_bipush (pc := 21) C dL_law_21 (cb_6) ?_
    refine r_isub (pc := 23) C dL_law_23 ?_
    refine r_icmp_gt (pc := 24) (tgt := 1256) C dL_law_24 (by decide) ?_ ?_
    · exact hend _ _
    refine r_aload_n (pc := 27) C 0 dL_law_27 rfl rfl ?_
    refine r_iload_n (pc := 28) C 3 dL_law_28 rfl rfl ?_
    refine r_sld (pc := 29) C hX dL_law_29 ?_
    refine r_bipush (pc := 30) C dL_law_30 (cb_63) ?_
    refine r_iand (pc := 32) C dL_law_32 ?_
    refine r_ite (fun h0 => ?_) (fun h0 => ?_)
    · exact r_tabIn (pc := 33) (tgt := 180) C h0 dL_law_33 (by decide) (by decide) rfl (by decide) (wc_0 C hX i _ hk qb qs tr fa fr rb rl ra wl WS BI BA SI SA LN SZ CE MI MA)
    refine r_ite (fun h1 => ?_) (fun h1 => ?_)
    · exact r_tabIn (pc := 33) (tgt := 233) C h1 dL_law_33 (by decide) (by decide) rfl (by decide) (wc_1 C hX i _ hk qb qs tr fa fr rb rl ra wl WS BI BA SI SA LN SZ CE MI MA)
    refine r_ite (fun h2 => ?_) (fun h2 => ?_)
    · exact r_tabIn (pc := 33) (tgt := 266) C h2 dL_law_33 (by decide) (by decide) rfl (by decide) (wc_2 C hX i _ hk qb qs tr fa fr rb rl ra wl WS BI BA SI SA LN SZ CE MI MA)
    refine r_ite (fun h3 => ?_) (fun h3 => ?_)
    · exact r_tabIn (pc := 33) (tgt := 299) C h3 dL_law_33 (by decide) (by decide) rfl (by decide) (wc_3 C hX i _ hk qb qs tr fa fr rb rl ra wl WS BI BA SI SA LN SZ CE MI MA)
    refine r_ite (fun h4 => ?_) (fun h4 => ?_)
    · exact r_tabIn (pc := 33) (tgt := 322) C h4 dL_law_33 (by decide) (by decide) rfl (by decide) (wc_4 C hX i _ hk qb qs tr fa fr rb rl ra wl WS BI BA SI SA LN SZ CE MI MA)
    refine r_ite (fun h5 => ?_) (fun h5 => ?_)
    · exact r_tabIn (pc := 33) (tgt := 345) C h5 dL_law_33 (by decide) (by decide) rfl (by decide) (wc_5 C hX i _ hk qb qs tr fa fr rb rl ra wl WS BI BA SI SA LN SZ CE MI MA)
    refine r_ite (fun h6 => ?_) (fun h6 => ?_)
    · exact r_tabIn (pc := 33) (tgt := 378) C h6 dL_law_33 (by decide) (by decide) rfl (by decide) (wc_6 C hX i _ hk qb qs tr fa fr rb rl ra wl WS BI BA SI SA LN SZ CE MI MA)
    refine r_ite (fun h7 => ?_) (fun h7 => ?_)
    · exact r_tabIn (pc := 33) (tgt := 427) C h7 dL_law_33 (by decide) (by decide) rfl (by decide) (wc_7 C hX i _ hk qb qs tr fa fr rb rl ra wl WS BI BA SI SA LN SZ CE MI MA)
    refine r_ite (fun h8 => ?_) (fun h8 => ?_)
    · exact r_tabIn (pc := 33) (tgt := 460) C h8 dL_law_33 (by decide) (by decide) rfl (by decide) (wc_8 C hX i _ hk qb qs tr fa fr rb rl ra wl WS BI BA SI SA LN SZ CE MI MA)
    refine r_ite (fun h9 => ?_) (fun h9 => ?_)
    · exact r_tabIn (pc := 33) (tgt := 483) C h9 dL_law_33 (by decide) (by decide) rfl (by decide) (wc_9 C hX i _ hk qb qs tr fa fr rb rl ra wl WS BI BA SI SA LN SZ CE MI MA)
    refine r_ite (fun h10 => ?_) (fun h10 => ?_)
    · exact r_tabIn (pc := 33) (tgt := 517) C h10 dL_law_33 (by decide) (by decide) rfl (by decide) (wc_10 C hX i _ hk qb qs tr fa fr rb rl ra wl WS BI BA SI SA LN SZ CE MI MA)
    refine r_ite (fun h11 => ?_) (fun h11 => ?_)
    · exact r_tabIn (pc := 33) (tgt := 581) C h11 dL_law_33 (by decide) (by decide) rfl (by decide) (wc_11 C hX i _ hk qb qs tr fa fr rb rl ra wl WS BI BA SI SA LN SZ CE MI MA)
    refine r_ite (fun h12 => ?_) (fun h12 => ?_)
    · exact r_tabIn (pc := 33) (tgt := 634) C h12 dL_law_33 (by decide) (by decide) rfl (by decide) (wc_12 C hX i _ hk qb qs tr fa fr rb rl ra wl WS BI BA SI SA LN SZ CE MI MA)
    refine r_ite (fun h13 => ?_) (fun h13 => ?_)
    · exact r_tabIn (pc := 33) (tgt := 657) C h13 dL_law_33 (by decide) (by decide) rfl (by decide) (wc_13 C hX i _ hk qb qs tr fa fr rb rl ra wl WS BI BA SI SA LN SZ CE MI MA)
    refine r_ite (fun h14 => ?_) (fun h14 => ?_)
    · exact r_tabIn (pc := 33) (tgt := 670) C h14 dL_law_33 (by decide) (by decide) rfl (by decide) (wc_14 C hX i _ hk qb qs tr fa fr rb rl ra wl WS BI BA SI SA LN SZ CE MI MA)
    refine r_ite (fun h15 => ?_) (fun h15 => ?_)
    · exact r_tabIn (pc := 33) (tgt := 734) C h15 dL_law_33 (by decide) (by decide) rfl (by decide) (wc_15 C hX i _ hk qb qs tr fa fr rb rl ra wl WS BI BA SI SA LN SZ CE MI MA)
    refine r_ite (fun h16 => ?_) (fun h16 => ?_)
    · exact r_tabIn (pc := 33) (tgt := 767) C h16 dL_law_33 (by decide) (by decide) rfl (by decide) (wc_16 C hX i _ hk qb qs tr fa fr rb rl ra wl WS BI BA SI SA LN SZ CE MI MA)
    refine r_ite (fun h17 => ?_) (fun h17 => ?_)
    · exact r_tabIn (pc := 33) (tgt := 790) C h17 dL_law_33 (by decide) (by decide) rfl (by decide) (wc_17 C hX i _ hk qb qs tr fa fr rb rl ra wl WS BI BA SI SA LN SZ CE MI MA)
    refine r_ite (fun h18 => ?_) (fun h18 => ?_)
    · exact r_tabIn (pc := 33) (tgt := 813) C h18 dL_law_33 (by decide) (by decide) rfl (by decide) (wc_18 C hX i _ hk qb qs tr fa fr rb rl ra wl WS BI BA SI SA LN SZ CE MI MA)
    refine r_ite (fun h19 => ?_) (fun h19 => ?_)
    · exact r_tabIn (pc := 33) (tgt := 826) C h19 dL_law_33 (by decide) (by decide) rfl (by decide) (wc_19 C hX i _ hk qb qs tr fa fr rb rl ra wl WS BI BA SI SA LN SZ CE MI MA)
    refine r_ite (fun h20 => ?_) (fun h20 => ?_)
    · exact r_tabIn (pc := 33) (tgt := 839) C h20 dL_law_33 (by decide) (by decide) rfl (by decide) (wc_20 C hX i _ hk qb qs tr fa fr rb rl ra wl WS BI BA SI SA LN SZ CE MI MA)
    refine r_ite (fun h21 => ?_) (fun h21 => ?_)
    · exact r_tabIn (pc := 33) (tgt := 862) C h21 dL_law_33 (by decide) (by decide) rfl (by decide) (wc_21 C hX i _ hk qb qs tr fa fr rb rl ra wl WS BI BA SI SA LN SZ CE MI MA)
    refine r_ite (fun h22 => ?_) (fun h22 => ?_)
    · exact r_tabIn (pc := 33) (tgt := 906) C h22 dL_law_33 (by decide) (by decide) rfl (by decide) (wc_22 C hX i _ hk qb qs tr fa fr rb rl ra wl WS BI BA SI SA LN SZ CE MI MA)
    refine r_ite (fun h23 => ?_) (fun h23 => ?_)
    · exact r_tabIn (pc := 33) (tgt := 949) C h23 dL_law_33 (by decide) (by decide) rfl (by decide) (wc_23 C hX i _ hk qb qs tr fa fr rb rl ra wl WS BI BA SI SA LN SZ CE MI MA)
    refine r_ite (fun h24 => ?_) (fun h24 => ?_)
    · exact r_tabIn (pc := 33) (tgt := 972) C h24 dL_law_33 (by decide) (by decide) rfl (by decide) (wc_24 C hX i _ hk qb qs tr fa fr rb rl ra wl WS BI BA SI SA LN SZ CE MI MA)
    refine r_ite (fun h25 => ?_) (fun h25 => ?_)
    · exact r_tabIn (pc := 33) (tgt := 1015) C h25 dL_law_33 (by decide) (by decide) rfl (by decide) (wc_25 C hX i _ hk qb qs tr fa fr rb rl ra wl WS BI BA SI SA LN SZ CE MI MA)
    refine r_ite (fun h26 => ?_) (fun h26 => ?_)
    · exact r_tabIn (pc := 33) (tgt := 1059) C h26 dL_law_33 (by decide) (by decide) rfl (by decide) (wc_26 C hX i _ hk qb qs tr fa fr rb rl ra wl WS BI BA SI SA LN SZ CE MI MA)
    refine r_ite (fun h27 => ?_) (fun h27 => ?_)
    · exact r_tabIn (pc := 33) (tgt := 1122) C h27 dL_law_33 (by decide) (by decide) rfl (by decide) (wc_27 C hX i _ hk qb qs tr fa fr rb rl ra wl WS BI BA SI SA LN SZ CE MI MA)
    refine r_ite (fun h28 => ?_) (fun h28 => ?_)
    · exact r_tabIn (pc := 33) (tgt := 1145) C h28 dL_law_33 (by decide) (by decide) rfl (by decide) (wc_28 C hX i _ hk qb qs tr fa fr rb rl ra wl WS BI BA SI SA LN SZ CE MI MA)
    refine r_ite (fun h29 => ?_) (fun h29 => ?_)
    · exact r_tabIn (pc := 33) (tgt := 1168) C h29 dL_law_33 (by decide) (by decide) rfl (by decide) (wc_29 C hX i _ hk qb qs tr fa fr rb rl ra wl WS BI BA SI SA LN SZ CE MI MA)
    refine r_ite (fun h30 => ?_) (fun h30 => ?_)
    · exact r_tabIn (pc := 33) (tgt := 1201) C h30 dL_law_33 (by decide) (by decide) rfl (by decide) (wc_30 C hX i _ hk qb qs tr fa fr rb rl ra wl WS BI BA SI SA LN SZ CE MI MA)
    refine r_ite (fun h31 => ?_) (fun h31 => ?_)
    · exact r_tabIn (pc := 33) (tgt := 1214) C h31 dL_law_33 (by decide) (by decide) rfl (by decide) (wc_31 C hX i _ hk qb qs tr fa fr rb rl ra wl WS BI BA SI SA LN SZ CE MI MA)
    refine r_ite (fun h32 => ?_) (fun h32 => ?_)
    · exact r_tabIn (pc := 33) (tgt := 1227) C h32 dL_law_33 (by decide) (by decide) rfl (by decide) (wc_32 C hX i _ hk qb qs tr fa fr rb rl ra wl WS BI BA SI SA LN SZ CE MI MA)
    exact r_tabOut (pc := 33) (tgt := 1250) (N := 33) C (lt_s (lt_s (lt_s (lt_s (lt_s (lt_s (lt_s (lt_s (lt_s (lt_s (lt_s (lt_s (lt_s (lt_s (lt_s (lt_s (lt_s (lt_s (lt_s (lt_s (lt_s (lt_s (lt_s (lt_s (lt_s (lt_s (lt_s (lt_s (lt_s (lt_s (lt_s (lt_s (lt_s lt_0 h0) h1) h2) h3) h4) h5) h6) h7) h8) h9) h10) h11) h12) h13) h14) h15) h16) h17) h18) h19) h20) h21) h22) h23) h24) h25) h26) h27) h28) h29) h30) h31) h32) rfl dL_law_33 (by decide) (hk qb qs tr fa fr rb rl ra wl WS BI BA SI SA LN SZ CE MI MA)
