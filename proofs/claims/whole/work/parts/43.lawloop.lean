theorem lw_less {L i : Nat} (hL : L ≤ 320) (hi : i + 5 ≤ L) : ¬ (nI L - 5 < nI i) := by
  rw [Int32.lt_iff_toInt_lt, show (5 : Int32) = nI 5 from rfl, pk_sub_toInt (by omega) (by omega), nI_toInt (by omega)]
  omega
set_option maxHeartbeats 4000000 in
theorem law_end {K : KX} {G : Option Value → Mem → Prop} {L : Nat} {xs : Nat → Int32} (hC : Cx K code RL G) (hn : 43 ≤ kn K) (hn64 : 64 ≤ kn K) (hL : kL K = 4) (hR : kR K = room_1) (hs : Scr K L xs) (hb : L ≤ 320) (hG : ∀ m, G (some (.int 1)) m) {i : Nat} (hi : L < i + 5 ∧ i ≤ L + 5) (m : Mem) : RX K 18 [(3, .int (nI i)), (2, .ref 43), (1, .ref 0), (0, .ref 64)] [] m := by
  refine R_iload_n (pc := 18) hC 0 dL_law_18 rfl rfl ?_
  refine R_aload_n (pc := 19) hC 3 dL_law_19 rfl rfl ?_
  refine R_slen (pc := 20) hC hs dL_law_20 ?_
  refine R_iconst (pc := 21) hC dL_law_21 ki_5 ?_
  refine R_isub (pc := 22) hC dL_law_22 ?_
  refine R_icmp_gt (pc := 23) (tgt := 1052) hC dL_law_23 (by decide) (fun _ => ?_) (fun c => absurd (lw_more hb (by omega) c) (by omega))
  refine R_iconst (pc := 1052) hC dL_law_1052 ki_1 ?_
  exact R_ireturn (pc := 1053) hC dL_law_1053 (hG m)
set_option maxHeartbeats 4000000 in
theorem law_head {K : KX} {G : Option Value → Mem → Prop} {L : Nat} {xs : Nat → Int32} (hC : Cx K code RL G) (hn : 43 ≤ kn K) (hn64 : 64 ≤ kn K) (hL : kL K = 4) (hR : kR K = room_1) (hs : Scr K L xs) (hb : L ≤ 320) {i : Nat} (hi : i + 5 ≤ L) (m : Mem) (kk : ∀ x : Int32, xs (nI i).toNatClampNeg &&& 63 = x → RX K 32 [(3, .int (nI i)), (2, .ref 43), (1, .ref 0), (0, .ref 64)] [.int x] m) : RX K 18 [(3, .int (nI i)), (2, .ref 43), (1, .ref 0), (0, .ref 64)] [] m := by
  refine R_iload_n (pc := 18) hC 0 dL_law_18 rfl rfl ?_
  refine R_aload_n (pc := 19) hC 3 dL_law_19 rfl rfl ?_
  refine R_slen (pc := 20) hC hs dL_law_20 ?_
  refine R_iconst (pc := 21) hC dL_law_21 ki_5 ?_
  refine R_isub (pc := 22) hC dL_law_22 ?_
  refine R_icmp_gt (pc := 23) (tgt := 1052) hC dL_law_23 (by decide) (fun c => absurd c (lw_less hb hi)) (fun _ => ?_)
  refine R_aload_n (pc := 26) hC 3 dL_law_26 rfl rfl ?_
  refine R_iload_n (pc := 27) hC 0 dL_law_27 rfl rfl ?_
  refine R_sld (pc := 28) hC hs (vp_in_nI (by omega) (by omega)) rfl dL_law_28 ?_
  refine R_bipush (pc := 29) hC dL_law_29 (v := 63) (by decide) ?_
  refine R_iand (pc := 31) hC dL_law_31 ?_
  exact kk _ rfl
set_option maxHeartbeats 4000000 in
theorem law_next {K : KX} {G : Option Value → Mem → Prop} {L : Nat} {xs : Nat → Int32} (hC : Cx K code RL G) (hn : 43 ≤ kn K) (hn64 : 64 ≤ kn K) (hL : kL K = 4) (hR : kR K = room_1) (hs : Scr K L xs) (hb : L ≤ 320) {i : Nat} (hi : i + 5 ≤ L) (m : Mem) (kk : RX K 18 [(3, .int (nI (i + 5))), (2, .ref 43), (1, .ref 0), (0, .ref 64)] [] m) : RX K 1046 [(3, .int (nI i)), (2, .ref 43), (1, .ref 0), (0, .ref 64)] [] m := by
  refine R_iinc (pc := 1046) hC 0 dL_law_1046 rfl (v := nI (i + 5)) (by rw [← nI_add]; rfl) hL rfl (show _ = [(3, .int (nI (i + 5))), (2, .ref 43), (1, .ref 0), (0, .ref 64)] from rfl) ?_
  refine R_goto (pc := 1049) (tgt := 18) hC dL_law_1049 (by decide) ?_
  exact kk
set_option maxHeartbeats 4000000 in
set_option maxRecDepth 20000 in
theorem road_feed {K : KX} {G : Option Value → Mem → Prop} {F L : Nat} {xs : Nat → Int32} {Inv : Mem → Prop} (hC : Cx K code RL G) (hn : 43 ≤ kn K) (hn64 : 64 ≤ kn K) (hL : kL K = 4) (hR : kR K = room_1) (hs : Scr K L xs) (hb : L ≤ 320) (hPU : PU_feed F Inv) {i : Nat} (hi : i + 5 ≤ L) {m : Mem} (hI : Inv m) (kk : ∀ m : Mem, Inv m → RX K 1046 [(3, .int (nI i)), (2, .ref 43), (1, .ref 0), (0, .ref 64)] [] m) : RX K 180 [(3, .int (nI i)), (2, .ref 43), (1, .ref 0), (0, .ref 64)] [] m := by
  obtain ⟨p1, hp1⟩ : ∃ p, xs (nI i + nI 1).toNatClampNeg = p := ⟨_, rfl⟩
  obtain ⟨r, m1, m2, hg1, hg2, hI2⟩ := hPU m p1 hI
  refine R_aload_n (pc := 180) hC 2 dL_law_180 rfl rfl ?_
  refine R_aload_n (pc := 181) hC 3 dL_law_181 rfl rfl ?_
  refine R_iload_n (pc := 182) hC 0 dL_law_182 rfl rfl ?_
  refine R_iconst (pc := 183) hC dL_law_183 (v := nI 1) (by decide) ?_
  refine R_iadd (pc := 184) hC dL_law_184 ?_
  refine R_sld (pc := 185) hC hs (lw_i hb (by omega)) hp1 dL_law_185 ?_
  refine R_callV (pc := 186) (av := [.int p1]) (rest := []) hC hR 0 (jx hn rfl) ly0 rfl mf_X8_feed wm_L_13 (LX8_feed hn hg1) rfl rfl rfl (Nat.le_of_ble_eq_true rfl) dL_law_186 rfl ?_
  show RX K 189 [(3, .int (nI i)), (2, .ref 43), (1, .ref 0), (0, .ref 64)] [.int r] m1
  refine R_aload_n (pc := 189) hC 1 dL_law_189 rfl rfl ?_
  refine R_aload_n (pc := 190) hC 3 dL_law_190 rfl rfl ?_
  refine R_iload_n (pc := 191) hC 0 dL_law_191 rfl rfl ?_
  refine R_iconst (pc := 192) hC dL_law_192 (v := nI 1) (by decide) ?_
  refine R_iadd (pc := 193) hC dL_law_193 ?_
  refine R_sld (pc := 194) hC hs (lw_i hb (by omega)) hp1 dL_law_194 ?_
  refine R_callV (pc := 195) (av := [.int p1]) (rest := [.int r]) hC hR 43 (jx hn64 rfl) ly43 rfl mf_X9_feed wm_L_17 (LX9_feed hn64 hg2) rfl rfl rfl (Nat.le_of_ble_eq_true rfl) dL_law_195 rfl ?_
  show RX K 198 [(3, .int (nI i)), (2, .ref 43), (1, .ref 0), (0, .ref 64)] [.int r, .int r] m2
  exact R_icmp_eq (tgt := 1046) (pc := 198) hC dL_law_198 (by decide) (fun _ => kk _ hI2) (fun c => absurd rfl c)
set_option maxHeartbeats 4000000 in
set_option maxRecDepth 20000 in
theorem road_village {K : KX} {G : Option Value → Mem → Prop} {F L : Nat} {xs : Nat → Int32} {Inv : Mem → Prop} (hC : Cx K code RL G) (hn : 43 ≤ kn K) (hn64 : 64 ≤ kn K) (hL : kL K = 4) (hR : kR K = room_1) (hs : Scr K L xs) (hb : L ≤ 320) (hPU : PU_village F Inv) {i : Nat} (hi : i + 5 ≤ L) {m : Mem} (hI : Inv m) (kk : ∀ m : Mem, Inv m → RX K 1046 [(3, .int (nI i)), (2, .ref 43), (1, .ref 0), (0, .ref 64)] [] m) : RX K 203 [(3, .int (nI i)), (2, .ref 43), (1, .ref 0), (0, .ref 64)] [] m := by
  obtain ⟨r, m1, m2, hg1, hg2, hI2⟩ := hPU m hI
  refine R_aload_n (pc := 203) hC 2 dL_law_203 rfl rfl ?_
  refine R_callV (pc := 204) (av := []) (rest := []) hC hR 0 (jx hn rfl) ly0 rfl mf_X8_village wm_L_18 (LX8_village hn hg1) rfl rfl rfl (Nat.le_of_ble_eq_true rfl) dL_law_204 rfl ?_
  show RX K 207 [(3, .int (nI i)), (2, .ref 43), (1, .ref 0), (0, .ref 64)] [.int r] m1
  refine R_aload_n (pc := 207) hC 1 dL_law_207 rfl rfl ?_
  refine R_callV (pc := 208) (av := []) (rest := [.int r]) hC hR 43 (jx hn64 rfl) ly43 rfl mf_X9_village wm_L_22 (LX9_village hn64 hg2) rfl rfl rfl (Nat.le_of_ble_eq_true rfl) dL_law_208 rfl ?_
  show RX K 211 [(3, .int (nI i)), (2, .ref 43), (1, .ref 0), (0, .ref 64)] [.int r, .int r] m2
  exact R_icmp_eq (tgt := 1046) (pc := 211) hC dL_law_211 (by decide) (fun _ => kk _ hI2) (fun c => absurd rfl c)
set_option maxHeartbeats 4000000 in
set_option maxRecDepth 20000 in
theorem road_lane {K : KX} {G : Option Value → Mem → Prop} {F L : Nat} {xs : Nat → Int32} {Inv : Mem → Prop} (hC : Cx K code RL G) (hn : 43 ≤ kn K) (hn64 : 64 ≤ kn K) (hL : kL K = 4) (hR : kR K = room_1) (hs : Scr K L xs) (hb : L ≤ 320) (hPU : PU_lane F Inv) {i : Nat} (hi : i + 5 ≤ L) {m : Mem} (hI : Inv m) (kk : ∀ m : Mem, Inv m → RX K 1046 [(3, .int (nI i)), (2, .ref 43), (1, .ref 0), (0, .ref 64)] [] m) : RX K 216 [(3, .int (nI i)), (2, .ref 43), (1, .ref 0), (0, .ref 64)] [] m := by
  obtain ⟨p1, hp1⟩ : ∃ p, xs (nI i + nI 1).toNatClampNeg = p := ⟨_, rfl⟩
  obtain ⟨p2, hp2⟩ : ∃ p, xs (nI i + nI 2).toNatClampNeg = p := ⟨_, rfl⟩
  obtain ⟨r, m1, m2, hg1, hg2, hI2⟩ := hPU m p1 p2 hI
  refine R_aload_n (pc := 216) hC 2 dL_law_216 rfl rfl ?_
  refine R_aload_n (pc := 217) hC 3 dL_law_217 rfl rfl ?_
  refine R_iload_n (pc := 218) hC 0 dL_law_218 rfl rfl ?_
  refine R_iconst (pc := 219) hC dL_law_219 (v := nI 1) (by decide) ?_
  refine R_iadd (pc := 220) hC dL_law_220 ?_
  refine R_sld (pc := 221) hC hs (lw_i hb (by omega)) hp1 dL_law_221 ?_
  refine R_aload_n (pc := 222) hC 3 dL_law_222 rfl rfl ?_
  refine R_iload_n (pc := 223) hC 0 dL_law_223 rfl rfl ?_
  refine R_iconst (pc := 224) hC dL_law_224 (v := nI 2) (by decide) ?_
  refine R_iadd (pc := 225) hC dL_law_225 ?_
  refine R_sld (pc := 226) hC hs (lw_i hb (by omega)) hp2 dL_law_226 ?_
  refine R_callV (pc := 227) (av := [.int p1, .int p2]) (rest := []) hC hR 0 (jx hn rfl) ly0 rfl mf_X8_lane wm_L_23 (LX8_lane hn hg1) rfl rfl rfl (Nat.le_of_ble_eq_true rfl) dL_law_227 rfl ?_
  show RX K 230 [(3, .int (nI i)), (2, .ref 43), (1, .ref 0), (0, .ref 64)] [.int r] m1
  refine R_aload_n (pc := 230) hC 1 dL_law_230 rfl rfl ?_
  refine R_aload_n (pc := 231) hC 3 dL_law_231 rfl rfl ?_
  refine R_iload_n (pc := 232) hC 0 dL_law_232 rfl rfl ?_
  refine R_iconst (pc := 233) hC dL_law_233 (v := nI 1) (by decide) ?_
  refine R_iadd (pc := 234) hC dL_law_234 ?_
  refine R_sld (pc := 235) hC hs (lw_i hb (by omega)) hp1 dL_law_235 ?_
  refine R_aload_n (pc := 236) hC 3 dL_law_236 rfl rfl ?_
  refine R_iload_n (pc := 237) hC 0 dL_law_237 rfl rfl ?_
  refine R_iconst (pc := 238) hC dL_law_238 (v := nI 2) (by decide) ?_
  refine R_iadd (pc := 239) hC dL_law_239 ?_
  refine R_sld (pc := 240) hC hs (lw_i hb (by omega)) hp2 dL_law_240 ?_
  refine R_callV (pc := 241) (av := [.int p1, .int p2]) (rest := [.int r]) hC hR 43 (jx hn64 rfl) ly43 rfl mf_X9_lane wm_L_27 (LX9_lane hn64 hg2) rfl rfl rfl (Nat.le_of_ble_eq_true rfl) dL_law_241 rfl ?_
  show RX K 244 [(3, .int (nI i)), (2, .ref 43), (1, .ref 0), (0, .ref 64)] [.int r, .int r] m2
  exact R_icmp_eq (tgt := 1046) (pc := 244) hC dL_law_244 (by decide) (fun _ => kk _ hI2) (fun c => absurd rfl c)
set_option maxHeartbeats 4000000 in
set_option maxRecDepth 20000 in
theorem road_rule {K : KX} {G : Option Value → Mem → Prop} {F L : Nat} {xs : Nat → Int32} {Inv : Mem → Prop} (hC : Cx K code RL G) (hn : 43 ≤ kn K) (hn64 : 64 ≤ kn K) (hL : kL K = 4) (hR : kR K = room_1) (hs : Scr K L xs) (hb : L ≤ 320) (hPU : PU_rule F Inv) {i : Nat} (hi : i + 5 ≤ L) {m : Mem} (hI : Inv m) (kk : ∀ m : Mem, Inv m → RX K 1046 [(3, .int (nI i)), (2, .ref 43), (1, .ref 0), (0, .ref 64)] [] m) : RX K 249 [(3, .int (nI i)), (2, .ref 43), (1, .ref 0), (0, .ref 64)] [] m := by
  obtain ⟨p1, hp1⟩ : ∃ p, xs (nI i + nI 1).toNatClampNeg = p := ⟨_, rfl⟩
  obtain ⟨p2, hp2⟩ : ∃ p, xs (nI i + nI 2).toNatClampNeg = p := ⟨_, rfl⟩
  obtain ⟨r, m1, m2, hg1, hg2, hI2⟩ := hPU m p1 p2 hI
  refine R_aload_n (pc := 249) hC 2 dL_law_249 rfl rfl ?_
  refine R_aload_n (pc := 250) hC 3 dL_law_250 rfl rfl ?_
  refine R_iload_n (pc := 251) hC 0 dL_law_251 rfl rfl ?_
  refine R_iconst (pc := 252) hC dL_law_252 (v := nI 1) (by decide) ?_
  refine R_iadd (pc := 253) hC dL_law_253 ?_
  refine R_sld (pc := 254) hC hs (lw_i hb (by omega)) hp1 dL_law_254 ?_
  refine R_aload_n (pc := 255) hC 3 dL_law_255 rfl rfl ?_
  refine R_iload_n (pc := 256) hC 0 dL_law_256 rfl rfl ?_
  refine R_iconst (pc := 257) hC dL_law_257 (v := nI 2) (by decide) ?_
  refine R_iadd (pc := 258) hC dL_law_258 ?_
  refine R_sld (pc := 259) hC hs (lw_i hb (by omega)) hp2 dL_law_259 ?_
  refine R_callV (pc := 260) (av := [.int p1, .int p2]) (rest := []) hC hR 0 (jx hn rfl) ly0 rfl mf_X8_rule wm_L_28 (LX8_rule hn hg1) rfl rfl rfl (Nat.le_of_ble_eq_true rfl) dL_law_260 rfl ?_
  show RX K 263 [(3, .int (nI i)), (2, .ref 43), (1, .ref 0), (0, .ref 64)] [.int r] m1
  refine R_aload_n (pc := 263) hC 1 dL_law_263 rfl rfl ?_
  refine R_aload_n (pc := 264) hC 3 dL_law_264 rfl rfl ?_
  refine R_iload_n (pc := 265) hC 0 dL_law_265 rfl rfl ?_
  refine R_iconst (pc := 266) hC dL_law_266 (v := nI 1) (by decide) ?_
  refine R_iadd (pc := 267) hC dL_law_267 ?_
  refine R_sld (pc := 268) hC hs (lw_i hb (by omega)) hp1 dL_law_268 ?_
  refine R_aload_n (pc := 269) hC 3 dL_law_269 rfl rfl ?_
  refine R_iload_n (pc := 270) hC 0 dL_law_270 rfl rfl ?_
  refine R_iconst (pc := 271) hC dL_law_271 (v := nI 2) (by decide) ?_
  refine R_iadd (pc := 272) hC dL_law_272 ?_
  refine R_sld (pc := 273) hC hs (lw_i hb (by omega)) hp2 dL_law_273 ?_
  refine R_callV (pc := 274) (av := [.int p1, .int p2]) (rest := [.int r]) hC hR 43 (jx hn64 rfl) ly43 rfl mf_X9_rule wm_L_31 (LX9_rule hn64 hg2) rfl rfl rfl (Nat.le_of_ble_eq_true rfl) dL_law_274 rfl ?_
  show RX K 277 [(3, .int (nI i)), (2, .ref 43), (1, .ref 0), (0, .ref 64)] [.int r, .int r] m2
  exact R_icmp_eq (tgt := 1046) (pc := 277) hC dL_law_277 (by decide) (fun _ => kk _ hI2) (fun c => absurd rfl c)
set_option maxHeartbeats 4000000 in
set_option maxRecDepth 20000 in
theorem road_takeUp {K : KX} {G : Option Value → Mem → Prop} {F L : Nat} {xs : Nat → Int32} {Inv : Mem → Prop} (hC : Cx K code RL G) (hn : 43 ≤ kn K) (hn64 : 64 ≤ kn K) (hL : kL K = 4) (hR : kR K = room_1) (hs : Scr K L xs) (hb : L ≤ 320) (hPU : PU_takeUp F Inv) {i : Nat} (hi : i + 5 ≤ L) {m : Mem} (hI : Inv m) (kk : ∀ m : Mem, Inv m → RX K 1046 [(3, .int (nI i)), (2, .ref 43), (1, .ref 0), (0, .ref 64)] [] m) : RX K 282 [(3, .int (nI i)), (2, .ref 43), (1, .ref 0), (0, .ref 64)] [] m := by
  obtain ⟨r, m1, m2, hg1, hg2, hI2⟩ := hPU m hI
  refine R_aload_n (pc := 282) hC 2 dL_law_282 rfl rfl ?_
  refine R_callV (pc := 283) (av := []) (rest := []) hC hR 0 (jx hn rfl) ly0 rfl mf_X8_takeUp wm_L_32 (LX8_takeUp hn hg1) rfl rfl rfl (Nat.le_of_ble_eq_true rfl) dL_law_283 rfl ?_
  show RX K 286 [(3, .int (nI i)), (2, .ref 43), (1, .ref 0), (0, .ref 64)] [.int r] m1
  refine R_aload_n (pc := 286) hC 1 dL_law_286 rfl rfl ?_
  refine R_callV (pc := 287) (av := []) (rest := [.int r]) hC hR 43 (jx hn64 rfl) ly43 rfl mf_X9_takeUp wm_L_35 (LX9_takeUp hn64 hg2) rfl rfl rfl (Nat.le_of_ble_eq_true rfl) dL_law_287 rfl ?_
  show RX K 290 [(3, .int (nI i)), (2, .ref 43), (1, .ref 0), (0, .ref 64)] [.int r, .int r] m2
  exact R_icmp_eq (tgt := 1046) (pc := 290) hC dL_law_290 (by decide) (fun _ => kk _ hI2) (fun c => absurd rfl c)
set_option maxHeartbeats 4000000 in
set_option maxRecDepth 20000 in
theorem road_is {K : KX} {G : Option Value → Mem → Prop} {F L : Nat} {xs : Nat → Int32} {Inv : Mem → Prop} (hC : Cx K code RL G) (hn : 43 ≤ kn K) (hn64 : 64 ≤ kn K) (hL : kL K = 4) (hR : kR K = room_1) (hs : Scr K L xs) (hb : L ≤ 320) (hPU : PU_is F Inv) {i : Nat} (hi : i + 5 ≤ L) {m : Mem} (hI : Inv m) (kk : ∀ m : Mem, Inv m → RX K 1046 [(3, .int (nI i)), (2, .ref 43), (1, .ref 0), (0, .ref 64)] [] m) : RX K 295 [(3, .int (nI i)), (2, .ref 43), (1, .ref 0), (0, .ref 64)] [] m := by
  obtain ⟨p1, hp1⟩ : ∃ p, xs (nI i + nI 1).toNatClampNeg = p := ⟨_, rfl⟩
  obtain ⟨r, m1, m2, hg1, hg2, hI2⟩ := hPU m p1 hI
  refine R_aload_n (pc := 295) hC 2 dL_law_295 rfl rfl ?_
  refine R_aload_n (pc := 296) hC 3 dL_law_296 rfl rfl ?_
  refine R_iload_n (pc := 297) hC 0 dL_law_297 rfl rfl ?_
  refine R_iconst (pc := 298) hC dL_law_298 (v := nI 1) (by decide) ?_
  refine R_iadd (pc := 299) hC dL_law_299 ?_
  refine R_sld (pc := 300) hC hs (lw_i hb (by omega)) hp1 dL_law_300 ?_
  refine R_callV (pc := 301) (av := [.int p1]) (rest := []) hC hR 0 (jx hn rfl) ly0 rfl mf_X8_is wm_L_36 (LX8_is hn hg1) rfl rfl rfl (Nat.le_of_ble_eq_true rfl) dL_law_301 rfl ?_
  show RX K 304 [(3, .int (nI i)), (2, .ref 43), (1, .ref 0), (0, .ref 64)] [.int r] m1
  refine R_aload_n (pc := 304) hC 1 dL_law_304 rfl rfl ?_
  refine R_aload_n (pc := 305) hC 3 dL_law_305 rfl rfl ?_
  refine R_iload_n (pc := 306) hC 0 dL_law_306 rfl rfl ?_
  refine R_iconst (pc := 307) hC dL_law_307 (v := nI 1) (by decide) ?_
  refine R_iadd (pc := 308) hC dL_law_308 ?_
  refine R_sld (pc := 309) hC hs (lw_i hb (by omega)) hp1 dL_law_309 ?_
  refine R_callV (pc := 310) (av := [.int p1]) (rest := [.int r]) hC hR 43 (jx hn64 rfl) ly43 rfl mf_X9_is wm_L_39 (LX9_is hn64 hg2) rfl rfl rfl (Nat.le_of_ble_eq_true rfl) dL_law_310 rfl ?_
  show RX K 313 [(3, .int (nI i)), (2, .ref 43), (1, .ref 0), (0, .ref 64)] [.int r, .int r] m2
  exact R_icmp_eq (tgt := 1046) (pc := 313) hC dL_law_313 (by decide) (fun _ => kk _ hI2) (fun c => absurd rfl c)
set_option maxHeartbeats 4000000 in
set_option maxRecDepth 20000 in
theorem road_hangs {K : KX} {G : Option Value → Mem → Prop} {F L : Nat} {xs : Nat → Int32} {Inv : Mem → Prop} (hC : Cx K code RL G) (hn : 43 ≤ kn K) (hn64 : 64 ≤ kn K) (hL : kL K = 4) (hR : kR K = room_1) (hs : Scr K L xs) (hb : L ≤ 320) (hPU : PU_hangs F Inv) {i : Nat} (hi : i + 5 ≤ L) {m : Mem} (hI : Inv m) (kk : ∀ m : Mem, Inv m → RX K 1046 [(3, .int (nI i)), (2, .ref 43), (1, .ref 0), (0, .ref 64)] [] m) : RX K 318 [(3, .int (nI i)), (2, .ref 43), (1, .ref 0), (0, .ref 64)] [] m := by
  obtain ⟨p1, hp1⟩ : ∃ p, xs (nI i + nI 1).toNatClampNeg = p := ⟨_, rfl⟩
  obtain ⟨r, m1, m2, hg1, hg2, hI2⟩ := hPU m p1 hI
  refine R_aload_n (pc := 318) hC 2 dL_law_318 rfl rfl ?_
  refine R_aload_n (pc := 319) hC 3 dL_law_319 rfl rfl ?_
  refine R_iload_n (pc := 320) hC 0 dL_law_320 rfl rfl ?_
  refine R_iconst (pc := 321) hC dL_law_321 (v := nI 1) (by decide) ?_
  refine R_iadd (pc := 322) hC dL_law_322 ?_
  refine R_sld (pc := 323) hC hs (lw_i hb (by omega)) hp1 dL_law_323 ?_
  refine R_callV (pc := 324) (av := [.int p1]) (rest := []) hC hR 0 (jx hn rfl) ly0 rfl mf_X8_hangs wm_L_40 (LX8_hangs hn hg1) rfl rfl rfl (Nat.le_of_ble_eq_true rfl) dL_law_324 rfl ?_
  show RX K 327 [(3, .int (nI i)), (2, .ref 43), (1, .ref 0), (0, .ref 64)] [.int r] m1
  refine R_aload_n (pc := 327) hC 1 dL_law_327 rfl rfl ?_
  refine R_aload_n (pc := 328) hC 3 dL_law_328 rfl rfl ?_
  refine R_iload_n (pc := 329) hC 0 dL_law_329 rfl rfl ?_
  refine R_iconst (pc := 330) hC dL_law_330 (v := nI 1) (by decide) ?_
  refine R_iadd (pc := 331) hC dL_law_331 ?_
  refine R_sld (pc := 332) hC hs (lw_i hb (by omega)) hp1 dL_law_332 ?_
  refine R_callV (pc := 333) (av := [.int p1]) (rest := [.int r]) hC hR 43 (jx hn64 rfl) ly43 rfl mf_X9_hangs wm_L_43 (LX9_hangs hn64 hg2) rfl rfl rfl (Nat.le_of_ble_eq_true rfl) dL_law_333 rfl ?_
  show RX K 336 [(3, .int (nI i)), (2, .ref 43), (1, .ref 0), (0, .ref 64)] [.int r, .int r] m2
  exact R_icmp_eq (tgt := 1046) (pc := 336) hC dL_law_336 (by decide) (fun _ => kk _ hI2) (fun c => absurd rfl c)
set_option maxHeartbeats 4000000 in
set_option maxRecDepth 20000 in
theorem road_parts {K : KX} {G : Option Value → Mem → Prop} {F L : Nat} {xs : Nat → Int32} {Inv : Mem → Prop} (hC : Cx K code RL G) (hn : 43 ≤ kn K) (hn64 : 64 ≤ kn K) (hL : kL K = 4) (hR : kR K = room_1) (hs : Scr K L xs) (hb : L ≤ 320) (hPU : PU_parts F Inv) {i : Nat} (hi : i + 5 ≤ L) {m : Mem} (hI : Inv m) (kk : ∀ m : Mem, Inv m → RX K 1046 [(3, .int (nI i)), (2, .ref 43), (1, .ref 0), (0, .ref 64)] [] m) : RX K 341 [(3, .int (nI i)), (2, .ref 43), (1, .ref 0), (0, .ref 64)] [] m := by
  obtain ⟨p1, hp1⟩ : ∃ p, xs (nI i + nI 1).toNatClampNeg = p := ⟨_, rfl⟩
  obtain ⟨r, m1, m2, hg1, hg2, hI2⟩ := hPU m p1 hI
  refine R_aload_n (pc := 341) hC 2 dL_law_341 rfl rfl ?_
  refine R_aload_n (pc := 342) hC 3 dL_law_342 rfl rfl ?_
  refine R_iload_n (pc := 343) hC 0 dL_law_343 rfl rfl ?_
  refine R_iconst (pc := 344) hC dL_law_344 (v := nI 1) (by decide) ?_
  refine R_iadd (pc := 345) hC dL_law_345 ?_
  refine R_sld (pc := 346) hC hs (lw_i hb (by omega)) hp1 dL_law_346 ?_
  refine R_callV (pc := 347) (av := [.int p1]) (rest := []) hC hR 0 (jx hn rfl) ly0 rfl mf_X8_parts wm_L_44 (LX8_parts hn hg1) rfl rfl rfl (Nat.le_of_ble_eq_true rfl) dL_law_347 rfl ?_
  show RX K 350 [(3, .int (nI i)), (2, .ref 43), (1, .ref 0), (0, .ref 64)] [.int r] m1
  refine R_aload_n (pc := 350) hC 1 dL_law_350 rfl rfl ?_
  refine R_aload_n (pc := 351) hC 3 dL_law_351 rfl rfl ?_
  refine R_iload_n (pc := 352) hC 0 dL_law_352 rfl rfl ?_
  refine R_iconst (pc := 353) hC dL_law_353 (v := nI 1) (by decide) ?_
  refine R_iadd (pc := 354) hC dL_law_354 ?_
  refine R_sld (pc := 355) hC hs (lw_i hb (by omega)) hp1 dL_law_355 ?_
  refine R_callV (pc := 356) (av := [.int p1]) (rest := [.int r]) hC hR 43 (jx hn64 rfl) ly43 rfl mf_X9_parts wm_L_47 (LX9_parts hn64 hg2) rfl rfl rfl (Nat.le_of_ble_eq_true rfl) dL_law_356 rfl ?_
  show RX K 359 [(3, .int (nI i)), (2, .ref 43), (1, .ref 0), (0, .ref 64)] [.int r, .int r] m2
  exact R_icmp_eq (tgt := 1046) (pc := 359) hC dL_law_359 (by decide) (fun _ => kk _ hI2) (fun c => absurd rfl c)
set_option maxHeartbeats 4000000 in
set_option maxRecDepth 20000 in
theorem road_many {K : KX} {G : Option Value → Mem → Prop} {F L : Nat} {xs : Nat → Int32} {Inv : Mem → Prop} (hC : Cx K code RL G) (hn : 43 ≤ kn K) (hn64 : 64 ≤ kn K) (hL : kL K = 4) (hR : kR K = room_1) (hs : Scr K L xs) (hb : L ≤ 320) (hPU : PU_many F Inv) {i : Nat} (hi : i + 5 ≤ L) {m : Mem} (hI : Inv m) (kk : ∀ m : Mem, Inv m → RX K 1046 [(3, .int (nI i)), (2, .ref 43), (1, .ref 0), (0, .ref 64)] [] m) : RX K 364 [(3, .int (nI i)), (2, .ref 43), (1, .ref 0), (0, .ref 64)] [] m := by
  obtain ⟨r, m2, hg1, hg2, hI2⟩ := hPU m hI
  refine R_aload_n (pc := 364) hC 2 dL_law_364 rfl rfl ?_
  refine R_callV (pc := 365) (av := []) (rest := []) hC hR 0 (jx hn rfl) ly0 rfl mf_X8_many wm_L_48 (LX8_many hn hg1) rfl rfl rfl (Nat.le_of_ble_eq_true rfl) dL_law_365 rfl ?_
  show RX K 368 [(3, .int (nI i)), (2, .ref 43), (1, .ref 0), (0, .ref 64)] [.int r] m
  refine R_aload_n (pc := 368) hC 1 dL_law_368 rfl rfl ?_
  refine R_callV (pc := 369) (av := []) (rest := [.int r]) hC hR 43 (jx hn64 rfl) ly43 rfl mf_X9_many wm_L_51 (LX9_many hn64 hg2) rfl rfl rfl (Nat.le_of_ble_eq_true rfl) dL_law_369 rfl ?_
  show RX K 372 [(3, .int (nI i)), (2, .ref 43), (1, .ref 0), (0, .ref 64)] [.int r, .int r] m2
  exact R_icmp_eq (tgt := 1046) (pc := 372) hC dL_law_372 (by decide) (fun _ => kk _ hI2) (fun c => absurd rfl c)
set_option maxHeartbeats 4000000 in
set_option maxRecDepth 20000 in
theorem road_sum {K : KX} {G : Option Value → Mem → Prop} {F L : Nat} {xs : Nat → Int32} {Inv : Mem → Prop} (hC : Cx K code RL G) (hn : 43 ≤ kn K) (hn64 : 64 ≤ kn K) (hL : kL K = 4) (hR : kR K = room_1) (hs : Scr K L xs) (hb : L ≤ 320) (hPU : PU_sum F Inv) {i : Nat} (hi : i + 5 ≤ L) {m : Mem} (hI : Inv m) (kk : ∀ m : Mem, Inv m → RX K 1046 [(3, .int (nI i)), (2, .ref 43), (1, .ref 0), (0, .ref 64)] [] m) : RX K 377 [(3, .int (nI i)), (2, .ref 43), (1, .ref 0), (0, .ref 64)] [] m := by
  obtain ⟨r, m2, hg1, hg2, hI2⟩ := hPU m hI
  refine R_aload_n (pc := 377) hC 2 dL_law_377 rfl rfl ?_
  refine R_callV (pc := 378) (av := []) (rest := []) hC hR 0 (jx hn rfl) ly0 rfl mf_X8_sum wm_L_52 (LX8_sum hn hg1) rfl rfl rfl (Nat.le_of_ble_eq_true rfl) dL_law_378 rfl ?_
  show RX K 381 [(3, .int (nI i)), (2, .ref 43), (1, .ref 0), (0, .ref 64)] [.long r] m
  refine R_aload_n (pc := 381) hC 1 dL_law_381 rfl rfl ?_
  refine R_callV (pc := 382) (av := []) (rest := [.long r]) hC hR 43 (jx hn64 rfl) ly43 rfl mf_X9_sum wm_L_56 (LX9_sum hn64 hg2) rfl rfl rfl (Nat.le_of_ble_eq_true rfl) dL_law_382 rfl ?_
  show RX K 385 [(3, .int (nI i)), (2, .ref 43), (1, .ref 0), (0, .ref 64)] [.long r, .long r] m2
  refine R_lcmp (pc := 385) hC dL_law_385 ?_
  exact R_if_eq (tgt := 1046) (pc := 386) hC dL_law_386 (by decide) (fun _ => kk _ hI2) (fun c => absurd (lg_same _) c)
set_option maxHeartbeats 4000000 in
set_option maxRecDepth 20000 in
theorem road_way {K : KX} {G : Option Value → Mem → Prop} {F L : Nat} {xs : Nat → Int32} {Inv : Mem → Prop} (hC : Cx K code RL G) (hn : 43 ≤ kn K) (hn64 : 64 ≤ kn K) (hL : kL K = 4) (hR : kR K = room_1) (hs : Scr K L xs) (hb : L ≤ 320) (hPU : PU_way F Inv) {i : Nat} (hi : i + 5 ≤ L) {m : Mem} (hI : Inv m) (kk : ∀ m : Mem, Inv m → RX K 1046 [(3, .int (nI i)), (2, .ref 43), (1, .ref 0), (0, .ref 64)] [] m) : RX K 391 [(3, .int (nI i)), (2, .ref 43), (1, .ref 0), (0, .ref 64)] [] m := by
  obtain ⟨p1, hp1⟩ : ∃ p, xs (nI i + nI 1).toNatClampNeg = p := ⟨_, rfl⟩
  obtain ⟨r, m1, m2, hg1, hg2, hI2⟩ := hPU m p1 hI
  refine R_aload_n (pc := 391) hC 2 dL_law_391 rfl rfl ?_
  refine R_aload_n (pc := 392) hC 3 dL_law_392 rfl rfl ?_
  refine R_iload_n (pc := 393) hC 0 dL_law_393 rfl rfl ?_
  refine R_iconst (pc := 394) hC dL_law_394 (v := nI 1) (by decide) ?_
  refine R_iadd (pc := 395) hC dL_law_395 ?_
  refine R_sld (pc := 396) hC hs (lw_i hb (by omega)) hp1 dL_law_396 ?_
  refine R_callV (pc := 397) (av := [.int p1]) (rest := []) hC hR 0 (jx hn rfl) ly0 rfl mf_X8_way wm_L_57 (LX8_way hn hg1) rfl rfl rfl (Nat.le_of_ble_eq_true rfl) dL_law_397 rfl ?_
  show RX K 400 [(3, .int (nI i)), (2, .ref 43), (1, .ref 0), (0, .ref 64)] [.int r] m1
  refine R_aload_n (pc := 400) hC 1 dL_law_400 rfl rfl ?_
  refine R_aload_n (pc := 401) hC 3 dL_law_401 rfl rfl ?_
  refine R_iload_n (pc := 402) hC 0 dL_law_402 rfl rfl ?_
  refine R_iconst (pc := 403) hC dL_law_403 (v := nI 1) (by decide) ?_
  refine R_iadd (pc := 404) hC dL_law_404 ?_
  refine R_sld (pc := 405) hC hs (lw_i hb (by omega)) hp1 dL_law_405 ?_
  refine R_callV (pc := 406) (av := [.int p1]) (rest := [.int r]) hC hR 43 (jx hn64 rfl) ly43 rfl mf_X9_way wm_L_60 (LX9_way hn64 hg2) rfl rfl rfl (Nat.le_of_ble_eq_true rfl) dL_law_406 rfl ?_
  show RX K 409 [(3, .int (nI i)), (2, .ref 43), (1, .ref 0), (0, .ref 64)] [.int r, .int r] m2
  exact R_icmp_eq (tgt := 1046) (pc := 409) hC dL_law_409 (by decide) (fun _ => kk _ hI2) (fun c => absurd rfl c)
set_option maxHeartbeats 4000000 in
set_option maxRecDepth 20000 in
theorem road_likely {K : KX} {G : Option Value → Mem → Prop} {F L : Nat} {xs : Nat → Int32} {Inv : Mem → Prop} (hC : Cx K code RL G) (hn : 43 ≤ kn K) (hn64 : 64 ≤ kn K) (hL : kL K = 4) (hR : kR K = room_1) (hs : Scr K L xs) (hb : L ≤ 320) (hPU : PU_likely F Inv) {i : Nat} (hi : i + 5 ≤ L) {m : Mem} (hI : Inv m) (kk : ∀ m : Mem, Inv m → RX K 1046 [(3, .int (nI i)), (2, .ref 43), (1, .ref 0), (0, .ref 64)] [] m) : RX K 414 [(3, .int (nI i)), (2, .ref 43), (1, .ref 0), (0, .ref 64)] [] m := by
  obtain ⟨p1, hp1⟩ : ∃ p, xs (nI i + nI 1).toNatClampNeg = p := ⟨_, rfl⟩
  obtain ⟨p2, hp2⟩ : ∃ p, xs (nI i + nI 2).toNatClampNeg = p := ⟨_, rfl⟩
  obtain ⟨r, m1, m2, hg1, hg2, hI2⟩ := hPU m p1 p2 hI
  refine R_aload_n (pc := 414) hC 2 dL_law_414 rfl rfl ?_
  refine R_aload_n (pc := 415) hC 3 dL_law_415 rfl rfl ?_
  refine R_iload_n (pc := 416) hC 0 dL_law_416 rfl rfl ?_
  refine R_iconst (pc := 417) hC dL_law_417 (v := nI 1) (by decide) ?_
  refine R_iadd (pc := 418) hC dL_law_418 ?_
  refine R_sld (pc := 419) hC hs (lw_i hb (by omega)) hp1 dL_law_419 ?_
  refine R_aload_n (pc := 420) hC 3 dL_law_420 rfl rfl ?_
  refine R_iload_n (pc := 421) hC 0 dL_law_421 rfl rfl ?_
  refine R_iconst (pc := 422) hC dL_law_422 (v := nI 2) (by decide) ?_
  refine R_iadd (pc := 423) hC dL_law_423 ?_
  refine R_sld (pc := 424) hC hs (lw_i hb (by omega)) hp2 dL_law_424 ?_
  refine R_callV (pc := 425) (av := [.int p1, .int p2]) (rest := []) hC hR 0 (jx hn rfl) ly0 rfl mf_X8_likely wm_L_61 (LX8_likely hn hg1) rfl rfl rfl (Nat.le_of_ble_eq_true rfl) dL_law_425 rfl ?_
  show RX K 428 [(3, .int (nI i)), (2, .ref 43), (1, .ref 0), (0, .ref 64)] [.long r] m1
  refine R_aload_n (pc := 428) hC 1 dL_law_428 rfl rfl ?_
  refine R_aload_n (pc := 429) hC 3 dL_law_429 rfl rfl ?_
  refine R_iload_n (pc := 430) hC 0 dL_law_430 rfl rfl ?_
  refine R_iconst (pc := 431) hC dL_law_431 (v := nI 1) (by decide) ?_
  refine R_iadd (pc := 432) hC dL_law_432 ?_
  refine R_sld (pc := 433) hC hs (lw_i hb (by omega)) hp1 dL_law_433 ?_
  refine R_aload_n (pc := 434) hC 3 dL_law_434 rfl rfl ?_
  refine R_iload_n (pc := 435) hC 0 dL_law_435 rfl rfl ?_
  refine R_iconst (pc := 436) hC dL_law_436 (v := nI 2) (by decide) ?_
  refine R_iadd (pc := 437) hC dL_law_437 ?_
  refine R_sld (pc := 438) hC hs (lw_i hb (by omega)) hp2 dL_law_438 ?_
  refine R_callV (pc := 439) (av := [.int p1, .int p2]) (rest := [.long r]) hC hR 43 (jx hn64 rfl) ly43 rfl mf_X9_likely wm_L_65 (LX9_likely hn64 hg2) rfl rfl rfl (Nat.le_of_ble_eq_true rfl) dL_law_439 rfl ?_
  show RX K 442 [(3, .int (nI i)), (2, .ref 43), (1, .ref 0), (0, .ref 64)] [.long r, .long r] m2
  refine R_lcmp (pc := 442) hC dL_law_442 ?_
  exact R_if_eq (tgt := 1046) (pc := 443) hC dL_law_443 (by decide) (fun _ => kk _ hI2) (fun c => absurd (lg_same _) c)
set_option maxHeartbeats 4000000 in
set_option maxRecDepth 20000 in
theorem road_pair {K : KX} {G : Option Value → Mem → Prop} {F L : Nat} {xs : Nat → Int32} {Inv : Mem → Prop} (hC : Cx K code RL G) (hn : 43 ≤ kn K) (hn64 : 64 ≤ kn K) (hL : kL K = 4) (hR : kR K = room_1) (hs : Scr K L xs) (hb : L ≤ 320) (hPU : PU_pair F Inv) {i : Nat} (hi : i + 5 ≤ L) {m : Mem} (hI : Inv m) (kk : ∀ m : Mem, Inv m → RX K 1046 [(3, .int (nI i)), (2, .ref 43), (1, .ref 0), (0, .ref 64)] [] m) : RX K 448 [(3, .int (nI i)), (2, .ref 43), (1, .ref 0), (0, .ref 64)] [] m := by
  obtain ⟨p1, hp1⟩ : ∃ p, xs (nI i + nI 1).toNatClampNeg = p := ⟨_, rfl⟩
  obtain ⟨p2, hp2⟩ : ∃ p, xs (nI i + nI 2).toNatClampNeg = p := ⟨_, rfl⟩
  obtain ⟨p3, hp3⟩ : ∃ p, xs (nI i + nI 3).toNatClampNeg = p := ⟨_, rfl⟩
  obtain ⟨r, m1, m2, hg1, hg2, hI2⟩ := hPU m p1 p2 p3 hI
  refine R_aload_n (pc := 448) hC 2 dL_law_448 rfl rfl ?_
  refine R_aload_n (pc := 449) hC 3 dL_law_449 rfl rfl ?_
  refine R_iload_n (pc := 450) hC 0 dL_law_450 rfl rfl ?_
  refine R_iconst (pc := 451) hC dL_law_451 (v := nI 1) (by decide) ?_
  refine R_iadd (pc := 452) hC dL_law_452 ?_
  refine R_sld (pc := 453) hC hs (lw_i hb (by omega)) hp1 dL_law_453 ?_
  refine R_aload_n (pc := 454) hC 3 dL_law_454 rfl rfl ?_
  refine R_iload_n (pc := 455) hC 0 dL_law_455 rfl rfl ?_
  refine R_iconst (pc := 456) hC dL_law_456 (v := nI 2) (by decide) ?_
  refine R_iadd (pc := 457) hC dL_law_457 ?_
  refine R_sld (pc := 458) hC hs (lw_i hb (by omega)) hp2 dL_law_458 ?_
  refine R_aload_n (pc := 459) hC 3 dL_law_459 rfl rfl ?_
  refine R_iload_n (pc := 460) hC 0 dL_law_460 rfl rfl ?_
  refine R_iconst (pc := 461) hC dL_law_461 (v := nI 3) (by decide) ?_
  refine R_iadd (pc := 462) hC dL_law_462 ?_
  refine R_sld (pc := 463) hC hs (lw_i hb (by omega)) hp3 dL_law_463 ?_
  refine R_callV (pc := 464) (av := [.int p1, .int p2, .int p3]) (rest := []) hC hR 0 (jx hn rfl) ly0 rfl mf_X8_pair wm_L_66 (LX8_pair hn hg1) rfl rfl rfl (Nat.le_of_ble_eq_true rfl) dL_law_464 rfl ?_
  show RX K 467 [(3, .int (nI i)), (2, .ref 43), (1, .ref 0), (0, .ref 64)] [.long r] m1
  refine R_aload_n (pc := 467) hC 1 dL_law_467 rfl rfl ?_
  refine R_aload_n (pc := 468) hC 3 dL_law_468 rfl rfl ?_
  refine R_iload_n (pc := 469) hC 0 dL_law_469 rfl rfl ?_
  refine R_iconst (pc := 470) hC dL_law_470 (v := nI 1) (by decide) ?_
  refine R_iadd (pc := 471) hC dL_law_471 ?_
  refine R_sld (pc := 472) hC hs (lw_i hb (by omega)) hp1 dL_law_472 ?_
  refine R_aload_n (pc := 473) hC 3 dL_law_473 rfl rfl ?_
  refine R_iload_n (pc := 474) hC 0 dL_law_474 rfl rfl ?_
  refine R_iconst (pc := 475) hC dL_law_475 (v := nI 2) (by decide) ?_
  refine R_iadd (pc := 476) hC dL_law_476 ?_
  refine R_sld (pc := 477) hC hs (lw_i hb (by omega)) hp2 dL_law_477 ?_
  refine R_aload_n (pc := 478) hC 3 dL_law_478 rfl rfl ?_
  refine R_iload_n (pc := 479) hC 0 dL_law_479 rfl rfl ?_
  refine R_iconst (pc := 480) hC dL_law_480 (v := nI 3) (by decide) ?_
  refine R_iadd (pc := 481) hC dL_law_481 ?_
  refine R_sld (pc := 482) hC hs (lw_i hb (by omega)) hp3 dL_law_482 ?_
  refine R_callV (pc := 483) (av := [.int p1, .int p2, .int p3]) (rest := [.long r]) hC hR 43 (jx hn64 rfl) ly43 rfl mf_X9_pair wm_L_70 (LX9_pair hn64 hg2) rfl rfl rfl (Nat.le_of_ble_eq_true rfl) dL_law_483 rfl ?_
  show RX K 486 [(3, .int (nI i)), (2, .ref 43), (1, .ref 0), (0, .ref 64)] [.long r, .long r] m2
  refine R_lcmp (pc := 486) hC dL_law_486 ?_
  exact R_if_eq (tgt := 1046) (pc := 487) hC dL_law_487 (by decide) (fun _ => kk _ hI2) (fun c => absurd (lg_same _) c)
set_option maxHeartbeats 4000000 in
set_option maxRecDepth 20000 in
theorem road_less {K : KX} {G : Option Value → Mem → Prop} {F L : Nat} {xs : Nat → Int32} {Inv : Mem → Prop} (hC : Cx K code RL G) (hn : 43 ≤ kn K) (hn64 : 64 ≤ kn K) (hL : kL K = 4) (hR : kR K = room_1) (hs : Scr K L xs) (hb : L ≤ 320) (hPU : PU_less F Inv) {i : Nat} (hi : i + 5 ≤ L) {m : Mem} (hI : Inv m) (kk : ∀ m : Mem, Inv m → RX K 1046 [(3, .int (nI i)), (2, .ref 43), (1, .ref 0), (0, .ref 64)] [] m) : RX K 492 [(3, .int (nI i)), (2, .ref 43), (1, .ref 0), (0, .ref 64)] [] m := by
  obtain ⟨p1, hp1⟩ : ∃ p, xs (nI i + nI 1).toNatClampNeg = p := ⟨_, rfl⟩
  obtain ⟨p2, hp2⟩ : ∃ p, xs (nI i + nI 2).toNatClampNeg = p := ⟨_, rfl⟩
  obtain ⟨r, m1, m2, hg1, hg2, hI2⟩ := hPU m p1 p2 hI
  refine R_aload_n (pc := 492) hC 2 dL_law_492 rfl rfl ?_
  refine R_aload_n (pc := 493) hC 3 dL_law_493 rfl rfl ?_
  refine R_iload_n (pc := 494) hC 0 dL_law_494 rfl rfl ?_
  refine R_iconst (pc := 495) hC dL_law_495 (v := nI 1) (by decide) ?_
  refine R_iadd (pc := 496) hC dL_law_496 ?_
  refine R_sld (pc := 497) hC hs (lw_i hb (by omega)) hp1 dL_law_497 ?_
  refine R_aload_n (pc := 498) hC 3 dL_law_498 rfl rfl ?_
  refine R_iload_n (pc := 499) hC 0 dL_law_499 rfl rfl ?_
  refine R_iconst (pc := 500) hC dL_law_500 (v := nI 2) (by decide) ?_
  refine R_iadd (pc := 501) hC dL_law_501 ?_
  refine R_sld (pc := 502) hC hs (lw_i hb (by omega)) hp2 dL_law_502 ?_
  refine R_callV (pc := 503) (av := [.int p1, .int p2]) (rest := []) hC hR 0 (jx hn rfl) ly0 rfl mf_X8_less wm_L_71 (LX8_less hn hg1) rfl rfl rfl (Nat.le_of_ble_eq_true rfl) dL_law_503 rfl ?_
  show RX K 506 [(3, .int (nI i)), (2, .ref 43), (1, .ref 0), (0, .ref 64)] [.int r] m1
  refine R_aload_n (pc := 506) hC 1 dL_law_506 rfl rfl ?_
  refine R_aload_n (pc := 507) hC 3 dL_law_507 rfl rfl ?_
  refine R_iload_n (pc := 508) hC 0 dL_law_508 rfl rfl ?_
  refine R_iconst (pc := 509) hC dL_law_509 (v := nI 1) (by decide) ?_
  refine R_iadd (pc := 510) hC dL_law_510 ?_
  refine R_sld (pc := 511) hC hs (lw_i hb (by omega)) hp1 dL_law_511 ?_
  refine R_aload_n (pc := 512) hC 3 dL_law_512 rfl rfl ?_
  refine R_iload_n (pc := 513) hC 0 dL_law_513 rfl rfl ?_
  refine R_iconst (pc := 514) hC dL_law_514 (v := nI 2) (by decide) ?_
  refine R_iadd (pc := 515) hC dL_law_515 ?_
  refine R_sld (pc := 516) hC hs (lw_i hb (by omega)) hp2 dL_law_516 ?_
  refine R_callV (pc := 517) (av := [.int p1, .int p2]) (rest := [.int r]) hC hR 43 (jx hn64 rfl) ly43 rfl mf_X9_less wm_L_74 (LX9_less hn64 hg2) rfl rfl rfl (Nat.le_of_ble_eq_true rfl) dL_law_517 rfl ?_
  show RX K 520 [(3, .int (nI i)), (2, .ref 43), (1, .ref 0), (0, .ref 64)] [.int r, .int r] m2
  exact R_icmp_eq (tgt := 1046) (pc := 520) hC dL_law_520 (by decide) (fun _ => kk _ hI2) (fun c => absurd rfl c)
set_option maxHeartbeats 4000000 in
set_option maxRecDepth 20000 in
theorem road_inAll {K : KX} {G : Option Value → Mem → Prop} {F L : Nat} {xs : Nat → Int32} {Inv : Mem → Prop} (hC : Cx K code RL G) (hn : 43 ≤ kn K) (hn64 : 64 ≤ kn K) (hL : kL K = 4) (hR : kR K = room_1) (hs : Scr K L xs) (hb : L ≤ 320) (hPU : PU_inAll F Inv) {i : Nat} (hi : i + 5 ≤ L) {m : Mem} (hI : Inv m) (kk : ∀ m : Mem, Inv m → RX K 1046 [(3, .int (nI i)), (2, .ref 43), (1, .ref 0), (0, .ref 64)] [] m) : RX K 525 [(3, .int (nI i)), (2, .ref 43), (1, .ref 0), (0, .ref 64)] [] m := by
  obtain ⟨r, m2, hg1, hg2, hI2⟩ := hPU m hI
  refine R_aload_n (pc := 525) hC 2 dL_law_525 rfl rfl ?_
  refine R_callV (pc := 526) (av := []) (rest := []) hC hR 0 (jx hn rfl) ly0 rfl mf_X8_inAll wm_L_75 (LX8_inAll hn hg1) rfl rfl rfl (Nat.le_of_ble_eq_true rfl) dL_law_526 rfl ?_
  show RX K 529 [(3, .int (nI i)), (2, .ref 43), (1, .ref 0), (0, .ref 64)] [.int r] m
  refine R_aload_n (pc := 529) hC 1 dL_law_529 rfl rfl ?_
  refine R_callV (pc := 530) (av := []) (rest := [.int r]) hC hR 43 (jx hn64 rfl) ly43 rfl mf_X9_inAll wm_L_78 (LX9_inAll hn64 hg2) rfl rfl rfl (Nat.le_of_ble_eq_true rfl) dL_law_530 rfl ?_
  show RX K 533 [(3, .int (nI i)), (2, .ref 43), (1, .ref 0), (0, .ref 64)] [.int r, .int r] m2
  exact R_icmp_eq (tgt := 1046) (pc := 533) hC dL_law_533 (by decide) (fun _ => kk _ hI2) (fun c => absurd rfl c)
set_option maxHeartbeats 4000000 in
set_option maxRecDepth 20000 in
theorem road_inNone {K : KX} {G : Option Value → Mem → Prop} {F L : Nat} {xs : Nat → Int32} {Inv : Mem → Prop} (hC : Cx K code RL G) (hn : 43 ≤ kn K) (hn64 : 64 ≤ kn K) (hL : kL K = 4) (hR : kR K = room_1) (hs : Scr K L xs) (hb : L ≤ 320) (hPU : PU_inNone F Inv) {i : Nat} (hi : i + 5 ≤ L) {m : Mem} (hI : Inv m) (kk : ∀ m : Mem, Inv m → RX K 1046 [(3, .int (nI i)), (2, .ref 43), (1, .ref 0), (0, .ref 64)] [] m) : RX K 538 [(3, .int (nI i)), (2, .ref 43), (1, .ref 0), (0, .ref 64)] [] m := by
  obtain ⟨r, m2, hg1, hg2, hI2⟩ := hPU m hI
  refine R_aload_n (pc := 538) hC 2 dL_law_538 rfl rfl ?_
  refine R_callV (pc := 539) (av := []) (rest := []) hC hR 0 (jx hn rfl) ly0 rfl mf_X8_inNone wm_L_79 (LX8_inNone hn hg1) rfl rfl rfl (Nat.le_of_ble_eq_true rfl) dL_law_539 rfl ?_
  show RX K 542 [(3, .int (nI i)), (2, .ref 43), (1, .ref 0), (0, .ref 64)] [.int r] m
  refine R_aload_n (pc := 542) hC 1 dL_law_542 rfl rfl ?_
  refine R_callV (pc := 543) (av := []) (rest := [.int r]) hC hR 43 (jx hn64 rfl) ly43 rfl mf_X9_inNone wm_L_82 (LX9_inNone hn64 hg2) rfl rfl rfl (Nat.le_of_ble_eq_true rfl) dL_law_543 rfl ?_
  show RX K 546 [(3, .int (nI i)), (2, .ref 43), (1, .ref 0), (0, .ref 64)] [.int r, .int r] m2
  exact R_icmp_eq (tgt := 1046) (pc := 546) hC dL_law_546 (by decide) (fun _ => kk _ hI2) (fun c => absurd rfl c)
set_option maxHeartbeats 4000000 in
set_option maxRecDepth 20000 in
theorem road_cheap {K : KX} {G : Option Value → Mem → Prop} {F L : Nat} {xs : Nat → Int32} {Inv : Mem → Prop} (hC : Cx K code RL G) (hn : 43 ≤ kn K) (hn64 : 64 ≤ kn K) (hL : kL K = 4) (hR : kR K = room_1) (hs : Scr K L xs) (hb : L ≤ 320) (hPU : PU_cheap F Inv) {i : Nat} (hi : i + 5 ≤ L) {m : Mem} (hI : Inv m) (kk : ∀ m : Mem, Inv m → RX K 1046 [(3, .int (nI i)), (2, .ref 43), (1, .ref 0), (0, .ref 64)] [] m) : RX K 551 [(3, .int (nI i)), (2, .ref 43), (1, .ref 0), (0, .ref 64)] [] m := by
  obtain ⟨p1, hp1⟩ : ∃ p, xs (nI i + nI 1).toNatClampNeg = p := ⟨_, rfl⟩
  obtain ⟨p2, hp2⟩ : ∃ p, xs (nI i + nI 2).toNatClampNeg = p := ⟨_, rfl⟩
  obtain ⟨r, m1, m2, hg1, hg2, hI2⟩ := hPU m p1 p2 hI
  refine R_aload_n (pc := 551) hC 2 dL_law_551 rfl rfl ?_
  refine R_aload_n (pc := 552) hC 3 dL_law_552 rfl rfl ?_
  refine R_iload_n (pc := 553) hC 0 dL_law_553 rfl rfl ?_
  refine R_iconst (pc := 554) hC dL_law_554 (v := nI 1) (by decide) ?_
  refine R_iadd (pc := 555) hC dL_law_555 ?_
  refine R_sld (pc := 556) hC hs (lw_i hb (by omega)) hp1 dL_law_556 ?_
  refine R_aload_n (pc := 557) hC 3 dL_law_557 rfl rfl ?_
  refine R_iload_n (pc := 558) hC 0 dL_law_558 rfl rfl ?_
  refine R_iconst (pc := 559) hC dL_law_559 (v := nI 2) (by decide) ?_
  refine R_iadd (pc := 560) hC dL_law_560 ?_
  refine R_sld (pc := 561) hC hs (lw_i hb (by omega)) hp2 dL_law_561 ?_
  refine R_callV (pc := 562) (av := [.int p1, .int p2]) (rest := []) hC hR 0 (jx hn rfl) ly0 rfl mf_X8_cheap wm_L_83 (LX8_cheap hn hg1) rfl rfl rfl (Nat.le_of_ble_eq_true rfl) dL_law_562 rfl ?_
  show RX K 565 [(3, .int (nI i)), (2, .ref 43), (1, .ref 0), (0, .ref 64)] [.int r] m1
  refine R_aload_n (pc := 565) hC 1 dL_law_565 rfl rfl ?_
  refine R_aload_n (pc := 566) hC 3 dL_law_566 rfl rfl ?_
  refine R_iload_n (pc := 567) hC 0 dL_law_567 rfl rfl ?_
  refine R_iconst (pc := 568) hC dL_law_568 (v := nI 1) (by decide) ?_
  refine R_iadd (pc := 569) hC dL_law_569 ?_
  refine R_sld (pc := 570) hC hs (lw_i hb (by omega)) hp1 dL_law_570 ?_
  refine R_aload_n (pc := 571) hC 3 dL_law_571 rfl rfl ?_
  refine R_iload_n (pc := 572) hC 0 dL_law_572 rfl rfl ?_
  refine R_iconst (pc := 573) hC dL_law_573 (v := nI 2) (by decide) ?_
  refine R_iadd (pc := 574) hC dL_law_574 ?_
  refine R_sld (pc := 575) hC hs (lw_i hb (by omega)) hp2 dL_law_575 ?_
  refine R_callV (pc := 576) (av := [.int p1, .int p2]) (rest := [.int r]) hC hR 43 (jx hn64 rfl) ly43 rfl mf_X9_cheap wm_L_86 (LX9_cheap hn64 hg2) rfl rfl rfl (Nat.le_of_ble_eq_true rfl) dL_law_576 rfl ?_
  show RX K 579 [(3, .int (nI i)), (2, .ref 43), (1, .ref 0), (0, .ref 64)] [.int r, .int r] m2
  exact R_icmp_eq (tgt := 1046) (pc := 579) hC dL_law_579 (by decide) (fun _ => kk _ hI2) (fun c => absurd rfl c)
set_option maxHeartbeats 4000000 in
set_option maxRecDepth 20000 in
theorem road_nights {K : KX} {G : Option Value → Mem → Prop} {F L : Nat} {xs : Nat → Int32} {Inv : Mem → Prop} (hC : Cx K code RL G) (hn : 43 ≤ kn K) (hn64 : 64 ≤ kn K) (hL : kL K = 4) (hR : kR K = room_1) (hs : Scr K L xs) (hb : L ≤ 320) (hPU : PU_nights F Inv) {i : Nat} (hi : i + 5 ≤ L) {m : Mem} (hI : Inv m) (kk : ∀ m : Mem, Inv m → RX K 1046 [(3, .int (nI i)), (2, .ref 43), (1, .ref 0), (0, .ref 64)] [] m) : RX K 584 [(3, .int (nI i)), (2, .ref 43), (1, .ref 0), (0, .ref 64)] [] m := by
  obtain ⟨p1, hp1⟩ : ∃ p, xs (nI i + nI 1).toNatClampNeg = p := ⟨_, rfl⟩
  obtain ⟨p2, hp2⟩ : ∃ p, xs (nI i + nI 2).toNatClampNeg = p := ⟨_, rfl⟩
  obtain ⟨r, m1, m2, hg1, hg2, hI2⟩ := hPU m p1 p2 hI
  refine R_aload_n (pc := 584) hC 2 dL_law_584 rfl rfl ?_
  refine R_aload_n (pc := 585) hC 3 dL_law_585 rfl rfl ?_
  refine R_iload_n (pc := 586) hC 0 dL_law_586 rfl rfl ?_
  refine R_iconst (pc := 587) hC dL_law_587 (v := nI 1) (by decide) ?_
  refine R_iadd (pc := 588) hC dL_law_588 ?_
  refine R_sld (pc := 589) hC hs (lw_i hb (by omega)) hp1 dL_law_589 ?_
  refine R_aload_n (pc := 590) hC 3 dL_law_590 rfl rfl ?_
  refine R_iload_n (pc := 591) hC 0 dL_law_591 rfl rfl ?_
  refine R_iconst (pc := 592) hC dL_law_592 (v := nI 2) (by decide) ?_
  refine R_iadd (pc := 593) hC dL_law_593 ?_
  refine R_sld (pc := 594) hC hs (lw_i hb (by omega)) hp2 dL_law_594 ?_
  refine R_callV (pc := 595) (av := [.int p1, .int p2]) (rest := []) hC hR 0 (jx hn rfl) ly0 rfl mf_X8_nights wm_L_87 (LX8_nights hn hg1) rfl rfl rfl (Nat.le_of_ble_eq_true rfl) dL_law_595 rfl ?_
  show RX K 598 [(3, .int (nI i)), (2, .ref 43), (1, .ref 0), (0, .ref 64)] [.int r] m1
  refine R_aload_n (pc := 598) hC 1 dL_law_598 rfl rfl ?_
  refine R_aload_n (pc := 599) hC 3 dL_law_599 rfl rfl ?_
  refine R_iload_n (pc := 600) hC 0 dL_law_600 rfl rfl ?_
  refine R_iconst (pc := 601) hC dL_law_601 (v := nI 1) (by decide) ?_
  refine R_iadd (pc := 602) hC dL_law_602 ?_
  refine R_sld (pc := 603) hC hs (lw_i hb (by omega)) hp1 dL_law_603 ?_
  refine R_aload_n (pc := 604) hC 3 dL_law_604 rfl rfl ?_
  refine R_iload_n (pc := 605) hC 0 dL_law_605 rfl rfl ?_
  refine R_iconst (pc := 606) hC dL_law_606 (v := nI 2) (by decide) ?_
  refine R_iadd (pc := 607) hC dL_law_607 ?_
  refine R_sld (pc := 608) hC hs (lw_i hb (by omega)) hp2 dL_law_608 ?_
  refine R_callV (pc := 609) (av := [.int p1, .int p2]) (rest := [.int r]) hC hR 43 (jx hn64 rfl) ly43 rfl mf_X9_nights wm_L_90 (LX9_nights hn64 hg2) rfl rfl rfl (Nat.le_of_ble_eq_true rfl) dL_law_609 rfl ?_
  show RX K 612 [(3, .int (nI i)), (2, .ref 43), (1, .ref 0), (0, .ref 64)] [.int r, .int r] m2
  exact R_icmp_eq (tgt := 1046) (pc := 612) hC dL_law_612 (by decide) (fun _ => kk _ hI2) (fun c => absurd rfl c)
set_option maxHeartbeats 4000000 in
set_option maxRecDepth 20000 in
theorem road_step {K : KX} {G : Option Value → Mem → Prop} {F L : Nat} {xs : Nat → Int32} {Inv : Mem → Prop} (hC : Cx K code RL G) (hn : 43 ≤ kn K) (hn64 : 64 ≤ kn K) (hL : kL K = 4) (hR : kR K = room_1) (hs : Scr K L xs) (hb : L ≤ 320) (hPU : PU_step F Inv) {i : Nat} (hi : i + 5 ≤ L) {m : Mem} (hI : Inv m) (kk : ∀ m : Mem, Inv m → RX K 1046 [(3, .int (nI i)), (2, .ref 43), (1, .ref 0), (0, .ref 64)] [] m) : RX K 617 [(3, .int (nI i)), (2, .ref 43), (1, .ref 0), (0, .ref 64)] [] m := by
  obtain ⟨p1, hp1⟩ : ∃ p, xs (nI i + nI 1).toNatClampNeg = p := ⟨_, rfl⟩
  obtain ⟨p2, hp2⟩ : ∃ p, xs (nI i + nI 2).toNatClampNeg = p := ⟨_, rfl⟩
  obtain ⟨r, m1, m2, hg1, hg2, hI2⟩ := hPU m p1 p2 hI
  refine R_aload_n (pc := 617) hC 2 dL_law_617 rfl rfl ?_
  refine R_aload_n (pc := 618) hC 3 dL_law_618 rfl rfl ?_
  refine R_iload_n (pc := 619) hC 0 dL_law_619 rfl rfl ?_
  refine R_iconst (pc := 620) hC dL_law_620 (v := nI 1) (by decide) ?_
  refine R_iadd (pc := 621) hC dL_law_621 ?_
  refine R_sld (pc := 622) hC hs (lw_i hb (by omega)) hp1 dL_law_622 ?_
  refine R_aload_n (pc := 623) hC 3 dL_law_623 rfl rfl ?_
  refine R_iload_n (pc := 624) hC 0 dL_law_624 rfl rfl ?_
  refine R_iconst (pc := 625) hC dL_law_625 (v := nI 2) (by decide) ?_
  refine R_iadd (pc := 626) hC dL_law_626 ?_
  refine R_sld (pc := 627) hC hs (lw_i hb (by omega)) hp2 dL_law_627 ?_
  refine R_callV (pc := 628) (av := [.int p1, .int p2]) (rest := []) hC hR 0 (jx hn rfl) ly0 rfl mf_X8_step wm_L_91 (LX8_step hn hg1) rfl rfl rfl (Nat.le_of_ble_eq_true rfl) dL_law_628 rfl ?_
  show RX K 631 [(3, .int (nI i)), (2, .ref 43), (1, .ref 0), (0, .ref 64)] [.int r] m1
  refine R_aload_n (pc := 631) hC 1 dL_law_631 rfl rfl ?_
  refine R_aload_n (pc := 632) hC 3 dL_law_632 rfl rfl ?_
  refine R_iload_n (pc := 633) hC 0 dL_law_633 rfl rfl ?_
  refine R_iconst (pc := 634) hC dL_law_634 (v := nI 1) (by decide) ?_
  refine R_iadd (pc := 635) hC dL_law_635 ?_
  refine R_sld (pc := 636) hC hs (lw_i hb (by omega)) hp1 dL_law_636 ?_
  refine R_aload_n (pc := 637) hC 3 dL_law_637 rfl rfl ?_
  refine R_iload_n (pc := 638) hC 0 dL_law_638 rfl rfl ?_
  refine R_iconst (pc := 639) hC dL_law_639 (v := nI 2) (by decide) ?_
  refine R_iadd (pc := 640) hC dL_law_640 ?_
  refine R_sld (pc := 641) hC hs (lw_i hb (by omega)) hp2 dL_law_641 ?_
  refine R_callV (pc := 642) (av := [.int p1, .int p2]) (rest := [.int r]) hC hR 43 (jx hn64 rfl) ly43 rfl mf_X9_step wm_L_94 (LX9_step hn64 hg2) rfl rfl rfl (Nat.le_of_ble_eq_true rfl) dL_law_642 rfl ?_
  show RX K 645 [(3, .int (nI i)), (2, .ref 43), (1, .ref 0), (0, .ref 64)] [.int r, .int r] m2
  exact R_icmp_eq (tgt := 1046) (pc := 645) hC dL_law_645 (by decide) (fun _ => kk _ hI2) (fun c => absurd rfl c)
set_option maxHeartbeats 4000000 in
set_option maxRecDepth 20000 in
theorem road_toward {K : KX} {G : Option Value → Mem → Prop} {F L : Nat} {xs : Nat → Int32} {Inv : Mem → Prop} (hC : Cx K code RL G) (hn : 43 ≤ kn K) (hn64 : 64 ≤ kn K) (hL : kL K = 4) (hR : kR K = room_1) (hs : Scr K L xs) (hb : L ≤ 320) (hPU : PU_toward F Inv) {i : Nat} (hi : i + 5 ≤ L) {m : Mem} (hI : Inv m) (kk : ∀ m : Mem, Inv m → RX K 1046 [(3, .int (nI i)), (2, .ref 43), (1, .ref 0), (0, .ref 64)] [] m) : RX K 650 [(3, .int (nI i)), (2, .ref 43), (1, .ref 0), (0, .ref 64)] [] m := by
  obtain ⟨p1, hp1⟩ : ∃ p, xs (nI i + nI 1).toNatClampNeg = p := ⟨_, rfl⟩
  obtain ⟨p2, hp2⟩ : ∃ p, xs (nI i + nI 2).toNatClampNeg = p := ⟨_, rfl⟩
  obtain ⟨r, m1, m2, hg1, hg2, hI2⟩ := hPU m p1 p2 hI
  refine R_aload_n (pc := 650) hC 2 dL_law_650 rfl rfl ?_
  refine R_aload_n (pc := 651) hC 3 dL_law_651 rfl rfl ?_
  refine R_iload_n (pc := 652) hC 0 dL_law_652 rfl rfl ?_
  refine R_iconst (pc := 653) hC dL_law_653 (v := nI 1) (by decide) ?_
  refine R_iadd (pc := 654) hC dL_law_654 ?_
  refine R_sld (pc := 655) hC hs (lw_i hb (by omega)) hp1 dL_law_655 ?_
  refine R_aload_n (pc := 656) hC 3 dL_law_656 rfl rfl ?_
  refine R_iload_n (pc := 657) hC 0 dL_law_657 rfl rfl ?_
  refine R_iconst (pc := 658) hC dL_law_658 (v := nI 2) (by decide) ?_
  refine R_iadd (pc := 659) hC dL_law_659 ?_
  refine R_sld (pc := 660) hC hs (lw_i hb (by omega)) hp2 dL_law_660 ?_
  refine R_callV (pc := 661) (av := [.int p1, .int p2]) (rest := []) hC hR 0 (jx hn rfl) ly0 rfl mf_X8_toward wm_L_95 (LX8_toward hn hg1) rfl rfl rfl (Nat.le_of_ble_eq_true rfl) dL_law_661 rfl ?_
  show RX K 664 [(3, .int (nI i)), (2, .ref 43), (1, .ref 0), (0, .ref 64)] [.long r] m1
  refine R_aload_n (pc := 664) hC 1 dL_law_664 rfl rfl ?_
  refine R_aload_n (pc := 665) hC 3 dL_law_665 rfl rfl ?_
  refine R_iload_n (pc := 666) hC 0 dL_law_666 rfl rfl ?_
  refine R_iconst (pc := 667) hC dL_law_667 (v := nI 1) (by decide) ?_
  refine R_iadd (pc := 668) hC dL_law_668 ?_
  refine R_sld (pc := 669) hC hs (lw_i hb (by omega)) hp1 dL_law_669 ?_
  refine R_aload_n (pc := 670) hC 3 dL_law_670 rfl rfl ?_
  refine R_iload_n (pc := 671) hC 0 dL_law_671 rfl rfl ?_
  refine R_iconst (pc := 672) hC dL_law_672 (v := nI 2) (by decide) ?_
  refine R_iadd (pc := 673) hC dL_law_673 ?_
  refine R_sld (pc := 674) hC hs (lw_i hb (by omega)) hp2 dL_law_674 ?_
  refine R_callV (pc := 675) (av := [.int p1, .int p2]) (rest := [.long r]) hC hR 43 (jx hn64 rfl) ly43 rfl mf_X9_toward wm_L_98 (LX9_toward hn64 hg2) rfl rfl rfl (Nat.le_of_ble_eq_true rfl) dL_law_675 rfl ?_
  show RX K 678 [(3, .int (nI i)), (2, .ref 43), (1, .ref 0), (0, .ref 64)] [.long r, .long r] m2
  refine R_lcmp (pc := 678) hC dL_law_678 ?_
  exact R_if_eq (tgt := 1046) (pc := 679) hC dL_law_679 (by decide) (fun _ => kk _ hI2) (fun c => absurd (lg_same _) c)
set_option maxHeartbeats 4000000 in
set_option maxRecDepth 20000 in
theorem road_forests {K : KX} {G : Option Value → Mem → Prop} {F L : Nat} {xs : Nat → Int32} {Inv : Mem → Prop} (hC : Cx K code RL G) (hn : 43 ≤ kn K) (hn64 : 64 ≤ kn K) (hL : kL K = 4) (hR : kR K = room_1) (hs : Scr K L xs) (hb : L ≤ 320) (hPU : PU_forests F Inv) {i : Nat} (hi : i + 5 ≤ L) {m : Mem} (hI : Inv m) (kk : ∀ m : Mem, Inv m → RX K 1046 [(3, .int (nI i)), (2, .ref 43), (1, .ref 0), (0, .ref 64)] [] m) : RX K 684 [(3, .int (nI i)), (2, .ref 43), (1, .ref 0), (0, .ref 64)] [] m := by
  obtain ⟨p1, hp1⟩ : ∃ p, xs (nI i + nI 1).toNatClampNeg = p := ⟨_, rfl⟩
  obtain ⟨r, m1, m2, hg1, hg2, hI2⟩ := hPU m p1 hI
  refine R_aload_n (pc := 684) hC 2 dL_law_684 rfl rfl ?_
  refine R_aload_n (pc := 685) hC 3 dL_law_685 rfl rfl ?_
  refine R_iload_n (pc := 686) hC 0 dL_law_686 rfl rfl ?_
  refine R_iconst (pc := 687) hC dL_law_687 (v := nI 1) (by decide) ?_
  refine R_iadd (pc := 688) hC dL_law_688 ?_
  refine R_sld (pc := 689) hC hs (lw_i hb (by omega)) hp1 dL_law_689 ?_
  refine R_callV (pc := 690) (av := [.int p1]) (rest := []) hC hR 0 (jx hn rfl) ly0 rfl mf_X8_forests wm_L_99 (LX8_forests hn hg1) rfl rfl rfl (Nat.le_of_ble_eq_true rfl) dL_law_690 rfl ?_
  show RX K 693 [(3, .int (nI i)), (2, .ref 43), (1, .ref 0), (0, .ref 64)] [.int r] m1
  refine R_aload_n (pc := 693) hC 1 dL_law_693 rfl rfl ?_
  refine R_aload_n (pc := 694) hC 3 dL_law_694 rfl rfl ?_
  refine R_iload_n (pc := 695) hC 0 dL_law_695 rfl rfl ?_
  refine R_iconst (pc := 696) hC dL_law_696 (v := nI 1) (by decide) ?_
  refine R_iadd (pc := 697) hC dL_law_697 ?_
  refine R_sld (pc := 698) hC hs (lw_i hb (by omega)) hp1 dL_law_698 ?_
  refine R_callV (pc := 699) (av := [.int p1]) (rest := [.int r]) hC hR 43 (jx hn64 rfl) ly43 rfl mf_X9_forests wm_L_102 (LX9_forests hn64 hg2) rfl rfl rfl (Nat.le_of_ble_eq_true rfl) dL_law_699 rfl ?_
  show RX K 702 [(3, .int (nI i)), (2, .ref 43), (1, .ref 0), (0, .ref 64)] [.int r, .int r] m2
  exact R_icmp_eq (tgt := 1046) (pc := 702) hC dL_law_702 (by decide) (fun _ => kk _ hI2) (fun c => absurd rfl c)
set_option maxHeartbeats 4000000 in
set_option maxRecDepth 20000 in
theorem road_ploughs {K : KX} {G : Option Value → Mem → Prop} {F L : Nat} {xs : Nat → Int32} {Inv : Mem → Prop} (hC : Cx K code RL G) (hn : 43 ≤ kn K) (hn64 : 64 ≤ kn K) (hL : kL K = 4) (hR : kR K = room_1) (hs : Scr K L xs) (hb : L ≤ 320) (hPU : PU_ploughs F Inv) {i : Nat} (hi : i + 5 ≤ L) {m : Mem} (hI : Inv m) (kk : ∀ m : Mem, Inv m → RX K 1046 [(3, .int (nI i)), (2, .ref 43), (1, .ref 0), (0, .ref 64)] [] m) : RX K 707 [(3, .int (nI i)), (2, .ref 43), (1, .ref 0), (0, .ref 64)] [] m := by
  obtain ⟨p1, hp1⟩ : ∃ p, xs (nI i + nI 1).toNatClampNeg = p := ⟨_, rfl⟩
  obtain ⟨r, m1, m2, hg1, hg2, hI2⟩ := hPU m p1 hI
  refine R_aload_n (pc := 707) hC 2 dL_law_707 rfl rfl ?_
  refine R_aload_n (pc := 708) hC 3 dL_law_708 rfl rfl ?_
  refine R_iload_n (pc := 709) hC 0 dL_law_709 rfl rfl ?_
  refine R_iconst (pc := 710) hC dL_law_710 (v := nI 1) (by decide) ?_
  refine R_iadd (pc := 711) hC dL_law_711 ?_
  refine R_sld (pc := 712) hC hs (lw_i hb (by omega)) hp1 dL_law_712 ?_
  refine R_callV (pc := 713) (av := [.int p1]) (rest := []) hC hR 0 (jx hn rfl) ly0 rfl mf_X8_ploughs wm_L_103 (LX8_ploughs hn hg1) rfl rfl rfl (Nat.le_of_ble_eq_true rfl) dL_law_713 rfl ?_
  show RX K 716 [(3, .int (nI i)), (2, .ref 43), (1, .ref 0), (0, .ref 64)] [.int r] m1
  refine R_aload_n (pc := 716) hC 1 dL_law_716 rfl rfl ?_
  refine R_aload_n (pc := 717) hC 3 dL_law_717 rfl rfl ?_
  refine R_iload_n (pc := 718) hC 0 dL_law_718 rfl rfl ?_
  refine R_iconst (pc := 719) hC dL_law_719 (v := nI 1) (by decide) ?_
  refine R_iadd (pc := 720) hC dL_law_720 ?_
  refine R_sld (pc := 721) hC hs (lw_i hb (by omega)) hp1 dL_law_721 ?_
  refine R_callV (pc := 722) (av := [.int p1]) (rest := [.int r]) hC hR 43 (jx hn64 rfl) ly43 rfl mf_X9_ploughs wm_L_106 (LX9_ploughs hn64 hg2) rfl rfl rfl (Nat.le_of_ble_eq_true rfl) dL_law_722 rfl ?_
  show RX K 725 [(3, .int (nI i)), (2, .ref 43), (1, .ref 0), (0, .ref 64)] [.int r, .int r] m2
  exact R_icmp_eq (tgt := 1046) (pc := 725) hC dL_law_725 (by decide) (fun _ => kk _ hI2) (fun c => absurd rfl c)
set_option maxHeartbeats 4000000 in
set_option maxRecDepth 20000 in
theorem road_hard {K : KX} {G : Option Value → Mem → Prop} {F L : Nat} {xs : Nat → Int32} {Inv : Mem → Prop} (hC : Cx K code RL G) (hn : 43 ≤ kn K) (hn64 : 64 ≤ kn K) (hL : kL K = 4) (hR : kR K = room_1) (hs : Scr K L xs) (hb : L ≤ 320) (hPU : PU_hard F Inv) {i : Nat} (hi : i + 5 ≤ L) {m : Mem} (hI : Inv m) (kk : ∀ m : Mem, Inv m → RX K 1046 [(3, .int (nI i)), (2, .ref 43), (1, .ref 0), (0, .ref 64)] [] m) : RX K 730 [(3, .int (nI i)), (2, .ref 43), (1, .ref 0), (0, .ref 64)] [] m := by
  obtain ⟨p1, hp1⟩ : ∃ p, xs (nI i + nI 1).toNatClampNeg = p := ⟨_, rfl⟩
  obtain ⟨p2, hp2⟩ : ∃ p, xs (nI i + nI 2).toNatClampNeg = p := ⟨_, rfl⟩
  obtain ⟨p3, hp3⟩ : ∃ p, xs (nI i + nI 3).toNatClampNeg = p := ⟨_, rfl⟩
  obtain ⟨r, m1, m2, hg1, hg2, hI2⟩ := hPU m p1 p2 p3 hI
  refine R_aload_n (pc := 730) hC 2 dL_law_730 rfl rfl ?_
  refine R_aload_n (pc := 731) hC 3 dL_law_731 rfl rfl ?_
  refine R_iload_n (pc := 732) hC 0 dL_law_732 rfl rfl ?_
  refine R_iconst (pc := 733) hC dL_law_733 (v := nI 1) (by decide) ?_
  refine R_iadd (pc := 734) hC dL_law_734 ?_
  refine R_sld (pc := 735) hC hs (lw_i hb (by omega)) hp1 dL_law_735 ?_
  refine R_aload_n (pc := 736) hC 3 dL_law_736 rfl rfl ?_
  refine R_iload_n (pc := 737) hC 0 dL_law_737 rfl rfl ?_
  refine R_iconst (pc := 738) hC dL_law_738 (v := nI 2) (by decide) ?_
  refine R_iadd (pc := 739) hC dL_law_739 ?_
  refine R_sld (pc := 740) hC hs (lw_i hb (by omega)) hp2 dL_law_740 ?_
  refine R_aload_n (pc := 741) hC 3 dL_law_741 rfl rfl ?_
  refine R_iload_n (pc := 742) hC 0 dL_law_742 rfl rfl ?_
  refine R_iconst (pc := 743) hC dL_law_743 (v := nI 3) (by decide) ?_
  refine R_iadd (pc := 744) hC dL_law_744 ?_
  refine R_sld (pc := 745) hC hs (lw_i hb (by omega)) hp3 dL_law_745 ?_
  refine R_callV (pc := 746) (av := [.int p1, .int p2, .int p3]) (rest := []) hC hR 0 (jx hn rfl) ly0 rfl mf_X8_hard wm_L_107 (LX8_hard hn hg1) rfl rfl rfl (Nat.le_of_ble_eq_true rfl) dL_law_746 rfl ?_
  show RX K 749 [(3, .int (nI i)), (2, .ref 43), (1, .ref 0), (0, .ref 64)] [.long r] m1
  refine R_aload_n (pc := 749) hC 1 dL_law_749 rfl rfl ?_
  refine R_aload_n (pc := 750) hC 3 dL_law_750 rfl rfl ?_
  refine R_iload_n (pc := 751) hC 0 dL_law_751 rfl rfl ?_
  refine R_iconst (pc := 752) hC dL_law_752 (v := nI 1) (by decide) ?_
  refine R_iadd (pc := 753) hC dL_law_753 ?_
  refine R_sld (pc := 754) hC hs (lw_i hb (by omega)) hp1 dL_law_754 ?_
  refine R_aload_n (pc := 755) hC 3 dL_law_755 rfl rfl ?_
  refine R_iload_n (pc := 756) hC 0 dL_law_756 rfl rfl ?_
  refine R_iconst (pc := 757) hC dL_law_757 (v := nI 2) (by decide) ?_
  refine R_iadd (pc := 758) hC dL_law_758 ?_
  refine R_sld (pc := 759) hC hs (lw_i hb (by omega)) hp2 dL_law_759 ?_
  refine R_aload_n (pc := 760) hC 3 dL_law_760 rfl rfl ?_
  refine R_iload_n (pc := 761) hC 0 dL_law_761 rfl rfl ?_
  refine R_iconst (pc := 762) hC dL_law_762 (v := nI 3) (by decide) ?_
  refine R_iadd (pc := 763) hC dL_law_763 ?_
  refine R_sld (pc := 764) hC hs (lw_i hb (by omega)) hp3 dL_law_764 ?_
  refine R_callV (pc := 765) (av := [.int p1, .int p2, .int p3]) (rest := [.long r]) hC hR 43 (jx hn64 rfl) ly43 rfl mf_X9_hard wm_L_110 (LX9_hard hn64 hg2) rfl rfl rfl (Nat.le_of_ble_eq_true rfl) dL_law_765 rfl ?_
  show RX K 768 [(3, .int (nI i)), (2, .ref 43), (1, .ref 0), (0, .ref 64)] [.long r, .long r] m2
  refine R_lcmp (pc := 768) hC dL_law_768 ?_
  exact R_if_eq (tgt := 1046) (pc := 769) hC dL_law_769 (by decide) (fun _ => kk _ hI2) (fun c => absurd (lg_same _) c)
set_option maxHeartbeats 4000000 in
set_option maxRecDepth 20000 in
theorem road_more {K : KX} {G : Option Value → Mem → Prop} {F L : Nat} {xs : Nat → Int32} {Inv : Mem → Prop} (hC : Cx K code RL G) (hn : 43 ≤ kn K) (hn64 : 64 ≤ kn K) (hL : kL K = 4) (hR : kR K = room_1) (hs : Scr K L xs) (hb : L ≤ 320) (hPU : PU_more F Inv) {i : Nat} (hi : i + 5 ≤ L) {m : Mem} (hI : Inv m) (kk : ∀ m : Mem, Inv m → RX K 1046 [(3, .int (nI i)), (2, .ref 43), (1, .ref 0), (0, .ref 64)] [] m) : RX K 774 [(3, .int (nI i)), (2, .ref 43), (1, .ref 0), (0, .ref 64)] [] m := by
  obtain ⟨p1, hp1⟩ : ∃ p, xs (nI i + nI 1).toNatClampNeg = p := ⟨_, rfl⟩
  obtain ⟨p2, hp2⟩ : ∃ p, xs (nI i + nI 2).toNatClampNeg = p := ⟨_, rfl⟩
  obtain ⟨p3, hp3⟩ : ∃ p, xs (nI i + nI 3).toNatClampNeg = p := ⟨_, rfl⟩
  obtain ⟨r, m1, m2, hg1, hg2, hI2⟩ := hPU m p1 p2 p3 hI
  refine R_aload_n (pc := 774) hC 2 dL_law_774 rfl rfl ?_
  refine R_aload_n (pc := 775) hC 3 dL_law_775 rfl rfl ?_
  refine R_iload_n (pc := 776) hC 0 dL_law_776 rfl rfl ?_
  refine R_iconst (pc := 777) hC dL_law_777 (v := nI 1) (by decide) ?_
  refine R_iadd (pc := 778) hC dL_law_778 ?_
  refine R_sld (pc := 779) hC hs (lw_i hb (by omega)) hp1 dL_law_779 ?_
  refine R_aload_n (pc := 780) hC 3 dL_law_780 rfl rfl ?_
  refine R_iload_n (pc := 781) hC 0 dL_law_781 rfl rfl ?_
  refine R_iconst (pc := 782) hC dL_law_782 (v := nI 2) (by decide) ?_
  refine R_iadd (pc := 783) hC dL_law_783 ?_
  refine R_sld (pc := 784) hC hs (lw_i hb (by omega)) hp2 dL_law_784 ?_
  refine R_aload_n (pc := 785) hC 3 dL_law_785 rfl rfl ?_
  refine R_iload_n (pc := 786) hC 0 dL_law_786 rfl rfl ?_
  refine R_iconst (pc := 787) hC dL_law_787 (v := nI 3) (by decide) ?_
  refine R_iadd (pc := 788) hC dL_law_788 ?_
  refine R_sld (pc := 789) hC hs (lw_i hb (by omega)) hp3 dL_law_789 ?_
  refine R_callV (pc := 790) (av := [.int p1, .int p2, .int p3]) (rest := []) hC hR 0 (jx hn rfl) ly0 rfl mf_X8_more wm_L_111 (LX8_more hn hg1) rfl rfl rfl (Nat.le_of_ble_eq_true rfl) dL_law_790 rfl ?_
  show RX K 793 [(3, .int (nI i)), (2, .ref 43), (1, .ref 0), (0, .ref 64)] [.long r] m1
  refine R_aload_n (pc := 793) hC 1 dL_law_793 rfl rfl ?_
  refine R_aload_n (pc := 794) hC 3 dL_law_794 rfl rfl ?_
  refine R_iload_n (pc := 795) hC 0 dL_law_795 rfl rfl ?_
  refine R_iconst (pc := 796) hC dL_law_796 (v := nI 1) (by decide) ?_
  refine R_iadd (pc := 797) hC dL_law_797 ?_
  refine R_sld (pc := 798) hC hs (lw_i hb (by omega)) hp1 dL_law_798 ?_
  refine R_aload_n (pc := 799) hC 3 dL_law_799 rfl rfl ?_
  refine R_iload_n (pc := 800) hC 0 dL_law_800 rfl rfl ?_
  refine R_iconst (pc := 801) hC dL_law_801 (v := nI 2) (by decide) ?_
  refine R_iadd (pc := 802) hC dL_law_802 ?_
  refine R_sld (pc := 803) hC hs (lw_i hb (by omega)) hp2 dL_law_803 ?_
  refine R_aload_n (pc := 804) hC 3 dL_law_804 rfl rfl ?_
  refine R_iload_n (pc := 805) hC 0 dL_law_805 rfl rfl ?_
  refine R_iconst (pc := 806) hC dL_law_806 (v := nI 3) (by decide) ?_
  refine R_iadd (pc := 807) hC dL_law_807 ?_
  refine R_sld (pc := 808) hC hs (lw_i hb (by omega)) hp3 dL_law_808 ?_
  refine R_callV (pc := 809) (av := [.int p1, .int p2, .int p3]) (rest := [.long r]) hC hR 43 (jx hn64 rfl) ly43 rfl mf_X9_more wm_L_114 (LX9_more hn64 hg2) rfl rfl rfl (Nat.le_of_ble_eq_true rfl) dL_law_809 rfl ?_
  show RX K 812 [(3, .int (nI i)), (2, .ref 43), (1, .ref 0), (0, .ref 64)] [.long r, .long r] m2
  refine R_lcmp (pc := 812) hC dL_law_812 ?_
  exact R_if_eq (tgt := 1046) (pc := 813) hC dL_law_813 (by decide) (fun _ => kk _ hI2) (fun c => absurd (lg_same _) c)
set_option maxHeartbeats 4000000 in
set_option maxRecDepth 20000 in
theorem road_holds {K : KX} {G : Option Value → Mem → Prop} {F L : Nat} {xs : Nat → Int32} {Inv : Mem → Prop} (hC : Cx K code RL G) (hn : 43 ≤ kn K) (hn64 : 64 ≤ kn K) (hL : kL K = 4) (hR : kR K = room_1) (hs : Scr K L xs) (hb : L ≤ 320) (hPU : PU_holds F Inv) {i : Nat} (hi : i + 5 ≤ L) {m : Mem} (hI : Inv m) (kk : ∀ m : Mem, Inv m → RX K 1046 [(3, .int (nI i)), (2, .ref 43), (1, .ref 0), (0, .ref 64)] [] m) : RX K 818 [(3, .int (nI i)), (2, .ref 43), (1, .ref 0), (0, .ref 64)] [] m := by
  obtain ⟨p1, hp1⟩ : ∃ p, xs (nI i + nI 1).toNatClampNeg = p := ⟨_, rfl⟩
  obtain ⟨r, m1, m2, hg1, hg2, hI2⟩ := hPU m p1 hI
  refine R_aload_n (pc := 818) hC 2 dL_law_818 rfl rfl ?_
  refine R_aload_n (pc := 819) hC 3 dL_law_819 rfl rfl ?_
  refine R_iload_n (pc := 820) hC 0 dL_law_820 rfl rfl ?_
  refine R_iconst (pc := 821) hC dL_law_821 (v := nI 1) (by decide) ?_
  refine R_iadd (pc := 822) hC dL_law_822 ?_
  refine R_sld (pc := 823) hC hs (lw_i hb (by omega)) hp1 dL_law_823 ?_
  refine R_callV (pc := 824) (av := [.int p1]) (rest := []) hC hR 0 (jx hn rfl) ly0 rfl mf_X8_holds wm_L_115 (LX8_holds hn hg1) rfl rfl rfl (Nat.le_of_ble_eq_true rfl) dL_law_824 rfl ?_
  show RX K 827 [(3, .int (nI i)), (2, .ref 43), (1, .ref 0), (0, .ref 64)] [.long r] m1
  refine R_aload_n (pc := 827) hC 1 dL_law_827 rfl rfl ?_
  refine R_aload_n (pc := 828) hC 3 dL_law_828 rfl rfl ?_
  refine R_iload_n (pc := 829) hC 0 dL_law_829 rfl rfl ?_
  refine R_iconst (pc := 830) hC dL_law_830 (v := nI 1) (by decide) ?_
  refine R_iadd (pc := 831) hC dL_law_831 ?_
  refine R_sld (pc := 832) hC hs (lw_i hb (by omega)) hp1 dL_law_832 ?_
  refine R_callV (pc := 833) (av := [.int p1]) (rest := [.long r]) hC hR 43 (jx hn64 rfl) ly43 rfl mf_X9_holds wm_L_119 (LX9_holds hn64 hg2) rfl rfl rfl (Nat.le_of_ble_eq_true rfl) dL_law_833 rfl ?_
  show RX K 836 [(3, .int (nI i)), (2, .ref 43), (1, .ref 0), (0, .ref 64)] [.long r, .long r] m2
  refine R_lcmp (pc := 836) hC dL_law_836 ?_
  exact R_if_eq (tgt := 1046) (pc := 837) hC dL_law_837 (by decide) (fun _ => kk _ hI2) (fun c => absurd (lg_same _) c)
set_option maxHeartbeats 4000000 in
set_option maxRecDepth 20000 in
theorem road_plan {K : KX} {G : Option Value → Mem → Prop} {F L : Nat} {xs : Nat → Int32} {Inv : Mem → Prop} (hC : Cx K code RL G) (hn : 43 ≤ kn K) (hn64 : 64 ≤ kn K) (hL : kL K = 4) (hR : kR K = room_1) (hs : Scr K L xs) (hb : L ≤ 320) (hPU : PU_plan F Inv) {i : Nat} (hi : i + 5 ≤ L) {m : Mem} (hI : Inv m) (kk : ∀ m : Mem, Inv m → RX K 1046 [(3, .int (nI i)), (2, .ref 43), (1, .ref 0), (0, .ref 64)] [] m) : RX K 842 [(3, .int (nI i)), (2, .ref 43), (1, .ref 0), (0, .ref 64)] [] m := by
  obtain ⟨p1, hp1⟩ : ∃ p, xs (nI i + nI 1).toNatClampNeg = p := ⟨_, rfl⟩
  obtain ⟨p2, hp2⟩ : ∃ p, xs (nI i + nI 2).toNatClampNeg = p := ⟨_, rfl⟩
  obtain ⟨r, m1, m2, hg1, hg2, hI2⟩ := hPU m p1 p2 hI
  refine R_aload_n (pc := 842) hC 2 dL_law_842 rfl rfl ?_
  refine R_aload_n (pc := 843) hC 3 dL_law_843 rfl rfl ?_
  refine R_iload_n (pc := 844) hC 0 dL_law_844 rfl rfl ?_
  refine R_iconst (pc := 845) hC dL_law_845 (v := nI 1) (by decide) ?_
  refine R_iadd (pc := 846) hC dL_law_846 ?_
  refine R_sld (pc := 847) hC hs (lw_i hb (by omega)) hp1 dL_law_847 ?_
  refine R_aload_n (pc := 848) hC 3 dL_law_848 rfl rfl ?_
  refine R_iload_n (pc := 849) hC 0 dL_law_849 rfl rfl ?_
  refine R_iconst (pc := 850) hC dL_law_850 (v := nI 2) (by decide) ?_
  refine R_iadd (pc := 851) hC dL_law_851 ?_
  refine R_sld (pc := 852) hC hs (lw_i hb (by omega)) hp2 dL_law_852 ?_
  refine R_callV (pc := 853) (av := [.int p1, .int p2]) (rest := []) hC hR 0 (jx hn rfl) ly0 rfl mf_X8_plan wm_L_120 (LX8_plan hn hg1) rfl rfl rfl (Nat.le_of_ble_eq_true rfl) dL_law_853 rfl ?_
  show RX K 856 [(3, .int (nI i)), (2, .ref 43), (1, .ref 0), (0, .ref 64)] [.int r] m1
  refine R_aload_n (pc := 856) hC 1 dL_law_856 rfl rfl ?_
  refine R_aload_n (pc := 857) hC 3 dL_law_857 rfl rfl ?_
  refine R_iload_n (pc := 858) hC 0 dL_law_858 rfl rfl ?_
  refine R_iconst (pc := 859) hC dL_law_859 (v := nI 1) (by decide) ?_
  refine R_iadd (pc := 860) hC dL_law_860 ?_
  refine R_sld (pc := 861) hC hs (lw_i hb (by omega)) hp1 dL_law_861 ?_
  refine R_aload_n (pc := 862) hC 3 dL_law_862 rfl rfl ?_
  refine R_iload_n (pc := 863) hC 0 dL_law_863 rfl rfl ?_
  refine R_iconst (pc := 864) hC dL_law_864 (v := nI 2) (by decide) ?_
  refine R_iadd (pc := 865) hC dL_law_865 ?_
  refine R_sld (pc := 866) hC hs (lw_i hb (by omega)) hp2 dL_law_866 ?_
  refine R_callV (pc := 867) (av := [.int p1, .int p2]) (rest := [.int r]) hC hR 43 (jx hn64 rfl) ly43 rfl mf_X9_plan wm_L_123 (LX9_plan hn64 hg2) rfl rfl rfl (Nat.le_of_ble_eq_true rfl) dL_law_867 rfl ?_
  show RX K 870 [(3, .int (nI i)), (2, .ref 43), (1, .ref 0), (0, .ref 64)] [.int r, .int r] m2
  exact R_icmp_eq (tgt := 1046) (pc := 870) hC dL_law_870 (by decide) (fun _ => kk _ hI2) (fun c => absurd rfl c)
set_option maxHeartbeats 4000000 in
set_option maxRecDepth 20000 in
theorem road_draw {K : KX} {G : Option Value → Mem → Prop} {F L : Nat} {xs : Nat → Int32} {Inv : Mem → Prop} (hC : Cx K code RL G) (hn : 43 ≤ kn K) (hn64 : 64 ≤ kn K) (hL : kL K = 4) (hR : kR K = room_1) (hs : Scr K L xs) (hb : L ≤ 320) (hPU : PU_draw F Inv) {i : Nat} (hi : i + 5 ≤ L) {m : Mem} (hI : Inv m) (kk : ∀ m : Mem, Inv m → RX K 1046 [(3, .int (nI i)), (2, .ref 43), (1, .ref 0), (0, .ref 64)] [] m) : RX K 875 [(3, .int (nI i)), (2, .ref 43), (1, .ref 0), (0, .ref 64)] [] m := by
  obtain ⟨p1, hp1⟩ : ∃ p, xs (nI i + nI 1).toNatClampNeg = p := ⟨_, rfl⟩
  obtain ⟨p2, hp2⟩ : ∃ p, xs (nI i + nI 2).toNatClampNeg = p := ⟨_, rfl⟩
  obtain ⟨r, m1, m2, hg1, hg2, hI2⟩ := hPU m p1 p2 hI
  refine R_aload_n (pc := 875) hC 2 dL_law_875 rfl rfl ?_
  refine R_aload_n (pc := 876) hC 3 dL_law_876 rfl rfl ?_
  refine R_iload_n (pc := 877) hC 0 dL_law_877 rfl rfl ?_
  refine R_iconst (pc := 878) hC dL_law_878 (v := nI 1) (by decide) ?_
  refine R_iadd (pc := 879) hC dL_law_879 ?_
  refine R_sld (pc := 880) hC hs (lw_i hb (by omega)) hp1 dL_law_880 ?_
  refine R_aload_n (pc := 881) hC 3 dL_law_881 rfl rfl ?_
  refine R_iload_n (pc := 882) hC 0 dL_law_882 rfl rfl ?_
  refine R_iconst (pc := 883) hC dL_law_883 (v := nI 2) (by decide) ?_
  refine R_iadd (pc := 884) hC dL_law_884 ?_
  refine R_sld (pc := 885) hC hs (lw_i hb (by omega)) hp2 dL_law_885 ?_
  refine R_callV (pc := 886) (av := [.int p1, .int p2]) (rest := []) hC hR 0 (jx hn rfl) ly0 rfl mf_X8_draw wm_L_124 (LX8_draw hn hg1) rfl rfl rfl (Nat.le_of_ble_eq_true rfl) dL_law_886 rfl ?_
  show RX K 889 [(3, .int (nI i)), (2, .ref 43), (1, .ref 0), (0, .ref 64)] [.int r] m1
  refine R_aload_n (pc := 889) hC 1 dL_law_889 rfl rfl ?_
  refine R_aload_n (pc := 890) hC 3 dL_law_890 rfl rfl ?_
  refine R_iload_n (pc := 891) hC 0 dL_law_891 rfl rfl ?_
  refine R_iconst (pc := 892) hC dL_law_892 (v := nI 1) (by decide) ?_
  refine R_iadd (pc := 893) hC dL_law_893 ?_
  refine R_sld (pc := 894) hC hs (lw_i hb (by omega)) hp1 dL_law_894 ?_
  refine R_aload_n (pc := 895) hC 3 dL_law_895 rfl rfl ?_
  refine R_iload_n (pc := 896) hC 0 dL_law_896 rfl rfl ?_
  refine R_iconst (pc := 897) hC dL_law_897 (v := nI 2) (by decide) ?_
  refine R_iadd (pc := 898) hC dL_law_898 ?_
  refine R_sld (pc := 899) hC hs (lw_i hb (by omega)) hp2 dL_law_899 ?_
  refine R_callV (pc := 900) (av := [.int p1, .int p2]) (rest := [.int r]) hC hR 43 (jx hn64 rfl) ly43 rfl mf_X9_draw wm_L_127 (LX9_draw hn64 hg2) rfl rfl rfl (Nat.le_of_ble_eq_true rfl) dL_law_900 rfl ?_
  show RX K 903 [(3, .int (nI i)), (2, .ref 43), (1, .ref 0), (0, .ref 64)] [.int r, .int r] m2
  exact R_icmp_eq (tgt := 1046) (pc := 903) hC dL_law_903 (by decide) (fun _ => kk _ hI2) (fun c => absurd rfl c)
set_option maxHeartbeats 4000000 in
set_option maxRecDepth 20000 in
theorem road_often {K : KX} {G : Option Value → Mem → Prop} {F L : Nat} {xs : Nat → Int32} {Inv : Mem → Prop} (hC : Cx K code RL G) (hn : 43 ≤ kn K) (hn64 : 64 ≤ kn K) (hL : kL K = 4) (hR : kR K = room_1) (hs : Scr K L xs) (hb : L ≤ 320) (hPU : PU_often F Inv) {i : Nat} (hi : i + 5 ≤ L) {m : Mem} (hI : Inv m) (kk : ∀ m : Mem, Inv m → RX K 1046 [(3, .int (nI i)), (2, .ref 43), (1, .ref 0), (0, .ref 64)] [] m) : RX K 908 [(3, .int (nI i)), (2, .ref 43), (1, .ref 0), (0, .ref 64)] [] m := by
  obtain ⟨p1, hp1⟩ : ∃ p, xs (nI i + nI 1).toNatClampNeg = p := ⟨_, rfl⟩
  obtain ⟨p2, hp2⟩ : ∃ p, xs (nI i + nI 2).toNatClampNeg = p := ⟨_, rfl⟩
  obtain ⟨p3, hp3⟩ : ∃ p, xs (nI i + nI 3).toNatClampNeg = p := ⟨_, rfl⟩
  obtain ⟨p4, hp4⟩ : ∃ p, xs (nI i + nI 4).toNatClampNeg = p := ⟨_, rfl⟩
  obtain ⟨r, m1, m2, hg1, hg2, hI2⟩ := hPU m p1 p2 p3 p4 hI
  refine R_aload_n (pc := 908) hC 2 dL_law_908 rfl rfl ?_
  refine R_aload_n (pc := 909) hC 3 dL_law_909 rfl rfl ?_
  refine R_iload_n (pc := 910) hC 0 dL_law_910 rfl rfl ?_
  refine R_iconst (pc := 911) hC dL_law_911 (v := nI 1) (by decide) ?_
  refine R_iadd (pc := 912) hC dL_law_912 ?_
  refine R_sld (pc := 913) hC hs (lw_i hb (by omega)) hp1 dL_law_913 ?_
  refine R_aload_n (pc := 914) hC 3 dL_law_914 rfl rfl ?_
  refine R_iload_n (pc := 915) hC 0 dL_law_915 rfl rfl ?_
  refine R_iconst (pc := 916) hC dL_law_916 (v := nI 2) (by decide) ?_
  refine R_iadd (pc := 917) hC dL_law_917 ?_
  refine R_sld (pc := 918) hC hs (lw_i hb (by omega)) hp2 dL_law_918 ?_
  refine R_aload_n (pc := 919) hC 3 dL_law_919 rfl rfl ?_
  refine R_iload_n (pc := 920) hC 0 dL_law_920 rfl rfl ?_
  refine R_iconst (pc := 921) hC dL_law_921 (v := nI 3) (by decide) ?_
  refine R_iadd (pc := 922) hC dL_law_922 ?_
  refine R_sld (pc := 923) hC hs (lw_i hb (by omega)) hp3 dL_law_923 ?_
  refine R_aload_n (pc := 924) hC 3 dL_law_924 rfl rfl ?_
  refine R_iload_n (pc := 925) hC 0 dL_law_925 rfl rfl ?_
  refine R_iconst (pc := 926) hC dL_law_926 (v := nI 4) (by decide) ?_
  refine R_iadd (pc := 927) hC dL_law_927 ?_
  refine R_sld (pc := 928) hC hs (lw_i hb (by omega)) hp4 dL_law_928 ?_
  refine R_callV (pc := 929) (av := [.int p1, .int p2, .int p3, .int p4]) (rest := []) hC hR 0 (jx hn rfl) ly0 rfl mf_X8_often wm_L_128 (LX8_often hn hg1) rfl rfl rfl (Nat.le_of_ble_eq_true rfl) dL_law_929 rfl ?_
  show RX K 932 [(3, .int (nI i)), (2, .ref 43), (1, .ref 0), (0, .ref 64)] [.int r] m1
  refine R_aload_n (pc := 932) hC 1 dL_law_932 rfl rfl ?_
  refine R_aload_n (pc := 933) hC 3 dL_law_933 rfl rfl ?_
  refine R_iload_n (pc := 934) hC 0 dL_law_934 rfl rfl ?_
  refine R_iconst (pc := 935) hC dL_law_935 (v := nI 1) (by decide) ?_
  refine R_iadd (pc := 936) hC dL_law_936 ?_
  refine R_sld (pc := 937) hC hs (lw_i hb (by omega)) hp1 dL_law_937 ?_
  refine R_aload_n (pc := 938) hC 3 dL_law_938 rfl rfl ?_
  refine R_iload_n (pc := 939) hC 0 dL_law_939 rfl rfl ?_
  refine R_iconst (pc := 940) hC dL_law_940 (v := nI 2) (by decide) ?_
  refine R_iadd (pc := 941) hC dL_law_941 ?_
  refine R_sld (pc := 942) hC hs (lw_i hb (by omega)) hp2 dL_law_942 ?_
  refine R_aload_n (pc := 943) hC 3 dL_law_943 rfl rfl ?_
  refine R_iload_n (pc := 944) hC 0 dL_law_944 rfl rfl ?_
  refine R_iconst (pc := 945) hC dL_law_945 (v := nI 3) (by decide) ?_
  refine R_iadd (pc := 946) hC dL_law_946 ?_
  refine R_sld (pc := 947) hC hs (lw_i hb (by omega)) hp3 dL_law_947 ?_
  refine R_aload_n (pc := 948) hC 3 dL_law_948 rfl rfl ?_
  refine R_iload_n (pc := 949) hC 0 dL_law_949 rfl rfl ?_
  refine R_iconst (pc := 950) hC dL_law_950 (v := nI 4) (by decide) ?_
  refine R_iadd (pc := 951) hC dL_law_951 ?_
  refine R_sld (pc := 952) hC hs (lw_i hb (by omega)) hp4 dL_law_952 ?_
  refine R_callV (pc := 953) (av := [.int p1, .int p2, .int p3, .int p4]) (rest := [.int r]) hC hR 43 (jx hn64 rfl) ly43 rfl mf_X9_often wm_L_132 (LX9_often hn64 hg2) rfl rfl rfl (Nat.le_of_ble_eq_true rfl) dL_law_953 rfl ?_
  show RX K 956 [(3, .int (nI i)), (2, .ref 43), (1, .ref 0), (0, .ref 64)] [.int r, .int r] m2
  exact R_icmp_eq (tgt := 1046) (pc := 956) hC dL_law_956 (by decide) (fun _ => kk _ hI2) (fun c => absurd rfl c)
set_option maxHeartbeats 4000000 in
set_option maxRecDepth 20000 in
theorem road_row {K : KX} {G : Option Value → Mem → Prop} {F L : Nat} {xs : Nat → Int32} {Inv : Mem → Prop} (hC : Cx K code RL G) (hn : 43 ≤ kn K) (hn64 : 64 ≤ kn K) (hL : kL K = 4) (hR : kR K = room_1) (hs : Scr K L xs) (hb : L ≤ 320) (hPU : PU_row F Inv) {i : Nat} (hi : i + 5 ≤ L) {m : Mem} (hI : Inv m) (kk : ∀ m : Mem, Inv m → RX K 1046 [(3, .int (nI i)), (2, .ref 43), (1, .ref 0), (0, .ref 64)] [] m) : RX K 961 [(3, .int (nI i)), (2, .ref 43), (1, .ref 0), (0, .ref 64)] [] m := by
  obtain ⟨p1, hp1⟩ : ∃ p, xs (nI i + nI 1).toNatClampNeg = p := ⟨_, rfl⟩
  obtain ⟨r, m1, m2, hg1, hg2, hI2⟩ := hPU m p1 hI
  refine R_aload_n (pc := 961) hC 2 dL_law_961 rfl rfl ?_
  refine R_aload_n (pc := 962) hC 3 dL_law_962 rfl rfl ?_
  refine R_iload_n (pc := 963) hC 0 dL_law_963 rfl rfl ?_
  refine R_iconst (pc := 964) hC dL_law_964 (v := nI 1) (by decide) ?_
  refine R_iadd (pc := 965) hC dL_law_965 ?_
  refine R_sld (pc := 966) hC hs (lw_i hb (by omega)) hp1 dL_law_966 ?_
  refine R_callV (pc := 967) (av := [.int p1]) (rest := []) hC hR 0 (jx hn rfl) ly0 rfl mf_X8_row wm_L_133 (LX8_row hn hg1) rfl rfl rfl (Nat.le_of_ble_eq_true rfl) dL_law_967 rfl ?_
  show RX K 970 [(3, .int (nI i)), (2, .ref 43), (1, .ref 0), (0, .ref 64)] [.int r] m1
  refine R_aload_n (pc := 970) hC 1 dL_law_970 rfl rfl ?_
  refine R_aload_n (pc := 971) hC 3 dL_law_971 rfl rfl ?_
  refine R_iload_n (pc := 972) hC 0 dL_law_972 rfl rfl ?_
  refine R_iconst (pc := 973) hC dL_law_973 (v := nI 1) (by decide) ?_
  refine R_iadd (pc := 974) hC dL_law_974 ?_
  refine R_sld (pc := 975) hC hs (lw_i hb (by omega)) hp1 dL_law_975 ?_
  refine R_callV (pc := 976) (av := [.int p1]) (rest := [.int r]) hC hR 43 (jx hn64 rfl) ly43 rfl mf_X9_row wm_L_136 (LX9_row hn64 hg2) rfl rfl rfl (Nat.le_of_ble_eq_true rfl) dL_law_976 rfl ?_
  show RX K 979 [(3, .int (nI i)), (2, .ref 43), (1, .ref 0), (0, .ref 64)] [.int r, .int r] m2
  exact R_icmp_eq (tgt := 1046) (pc := 979) hC dL_law_979 (by decide) (fun _ => kk _ hI2) (fun c => absurd rfl c)
set_option maxHeartbeats 4000000 in
set_option maxRecDepth 20000 in
theorem road_judge {K : KX} {G : Option Value → Mem → Prop} {F L : Nat} {xs : Nat → Int32} {Inv : Mem → Prop} (hC : Cx K code RL G) (hn : 43 ≤ kn K) (hn64 : 64 ≤ kn K) (hL : kL K = 4) (hR : kR K = room_1) (hs : Scr K L xs) (hb : L ≤ 320) (hPU : PU_judge F Inv) {i : Nat} (hi : i + 5 ≤ L) {m : Mem} (hI : Inv m) (kk : ∀ m : Mem, Inv m → RX K 1046 [(3, .int (nI i)), (2, .ref 43), (1, .ref 0), (0, .ref 64)] [] m) : RX K 984 [(3, .int (nI i)), (2, .ref 43), (1, .ref 0), (0, .ref 64)] [] m := by
  obtain ⟨r, m1, m2, hg1, hg2, hI2⟩ := hPU m hI
  refine R_aload_n (pc := 984) hC 2 dL_law_984 rfl rfl ?_
  refine R_callV (pc := 985) (av := []) (rest := []) hC hR 0 (jx hn rfl) ly0 rfl mf_X8_judge wm_L_137 (LX8_judge hn hg1) rfl rfl rfl (Nat.le_of_ble_eq_true rfl) dL_law_985 rfl ?_
  show RX K 988 [(3, .int (nI i)), (2, .ref 43), (1, .ref 0), (0, .ref 64)] [.int r] m1
  refine R_aload_n (pc := 988) hC 1 dL_law_988 rfl rfl ?_
  refine R_callV (pc := 989) (av := []) (rest := [.int r]) hC hR 43 (jx hn64 rfl) ly43 rfl mf_X9_judge wm_L_140 (LX9_judge hn64 hg2) rfl rfl rfl (Nat.le_of_ble_eq_true rfl) dL_law_989 rfl ?_
  show RX K 992 [(3, .int (nI i)), (2, .ref 43), (1, .ref 0), (0, .ref 64)] [.int r, .int r] m2
  exact R_icmp_eq (tgt := 1046) (pc := 992) hC dL_law_992 (by decide) (fun _ => kk _ hI2) (fun c => absurd rfl c)
set_option maxHeartbeats 4000000 in
set_option maxRecDepth 20000 in
theorem road_image {K : KX} {G : Option Value → Mem → Prop} {F L : Nat} {xs : Nat → Int32} {Inv : Mem → Prop} (hC : Cx K code RL G) (hn : 43 ≤ kn K) (hn64 : 64 ≤ kn K) (hL : kL K = 4) (hR : kR K = room_1) (hs : Scr K L xs) (hb : L ≤ 320) (hPU : PU_image F Inv) {i : Nat} (hi : i + 5 ≤ L) {m : Mem} (hI : Inv m) (kk : ∀ m : Mem, Inv m → RX K 1046 [(3, .int (nI i)), (2, .ref 43), (1, .ref 0), (0, .ref 64)] [] m) : RX K 997 [(3, .int (nI i)), (2, .ref 43), (1, .ref 0), (0, .ref 64)] [] m := by
  obtain ⟨r, m1, m2, hg1, hg2, hI2⟩ := hPU m hI
  refine R_aload_n (pc := 997) hC 2 dL_law_997 rfl rfl ?_
  refine R_callV (pc := 998) (av := []) (rest := []) hC hR 0 (jx hn rfl) ly0 rfl mf_X8_image wm_L_141 (LX8_image hn hg1) rfl rfl rfl (Nat.le_of_ble_eq_true rfl) dL_law_998 rfl ?_
  show RX K 1001 [(3, .int (nI i)), (2, .ref 43), (1, .ref 0), (0, .ref 64)] [.int r] m1
  refine R_aload_n (pc := 1001) hC 1 dL_law_1001 rfl rfl ?_
  refine R_callV (pc := 1002) (av := []) (rest := [.int r]) hC hR 43 (jx hn64 rfl) ly43 rfl mf_X9_image wm_L_144 (LX9_image hn64 hg2) rfl rfl rfl (Nat.le_of_ble_eq_true rfl) dL_law_1002 rfl ?_
  show RX K 1005 [(3, .int (nI i)), (2, .ref 43), (1, .ref 0), (0, .ref 64)] [.int r, .int r] m2
  exact R_icmp_eq (tgt := 1046) (pc := 1005) hC dL_law_1005 (by decide) (fun _ => kk _ hI2) (fun c => absurd rfl c)
set_option maxHeartbeats 4000000 in
set_option maxRecDepth 20000 in
theorem road_restore {K : KX} {G : Option Value → Mem → Prop} {F L : Nat} {xs : Nat → Int32} {Inv : Mem → Prop} (hC : Cx K code RL G) (hn : 43 ≤ kn K) (hn64 : 64 ≤ kn K) (hL : kL K = 4) (hR : kR K = room_1) (hs : Scr K L xs) (hb : L ≤ 320) (hPU : PU_restore F Inv) {i : Nat} (hi : i + 5 ≤ L) {m : Mem} (hI : Inv m) (kk : ∀ m : Mem, Inv m → RX K 1046 [(3, .int (nI i)), (2, .ref 43), (1, .ref 0), (0, .ref 64)] [] m) : RX K 1010 [(3, .int (nI i)), (2, .ref 43), (1, .ref 0), (0, .ref 64)] [] m := by
  obtain ⟨r, m1, m2, hg1, hg2, hI2⟩ := hPU m hI
  refine R_aload_n (pc := 1010) hC 2 dL_law_1010 rfl rfl ?_
  refine R_callV (pc := 1011) (av := []) (rest := []) hC hR 0 (jx hn rfl) ly0 rfl mf_X8_restore wm_L_145 (LX8_restore hn hg1) rfl rfl rfl (Nat.le_of_ble_eq_true rfl) dL_law_1011 rfl ?_
  show RX K 1014 [(3, .int (nI i)), (2, .ref 43), (1, .ref 0), (0, .ref 64)] [.int r] m1
  refine R_aload_n (pc := 1014) hC 1 dL_law_1014 rfl rfl ?_
  refine R_callV (pc := 1015) (av := []) (rest := [.int r]) hC hR 43 (jx hn64 rfl) ly43 rfl mf_X9_restore wm_L_148 (LX9_restore hn64 hg2) rfl rfl rfl (Nat.le_of_ble_eq_true rfl) dL_law_1015 rfl ?_
  show RX K 1018 [(3, .int (nI i)), (2, .ref 43), (1, .ref 0), (0, .ref 64)] [.int r, .int r] m2
  exact R_icmp_eq (tgt := 1046) (pc := 1018) hC dL_law_1018 (by decide) (fun _ => kk _ hI2) (fun c => absurd rfl c)
set_option maxHeartbeats 4000000 in
set_option maxRecDepth 20000 in
theorem road_count {K : KX} {G : Option Value → Mem → Prop} {F L : Nat} {xs : Nat → Int32} {Inv : Mem → Prop} (hC : Cx K code RL G) (hn : 43 ≤ kn K) (hn64 : 64 ≤ kn K) (hL : kL K = 4) (hR : kR K = room_1) (hs : Scr K L xs) (hb : L ≤ 320) (hPU : PU_count F Inv) {i : Nat} (hi : i + 5 ≤ L) {m : Mem} (hI : Inv m) (kk : ∀ m : Mem, Inv m → RX K 1046 [(3, .int (nI i)), (2, .ref 43), (1, .ref 0), (0, .ref 64)] [] m) : RX K 1023 [(3, .int (nI i)), (2, .ref 43), (1, .ref 0), (0, .ref 64)] [] m := by
  obtain ⟨p1, hp1⟩ : ∃ p, xs (nI i + nI 1).toNatClampNeg = p := ⟨_, rfl⟩
  obtain ⟨r, hg1, hg2, hI2⟩ := hPU m p1 hI
  refine R_aload_n (pc := 1023) hC 2 dL_law_1023 rfl rfl ?_
  refine R_aload_n (pc := 1024) hC 3 dL_law_1024 rfl rfl ?_
  refine R_iload_n (pc := 1025) hC 0 dL_law_1025 rfl rfl ?_
  refine R_iconst (pc := 1026) hC dL_law_1026 (v := nI 1) (by decide) ?_
  refine R_iadd (pc := 1027) hC dL_law_1027 ?_
  refine R_sld (pc := 1028) hC hs (lw_i hb (by omega)) hp1 dL_law_1028 ?_
  refine R_callV (pc := 1029) (av := [.int p1]) (rest := []) hC hR 0 (jx hn rfl) ly0 rfl mf_X8_count wm_L_149 (LX8_count hn hg1) rfl rfl rfl (Nat.le_of_ble_eq_true rfl) dL_law_1029 rfl ?_
  show RX K 1032 [(3, .int (nI i)), (2, .ref 43), (1, .ref 0), (0, .ref 64)] [.int r] m
  refine R_aload_n (pc := 1032) hC 1 dL_law_1032 rfl rfl ?_
  refine R_aload_n (pc := 1033) hC 3 dL_law_1033 rfl rfl ?_
  refine R_iload_n (pc := 1034) hC 0 dL_law_1034 rfl rfl ?_
  refine R_iconst (pc := 1035) hC dL_law_1035 (v := nI 1) (by decide) ?_
  refine R_iadd (pc := 1036) hC dL_law_1036 ?_
  refine R_sld (pc := 1037) hC hs (lw_i hb (by omega)) hp1 dL_law_1037 ?_
  refine R_callV (pc := 1038) (av := [.int p1]) (rest := [.int r]) hC hR 43 (jx hn64 rfl) ly43 rfl mf_X9_count wm_L_152 (LX9_count hn64 hg2) rfl rfl rfl (Nat.le_of_ble_eq_true rfl) dL_law_1038 rfl ?_
  show RX K 1041 [(3, .int (nI i)), (2, .ref 43), (1, .ref 0), (0, .ref 64)] [.int r, .int r] m
  exact R_icmp_eq (tgt := 1046) (pc := 1041) hC dL_law_1041 (by decide) (fun _ => kk _ hI2) (fun c => absurd rfl c)
set_option maxHeartbeats 4000000 in
set_option maxRecDepth 20000 in
/-- the law's loop -/
theorem law_loop {K : KX} {G : Option Value → Mem → Prop} {F L : Nat} {xs : Nat → Int32} {Inv : Mem → Prop} (hC : Cx K code RL G) (hn : 43 ≤ kn K) (hn64 : 64 ≤ kn K) (hL : kL K = 4) (hR : kR K = room_1) (hs : Scr K L xs) (hb : L ≤ 320) (hG : ∀ m, G (some (.int 1)) m) (hPU : PU F Inv) : ∀ (k i : Nat), L + 5 ≤ i + 5 * k → i ≤ L + 5 → ∀ m : Mem, Inv m → RX K 18 [(3, .int (nI i)), (2, .ref 43), (1, .ref 0), (0, .ref 64)] [] m := by
  intro k
  induction k with
  | zero =>
    intro i h1 h2 m hI
    refine law_end hC hn hn64 hL hR hs hb hG (i := i) (by omega) m
  | succ k ih =>
    intro i h1 h2 m hI
    by_cases hi : i + 5 ≤ L
    · refine law_head hC hn hn64 hL hR hs hb hi m (fun x hx => ?_)
      have kk : ∀ m : Mem, Inv m → RX K 1046 [(3, .int (nI i)), (2, .ref 43), (1, .ref 0), (0, .ref 64)] [] m := fun m hI => law_next hC hn hn64 hL hR hs hb hi m (ih (i + 5) (by omega) (by omega) m hI)
      by_cases c0 : x = 0
      · refine R_top c0 ?_
        refine R_tableIn (pc := 32) (tgt := 180) (x := 0) hC dL_law_32 (by decide) (by decide) (by rfl) (by decide) ?_
        exact road_feed hC hn hn64 hL hR hs hb (hPU.1) hi hI kk
      by_cases c1 : x = 1
      · refine R_top c1 ?_
        refine R_tableIn (pc := 32) (tgt := 203) (x := 1) hC dL_law_32 (by decide) (by decide) (by rfl) (by decide) ?_
        exact road_village hC hn hn64 hL hR hs hb (hPU.2.1) hi hI kk
      by_cases c2 : x = 2
      · refine R_top c2 ?_
        refine R_tableIn (pc := 32) (tgt := 216) (x := 2) hC dL_law_32 (by decide) (by decide) (by rfl) (by decide) ?_
        exact road_lane hC hn hn64 hL hR hs hb (hPU.2.2.1) hi hI kk
      by_cases c3 : x = 3
      · refine R_top c3 ?_
        refine R_tableIn (pc := 32) (tgt := 249) (x := 3) hC dL_law_32 (by decide) (by decide) (by rfl) (by decide) ?_
        exact road_rule hC hn hn64 hL hR hs hb (hPU.2.2.2.1) hi hI kk
      by_cases c4 : x = 4
      · refine R_top c4 ?_
        refine R_tableIn (pc := 32) (tgt := 282) (x := 4) hC dL_law_32 (by decide) (by decide) (by rfl) (by decide) ?_
        exact road_takeUp hC hn hn64 hL hR hs hb (hPU.2.2.2.2.1) hi hI kk
      by_cases c5 : x = 5
      · refine R_top c5 ?_
        refine R_tableIn (pc := 32) (tgt := 295) (x := 5) hC dL_law_32 (by decide) (by decide) (by rfl) (by decide) ?_
        exact road_is hC hn hn64 hL hR hs hb (hPU.2.2.2.2.2.1) hi hI kk
      by_cases c6 : x = 6
      · refine R_top c6 ?_
        refine R_tableIn (pc := 32) (tgt := 318) (x := 6) hC dL_law_32 (by decide) (by decide) (by rfl) (by decide) ?_
        exact road_hangs hC hn hn64 hL hR hs hb (hPU.2.2.2.2.2.2.1) hi hI kk
      by_cases c7 : x = 7
      · refine R_top c7 ?_
        refine R_tableIn (pc := 32) (tgt := 341) (x := 7) hC dL_law_32 (by decide) (by decide) (by rfl) (by decide) ?_
        exact road_parts hC hn hn64 hL hR hs hb (hPU.2.2.2.2.2.2.2.1) hi hI kk
      by_cases c8 : x = 8
      · refine R_top c8 ?_
        refine R_tableIn (pc := 32) (tgt := 364) (x := 8) hC dL_law_32 (by decide) (by decide) (by rfl) (by decide) ?_
        exact road_many hC hn hn64 hL hR hs hb (hPU.2.2.2.2.2.2.2.2.1) hi hI kk
      by_cases c9 : x = 9
      · refine R_top c9 ?_
        refine R_tableIn (pc := 32) (tgt := 377) (x := 9) hC dL_law_32 (by decide) (by decide) (by rfl) (by decide) ?_
        exact road_sum hC hn hn64 hL hR hs hb (hPU.2.2.2.2.2.2.2.2.2.1) hi hI kk
      by_cases c10 : x = 10
      · refine R_top c10 ?_
        refine R_tableIn (pc := 32) (tgt := 391) (x := 10) hC dL_law_32 (by decide) (by decide) (by rfl) (by decide) ?_
        exact road_way hC hn hn64 hL hR hs hb (hPU.2.2.2.2.2.2.2.2.2.2.1) hi hI kk
      by_cases c11 : x = 11
      · refine R_top c11 ?_
        refine R_tableIn (pc := 32) (tgt := 414) (x := 11) hC dL_law_32 (by decide) (by decide) (by rfl) (by decide) ?_
        exact road_likely hC hn hn64 hL hR hs hb (hPU.2.2.2.2.2.2.2.2.2.2.2.1) hi hI kk
      by_cases c12 : x = 12
      · refine R_top c12 ?_
        refine R_tableIn (pc := 32) (tgt := 448) (x := 12) hC dL_law_32 (by decide) (by decide) (by rfl) (by decide) ?_
        exact road_pair hC hn hn64 hL hR hs hb (hPU.2.2.2.2.2.2.2.2.2.2.2.2.1) hi hI kk
      by_cases c13 : x = 13
      · refine R_top c13 ?_
        refine R_tableIn (pc := 32) (tgt := 492) (x := 13) hC dL_law_32 (by decide) (by decide) (by rfl) (by decide) ?_
        exact road_less hC hn hn64 hL hR hs hb (hPU.2.2.2.2.2.2.2.2.2.2.2.2.2.1) hi hI kk
      by_cases c14 : x = 14
      · refine R_top c14 ?_
        refine R_tableIn (pc := 32) (tgt := 525) (x := 14) hC dL_law_32 (by decide) (by decide) (by rfl) (by decide) ?_
        exact road_inAll hC hn hn64 hL hR hs hb (hPU.2.2.2.2.2.2.2.2.2.2.2.2.2.2.1) hi hI kk
      by_cases c15 : x = 15
      · refine R_top c15 ?_
        refine R_tableIn (pc := 32) (tgt := 538) (x := 15) hC dL_law_32 (by decide) (by decide) (by rfl) (by decide) ?_
        exact road_inNone hC hn hn64 hL hR hs hb (hPU.2.2.2.2.2.2.2.2.2.2.2.2.2.2.2.1) hi hI kk
      by_cases c16 : x = 16
      · refine R_top c16 ?_
        refine R_tableIn (pc := 32) (tgt := 551) (x := 16) hC dL_law_32 (by decide) (by decide) (by rfl) (by decide) ?_
        exact road_cheap hC hn hn64 hL hR hs hb (hPU.2.2.2.2.2.2.2.2.2.2.2.2.2.2.2.2.1) hi hI kk
      by_cases c17 : x = 17
      · refine R_top c17 ?_
        refine R_tableIn (pc := 32) (tgt := 584) (x := 17) hC dL_law_32 (by decide) (by decide) (by rfl) (by decide) ?_
        exact road_nights hC hn hn64 hL hR hs hb (hPU.2.2.2.2.2.2.2.2.2.2.2.2.2.2.2.2.2.1) hi hI kk
      by_cases c18 : x = 18
      · refine R_top c18 ?_
        refine R_tableIn (pc := 32) (tgt := 617) (x := 18) hC dL_law_32 (by decide) (by decide) (by rfl) (by decide) ?_
        exact road_step hC hn hn64 hL hR hs hb (hPU.2.2.2.2.2.2.2.2.2.2.2.2.2.2.2.2.2.2.1) hi hI kk
      by_cases c19 : x = 19
      · refine R_top c19 ?_
        refine R_tableIn (pc := 32) (tgt := 650) (x := 19) hC dL_law_32 (by decide) (by decide) (by rfl) (by decide) ?_
        exact road_toward hC hn hn64 hL hR hs hb (hPU.2.2.2.2.2.2.2.2.2.2.2.2.2.2.2.2.2.2.2.1) hi hI kk
      by_cases c20 : x = 20
      · refine R_top c20 ?_
        refine R_tableIn (pc := 32) (tgt := 684) (x := 20) hC dL_law_32 (by decide) (by decide) (by rfl) (by decide) ?_
        exact road_forests hC hn hn64 hL hR hs hb (hPU.2.2.2.2.2.2.2.2.2.2.2.2.2.2.2.2.2.2.2.2.1) hi hI kk
      by_cases c21 : x = 21
      · refine R_top c21 ?_
        refine R_tableIn (pc := 32) (tgt := 707) (x := 21) hC dL_law_32 (by decide) (by decide) (by rfl) (by decide) ?_
        exact road_ploughs hC hn hn64 hL hR hs hb (hPU.2.2.2.2.2.2.2.2.2.2.2.2.2.2.2.2.2.2.2.2.2.1) hi hI kk
      by_cases c22 : x = 22
      · refine R_top c22 ?_
        refine R_tableIn (pc := 32) (tgt := 730) (x := 22) hC dL_law_32 (by decide) (by decide) (by rfl) (by decide) ?_
        exact road_hard hC hn hn64 hL hR hs hb (hPU.2.2.2.2.2.2.2.2.2.2.2.2.2.2.2.2.2.2.2.2.2.2.1) hi hI kk
      by_cases c23 : x = 23
      · refine R_top c23 ?_
        refine R_tableIn (pc := 32) (tgt := 774) (x := 23) hC dL_law_32 (by decide) (by decide) (by rfl) (by decide) ?_
        exact road_more hC hn hn64 hL hR hs hb (hPU.2.2.2.2.2.2.2.2.2.2.2.2.2.2.2.2.2.2.2.2.2.2.2.1) hi hI kk
      by_cases c24 : x = 24
      · refine R_top c24 ?_
        refine R_tableIn (pc := 32) (tgt := 818) (x := 24) hC dL_law_32 (by decide) (by decide) (by rfl) (by decide) ?_
        exact road_holds hC hn hn64 hL hR hs hb (hPU.2.2.2.2.2.2.2.2.2.2.2.2.2.2.2.2.2.2.2.2.2.2.2.2.1) hi hI kk
      by_cases c25 : x = 25
      · refine R_top c25 ?_
        refine R_tableIn (pc := 32) (tgt := 842) (x := 25) hC dL_law_32 (by decide) (by decide) (by rfl) (by decide) ?_
        exact road_plan hC hn hn64 hL hR hs hb (hPU.2.2.2.2.2.2.2.2.2.2.2.2.2.2.2.2.2.2.2.2.2.2.2.2.2.1) hi hI kk
      by_cases c26 : x = 26
      · refine R_top c26 ?_
        refine R_tableIn (pc := 32) (tgt := 875) (x := 26) hC dL_law_32 (by decide) (by decide) (by rfl) (by decide) ?_
        exact road_draw hC hn hn64 hL hR hs hb (hPU.2.2.2.2.2.2.2.2.2.2.2.2.2.2.2.2.2.2.2.2.2.2.2.2.2.2.1) hi hI kk
      by_cases c27 : x = 27
      · refine R_top c27 ?_
        refine R_tableIn (pc := 32) (tgt := 908) (x := 27) hC dL_law_32 (by decide) (by decide) (by rfl) (by decide) ?_
        exact road_often hC hn hn64 hL hR hs hb (hPU.2.2.2.2.2.2.2.2.2.2.2.2.2.2.2.2.2.2.2.2.2.2.2.2.2.2.2.1) hi hI kk
      by_cases c28 : x = 28
      · refine R_top c28 ?_
        refine R_tableIn (pc := 32) (tgt := 961) (x := 28) hC dL_law_32 (by decide) (by decide) (by rfl) (by decide) ?_
        exact road_row hC hn hn64 hL hR hs hb (hPU.2.2.2.2.2.2.2.2.2.2.2.2.2.2.2.2.2.2.2.2.2.2.2.2.2.2.2.2.1) hi hI kk
      by_cases c29 : x = 29
      · refine R_top c29 ?_
        refine R_tableIn (pc := 32) (tgt := 984) (x := 29) hC dL_law_32 (by decide) (by decide) (by rfl) (by decide) ?_
        exact road_judge hC hn hn64 hL hR hs hb (hPU.2.2.2.2.2.2.2.2.2.2.2.2.2.2.2.2.2.2.2.2.2.2.2.2.2.2.2.2.2.1) hi hI kk
      by_cases c30 : x = 30
      · refine R_top c30 ?_
        refine R_tableIn (pc := 32) (tgt := 997) (x := 30) hC dL_law_32 (by decide) (by decide) (by rfl) (by decide) ?_
        exact road_image hC hn hn64 hL hR hs hb (hPU.2.2.2.2.2.2.2.2.2.2.2.2.2.2.2.2.2.2.2.2.2.2.2.2.2.2.2.2.2.2.1) hi hI kk
      by_cases c31 : x = 31
      · refine R_top c31 ?_
        refine R_tableIn (pc := 32) (tgt := 1010) (x := 31) hC dL_law_32 (by decide) (by decide) (by rfl) (by decide) ?_
        exact road_restore hC hn hn64 hL hR hs hb (hPU.2.2.2.2.2.2.2.2.2.2.2.2.2.2.2.2.2.2.2.2.2.2.2.2.2.2.2.2.2.2.2.1) hi hI kk
      by_cases c32 : x = 32
      · refine R_top c32 ?_
        refine R_tableIn (pc := 32) (tgt := 1023) (x := 32) hC dL_law_32 (by decide) (by decide) (by rfl) (by decide) ?_
        exact road_count hC hn hn64 hL hR hs hb (hPU.2.2.2.2.2.2.2.2.2.2.2.2.2.2.2.2.2.2.2.2.2.2.2.2.2.2.2.2.2.2.2.2) hi hI kk
      refine R_tableOut (pc := 32) (tgt := 1046) hC dL_law_32 (tab_out (fun k hk => ?_)) (by decide) (kk m hI)
      have h9 : k = 0 ∨ k = 1 ∨ k = 2 ∨ k = 3 ∨ k = 4 ∨ k = 5 ∨ k = 6 ∨ k = 7 ∨ k = 8 ∨ k = 9 ∨ k = 10 ∨ k = 11 ∨ k = 12 ∨ k = 13 ∨ k = 14 ∨ k = 15 ∨ k = 16 ∨ k = 17 ∨ k = 18 ∨ k = 19 ∨ k = 20 ∨ k = 21 ∨ k = 22 ∨ k = 23 ∨ k = 24 ∨ k = 25 ∨ k = 26 ∨ k = 27 ∨ k = 28 ∨ k = 29 ∨ k = 30 ∨ k = 31 ∨ k = 32 := by omega
      rcases h9 with rfl | rfl | rfl | rfl | rfl | rfl | rfl | rfl | rfl | rfl | rfl | rfl | rfl | rfl | rfl | rfl | rfl | rfl | rfl | rfl | rfl | rfl | rfl | rfl | rfl | rfl | rfl | rfl | rfl | rfl | rfl | rfl | rfl
      · exact i32_ne c0 (by decide)
      · exact i32_ne c1 (by decide)
      · exact i32_ne c2 (by decide)
      · exact i32_ne c3 (by decide)
      · exact i32_ne c4 (by decide)
      · exact i32_ne c5 (by decide)
      · exact i32_ne c6 (by decide)
      · exact i32_ne c7 (by decide)
      · exact i32_ne c8 (by decide)
      · exact i32_ne c9 (by decide)
      · exact i32_ne c10 (by decide)
      · exact i32_ne c11 (by decide)
      · exact i32_ne c12 (by decide)
      · exact i32_ne c13 (by decide)
      · exact i32_ne c14 (by decide)
      · exact i32_ne c15 (by decide)
      · exact i32_ne c16 (by decide)
      · exact i32_ne c17 (by decide)
      · exact i32_ne c18 (by decide)
      · exact i32_ne c19 (by decide)
      · exact i32_ne c20 (by decide)
      · exact i32_ne c21 (by decide)
      · exact i32_ne c22 (by decide)
      · exact i32_ne c23 (by decide)
      · exact i32_ne c24 (by decide)
      · exact i32_ne c25 (by decide)
      · exact i32_ne c26 (by decide)
      · exact i32_ne c27 (by decide)
      · exact i32_ne c28 (by decide)
      · exact i32_ne c29 (by decide)
      · exact i32_ne c30 (by decide)
      · exact i32_ne c31 (by decide)
      · exact i32_ne c32 (by decide)
    · exact law_end hC hn hn64 hL hR hs hb hG (by omega) m
