-- ===== the walks of the law's methods; written by wip/p51/genlaw.py =====
set_option maxHeartbeats 4000000 in
set_option maxRecDepth 100000 in
theorem m_L_whole {nn L : Nat} {xs : Nat → Int32}  {G : GH} {Q : Int → Prop}  (hnn : 272 ≤ nn) (h : f_L_whole G Q) : MtS L xs yL_whole cL_whole 6 (some .long) 4 88 0 0 [vr 0] (SF nn) G (fun v S' G' => S' = SF nn ∧ qJ (fun r9 G9 => G9 = G ∧ Q r9) v S' G') (fun E S' G' => S' = SF nn ∧ False) := by
  refine MtS.of (l0 := [some (vr 0), none, none, none, none, none]) (by decide) (Nat.le_of_ble_eq_true rfl) rfl ?_
  intro κ δ ρ0 X9 E hsc hG
  replace X9 : CX κ δ RL cL_whole 6 (some .long) := X9
  refine a_ldc2 (pc := 0) X9 (n := 3) wCL_L_121 dL_whole_0 (by decide +kernel) ?_
  refine a_lstore_n (pc := 3) X9 dL_whole_3 rfl (Nat.le_of_ble_eq_true rfl) rfl rfl ?_
  refine a_iconst (pc := 4) X9 dL_whole_4 ?_
  refine a_istore_n (pc := 5) X9 dL_whole_5 rfl (Nat.le_of_ble_eq_true rfl) rfl rfl ?_
  refine loopM2 (A := fun x1_1 x3_1 => inR x3_1 → AW κ δ ρ0 (szF nn) 6 0 0 6 [some (vr 0), some (vl x1_1), none, some (vi x3_1), none, none] [] (SF nn) G) (fun k_1 hk_1 x1_1 x3_1 h h_x3_1 => ?_) _ _ h (by decide)
  refine a_iload_n (pc := 6) X9 dL_whole_6 rfl rfl ?_
  refine a_bipush (pc := 7) X9 dL_whole_7 rfl ?_
  refine a_icmp_gt (pc := 9) (tgt := 31) X9 dL_whole_9 rfl h_x3_1 (by decide) (fun c => ?_) (fun c => ?_)
  · have c_1 := c
    have h := h.1 c_1
    refine a_iconst (pc := 31) X9 dL_whole_31 ?_
    refine a_istore_n (pc := 32) X9 dL_whole_32 rfl (Nat.le_of_ble_eq_true rfl) rfl rfl ?_
    refine loopM2 (A := fun x1_2 x3_2 => inR x3_2 → AW κ δ ρ0 (szF nn) 6 0 0 33 [some (vr 0), some (vl x1_2), none, some (vi x3_2), none, none] [] (SF nn) G) (fun k_2 hk_2 x1_2 x3_2 h h_x3_2 => ?_) _ _ h (by decide)
    refine a_iload_n (pc := 33) X9 dL_whole_33 rfl rfl ?_
    refine a_aload_n (pc := 34) X9 dL_whole_34 rfl rfl ?_
    refine a_iconst (pc := 35) X9 dL_whole_35 ?_
    refine a_callV (pc := 36) X9 E (m_X9_size (show inR 4 by decide) hnn h) okX9 (is9 hnn) wM_L_76 w_instanceMethod_X9_size w_selects_X9_size w_initialized_RX9 w_code_X9_size cp_X9_size pn_X9_size rfl (Nat.le_of_ble_eq_true rfl) ⟨Nat.le_of_ble_eq_true rfl, Nat.le_of_ble_eq_true rfl⟩ ⟨Nat.le_of_ble_eq_true rfl, Nat.le_of_ble_eq_true rfl⟩ dL_whole_36 (fun _ _ q => False.elim q) (kIp (fun r_1 hr_1 h => ?_))
    refine a_icmp_ge (pc := 39) (tgt := 78) X9 dL_whole_39 rfl h_x3_2 hr_1 (fun c => ?_) (fun c => ?_)
    · have c_2 := c
      have h := h.1 c_2
      refine a_iconst (pc := 78) X9 dL_whole_78 ?_
      refine a_istore_n (pc := 79) X9 dL_whole_79 rfl (Nat.le_of_ble_eq_true rfl) rfl rfl ?_
      refine loopM2 (A := fun x1_3 x3_3 => inR x3_3 → AW κ δ ρ0 (szF nn) 6 0 0 80 [some (vr 0), some (vl x1_3), none, some (vi x3_3), none, none] [] (SF nn) G) (fun k_3 hk_3 x1_3 x3_3 h h_x3_3 => ?_) _ _ h (by decide)
      refine a_iload_n (pc := 80) X9 dL_whole_80 rfl rfl ?_
      refine a_bipush (pc := 81) X9 dL_whole_81 rfl ?_
      refine a_icmp_ge (pc := 83) (tgt := 121) X9 dL_whole_83 rfl h_x3_3 (by decide) (fun c => ?_) (fun c => ?_)
      · have c_3 := c
        have h := h.1 c_3
        refine a_iconst (pc := 121) X9 dL_whole_121 ?_
        refine a_istore_n (pc := 122) X9 dL_whole_122 rfl (Nat.le_of_ble_eq_true rfl) rfl rfl ?_
        refine loopM2 (A := fun x1_4 x3_4 => inR x3_4 → AW κ δ ρ0 (szF nn) 6 0 0 123 [some (vr 0), some (vl x1_4), none, some (vi x3_4), none, none] [] (SF nn) G) (fun k_4 hk_4 x1_4 x3_4 h h_x3_4 => ?_) _ _ h (by decide)
        refine a_iload_n (pc := 123) X9 dL_whole_123 rfl rfl ?_
        refine a_aload_n (pc := 124) X9 dL_whole_124 rfl rfl ?_
        refine a_bipush (pc := 125) X9 dL_whole_125 rfl ?_
        refine a_callV (pc := 127) X9 E (m_X9_size (show inR 7 by decide) hnn h) okX9 (is9 hnn) wM_L_76 w_instanceMethod_X9_size w_selects_X9_size w_initialized_RX9 w_code_X9_size cp_X9_size pn_X9_size rfl (Nat.le_of_ble_eq_true rfl) ⟨Nat.le_of_ble_eq_true rfl, Nat.le_of_ble_eq_true rfl⟩ ⟨Nat.le_of_ble_eq_true rfl, Nat.le_of_ble_eq_true rfl⟩ dL_whole_127 (fun _ _ q => False.elim q) (kIp (fun r_2 hr_2 h => ?_))
        refine a_icmp_ge (pc := 130) (tgt := 169) X9 dL_whole_130 rfl h_x3_4 hr_2 (fun c => ?_) (fun c => ?_)
        · have c_4 := c
          have h := h.1 c_4
          refine a_iconst (pc := 169) X9 dL_whole_169 ?_
          refine a_istore_n (pc := 170) X9 dL_whole_170 rfl (Nat.le_of_ble_eq_true rfl) rfl rfl ?_
          refine loopM2 (A := fun x1_5 x3_5 => inR x3_5 → AW κ δ ρ0 (szF nn) 6 0 0 171 [some (vr 0), some (vl x1_5), none, some (vi x3_5), none, none] [] (SF nn) G) (fun k_5 hk_5 x1_5 x3_5 h h_x3_5 => ?_) _ _ h (by decide)
          refine a_iload_n (pc := 171) X9 dL_whole_171 rfl rfl ?_
          refine a_aload_n (pc := 172) X9 dL_whole_172 rfl rfl ?_
          refine a_iconst (pc := 173) X9 dL_whole_173 ?_
          refine a_callV (pc := 174) X9 E (m_X9_size (show inR 0 by decide) hnn h) okX9 (is9 hnn) wM_L_76 w_instanceMethod_X9_size w_selects_X9_size w_initialized_RX9 w_code_X9_size cp_X9_size pn_X9_size rfl (Nat.le_of_ble_eq_true rfl) ⟨Nat.le_of_ble_eq_true rfl, Nat.le_of_ble_eq_true rfl⟩ ⟨Nat.le_of_ble_eq_true rfl, Nat.le_of_ble_eq_true rfl⟩ dL_whole_174 (fun _ _ q => False.elim q) (kIp (fun r_3 hr_3 h => ?_))
          refine a_icmp_ge (pc := 177) (tgt := 259) X9 dL_whole_177 rfl h_x3_5 hr_3 (fun c => ?_) (fun c => ?_)
          · have c_5 := c
            have h := h.1 c_5
            refine a_iconst (pc := 259) X9 dL_whole_259 ?_
            refine a_istore_n (pc := 260) X9 dL_whole_260 rfl (Nat.le_of_ble_eq_true rfl) rfl rfl ?_
            refine loopM2 (A := fun x1_6 x3_6 => inR x3_6 → AW κ δ ρ0 (szF nn) 6 0 0 261 [some (vr 0), some (vl x1_6), none, some (vi x3_6), none, none] [] (SF nn) G) (fun k_6 hk_6 x1_6 x3_6 h h_x3_6 => ?_) _ _ h (by decide)
            refine a_iload_n (pc := 261) X9 dL_whole_261 rfl rfl ?_
            refine a_aload_n (pc := 262) X9 dL_whole_262 rfl rfl ?_
            refine a_bipush (pc := 263) X9 dL_whole_263 rfl ?_
            refine a_callV (pc := 265) X9 E (m_X9_size (show inR 6 by decide) hnn h) okX9 (is9 hnn) wM_L_76 w_instanceMethod_X9_size w_selects_X9_size w_initialized_RX9 w_code_X9_size cp_X9_size pn_X9_size rfl (Nat.le_of_ble_eq_true rfl) ⟨Nat.le_of_ble_eq_true rfl, Nat.le_of_ble_eq_true rfl⟩ ⟨Nat.le_of_ble_eq_true rfl, Nat.le_of_ble_eq_true rfl⟩ dL_whole_265 (fun _ _ q => False.elim q) (kIp (fun r_4 hr_4 h => ?_))
            refine a_icmp_ge (pc := 268) (tgt := 311) X9 dL_whole_268 rfl h_x3_6 hr_4 (fun c => ?_) (fun c => ?_)
            · have c_6 := c
              have h := h.1 c_6
              refine a_lload_n (pc := 311) X9 dL_whole_311 rfl rfl ?_
              exact a_lreturn (pc := 312) X9 E (Nat.le_of_ble_eq_true rfl) (Nat.le_of_ble_eq_true rfl) dL_whole_312 ⟨rfl, _, rfl, rfl, h⟩
            · have c_6 := c
              have h := h.2 c_6
              refine a_iconst (pc := 271) X9 dL_whole_271 ?_
              refine a_istore (pc := 272) X9 dL_whole_272 (Nat.le_of_ble_eq_true rfl) rfl rfl ?_
              refine loopM2 (A := fun x1_7 x4_1 => inR x4_1 → AW κ δ ρ0 (szF nn) 6 0 0 274 [some (vr 0), some (vl x1_7), none, some (vi x3_6), some (vi x4_1), none] [] (SF nn) G) (fun k_7 hk_7 x1_7 x4_1 h h_x4_1 => ?_) _ _ h (by decide)
              refine a_iload (pc := 274) X9 dL_whole_274 rfl ?_
              refine a_aload_n (pc := 276) X9 dL_whole_276 rfl rfl ?_
              refine a_iload_n (pc := 277) X9 dL_whole_277 rfl rfl ?_
              refine a_callV (pc := 278) X9 E (m_X9_hymns h_x3_6 hnn h) okX9 (is9 hnn) wM_L_146 w_instanceMethod_X9_hymns w_selects_X9_hymns w_initialized_RX9 w_code_X9_hymns cp_X9_hymns pn_X9_hymns rfl (Nat.le_of_ble_eq_true rfl) ⟨Nat.le_of_ble_eq_true rfl, Nat.le_of_ble_eq_true rfl⟩ ⟨Nat.le_of_ble_eq_true rfl, Nat.le_of_ble_eq_true rfl⟩ dL_whole_278 (fun _ _ q => False.elim q) (kIp (fun r_5 hr_5 h => ?_))
              refine a_icmp_ge (pc := 281) (tgt := 305) X9 dL_whole_281 rfl h_x4_1 hr_5 (fun c => ?_) (fun c => ?_)
              · have c_7 := c
                have h := h.1 c_7
                refine a_iinc (pc := 305) X9 dL_whole_305 rfl (Nat.le_of_ble_eq_true rfl) rfl rfl ?_
                refine a_goto (pc := 308) (tgt := 261) X9 dL_whole_308 rfl ?_
                have q_1 : inR (r_4) := hr_4
                have q_2 : inR (x3_6) := h_x3_6
                have g_1 : inR ((x3_6 + 1)) := ⟨by omega, by omega⟩
                refine AW.drop 4 rfl ?_
                exact hk_6 _ _ h g_1
              · have c_7 := c
                have h := h.2 c_7
                refine a_ldc2 (pc := 284) X9 (n := 31) wCL_L_123 dL_whole_284 (by decide +kernel) ?_
                refine a_lload_n (pc := 287) X9 dL_whole_287 rfl rfl ?_
                refine a_lmul (pc := 288) X9 dL_whole_288 ?_
                refine a_aload_n (pc := 289) X9 dL_whole_289 rfl rfl ?_
                refine a_iload_n (pc := 290) X9 dL_whole_290 rfl rfl ?_
                refine a_iload (pc := 291) X9 dL_whole_291 rfl ?_
                refine a_callV (pc := 293) X9 E (m_X9_hymn h_x3_6 h_x4_1 hnn h) okX9 (is9 hnn) wM_L_149 w_instanceMethod_X9_hymn w_selects_X9_hymn w_initialized_RX9 w_code_X9_hymn cp_X9_hymn pn_X9_hymn rfl (Nat.le_of_ble_eq_true rfl) ⟨Nat.le_of_ble_eq_true rfl, Nat.le_of_ble_eq_true rfl⟩ ⟨Nat.le_of_ble_eq_true rfl, Nat.le_of_ble_eq_true rfl⟩ dL_whole_293 (fun _ _ q => False.elim q) (kIp (fun r_6 hr_6 h => ?_))
                refine a_i2l (pc := 296) X9 dL_whole_296 hr_6 ?_
                refine a_ladd (pc := 297) X9 dL_whole_297 ?_
                refine a_lstore_n (pc := 298) X9 dL_whole_298 rfl (Nat.le_of_ble_eq_true rfl) rfl rfl ?_
                refine a_iinc (pc := 299) X9 dL_whole_299 rfl (Nat.le_of_ble_eq_true rfl) rfl rfl ?_
                refine a_goto (pc := 302) (tgt := 274) X9 dL_whole_302 rfl ?_
                have q_3 : inR (r_5) := hr_5
                have q_4 : inR (x4_1) := h_x4_1
                have g_2 : inR ((x4_1 + 1)) := ⟨by omega, by omega⟩
                exact hk_7 _ _ h g_2
          · have c_5 := c
            have h := h.2 c_5
            refine a_iconst (pc := 180) X9 dL_whole_180 ?_
            refine a_istore (pc := 181) X9 dL_whole_181 (Nat.le_of_ble_eq_true rfl) rfl rfl ?_
            refine loopM2 (A := fun x1_8 x4_2 => inR x4_2 → AW κ δ ρ0 (szF nn) 6 0 0 183 [some (vr 0), some (vl x1_8), none, some (vi x3_5), some (vi x4_2), none] [] (SF nn) G) (fun k_8 hk_8 x1_8 x4_2 h h_x4_2 => ?_) _ _ h (by decide)
            refine a_iload (pc := 183) X9 dL_whole_183 rfl ?_
            refine a_aload_n (pc := 185) X9 dL_whole_185 rfl rfl ?_
            refine a_iload_n (pc := 186) X9 dL_whole_186 rfl rfl ?_
            refine a_callV (pc := 187) X9 E (m_X9_rows h_x3_5 hnn h) okX9 (is9 hnn) wM_L_136 w_instanceMethod_X9_rows w_selects_X9_rows w_initialized_RX9 w_code_X9_rows cp_X9_rows pn_X9_rows rfl (Nat.le_of_ble_eq_true rfl) ⟨Nat.le_of_ble_eq_true rfl, Nat.le_of_ble_eq_true rfl⟩ ⟨Nat.le_of_ble_eq_true rfl, Nat.le_of_ble_eq_true rfl⟩ dL_whole_187 (fun _ _ q => False.elim q) (kIp (fun r_7 hr_7 h => ?_))
            refine a_icmp_ge (pc := 190) (tgt := 253) X9 dL_whole_190 rfl h_x4_2 hr_7 (fun c => ?_) (fun c => ?_)
            · have c_8 := c
              have h := h.1 c_8
              refine a_iinc (pc := 253) X9 dL_whole_253 rfl (Nat.le_of_ble_eq_true rfl) rfl rfl ?_
              refine a_goto (pc := 256) (tgt := 171) X9 dL_whole_256 rfl ?_
              have q_5 : inR (r_3) := hr_3
              have q_6 : inR (x3_5) := h_x3_5
              have g_3 : inR ((x3_5 + 1)) := ⟨by omega, by omega⟩
              refine AW.drop 4 rfl ?_
              exact hk_5 _ _ h g_3
            · have c_8 := c
              have h := h.2 c_8
              refine a_ldc2 (pc := 193) X9 (n := 31) wCL_L_123 dL_whole_193 (by decide +kernel) ?_
              refine a_lload_n (pc := 196) X9 dL_whole_196 rfl rfl ?_
              refine a_lmul (pc := 197) X9 dL_whole_197 ?_
              refine a_aload_n (pc := 198) X9 dL_whole_198 rfl rfl ?_
              refine a_iload_n (pc := 199) X9 dL_whole_199 rfl rfl ?_
              refine a_iload (pc := 200) X9 dL_whole_200 rfl ?_
              refine a_callV (pc := 202) X9 E (m_X9_hung h_x3_5 h_x4_2 hnn h) okX9 (is9 hnn) wM_L_139 w_instanceMethod_X9_hung w_selects_X9_hung w_initialized_RX9 w_code_X9_hung cp_X9_hung pn_X9_hung rfl (Nat.le_of_ble_eq_true rfl) ⟨Nat.le_of_ble_eq_true rfl, Nat.le_of_ble_eq_true rfl⟩ ⟨Nat.le_of_ble_eq_true rfl, Nat.le_of_ble_eq_true rfl⟩ dL_whole_202 (fun _ _ q => False.elim q) (kIp (fun r_8 hr_8 h => ?_))
              refine a_i2l (pc := 205) X9 dL_whole_205 hr_8 ?_
              refine a_ladd (pc := 206) X9 dL_whole_206 ?_
              refine a_lstore_n (pc := 207) X9 dL_whole_207 rfl (Nat.le_of_ble_eq_true rfl) rfl rfl ?_
              refine a_iconst (pc := 208) X9 dL_whole_208 ?_
              refine a_istore (pc := 209) X9 dL_whole_209 (Nat.le_of_ble_eq_true rfl) rfl rfl ?_
              refine loopM2 (A := fun x1_9 x5_1 => inR x5_1 → AW κ δ ρ0 (szF nn) 6 0 0 211 [some (vr 0), some (vl x1_9), none, some (vi x3_5), some (vi x4_2), some (vi x5_1)] [] (SF nn) G) (fun k_9 hk_9 x1_9 x5_1 h h_x5_1 => ?_) _ _ h (by decide)
              refine a_iload (pc := 211) X9 dL_whole_211 rfl ?_
              refine a_bipush (pc := 213) X9 dL_whole_213 rfl ?_
              refine a_icmp_ge (pc := 215) (tgt := 247) X9 dL_whole_215 rfl h_x5_1 (by decide) (fun c => ?_) (fun c => ?_)
              · have c_9 := c
                have h := h.1 c_9
                refine a_iinc (pc := 247) X9 dL_whole_247 rfl (Nat.le_of_ble_eq_true rfl) rfl rfl ?_
                refine a_goto (pc := 250) (tgt := 183) X9 dL_whole_250 rfl ?_
                have q_7 : inR (r_7) := hr_7
                have q_8 : inR (x4_2) := h_x4_2
                have g_4 : inR ((x4_2 + 1)) := ⟨by omega, by omega⟩
                refine AW.drop 5 rfl ?_
                exact hk_8 _ _ h g_4
              · have c_9 := c
                have h := h.2 c_9
                refine a_ldc2 (pc := 218) X9 (n := 31) wCL_L_123 dL_whole_218 (by decide +kernel) ?_
                refine a_lload_n (pc := 221) X9 dL_whole_221 rfl rfl ?_
                refine a_lmul (pc := 222) X9 dL_whole_222 ?_
                refine a_aload_n (pc := 223) X9 dL_whole_223 rfl rfl ?_
                refine a_iload_n (pc := 224) X9 dL_whole_224 rfl rfl ?_
                refine a_iload (pc := 225) X9 dL_whole_225 rfl ?_
                refine a_iload (pc := 227) X9 dL_whole_227 rfl ?_
                refine a_iconst (pc := 229) X9 dL_whole_229 ?_
                obtain ⟨g_5, h⟩ := h
                refine a_idiv (pc := 230) X9 dL_whole_230 ⟨g_5, h_x5_1.2⟩ ⟨(by decide), (by decide)⟩ ?_
                refine a_iload (pc := 231) X9 dL_whole_231 rfl ?_
                refine a_iconst (pc := 233) X9 dL_whole_233 ?_
                refine a_irem (pc := 234) X9 dL_whole_234 ⟨g_5, h_x5_1.2⟩ ⟨(by decide), (by decide)⟩ ?_
                refine a_callV (pc := 235) X9 E (m_X9_place h_x3_5 h_x4_2 (inR_div h_x5_1 g_5 (by decide)) (inR_mod g_5 (by decide) (by decide)) hnn h) okX9 (is9 hnn) wM_L_142 w_instanceMethod_X9_place w_selects_X9_place w_initialized_RX9 w_code_X9_place cp_X9_place pn_X9_place rfl (Nat.le_of_ble_eq_true rfl) ⟨Nat.le_of_ble_eq_true rfl, Nat.le_of_ble_eq_true rfl⟩ ⟨Nat.le_of_ble_eq_true rfl, Nat.le_of_ble_eq_true rfl⟩ dL_whole_235 (fun _ _ q => False.elim q) (kIp (fun r_9 hr_9 h => ?_))
                refine a_i2l (pc := 238) X9 dL_whole_238 hr_9 ?_
                refine a_ladd (pc := 239) X9 dL_whole_239 ?_
                refine a_lstore_n (pc := 240) X9 dL_whole_240 rfl (Nat.le_of_ble_eq_true rfl) rfl rfl ?_
                refine a_iinc (pc := 241) X9 dL_whole_241 rfl (Nat.le_of_ble_eq_true rfl) rfl rfl ?_
                refine a_goto (pc := 244) (tgt := 211) X9 dL_whole_244 rfl ?_
                have q_9 : inR (x5_1) := h_x5_1
                have g_6 : inR ((x5_1 + 1)) := ⟨by omega, by omega⟩
                exact hk_9 _ _ h g_6
        · have c_4 := c
          have h := h.2 c_4
          refine a_iconst (pc := 133) X9 dL_whole_133 ?_
          refine a_istore (pc := 134) X9 dL_whole_134 (Nat.le_of_ble_eq_true rfl) rfl rfl ?_
          refine loopM2 (A := fun x1_10 x4_3 => inR x4_3 → AW κ δ ρ0 (szF nn) 6 0 0 136 [some (vr 0), some (vl x1_10), none, some (vi x3_4), some (vi x4_3), none] [] (SF nn) G) (fun k_10 hk_10 x1_10 x4_3 h h_x4_3 => ?_) _ _ h (by decide)
          refine a_iload (pc := 136) X9 dL_whole_136 rfl ?_
          refine a_iconst (pc := 138) X9 dL_whole_138 ?_
          refine a_icmp_gt (pc := 139) (tgt := 163) X9 dL_whole_139 rfl h_x4_3 (by decide) (fun c => ?_) (fun c => ?_)
          · have c_10 := c
            have h := h.1 c_10
            refine a_iinc (pc := 163) X9 dL_whole_163 rfl (Nat.le_of_ble_eq_true rfl) rfl rfl ?_
            refine a_goto (pc := 166) (tgt := 123) X9 dL_whole_166 rfl ?_
            have q_10 : inR (r_2) := hr_2
            have q_11 : inR (x3_4) := h_x3_4
            have g_7 : inR ((x3_4 + 1)) := ⟨by omega, by omega⟩
            refine AW.drop 4 rfl ?_
            exact hk_4 _ _ h g_7
          · have c_10 := c
            have h := h.2 c_10
            refine a_ldc2 (pc := 142) X9 (n := 31) wCL_L_123 dL_whole_142 (by decide +kernel) ?_
            refine a_lload_n (pc := 145) X9 dL_whole_145 rfl rfl ?_
            refine a_lmul (pc := 146) X9 dL_whole_146 ?_
            refine a_aload_n (pc := 147) X9 dL_whole_147 rfl rfl ?_
            refine a_iload_n (pc := 148) X9 dL_whole_148 rfl rfl ?_
            refine a_iload (pc := 149) X9 dL_whole_149 rfl ?_
            refine a_callV (pc := 151) X9 E (m_X9_loan h_x3_4 h_x4_3 hnn h) okX9 (is9 hnn) wM_L_133 w_instanceMethod_X9_loan w_selects_X9_loan w_initialized_RX9 w_code_X9_loan cp_X9_loan pn_X9_loan rfl (Nat.le_of_ble_eq_true rfl) ⟨Nat.le_of_ble_eq_true rfl, Nat.le_of_ble_eq_true rfl⟩ ⟨Nat.le_of_ble_eq_true rfl, Nat.le_of_ble_eq_true rfl⟩ dL_whole_151 (fun _ _ q => False.elim q) (kIp (fun r_10 hr_10 h => ?_))
            refine a_i2l (pc := 154) X9 dL_whole_154 hr_10 ?_
            refine a_ladd (pc := 155) X9 dL_whole_155 ?_
            refine a_lstore_n (pc := 156) X9 dL_whole_156 rfl (Nat.le_of_ble_eq_true rfl) rfl rfl ?_
            refine a_iinc (pc := 157) X9 dL_whole_157 rfl (Nat.le_of_ble_eq_true rfl) rfl rfl ?_
            refine a_goto (pc := 160) (tgt := 136) X9 dL_whole_160 rfl ?_
            have q_12 : inR (x4_3) := h_x4_3
            have g_8 : inR ((x4_3 + 1)) := ⟨by omega, by omega⟩
            exact hk_10 _ _ h g_8
      · have c_3 := c
        have h := h.2 c_3
        refine a_ldc2 (pc := 86) X9 (n := 31) wCL_L_123 dL_whole_86 (by decide +kernel) ?_
        refine a_lload_n (pc := 89) X9 dL_whole_89 rfl rfl ?_
        refine a_lmul (pc := 90) X9 dL_whole_90 ?_
        refine a_ldc2 (pc := 91) X9 (n := 7) wCL_L_128 dL_whole_91 (by decide +kernel) ?_
        refine a_aload_n (pc := 94) X9 dL_whole_94 rfl rfl ?_
        refine a_iconst (pc := 95) X9 dL_whole_95 ?_
        refine a_iload_n (pc := 96) X9 dL_whole_96 rfl rfl ?_
        refine a_callV (pc := 97) X9 E (m_X9_lends (show inR 0 by decide) h_x3_3 hnn h) okX9 (is9 hnn) wM_L_130 w_instanceMethod_X9_lends w_selects_X9_lends w_initialized_RX9 w_code_X9_lends cp_X9_lends pn_X9_lends rfl (Nat.le_of_ble_eq_true rfl) ⟨Nat.le_of_ble_eq_true rfl, Nat.le_of_ble_eq_true rfl⟩ ⟨Nat.le_of_ble_eq_true rfl, Nat.le_of_ble_eq_true rfl⟩ dL_whole_97 (fun _ _ q => False.elim q) (kIp (fun r_11 hr_11 h => ?_))
        refine a_i2l (pc := 100) X9 dL_whole_100 hr_11 ?_
        refine a_lmul (pc := 101) X9 dL_whole_101 ?_
        refine a_ladd (pc := 102) X9 dL_whole_102 ?_
        refine a_aload_n (pc := 103) X9 dL_whole_103 rfl rfl ?_
        refine a_bipush (pc := 104) X9 dL_whole_104 rfl ?_
        refine a_iload_n (pc := 106) X9 dL_whole_106 rfl rfl ?_
        refine a_iadd (pc := 107) X9 dL_whole_107 ?_
        refine a_iconst (pc := 108) X9 dL_whole_108 ?_
        obtain ⟨g_9, h⟩ := h
        refine a_callV (pc := 109) X9 E (m_X9_card g_9 (show inR 2 by decide) hnn h) okX9 (is9 hnn) wM_L_125 w_instanceMethod_X9_card w_selects_X9_card w_initialized_RX9 w_code_X9_card cp_X9_card pn_X9_card rfl (Nat.le_of_ble_eq_true rfl) ⟨Nat.le_of_ble_eq_true rfl, Nat.le_of_ble_eq_true rfl⟩ ⟨Nat.le_of_ble_eq_true rfl, Nat.le_of_ble_eq_true rfl⟩ dL_whole_109 (fun _ _ q => False.elim q) (kIp (fun r_12 hr_12 h => ?_))
        refine a_i2l (pc := 112) X9 dL_whole_112 hr_12 ?_
        refine a_ladd (pc := 113) X9 dL_whole_113 ?_
        refine a_lstore_n (pc := 114) X9 dL_whole_114 rfl (Nat.le_of_ble_eq_true rfl) rfl rfl ?_
        refine a_iinc (pc := 115) X9 dL_whole_115 rfl (Nat.le_of_ble_eq_true rfl) rfl rfl ?_
        refine a_goto (pc := 118) (tgt := 80) X9 dL_whole_118 rfl ?_
        have q_13 : inR (x3_3) := h_x3_3
        have g_10 : inR ((x3_3 + 1)) := ⟨by omega, by omega⟩
        exact hk_3 _ _ h g_10
    · have c_2 := c
      have h := h.2 c_2
      refine a_iconst (pc := 42) X9 dL_whole_42 ?_
      refine a_istore (pc := 43) X9 dL_whole_43 (Nat.le_of_ble_eq_true rfl) rfl rfl ?_
      refine loopM2 (A := fun x1_11 x4_4 => inR x4_4 → AW κ δ ρ0 (szF nn) 6 0 0 45 [some (vr 0), some (vl x1_11), none, some (vi x3_2), some (vi x4_4), none] [] (SF nn) G) (fun k_11 hk_11 x1_11 x4_4 h h_x4_4 => ?_) _ _ h (by decide)
      refine a_iload (pc := 45) X9 dL_whole_45 rfl ?_
      refine a_iconst (pc := 47) X9 dL_whole_47 ?_
      refine a_icmp_gt (pc := 48) (tgt := 72) X9 dL_whole_48 rfl h_x4_4 (by decide) (fun c => ?_) (fun c => ?_)
      · have c_11 := c
        have h := h.1 c_11
        refine a_iinc (pc := 72) X9 dL_whole_72 rfl (Nat.le_of_ble_eq_true rfl) rfl rfl ?_
        refine a_goto (pc := 75) (tgt := 33) X9 dL_whole_75 rfl ?_
        have q_14 : inR (r_1) := hr_1
        have q_15 : inR (x3_2) := h_x3_2
        have g_11 : inR ((x3_2 + 1)) := ⟨by omega, by omega⟩
        refine AW.drop 4 rfl ?_
        exact hk_2 _ _ h g_11
      · have c_11 := c
        have h := h.2 c_11
        refine a_ldc2 (pc := 51) X9 (n := 31) wCL_L_123 dL_whole_51 (by decide +kernel) ?_
        refine a_lload_n (pc := 54) X9 dL_whole_54 rfl rfl ?_
        refine a_lmul (pc := 55) X9 dL_whole_55 ?_
        refine a_aload_n (pc := 56) X9 dL_whole_56 rfl rfl ?_
        refine a_iload_n (pc := 57) X9 dL_whole_57 rfl rfl ?_
        refine a_iload (pc := 58) X9 dL_whole_58 rfl ?_
        refine a_callV (pc := 60) X9 E (m_X9_card h_x3_2 h_x4_4 hnn h) okX9 (is9 hnn) wM_L_125 w_instanceMethod_X9_card w_selects_X9_card w_initialized_RX9 w_code_X9_card cp_X9_card pn_X9_card rfl (Nat.le_of_ble_eq_true rfl) ⟨Nat.le_of_ble_eq_true rfl, Nat.le_of_ble_eq_true rfl⟩ ⟨Nat.le_of_ble_eq_true rfl, Nat.le_of_ble_eq_true rfl⟩ dL_whole_60 (fun _ _ q => False.elim q) (kIp (fun r_13 hr_13 h => ?_))
        refine a_i2l (pc := 63) X9 dL_whole_63 hr_13 ?_
        refine a_ladd (pc := 64) X9 dL_whole_64 ?_
        refine a_lstore_n (pc := 65) X9 dL_whole_65 rfl (Nat.le_of_ble_eq_true rfl) rfl rfl ?_
        refine a_iinc (pc := 66) X9 dL_whole_66 rfl (Nat.le_of_ble_eq_true rfl) rfl rfl ?_
        refine a_goto (pc := 69) (tgt := 45) X9 dL_whole_69 rfl ?_
        have q_16 : inR (x4_4) := h_x4_4
        have g_12 : inR ((x4_4 + 1)) := ⟨by omega, by omega⟩
        exact hk_11 _ _ h g_12
  · have c_1 := c
    have h := h.2 c_1
    refine a_ldc2 (pc := 12) X9 (n := 31) wCL_L_123 dL_whole_12 (by decide +kernel) ?_
    refine a_lload_n (pc := 15) X9 dL_whole_15 rfl rfl ?_
    refine a_lmul (pc := 16) X9 dL_whole_16 ?_
    refine a_aload_n (pc := 17) X9 dL_whole_17 rfl rfl ?_
    refine a_iload_n (pc := 18) X9 dL_whole_18 rfl rfl ?_
    refine a_callV (pc := 19) X9 E (m_X9_size h_x3_1 hnn h) okX9 (is9 hnn) wM_L_76 w_instanceMethod_X9_size w_selects_X9_size w_initialized_RX9 w_code_X9_size cp_X9_size pn_X9_size rfl (Nat.le_of_ble_eq_true rfl) ⟨Nat.le_of_ble_eq_true rfl, Nat.le_of_ble_eq_true rfl⟩ ⟨Nat.le_of_ble_eq_true rfl, Nat.le_of_ble_eq_true rfl⟩ dL_whole_19 (fun _ _ q => False.elim q) (kIp (fun r_14 hr_14 h => ?_))
    refine a_i2l (pc := 22) X9 dL_whole_22 hr_14 ?_
    refine a_ladd (pc := 23) X9 dL_whole_23 ?_
    refine a_lstore_n (pc := 24) X9 dL_whole_24 rfl (Nat.le_of_ble_eq_true rfl) rfl rfl ?_
    refine a_iinc (pc := 25) X9 dL_whole_25 rfl (Nat.le_of_ble_eq_true rfl) rfl rfl ?_
    refine a_goto (pc := 28) (tgt := 6) X9 dL_whole_28 rfl ?_
    have q_17 : inR (x3_1) := h_x3_1
    have g_13 : inR ((x3_1 + 1)) := ⟨by omega, by omega⟩
    exact hk_1 _ _ h g_13
set_option maxHeartbeats 4000000 in
set_option maxRecDepth 100000 in
theorem m_L_cards {nn L : Nat} {xs : Nat → Int32}  {G : GH} {Q : Int → GH → Prop}  (hnn : 272 ≤ nn) (h : f_L_cards L xs G Q) : MtS L xs yL_cards cL_cards 12 (some .boolean) 6 141 0 0 [vr 0, vr (strB + 60)] (SF nn) G (fun v S' G' => S' = SF nn ∧ qZ Q v S' G') (fun E S' G' => S' = SF nn ∧ False) := by
  refine MtS.of (l0 := [some (vr 0), some (vr (strB + 60)), none, none, none, none, none, none, none, none, none, none]) (by decide) (Nat.le_of_ble_eq_true rfl) rfl ?_
  intro κ δ ρ0 X9 E hsc hG
  replace X9 : CX κ δ RL cL_cards 12 (some .boolean) := X9
  refine a_iconst (pc := 0) X9 dL_cards_0 ?_
  refine a_istore_n (pc := 1) X9 dL_cards_1 rfl (Nat.le_of_ble_eq_true rfl) rfl rfl ?_
  refine a_iconst (pc := 2) X9 dL_cards_2 ?_
  refine a_istore_n (pc := 3) X9 dL_cards_3 rfl (Nat.le_of_ble_eq_true rfl) rfl rfl ?_
  refine loopM2 (A := fun x2_1 x3_1 => inR x2_1 → inR x3_1 → AW κ δ ρ0 (szF nn) 12 0 0 4 [some (vr 0), some (vr (strB + 60)), some (vi x2_1), some (vi x3_1), none, none, none, none, none, none, none, none] [] (SF nn) G) (fun k_1 hk_1 x2_1 x3_1 h h_x2_1 h_x3_1 => ?_) _ _ h (by decide) (by decide)
  refine a_iload_n (pc := 4) X9 dL_cards_4 rfl rfl ?_
  refine a_aload_n (pc := 5) X9 dL_cards_5 rfl rfl ?_
  refine a_iconst (pc := 6) X9 dL_cards_6 ?_
  refine a_callV (pc := 7) X9 E (m_X9_size (show inR 4 by decide) hnn h) okX9 (is9 hnn) wM_L_76 w_instanceMethod_X9_size w_selects_X9_size w_initialized_RX9 w_code_X9_size cp_X9_size pn_X9_size rfl (Nat.le_of_ble_eq_true rfl) ⟨Nat.le_of_ble_eq_true rfl, Nat.le_of_ble_eq_true rfl⟩ ⟨Nat.le_of_ble_eq_true rfl, Nat.le_of_ble_eq_true rfl⟩ dL_cards_7 (fun _ _ q => False.elim q) (kIp (fun r_1 hr_1 h => ?_))
  refine a_icmp_ge (pc := 10) (tgt := 45) X9 dL_cards_10 rfl h_x3_1 hr_1 (fun c => ?_) (fun c => ?_)
  · have c_1 := c
    have h := h.1 c_1
    refine a_iconst (pc := 45) X9 dL_cards_45 ?_
    refine a_istore_n (pc := 46) X9 dL_cards_46 rfl (Nat.le_of_ble_eq_true rfl) rfl rfl ?_
    refine loopM3 (A := fun x2_2 x3_2 G_1 => inR x2_2 → inR x3_2 → GR G_1 → AW κ δ ρ0 (szF nn) 12 0 0 47 [some (vr 0), some (vr (strB + 60)), some (vi x2_2), some (vi x3_2), none, none, none, none, none, none, none, none] [] (SF nn) G_1) (fun k_2 hk_2 x2_2 x3_2 G_1 h h_x2_2 h_x3_2 hG_1 => ?_) _ _ _ h h_x2_1 (by decide) hG
    refine a_iload_n (pc := 47) X9 dL_cards_47 rfl rfl ?_
    refine a_bipush (pc := 48) X9 dL_cards_48 rfl ?_
    refine a_icmp_ge (pc := 50) (tgt := 177) X9 dL_cards_50 rfl h_x3_2 (by decide) (fun c => ?_) (fun c => ?_)
    · have c_2 := c
      have h := h.1 c_2
      refine a_iconst (pc := 177) X9 dL_cards_177 ?_
      refine a_istore_n (pc := 178) X9 dL_cards_178 rfl (Nat.le_of_ble_eq_true rfl) rfl rfl ?_
      refine a_iconst (pc := 179) X9 dL_cards_179 ?_
      refine a_istore (pc := 180) X9 dL_cards_180 (Nat.le_of_ble_eq_true rfl) rfl rfl ?_
      refine a_iconst (pc := 182) X9 dL_cards_182 ?_
      refine a_istore (pc := 183) X9 dL_cards_183 (Nat.le_of_ble_eq_true rfl) rfl rfl ?_
      refine loopM3 (A := fun x3_3 x4_1 x5_1 => inR x3_3 → inR x4_1 → inR x5_1 → AW κ δ ρ0 (szF nn) 12 0 0 185 [some (vr 0), some (vr (strB + 60)), some (vi x2_2), some (vi x3_3), some (vi x4_1), some (vi x5_1), none, none, none, none, none, none] [] (SF nn) G_1) (fun k_3 hk_3 x3_3 x4_1 x5_1 h h_x3_3 h_x4_1 h_x5_1 => ?_) _ _ _ h (by decide) (by decide) (by decide)
      refine a_iload (pc := 185) X9 dL_cards_185 rfl ?_
      refine a_aload_n (pc := 187) X9 dL_cards_187 rfl rfl ?_
      refine a_iconst (pc := 188) X9 dL_cards_188 ?_
      refine a_callV (pc := 189) X9 E (m_X9_size (show inR 0 by decide) hnn h) okX9 (is9 hnn) wM_L_76 w_instanceMethod_X9_size w_selects_X9_size w_initialized_RX9 w_code_X9_size cp_X9_size pn_X9_size rfl (Nat.le_of_ble_eq_true rfl) ⟨Nat.le_of_ble_eq_true rfl, Nat.le_of_ble_eq_true rfl⟩ ⟨Nat.le_of_ble_eq_true rfl, Nat.le_of_ble_eq_true rfl⟩ dL_cards_189 (fun _ _ q => False.elim q) (kIp (fun r_2 hr_2 h => ?_))
      refine a_icmp_ge (pc := 192) (tgt := 409) X9 dL_cards_192 rfl h_x5_1 hr_2 (fun c => ?_) (fun c => ?_)
      · have c_3 := c
        have h := h.1 c_3
        refine a_iload_n (pc := 409) X9 dL_cards_409 rfl rfl ?_
        refine a_aload_n (pc := 410) X9 dL_cards_410 rfl rfl ?_
        refine a_bipush (pc := 411) X9 dL_cards_411 rfl ?_
        refine a_callV (pc := 413) X9 E (m_X9_size (show inR 9 by decide) hnn h) okX9 (is9 hnn) wM_L_76 w_instanceMethod_X9_size w_selects_X9_size w_initialized_RX9 w_code_X9_size cp_X9_size pn_X9_size rfl (Nat.le_of_ble_eq_true rfl) ⟨Nat.le_of_ble_eq_true rfl, Nat.le_of_ble_eq_true rfl⟩ ⟨Nat.le_of_ble_eq_true rfl, Nat.le_of_ble_eq_true rfl⟩ dL_cards_413 (fun _ _ q => False.elim q) (kIp (fun r_3 hr_3 h => ?_))
        refine a_icmp_ne (pc := 416) (tgt := 437) X9 dL_cards_416 rfl h_x3_3 hr_3 (fun c => ?_) (fun c => ?_)
        · have c_5 := c
          have h := h.1 c_5
          refine a_iconst (pc := 437) X9 dL_cards_437 ?_
          exact a_ireturn (pc := 438) X9 E rfl (fit_bool (Or.inl rfl)).1 (Nat.le_of_ble_eq_true rfl) (Nat.le_of_ble_eq_true rfl) dL_cards_438 ⟨rfl, _, rfl, (Or.inl rfl), h⟩
        · have c_5 := c
          have h := h.2 c_5
          refine a_iload_n (pc := 419) X9 dL_cards_419 rfl rfl ?_
          refine a_iload_n (pc := 420) X9 dL_cards_420 rfl rfl ?_
          refine a_icmp_ne (pc := 421) (tgt := 437) X9 dL_cards_421 rfl h_x2_2 h_x3_3 (fun c => ?_) (fun c => ?_)
          · have c_7 := c
            have h := h.1 c_7
            refine a_iconst (pc := 437) X9 dL_cards_437 ?_
            exact a_ireturn (pc := 438) X9 E rfl (fit_bool (Or.inl rfl)).1 (Nat.le_of_ble_eq_true rfl) (Nat.le_of_ble_eq_true rfl) dL_cards_438 ⟨rfl, _, rfl, (Or.inl rfl), h⟩
          · have c_7 := c
            have h := h.2 c_7
            refine a_aload_n (pc := 424) X9 dL_cards_424 rfl rfl ?_
            refine a_callV (pc := 425) X9 E (m_X9_holes  hnn h) okX9 (is9 hnn) wM_L_161 w_instanceMethod_X9_holes w_selects_X9_holes w_initialized_RX9 w_code_X9_holes cp_X9_holes pn_X9_holes rfl (Nat.le_of_ble_eq_true rfl) ⟨Nat.le_of_ble_eq_true rfl, Nat.le_of_ble_eq_true rfl⟩ ⟨Nat.le_of_ble_eq_true rfl, Nat.le_of_ble_eq_true rfl⟩ dL_cards_425 (fun _ _ q => False.elim q) (kIp (fun r_4 hr_4 h => ?_))
            refine a_iload (pc := 428) X9 dL_cards_428 rfl ?_
            refine a_icmp_ne (pc := 430) (tgt := 437) X9 dL_cards_430 rfl hr_4 h_x4_1 (fun c => ?_) (fun c => ?_)
            · have c_8 := c
              have h := h.1 c_8
              refine a_iconst (pc := 437) X9 dL_cards_437 ?_
              exact a_ireturn (pc := 438) X9 E rfl (fit_bool (Or.inl rfl)).1 (Nat.le_of_ble_eq_true rfl) (Nat.le_of_ble_eq_true rfl) dL_cards_438 ⟨rfl, _, rfl, (Or.inl rfl), h⟩
            · have c_8 := c
              have h := h.2 c_8
              refine a_iconst (pc := 433) X9 dL_cards_433 ?_
              refine a_goto (pc := 434) (tgt := 438) X9 dL_cards_434 rfl ?_
              exact a_ireturn (pc := 438) X9 E rfl (fit_bool (Or.inr rfl)).1 (Nat.le_of_ble_eq_true rfl) (Nat.le_of_ble_eq_true rfl) dL_cards_438 ⟨rfl, _, rfl, (Or.inr rfl), h⟩
      · have c_3 := c
        have h := h.2 c_3
        refine a_iconst (pc := 195) X9 dL_cards_195 ?_
        refine a_istore (pc := 196) X9 dL_cards_196 (Nat.le_of_ble_eq_true rfl) rfl rfl ?_
        refine loopM3 (A := fun x3_4 x4_2 x6_1 => inR x3_4 → inR x4_2 → inR x6_1 → AW κ δ ρ0 (szF nn) 12 0 0 198 [some (vr 0), some (vr (strB + 60)), some (vi x2_2), some (vi x3_4), some (vi x4_2), some (vi x5_1), some (vi x6_1), none, none, none, none, none] [] (SF nn) G_1) (fun k_4 hk_4 x3_4 x4_2 x6_1 h h_x3_4 h_x4_2 h_x6_1 => ?_) _ _ _ h h_x3_3 h_x4_1 (by decide)
        refine a_iload (pc := 198) X9 dL_cards_198 rfl ?_
        refine a_aload_n (pc := 200) X9 dL_cards_200 rfl rfl ?_
        refine a_iload (pc := 201) X9 dL_cards_201 rfl ?_
        refine a_callV (pc := 203) X9 E (m_X9_rows h_x5_1 hnn h) okX9 (is9 hnn) wM_L_136 w_instanceMethod_X9_rows w_selects_X9_rows w_initialized_RX9 w_code_X9_rows cp_X9_rows pn_X9_rows rfl (Nat.le_of_ble_eq_true rfl) ⟨Nat.le_of_ble_eq_true rfl, Nat.le_of_ble_eq_true rfl⟩ ⟨Nat.le_of_ble_eq_true rfl, Nat.le_of_ble_eq_true rfl⟩ dL_cards_203 (fun _ _ q => False.elim q) (kIp (fun r_5 hr_5 h => ?_))
        refine a_icmp_ge (pc := 206) (tgt := 403) X9 dL_cards_206 rfl h_x6_1 hr_5 (fun c => ?_) (fun c => ?_)
        · have c_9 := c
          have h := h.1 c_9
          refine a_iinc (pc := 403) X9 dL_cards_403 rfl (Nat.le_of_ble_eq_true rfl) rfl rfl ?_
          refine a_goto (pc := 406) (tgt := 185) X9 dL_cards_406 rfl ?_
          have q_1 : inR (r_2) := hr_2
          have q_2 : inR (x5_1) := h_x5_1
          have g_1 : inR ((x5_1 + 1)) := ⟨by omega, by omega⟩
          refine AW.drop 6 rfl ?_
          exact hk_3 _ _ _ h h_x3_4 h_x4_2 g_1
        · have c_9 := c
          have h := h.2 c_9
          refine a_aload_n (pc := 209) X9 dL_cards_209 rfl rfl ?_
          refine a_iload (pc := 210) X9 dL_cards_210 rfl ?_
          refine a_iload (pc := 212) X9 dL_cards_212 rfl ?_
          refine a_callV (pc := 214) X9 E (m_X9_hung h_x5_1 h_x6_1 hnn h) okX9 (is9 hnn) wM_L_139 w_instanceMethod_X9_hung w_selects_X9_hung w_initialized_RX9 w_code_X9_hung cp_X9_hung pn_X9_hung rfl (Nat.le_of_ble_eq_true rfl) ⟨Nat.le_of_ble_eq_true rfl, Nat.le_of_ble_eq_true rfl⟩ ⟨Nat.le_of_ble_eq_true rfl, Nat.le_of_ble_eq_true rfl⟩ dL_cards_214 (fun _ _ q => False.elim q) (kIp (fun r_6 hr_6 h => ?_))
          refine a_istore (pc := 217) X9 dL_cards_217 (Nat.le_of_ble_eq_true rfl) rfl rfl ?_
          refine a_iconst (pc := 219) X9 dL_cards_219 ?_
          refine a_istore (pc := 220) X9 dL_cards_220 (Nat.le_of_ble_eq_true rfl) rfl rfl ?_
          refine a_iconst (pc := 222) X9 dL_cards_222 ?_
          refine a_istore (pc := 223) X9 dL_cards_223 (Nat.le_of_ble_eq_true rfl) rfl rfl ?_
          refine loopM3 (A := fun x3_5 x8_1 x9_1 => inR x3_5 → inR x8_1 → inR x9_1 → AW κ δ ρ0 (szF nn) 12 0 0 225 [some (vr 0), some (vr (strB + 60)), some (vi x2_2), some (vi x3_5), some (vi x4_2), some (vi x5_1), some (vi x6_1), some (vi r_6), some (vi x8_1), some (vi x9_1), none, none] [] (SF nn) G_1) (fun k_5 hk_5 x3_5 x8_1 x9_1 h h_x3_5 h_x8_1 h_x9_1 => ?_) _ _ _ h h_x3_4 (by decide) (by decide)
          refine a_iload (pc := 225) X9 dL_cards_225 rfl ?_
          refine a_iconst (pc := 227) X9 dL_cards_227 ?_
          refine a_icmp_ge (pc := 228) (tgt := 382) X9 dL_cards_228 rfl h_x9_1 (by decide) (fun c => ?_) (fun c => ?_)
          · have c_10 := c
            have h := h.1 c_10
            refine a_iload (pc := 382) X9 dL_cards_382 rfl ?_
            refine a_iload (pc := 384) X9 dL_cards_384 rfl ?_
            refine a_if_eq (pc := 386) (tgt := 393) X9 dL_cards_386 rfl h_x8_1 (fun c => ?_) (fun c => ?_)
            · have c_11 := c
              have h := h.1 c_11
              refine a_iconst (pc := 393) X9 dL_cards_393 ?_
              refine a_iadd (pc := 394) X9 dL_cards_394 ?_
              refine a_istore (pc := 395) X9 dL_cards_395 (Nat.le_of_ble_eq_true rfl) rfl rfl ?_
              refine a_iinc (pc := 397) X9 dL_cards_397 rfl (Nat.le_of_ble_eq_true rfl) rfl rfl ?_
              refine a_goto (pc := 400) (tgt := 198) X9 dL_cards_400 rfl ?_
              obtain ⟨g_2, h⟩ := h
              have q_3 : inR (r_5) := hr_5
              have q_4 : inR (x6_1) := h_x6_1
              have g_3 : inR ((x6_1 + 1)) := ⟨by omega, by omega⟩
              refine AW.drop 7 rfl ?_
              refine AW.drop 8 rfl ?_
              refine AW.drop 9 rfl ?_
              exact hk_4 _ _ _ h h_x3_5 g_2 g_3
            · have c_11 := c
              have h := h.2 c_11
              refine a_iconst (pc := 389) X9 dL_cards_389 ?_
              refine a_goto (pc := 390) (tgt := 394) X9 dL_cards_390 rfl ?_
              refine a_iadd (pc := 394) X9 dL_cards_394 ?_
              refine a_istore (pc := 395) X9 dL_cards_395 (Nat.le_of_ble_eq_true rfl) rfl rfl ?_
              refine a_iinc (pc := 397) X9 dL_cards_397 rfl (Nat.le_of_ble_eq_true rfl) rfl rfl ?_
              refine a_goto (pc := 400) (tgt := 198) X9 dL_cards_400 rfl ?_
              obtain ⟨g_4, h⟩ := h
              have q_5 : inR (r_5) := hr_5
              have q_6 : inR (x6_1) := h_x6_1
              have g_5 : inR ((x6_1 + 1)) := ⟨by omega, by omega⟩
              refine AW.drop 7 rfl ?_
              refine AW.drop 8 rfl ?_
              refine AW.drop 9 rfl ?_
              exact hk_4 _ _ _ h h_x3_5 g_4 g_5
          · have c_10 := c
            have h := h.2 c_10
            refine a_aload_n (pc := 231) X9 dL_cards_231 rfl rfl ?_
            refine a_iload (pc := 232) X9 dL_cards_232 rfl ?_
            refine a_iload (pc := 234) X9 dL_cards_234 rfl ?_
            refine a_iload (pc := 236) X9 dL_cards_236 rfl ?_
            refine a_iconst (pc := 238) X9 dL_cards_238 ?_
            refine a_callV (pc := 239) X9 E (m_X9_place h_x5_1 h_x6_1 h_x9_1 (show inR 0 by decide) hnn h) okX9 (is9 hnn) wM_L_142 w_instanceMethod_X9_place w_selects_X9_place w_initialized_RX9 w_code_X9_place cp_X9_place pn_X9_place rfl (Nat.le_of_ble_eq_true rfl) ⟨Nat.le_of_ble_eq_true rfl, Nat.le_of_ble_eq_true rfl⟩ ⟨Nat.le_of_ble_eq_true rfl, Nat.le_of_ble_eq_true rfl⟩ dL_cards_239 (fun _ _ q => False.elim q) (kIp (fun r_7 hr_7 h => ?_))
            refine a_istore (pc := 242) X9 dL_cards_242 (Nat.le_of_ble_eq_true rfl) rfl rfl ?_
            refine a_iload (pc := 244) X9 dL_cards_244 rfl ?_
            refine joinM1 (A := fun v_1 => inR v_1 → AW κ δ ρ0 (szF nn) 12 0 0 273 [some (vr 0), some (vr (strB + 60)), some (vi x2_2), some (vi x3_5), some (vi x4_2), some (vi x5_1), some (vi x6_1), some (vi r_6), some (vi x8_1), some (vi x9_1), some (vi r_7), none] [vi v_1] (SF nn) G_1) (fun v_1 h h_v_1 => ?_) (fun j_1 hj_1 h => ?_) h
            · refine a_istore (pc := 273) X9 dL_cards_273 (Nat.le_of_ble_eq_true rfl) rfl rfl ?_
              refine a_iload_n (pc := 275) X9 dL_cards_275 rfl rfl ?_
              refine a_iload (pc := 276) X9 dL_cards_276 rfl ?_
              refine joinM1 (A := fun v_2 => (v_2 = 0 ∨ v_2 = 1) → AW κ δ ρ0 (szF nn) 12 0 0 286 [some (vr 0), some (vr (strB + 60)), some (vi x2_2), some (vi x3_5), some (vi x4_2), some (vi x5_1), some (vi x6_1), some (vi r_6), some (vi x8_1), some (vi x9_1), some (vi r_7), some (vi v_1)] [vi v_2, vi x3_5] (SF nn) G_1) (fun v_2 h h_v_2 => ?_) (fun j_2 hj_2 h => ?_) h
              · refine a_iadd (pc := 286) X9 dL_cards_286 ?_
                refine a_istore_n (pc := 287) X9 dL_cards_287 rfl (Nat.le_of_ble_eq_true rfl) rfl rfl ?_
                refine a_iload (pc := 288) X9 dL_cards_288 rfl ?_
                refine joinM0 (A := (AW κ δ ρ0 (szF nn) 12 0 0 315 [some (vr 0), some (vr (strB + 60)), some (vi x2_2), some (vi (x3_5 + v_2)), some (vi x4_2), some (vi x5_1), some (vi x6_1), some (vi r_6), some (vi x8_1), some (vi x9_1), some (vi r_7), some (vi v_1)] [] (SF nn) G_1)) (fun h => ?_) (fun j_3 hj_3 h => ?_) h
                · refine a_iload (pc := 315) X9 dL_cards_315 rfl ?_
                  refine joinM1 (A := fun v_3 => (v_3 = 0 ∨ v_3 = 1) → AW κ δ ρ0 (szF nn) 12 0 0 325 [some (vr 0), some (vr (strB + 60)), some (vi x2_2), some (vi (x3_5 + v_2)), some (vi x4_2), some (vi x5_1), some (vi x6_1), some (vi r_6), some (vi x8_1), some (vi x9_1), some (vi r_7), some (vi v_1)] [vi v_3] (SF nn) G_1) (fun v_3 h h_v_3 => ?_) (fun j_4 hj_4 h => ?_) h
                  · refine a_aload_n (pc := 325) X9 dL_cards_325 rfl rfl ?_
                    refine a_iload (pc := 326) X9 dL_cards_326 rfl ?_
                    refine a_iload (pc := 328) X9 dL_cards_328 rfl ?_
                    refine a_iload (pc := 330) X9 dL_cards_330 rfl ?_
                    refine a_iconst (pc := 332) X9 dL_cards_332 ?_
                    refine a_callV (pc := 333) X9 E (m_X9_place h_x5_1 h_x6_1 h_x9_1 (show inR 1 by decide) hnn h) okX9 (is9 hnn) wM_L_142 w_instanceMethod_X9_place w_selects_X9_place w_initialized_RX9 w_code_X9_place cp_X9_place pn_X9_place rfl (Nat.le_of_ble_eq_true rfl) ⟨Nat.le_of_ble_eq_true rfl, Nat.le_of_ble_eq_true rfl⟩ ⟨Nat.le_of_ble_eq_true rfl, Nat.le_of_ble_eq_true rfl⟩ dL_cards_333 (fun _ _ q => False.elim q) (kIp (fun r_8 hr_8 h => ?_))
                    refine joinM1 (A := fun v_4 => (v_4 = 0 ∨ v_4 = 1) → AW κ δ ρ0 (szF nn) 12 0 0 344 [some (vr 0), some (vr (strB + 60)), some (vi x2_2), some (vi (x3_5 + v_2)), some (vi x4_2), some (vi x5_1), some (vi x6_1), some (vi r_6), some (vi x8_1), some (vi x9_1), some (vi r_7), some (vi v_1)] [vi v_4, vi v_3] (SF nn) G_1) (fun v_4 h h_v_4 => ?_) (fun j_5 hj_5 h => ?_) h
                    · refine a_icmp_eq (pc := 344) (tgt := 349) X9 dL_cards_344 rfl (bool_inR h_v_3) (bool_inR h_v_4) (fun c => ?_) (fun c => ?_)
                      · have c_24 := c
                        have h := h.1 c_24
                        refine a_iload (pc := 349) X9 dL_cards_349 rfl ?_
                        refine a_if_ne (pc := 351) (tgt := 369) X9 dL_cards_351 rfl h_x8_1 (fun c => ?_) (fun c => ?_)
                        · have c_25 := c
                          have h := h.1 c_25
                          refine a_iconst (pc := 369) X9 dL_cards_369 ?_
                          refine a_goto (pc := 370) (tgt := 374) X9 dL_cards_370 rfl ?_
                          refine a_istore (pc := 374) X9 dL_cards_374 (Nat.le_of_ble_eq_true rfl) rfl rfl ?_
                          refine a_iinc (pc := 376) X9 dL_cards_376 rfl (Nat.le_of_ble_eq_true rfl) rfl rfl ?_
                          refine a_goto (pc := 379) (tgt := 225) X9 dL_cards_379 rfl ?_
                          obtain ⟨g_7, h⟩ := h
                          have q_7 : inR (x9_1) := h_x9_1
                          have g_8 : inR ((x9_1 + 1)) := ⟨by omega, by omega⟩
                          refine AW.drop 10 rfl ?_
                          refine AW.drop 11 rfl ?_
                          exact hk_5 _ _ _ h g_7 (by decide) g_8
                        · have c_25 := c
                          have h := h.2 c_25
                          refine a_iload (pc := 354) X9 dL_cards_354 rfl ?_
                          refine a_if_le (pc := 356) (tgt := 373) X9 dL_cards_356 rfl hr_6 (fun c => ?_) (fun c => ?_)
                          · have c_26 := c
                            have h := h.1 c_26
                            refine a_iconst (pc := 373) X9 dL_cards_373 ?_
                            refine a_istore (pc := 374) X9 dL_cards_374 (Nat.le_of_ble_eq_true rfl) rfl rfl ?_
                            refine a_iinc (pc := 376) X9 dL_cards_376 rfl (Nat.le_of_ble_eq_true rfl) rfl rfl ?_
                            refine a_goto (pc := 379) (tgt := 225) X9 dL_cards_379 rfl ?_
                            obtain ⟨g_9, h⟩ := h
                            have q_8 : inR (x9_1) := h_x9_1
                            have g_10 : inR ((x9_1 + 1)) := ⟨by omega, by omega⟩
                            refine AW.drop 10 rfl ?_
                            refine AW.drop 11 rfl ?_
                            exact hk_5 _ _ _ h g_9 (by decide) g_10
                          · have c_26 := c
                            have h := h.2 c_26
                            refine a_iload (pc := 359) X9 dL_cards_359 rfl ?_
                            refine a_if_le (pc := 361) (tgt := 373) X9 dL_cards_361 rfl h_v_1 (fun c => ?_) (fun c => ?_)
                            · have c_27 := c
                              have h := h.1 c_27
                              refine a_iconst (pc := 373) X9 dL_cards_373 ?_
                              refine a_istore (pc := 374) X9 dL_cards_374 (Nat.le_of_ble_eq_true rfl) rfl rfl ?_
                              refine a_iinc (pc := 376) X9 dL_cards_376 rfl (Nat.le_of_ble_eq_true rfl) rfl rfl ?_
                              refine a_goto (pc := 379) (tgt := 225) X9 dL_cards_379 rfl ?_
                              obtain ⟨g_11, h⟩ := h
                              have q_9 : inR (x9_1) := h_x9_1
                              have g_12 : inR ((x9_1 + 1)) := ⟨by omega, by omega⟩
                              refine AW.drop 10 rfl ?_
                              refine AW.drop 11 rfl ?_
                              exact hk_5 _ _ _ h g_11 (by decide) g_12
                            · have c_27 := c
                              have h := h.2 c_27
                              refine a_iload (pc := 364) X9 dL_cards_364 rfl ?_
                              refine a_if_ge (pc := 366) (tgt := 373) X9 dL_cards_366 rfl hr_7 (fun c => ?_) (fun c => ?_)
                              · have c_28 := c
                                have h := h.1 c_28
                                refine a_iconst (pc := 373) X9 dL_cards_373 ?_
                                refine a_istore (pc := 374) X9 dL_cards_374 (Nat.le_of_ble_eq_true rfl) rfl rfl ?_
                                refine a_iinc (pc := 376) X9 dL_cards_376 rfl (Nat.le_of_ble_eq_true rfl) rfl rfl ?_
                                refine a_goto (pc := 379) (tgt := 225) X9 dL_cards_379 rfl ?_
                                obtain ⟨g_13, h⟩ := h
                                have q_10 : inR (x9_1) := h_x9_1
                                have g_14 : inR ((x9_1 + 1)) := ⟨by omega, by omega⟩
                                refine AW.drop 10 rfl ?_
                                refine AW.drop 11 rfl ?_
                                exact hk_5 _ _ _ h g_13 (by decide) g_14
                              · have c_28 := c
                                have h := h.2 c_28
                                refine a_iconst (pc := 369) X9 dL_cards_369 ?_
                                refine a_goto (pc := 370) (tgt := 374) X9 dL_cards_370 rfl ?_
                                refine a_istore (pc := 374) X9 dL_cards_374 (Nat.le_of_ble_eq_true rfl) rfl rfl ?_
                                refine a_iinc (pc := 376) X9 dL_cards_376 rfl (Nat.le_of_ble_eq_true rfl) rfl rfl ?_
                                refine a_goto (pc := 379) (tgt := 225) X9 dL_cards_379 rfl ?_
                                obtain ⟨g_15, h⟩ := h
                                have q_11 : inR (x9_1) := h_x9_1
                                have g_16 : inR ((x9_1 + 1)) := ⟨by omega, by omega⟩
                                refine AW.drop 10 rfl ?_
                                refine AW.drop 11 rfl ?_
                                exact hk_5 _ _ _ h g_15 (by decide) g_16
                      · have c_24 := c
                        have h := h.2 c_24
                        refine a_iconst (pc := 347) X9 dL_cards_347 ?_
                        exact a_ireturn (pc := 348) X9 E rfl (fit_bool (Or.inl rfl)).1 (Nat.le_of_ble_eq_true rfl) (Nat.le_of_ble_eq_true rfl) dL_cards_348 ⟨rfl, _, rfl, (Or.inl rfl), h⟩
                    · refine a_if_ge (pc := 336) (tgt := 343) X9 dL_cards_336 rfl hr_8 (fun c => ?_) (fun c => ?_)
                      · have c_29 := c
                        have h := h.1 c_29
                        refine a_iconst (pc := 343) X9 dL_cards_343 ?_
                        exact hj_5 _ h (Or.inl rfl)
                      · have c_29 := c
                        have h := h.2 c_29
                        refine a_iconst (pc := 339) X9 dL_cards_339 ?_
                        refine a_goto (pc := 340) (tgt := 344) X9 dL_cards_340 rfl ?_
                        exact hj_5 _ h (Or.inr rfl)
                  · refine a_if_ge (pc := 317) (tgt := 324) X9 dL_cards_317 rfl hr_7 (fun c => ?_) (fun c => ?_)
                    · have c_30 := c
                      have h := h.1 c_30
                      refine a_iconst (pc := 324) X9 dL_cards_324 ?_
                      exact hj_4 _ h (Or.inl rfl)
                    · have c_30 := c
                      have h := h.2 c_30
                      refine a_iconst (pc := 320) X9 dL_cards_320 ?_
                      refine a_goto (pc := 321) (tgt := 325) X9 dL_cards_321 rfl ?_
                      exact hj_4 _ h (Or.inr rfl)
                · refine a_if_lt (pc := 290) (tgt := 315) X9 dL_cards_290 rfl hr_7 (fun c => ?_) (fun c => ?_)
                  · have c_31 := c
                    have h := h.1 c_31
                    exact hj_3 h
                  · have c_31 := c
                    have h := h.2 c_31
                    refine a_iload (pc := 293) X9 dL_cards_293 rfl ?_
                    refine a_iconst (pc := 295) X9 dL_cards_295 ?_
                    refine a_icmp_lt (pc := 296) (tgt := 347) X9 dL_cards_296 rfl hr_6 (by decide) (fun c => ?_) (fun c => ?_)
                    · have c_33 := c
                      have h := h.1 c_33
                      refine a_iconst (pc := 347) X9 dL_cards_347 ?_
                      exact a_ireturn (pc := 348) X9 E rfl (fit_bool (Or.inl rfl)).1 (Nat.le_of_ble_eq_true rfl) (Nat.le_of_ble_eq_true rfl) dL_cards_348 ⟨rfl, _, rfl, (Or.inl rfl), h⟩
                    · have c_33 := c
                      have h := h.2 c_33
                      refine a_iload (pc := 299) X9 dL_cards_299 rfl ?_
                      refine a_iconst (pc := 301) X9 dL_cards_301 ?_
                      refine a_icmp_lt (pc := 302) (tgt := 347) X9 dL_cards_302 rfl h_v_1 (by decide) (fun c => ?_) (fun c => ?_)
                      · have c_35 := c
                        have h := h.1 c_35
                        refine a_iconst (pc := 347) X9 dL_cards_347 ?_
                        exact a_ireturn (pc := 348) X9 E rfl (fit_bool (Or.inl rfl)).1 (Nat.le_of_ble_eq_true rfl) (Nat.le_of_ble_eq_true rfl) dL_cards_348 ⟨rfl, _, rfl, (Or.inl rfl), h⟩
                      · have c_35 := c
                        have h := h.2 c_35
                        refine a_iload (pc := 305) X9 dL_cards_305 rfl ?_
                        refine a_iload (pc := 307) X9 dL_cards_307 rfl ?_
                        refine a_bipush (pc := 309) X9 dL_cards_309 rfl ?_
                        obtain ⟨g_17, h⟩ := h
                        refine a_irem (pc := 311) X9 dL_cards_311 ⟨g_17, h_v_1.2⟩ ⟨(by decide), (by decide)⟩ ?_
                        refine a_icmp_ne (pc := 312) (tgt := 347) X9 dL_cards_312 rfl hr_7 (inR_mod g_17 (by decide) (by decide)) (fun c => ?_) (fun c => ?_)
                        · have c_36 := c
                          have h := h.1 c_36
                          refine a_iconst (pc := 347) X9 dL_cards_347 ?_
                          exact a_ireturn (pc := 348) X9 E rfl (fit_bool (Or.inl rfl)).1 (Nat.le_of_ble_eq_true rfl) (Nat.le_of_ble_eq_true rfl) dL_cards_348 ⟨rfl, _, rfl, (Or.inl rfl), h⟩
                        · have c_36 := c
                          have h := h.2 c_36
                          exact hj_3 h
              · refine a_if_lt (pc := 278) (tgt := 285) X9 dL_cards_278 rfl hr_7 (fun c => ?_) (fun c => ?_)
                · have c_37 := c
                  have h := h.1 c_37
                  refine a_iconst (pc := 285) X9 dL_cards_285 ?_
                  exact hj_2 _ h (Or.inl rfl)
                · have c_37 := c
                  have h := h.2 c_37
                  refine a_iconst (pc := 281) X9 dL_cards_281 ?_
                  refine a_goto (pc := 282) (tgt := 286) X9 dL_cards_282 rfl ?_
                  exact hj_2 _ h (Or.inr rfl)
            · refine a_if_ne (pc := 246) (tgt := 257) X9 dL_cards_246 rfl h_x9_1 (fun c => ?_) (fun c => ?_)
              · have c_38 := c
                have h := h.1 c_38
                refine a_iload (pc := 257) X9 dL_cards_257 rfl ?_
                refine a_iconst (pc := 259) X9 dL_cards_259 ?_
                refine a_icmp_ne (pc := 260) (tgt := 271) X9 dL_cards_260 rfl h_x9_1 (by decide) (fun c => ?_) (fun c => ?_)
                · have c_39 := c
                  have h := h.1 c_39
                  refine a_iload (pc := 271) X9 dL_cards_271 rfl ?_
                  exact hj_1 _ h hr_6
                · have c_39 := c
                  have h := h.2 c_39
                  refine a_iload (pc := 263) X9 dL_cards_263 rfl ?_
                  refine a_bipush (pc := 265) X9 dL_cards_265 rfl ?_
                  refine a_idivS (pc := 267) X9 dL_cards_267 hr_6 (by decide) ?_
                  refine a_goto (pc := 268) (tgt := 273) X9 dL_cards_268 rfl ?_
                  exact hj_1 _ h (inR_tdiv hr_6 (by decide))
              · have c_38 := c
                have h := h.2 c_38
                refine a_iload (pc := 249) X9 dL_cards_249 rfl ?_
                refine a_bipush (pc := 251) X9 dL_cards_251 rfl ?_
                refine a_idivS (pc := 253) X9 dL_cards_253 hr_6 (by decide) ?_
                refine a_goto (pc := 254) (tgt := 273) X9 dL_cards_254 rfl ?_
                exact hj_1 _ h (inR_tdiv hr_6 (by decide))
    · have c_2 := c
      have h := h.2 c_2
      refine a_iload_n (pc := 53) X9 dL_cards_53 rfl rfl ?_
      refine a_aload_n (pc := 54) X9 dL_cards_54 rfl rfl ?_
      refine a_bipush (pc := 55) X9 dL_cards_55 rfl ?_
      refine a_iload_n (pc := 57) X9 dL_cards_57 rfl rfl ?_
      refine a_iadd (pc := 58) X9 dL_cards_58 ?_
      refine a_iconst (pc := 59) X9 dL_cards_59 ?_
      obtain ⟨g_18, h⟩ := h
      refine a_callV (pc := 60) X9 E (m_X9_card g_18 (show inR 3 by decide) hnn h) okX9 (is9 hnn) wM_L_125 w_instanceMethod_X9_card w_selects_X9_card w_initialized_RX9 w_code_X9_card cp_X9_card pn_X9_card rfl (Nat.le_of_ble_eq_true rfl) ⟨Nat.le_of_ble_eq_true rfl, Nat.le_of_ble_eq_true rfl⟩ ⟨Nat.le_of_ble_eq_true rfl, Nat.le_of_ble_eq_true rfl⟩ dL_cards_60 (fun _ _ q => False.elim q) (kIp (fun r_9 hr_9 h => ?_))
      refine a_iadd (pc := 63) X9 dL_cards_63 ?_
      refine a_istore_n (pc := 64) X9 dL_cards_64 rfl (Nat.le_of_ble_eq_true rfl) rfl rfl ?_
      refine a_aload_n (pc := 65) X9 dL_cards_65 rfl rfl ?_
      refine a_bipush (pc := 66) X9 dL_cards_66 rfl ?_
      refine a_iload_n (pc := 68) X9 dL_cards_68 rfl rfl ?_
      refine a_iadd (pc := 69) X9 dL_cards_69 ?_
      refine a_iconst (pc := 70) X9 dL_cards_70 ?_
      refine a_callV (pc := 71) X9 E (m_X9_card g_18 (show inR 3 by decide) hnn h) okX9 (is9 hnn) wM_L_125 w_instanceMethod_X9_card w_selects_X9_card w_initialized_RX9 w_code_X9_card cp_X9_card pn_X9_card rfl (Nat.le_of_ble_eq_true rfl) ⟨Nat.le_of_ble_eq_true rfl, Nat.le_of_ble_eq_true rfl⟩ ⟨Nat.le_of_ble_eq_true rfl, Nat.le_of_ble_eq_true rfl⟩ dL_cards_71 (fun _ _ q => False.elim q) (kIp (fun r_10 hr_10 h => ?_))
      refine a_aload_n (pc := 74) X9 dL_cards_74 rfl rfl ?_
      refine a_bipush (pc := 75) X9 dL_cards_75 rfl ?_
      refine a_iload_n (pc := 77) X9 dL_cards_77 rfl rfl ?_
      refine a_iadd (pc := 78) X9 dL_cards_78 ?_
      refine a_iconst (pc := 79) X9 dL_cards_79 ?_
      refine a_callV (pc := 80) X9 E (m_X9_card g_18 (show inR 2 by decide) hnn h) okX9 (is9 hnn) wM_L_125 w_instanceMethod_X9_card w_selects_X9_card w_initialized_RX9 w_code_X9_card cp_X9_card pn_X9_card rfl (Nat.le_of_ble_eq_true rfl) ⟨Nat.le_of_ble_eq_true rfl, Nat.le_of_ble_eq_true rfl⟩ ⟨Nat.le_of_ble_eq_true rfl, Nat.le_of_ble_eq_true rfl⟩ dL_cards_80 (fun _ _ q => False.elim q) (kIp (fun r_11 hr_11 h => ?_))
      refine a_icmp_gt (pc := 83) (tgt := 169) X9 dL_cards_83 rfl hr_10 hr_11 (fun c => ?_) (fun c => ?_)
      · have c_41 := c
        have h := h.1 c_41
        refine a_iconst (pc := 169) X9 dL_cards_169 ?_
        exact a_ireturn (pc := 170) X9 E rfl (fit_bool (Or.inl rfl)).1 (Nat.le_of_ble_eq_true rfl) (Nat.le_of_ble_eq_true rfl) dL_cards_170 ⟨rfl, _, rfl, (Or.inl rfl), h⟩
      · have c_41 := c
        have h := h.2 c_41
        refine a_aload_n (pc := 86) X9 dL_cards_86 rfl rfl ?_
        refine a_iconst (pc := 87) X9 dL_cards_87 ?_
        refine a_iload_n (pc := 88) X9 dL_cards_88 rfl rfl ?_
        refine a_callV (pc := 89) X9 E (m_X9_lends (show inR 0 by decide) h_x3_2 hnn h) okX9 (is9 hnn) wM_L_130 w_instanceMethod_X9_lends w_selects_X9_lends w_initialized_RX9 w_code_X9_lends cp_X9_lends pn_X9_lends rfl (Nat.le_of_ble_eq_true rfl) ⟨Nat.le_of_ble_eq_true rfl, Nat.le_of_ble_eq_true rfl⟩ ⟨Nat.le_of_ble_eq_true rfl, Nat.le_of_ble_eq_true rfl⟩ dL_cards_89 (fun _ _ q => False.elim q) (kIp (fun r_12 hr_12 h => ?_))
        refine a_aload_n (pc := 92) X9 dL_cards_92 rfl rfl ?_
        refine a_bipush (pc := 93) X9 dL_cards_93 rfl ?_
        refine a_iload_n (pc := 95) X9 dL_cards_95 rfl rfl ?_
        refine a_iadd (pc := 96) X9 dL_cards_96 ?_
        refine a_iconst (pc := 97) X9 dL_cards_97 ?_
        refine a_callV (pc := 98) X9 E (m_X9_card g_18 (show inR 2 by decide) hnn h) okX9 (is9 hnn) wM_L_125 w_instanceMethod_X9_card w_selects_X9_card w_initialized_RX9 w_code_X9_card cp_X9_card pn_X9_card rfl (Nat.le_of_ble_eq_true rfl) ⟨Nat.le_of_ble_eq_true rfl, Nat.le_of_ble_eq_true rfl⟩ ⟨Nat.le_of_ble_eq_true rfl, Nat.le_of_ble_eq_true rfl⟩ dL_cards_98 (fun _ _ q => False.elim q) (kIp (fun r_13 hr_13 h => ?_))
        refine a_iadd (pc := 101) X9 dL_cards_101 ?_
        refine a_aload_n (pc := 102) X9 dL_cards_102 rfl rfl ?_
        refine a_bipush (pc := 103) X9 dL_cards_103 rfl ?_
        refine a_iload_n (pc := 105) X9 dL_cards_105 rfl rfl ?_
        refine a_iadd (pc := 106) X9 dL_cards_106 ?_
        obtain ⟨g_19, h⟩ := h
        refine a_callSL (pc := 107) X9 E hsc (m_L_cell g_19 hnn h) wM_L_40 w_static_L_cell w_initialized_RL w_code_L_cell cpL_cell pnL_cell rfl (Nat.le_of_ble_eq_true rfl) ⟨Nat.le_of_ble_eq_true rfl, Nat.le_of_ble_eq_true rfl⟩ ⟨Nat.le_of_ble_eq_true rfl, Nat.le_of_ble_eq_true rfl⟩ dL_cards_107 (fun _ _ q => False.elim q) (kIp (fun r_14 hr_14 h => ?_))
        refine a_iconst (pc := 110) X9 dL_cards_110 ?_
        obtain ⟨g_20, h⟩ := h
        refine a_irem (pc := 111) X9 dL_cards_111 ⟨g_20, hr_14.2⟩ ⟨(by decide), (by decide)⟩ ?_
        obtain ⟨g_22, h⟩ := h
        refine a_icmp_ne (pc := 112) (tgt := 169) X9 dL_cards_112 rfl g_22 (inR_mod g_20 (by decide) (by decide)) (fun c => ?_) (fun c => ?_)
        · have c_43 := c
          have h := h.1 c_43
          refine a_iconst (pc := 169) X9 dL_cards_169 ?_
          exact a_ireturn (pc := 170) X9 E rfl (fit_bool (Or.inl rfl)).1 (Nat.le_of_ble_eq_true rfl) (Nat.le_of_ble_eq_true rfl) dL_cards_170 ⟨rfl, _, rfl, (Or.inl rfl), h⟩
        · have c_43 := c
          have h := h.2 c_43
          refine a_aload_n (pc := 115) X9 dL_cards_115 rfl rfl ?_
          refine a_iload_n (pc := 116) X9 dL_cards_116 rfl rfl ?_
          refine a_callV (pc := 117) X9 E (m_X9_free h_x3_2 hnn h) okX9 (is9 hnn) wM_L_151 w_instanceMethod_X9_free w_selects_X9_free w_initialized_RX9 w_code_X9_free cp_X9_free pn_X9_free rfl (Nat.le_of_ble_eq_true rfl) ⟨Nat.le_of_ble_eq_true rfl, Nat.le_of_ble_eq_true rfl⟩ ⟨Nat.le_of_ble_eq_true rfl, Nat.le_of_ble_eq_true rfl⟩ dL_cards_117 (fun _ _ q => False.elim q) (kIp (fun r_15 hr_15 h => ?_))
          refine a_aload_n (pc := 120) X9 dL_cards_120 rfl rfl ?_
          refine a_iload_n (pc := 121) X9 dL_cards_121 rfl rfl ?_
          refine a_callV (pc := 122) X9 E (m_X9_most h_x3_2 hnn h) okX9 (is9 hnn) wM_L_154 w_instanceMethod_X9_most w_selects_X9_most w_initialized_RX9 w_code_X9_most cp_X9_most pn_X9_most rfl (Nat.le_of_ble_eq_true rfl) ⟨Nat.le_of_ble_eq_true rfl, Nat.le_of_ble_eq_true rfl⟩ ⟨Nat.le_of_ble_eq_true rfl, Nat.le_of_ble_eq_true rfl⟩ dL_cards_122 (fun _ _ q => False.elim q) (kIp (fun r_16 hr_16 h => ?_))
          refine a_icmp_gt (pc := 125) (tgt := 169) X9 dL_cards_125 rfl hr_15 hr_16 (fun c => ?_) (fun c => ?_)
          · have c_45 := c
            have h := h.1 c_45
            refine a_iconst (pc := 169) X9 dL_cards_169 ?_
            exact a_ireturn (pc := 170) X9 E rfl (fit_bool (Or.inl rfl)).1 (Nat.le_of_ble_eq_true rfl) (Nat.le_of_ble_eq_true rfl) dL_cards_170 ⟨rfl, _, rfl, (Or.inl rfl), h⟩
          · have c_45 := c
            have h := h.2 c_45
            refine a_aload_n (pc := 128) X9 dL_cards_128 rfl rfl ?_
            refine a_iload_n (pc := 129) X9 dL_cards_129 rfl rfl ?_
            refine a_callV (pc := 130) X9 E (m_X9_free h_x3_2 hnn h) okX9 (is9 hnn) wM_L_151 w_instanceMethod_X9_free w_selects_X9_free w_initialized_RX9 w_code_X9_free cp_X9_free pn_X9_free rfl (Nat.le_of_ble_eq_true rfl) ⟨Nat.le_of_ble_eq_true rfl, Nat.le_of_ble_eq_true rfl⟩ ⟨Nat.le_of_ble_eq_true rfl, Nat.le_of_ble_eq_true rfl⟩ dL_cards_130 (fun _ _ q => False.elim q) (kIp (fun r_17 hr_17 h => ?_))
            refine joinM1 (A := fun v_5 => (v_5 = 0 ∨ v_5 = 1) → AW κ δ ρ0 (szF nn) 12 0 0 141 [some (vr 0), some (vr (strB + 60)), some (vi (x2_2 + r_9)), some (vi x3_2), none, none, none, none, none, none, none, none] [vi v_5] (SF nn) G_1) (fun v_5 h h_v_5 => ?_) (fun j_6 hj_6 h => ?_) h
            · refine a_iload_n (pc := 141) X9 dL_cards_141 rfl rfl ?_
              refine joinM2 (A := fun v_6 G_3 => (v_6 = 0 ∨ v_6 = 1) → GR G_3 → AW κ δ ρ0 (szF nn) 12 0 0 166 [some (vr 0), some (vr (strB + 60)), some (vi (x2_2 + r_9)), some (vi x3_2), none, none, none, none, none, none, none, none] [vi v_6, vi v_5] (SF nn) G_3) (fun v_6 G_3 h h_v_6 hG_3 => ?_) (fun j_7 hj_7 h => ?_) h
              · refine a_icmp_eq (pc := 166) (tgt := 171) X9 dL_cards_166 rfl (bool_inR h_v_5) (bool_inR h_v_6) (fun c => ?_) (fun c => ?_)
                · have c_49 := c
                  have h := h.1 c_49
                  refine a_iinc (pc := 171) X9 dL_cards_171 rfl (Nat.le_of_ble_eq_true rfl) rfl rfl ?_
                  refine a_goto (pc := 174) (tgt := 47) X9 dL_cards_174 rfl ?_
                  obtain ⟨g_23, h⟩ := h
                  have q_12 : inR (x3_2) := h_x3_2
                  have g_24 : inR ((x3_2 + 1)) := ⟨by omega, by omega⟩
                  exact hk_2 _ _ _ h g_23 g_24 hG_3
                · have c_49 := c
                  have h := h.2 c_49
                  refine a_iconst (pc := 169) X9 dL_cards_169 ?_
                  exact a_ireturn (pc := 170) X9 E rfl (fit_bool (Or.inl rfl)).1 (Nat.le_of_ble_eq_true rfl) (Nat.le_of_ble_eq_true rfl) dL_cards_170 ⟨rfl, _, rfl, (Or.inl rfl), h⟩
              · refine a_if_ne (pc := 142) (tgt := 161) X9 dL_cards_142 rfl h_x3_2 (fun c => ?_) (fun c => ?_)
                · have c_50 := c
                  have h := h.1 c_50
                  refine a_aload_n (pc := 161) X9 dL_cards_161 rfl rfl ?_
                  refine a_iload_n (pc := 162) X9 dL_cards_162 rfl rfl ?_
                  refine a_callV (pc := 163) X9 E (m_X9_canShow h_x3_2 hnn h) okX9 (is9 hnn) wM_L_157 w_instanceMethod_X9_canShow w_selects_X9_canShow w_initialized_RX9 w_code_X9_canShow cp_X9_canShow pn_X9_canShow rfl (Nat.le_of_ble_eq_true rfl) ⟨Nat.le_of_ble_eq_true rfl, Nat.le_of_ble_eq_true rfl⟩ ⟨Nat.le_of_ble_eq_true rfl, Nat.le_of_ble_eq_true rfl⟩ dL_cards_163 (fun _ _ q => False.elim q) (kZ (fun r_20 G_4 hr_20 h hG_4 => ?_))
                  exact hj_7 _ _ h hr_20 hG_4
                · have c_50 := c
                  have h := h.2 c_50
                  refine a_aload_n (pc := 145) X9 dL_cards_145 rfl rfl ?_
                  refine a_iconst (pc := 146) X9 dL_cards_146 ?_
                  refine a_callV (pc := 147) X9 E (m_X9_free (show inR 0 by decide) hnn h) okX9 (is9 hnn) wM_L_151 w_instanceMethod_X9_free w_selects_X9_free w_initialized_RX9 w_code_X9_free cp_X9_free pn_X9_free rfl (Nat.le_of_ble_eq_true rfl) ⟨Nat.le_of_ble_eq_true rfl, Nat.le_of_ble_eq_true rfl⟩ ⟨Nat.le_of_ble_eq_true rfl, Nat.le_of_ble_eq_true rfl⟩ dL_cards_147 (fun _ _ q => False.elim q) (kIp (fun r_21 hr_21 h => ?_))
                  refine a_if_le (pc := 150) (tgt := 157) X9 dL_cards_150 rfl hr_21 (fun c => ?_) (fun c => ?_)
                  · have c_51 := c
                    have h := h.1 c_51
                    refine a_iconst (pc := 157) X9 dL_cards_157 ?_
                    refine a_goto (pc := 158) (tgt := 166) X9 dL_cards_158 rfl ?_
                    exact hj_7 _ _ h (Or.inl rfl) hG_1
                  · have c_51 := c
                    have h := h.2 c_51
                    refine a_iconst (pc := 153) X9 dL_cards_153 ?_
                    refine a_goto (pc := 154) (tgt := 166) X9 dL_cards_154 rfl ?_
                    exact hj_7 _ _ h (Or.inr rfl) hG_1
            · refine a_if_le (pc := 133) (tgt := 140) X9 dL_cards_133 rfl hr_17 (fun c => ?_) (fun c => ?_)
              · have c_52 := c
                have h := h.1 c_52
                refine a_iconst (pc := 140) X9 dL_cards_140 ?_
                exact hj_6 _ h (Or.inl rfl)
              · have c_52 := c
                have h := h.2 c_52
                refine a_iconst (pc := 136) X9 dL_cards_136 ?_
                refine a_goto (pc := 137) (tgt := 141) X9 dL_cards_137 rfl ?_
                exact hj_6 _ h (Or.inr rfl)
  · have c_1 := c
    have h := h.2 c_1
    refine a_iload_n (pc := 13) X9 dL_cards_13 rfl rfl ?_
    refine a_aload_n (pc := 14) X9 dL_cards_14 rfl rfl ?_
    refine a_iload_n (pc := 15) X9 dL_cards_15 rfl rfl ?_
    refine a_iconst (pc := 16) X9 dL_cards_16 ?_
    refine a_callV (pc := 17) X9 E (m_X9_card h_x3_1 (show inR 3 by decide) hnn h) okX9 (is9 hnn) wM_L_125 w_instanceMethod_X9_card w_selects_X9_card w_initialized_RX9 w_code_X9_card cp_X9_card pn_X9_card rfl (Nat.le_of_ble_eq_true rfl) ⟨Nat.le_of_ble_eq_true rfl, Nat.le_of_ble_eq_true rfl⟩ ⟨Nat.le_of_ble_eq_true rfl, Nat.le_of_ble_eq_true rfl⟩ dL_cards_17 (fun _ _ q => False.elim q) (kIp (fun r_22 hr_22 h => ?_))
    refine a_iadd (pc := 20) X9 dL_cards_20 ?_
    refine a_istore_n (pc := 21) X9 dL_cards_21 rfl (Nat.le_of_ble_eq_true rfl) rfl rfl ?_
    refine a_aload_n (pc := 22) X9 dL_cards_22 rfl rfl ?_
    refine a_iload_n (pc := 23) X9 dL_cards_23 rfl rfl ?_
    refine a_iconst (pc := 24) X9 dL_cards_24 ?_
    refine a_callV (pc := 25) X9 E (m_X9_card h_x3_1 (show inR 3 by decide) hnn h) okX9 (is9 hnn) wM_L_125 w_instanceMethod_X9_card w_selects_X9_card w_initialized_RX9 w_code_X9_card cp_X9_card pn_X9_card rfl (Nat.le_of_ble_eq_true rfl) ⟨Nat.le_of_ble_eq_true rfl, Nat.le_of_ble_eq_true rfl⟩ ⟨Nat.le_of_ble_eq_true rfl, Nat.le_of_ble_eq_true rfl⟩ dL_cards_25 (fun _ _ q => False.elim q) (kIp (fun r_23 hr_23 h => ?_))
    refine a_aload_n (pc := 28) X9 dL_cards_28 rfl rfl ?_
    refine a_iload_n (pc := 29) X9 dL_cards_29 rfl rfl ?_
    refine a_iconst (pc := 30) X9 dL_cards_30 ?_
    refine a_callV (pc := 31) X9 E (m_X9_card h_x3_1 (show inR 2 by decide) hnn h) okX9 (is9 hnn) wM_L_125 w_instanceMethod_X9_card w_selects_X9_card w_initialized_RX9 w_code_X9_card cp_X9_card pn_X9_card rfl (Nat.le_of_ble_eq_true rfl) ⟨Nat.le_of_ble_eq_true rfl, Nat.le_of_ble_eq_true rfl⟩ ⟨Nat.le_of_ble_eq_true rfl, Nat.le_of_ble_eq_true rfl⟩ dL_cards_31 (fun _ _ q => False.elim q) (kIp (fun r_24 hr_24 h => ?_))
    refine a_icmp_le (pc := 34) (tgt := 39) X9 dL_cards_34 rfl hr_23 hr_24 (fun c => ?_) (fun c => ?_)
    · have c_53 := c
      have h := h.1 c_53
      refine a_iinc (pc := 39) X9 dL_cards_39 rfl (Nat.le_of_ble_eq_true rfl) rfl rfl ?_
      refine a_goto (pc := 42) (tgt := 4) X9 dL_cards_42 rfl ?_
      obtain ⟨g_25, h⟩ := h
      have q_13 : inR (r_1) := hr_1
      have q_14 : inR (x3_1) := h_x3_1
      have g_26 : inR ((x3_1 + 1)) := ⟨by omega, by omega⟩
      exact hk_1 _ _ h g_25 g_26
    · have c_53 := c
      have h := h.2 c_53
      refine a_iconst (pc := 37) X9 dL_cards_37 ?_
      exact a_ireturn (pc := 38) X9 E rfl (fit_bool (Or.inl rfl)).1 (Nat.le_of_ble_eq_true rfl) (Nat.le_of_ble_eq_true rfl) dL_cards_38 ⟨rfl, _, rfl, (Or.inl rfl), h⟩
