theorem lc_L_law_22 : Cond.constantLong RL 22 (4294967295) ∈ wsL_law := by decide +kernel
set_option maxRecDepth 100000 in
set_option maxHeartbeats 8000000 in
theorem v_law_L18 {l : Launch} {D : va_G} {ad ad' : Nat → Nat} {ct : Nat → ClassId} {E : XE} {b L : Nat} {ss : Nat → Int32} (C : XFix D (tysF ct) (wL ad ad' ct) room_1 4 E code RL wsL_law) (hX : va_X b L ss (xs E) (xs E).heap) (hbl : b < (xs E).heap.size) (hbA : ¬ xA E b)
    (hR : ∀ (pc : Nat) (lv : List (Nat × Value)) (u : ST × ST), decode code pc = .ok (.ireturn, 1) → V l D (tysF ct) (wL ad ad' ct) room_1 4 E pc lv [.int 1] u) :
    ∀ (n : Nat) (x3 : Int32) (σ τ : ST), wp_law_L18 L ss n x3 σ τ → V l D (tysF ct) (wL ad ad' ct) room_1 4 E 18 [(0, .ref b), (1, .ref (ad 0)), (2, .ref (ad' 0)), (3, .int x3)] [] (σ, τ) := by
  intro n
  induction n with
  | zero => intro x3 σ τ h; exact (h : False).elim
  | succ n ih =>
    intro x3 σ τ h
    unfold wp_law_L18 at h
    refine x_iload_n C 19 rfl 3 dL_law_18 rfl rfl ?_
    refine x_aload_n C 20 rfl 0 dL_law_19 rfl rfl ?_
    refine x_slen C 21 rfl hX hbl hbA dL_law_20 ?_
    refine x_bipush C 23 rfl 6 dL_law_21 rfl ?_
    refine x_isub C 24 rfl dL_law_23 ?_
    refine x_icmp_gt C 840 27 dL_law_24 (by decide) rfl (fun c24 => ?_) (fun c24 => ?_)
    · have h := h.1 c24
      refine x_iconst C 841 rfl 1 dL_law_840 rfl ?_
      exact hR _ _ _ dL_law_841
    · have h := h.2 c24
      refine x_aload_n C 28 rfl 0 dL_law_27 rfl rfl ?_
      refine x_iload_n C 29 rfl 3 dL_law_28 rfl rfl ?_
      have i1 := h.1
      have h := h.2
      refine x_sld C 30 rfl hX hbl hbA i1 dL_law_29 ?_
      refine x_bipush C 32 rfl 31 dL_law_30 rfl ?_
      refine x_iand C 33 rfl dL_law_32 ?_
      by_cases t33_0 : ((ss (Int32.toNatClampNeg x3)) &&& 31) = 0
      · have h := h.1 t33_0
        refine x_top t33_0 ?_
        refine x_tsIn C 128 95 dL_law_33 (by decide) (by decide) (by decide) (by decide) ?_
        refine x_aload_n C 129 rfl 1 dL_law_128 rfl rfl ?_
        refine x_cVV C 132 rfl (CtV.in1 (wC_adr ad ct) (wM_adr ad' ct) (m_X4_clear l D ad ct _ _ h) _) (cwV 0 C.1.2.2.2.2 gL_law_X4_clear rfl rfl rfl (by decide +kernel) ⟨Nat.le_of_ble_eq_true rfl, Nat.le_of_ble_eq_true rfl⟩) ⟨0, 4, _, _, _, rfl, rfl⟩ rfl rfl (Nat.le_of_ble_eq_true rfl) dL_law_129 ?_
        intro  u h; obtain ⟨u1, u2⟩ := u; obtain ⟨h, e9⟩ := h; dsimp only at e9 h; subst e9
        refine x_aload_n C 133 rfl 2 dL_law_132 rfl rfl ?_
        refine x_cVV C 136 rfl (CtV.in2 (wC_adr ad ct) (wM_adr ad' ct) (m_X5_clear l D ad' ct _ _ h) _) (cwV 0 C.1.2.2.2.2 gL_law_X5_clear rfl rfl rfl (by decide +kernel) ⟨Nat.le_of_ble_eq_true rfl, Nat.le_of_ble_eq_true rfl⟩) ⟨50, 5, _, _, _, rfl, rfl⟩ rfl rfl (Nat.le_of_ble_eq_true rfl) dL_law_133 ?_
        intro  u h; obtain ⟨u1, u2⟩ := u; obtain ⟨h, e9⟩ := h; dsimp only at e9 h; subst e9
        refine x_goto C 834 dL_law_136 (by decide) ?_
        refine x_iinc C 837 rfl 3 (x3 + 6) [(3, .int (x3 + 6)), (0, .ref b), (1, .ref (ad 0)), (2, .ref (ad' 0))] dL_law_834 rfl rfl (by decide) rfl ?_
        refine x_goto C 18 dL_law_837 (by decide) ?_
        refine x_sub (lv' := [(0, .ref b), (1, .ref (ad 0)), (2, .ref (ad' 0)), (3, .int (x3 + 6))]) [1, 2, 3, 0] rfl ?_
        exact ih _ _ _ h
      · have h := h.2 t33_0
        by_cases t33_1 : ((ss (Int32.toNatClampNeg x3)) &&& 31) = 1
        · have h := h.1 t33_1
          refine x_top t33_1 ?_
          refine x_tsIn C 139 106 dL_law_33 (by decide) (by decide) (by decide) (by decide) ?_
          refine x_aload_n C 140 rfl 1 dL_law_139 rfl rfl ?_
          refine x_aload_n C 141 rfl 0 dL_law_140 rfl rfl ?_
          refine x_iload_n C 142 rfl 3 dL_law_141 rfl rfl ?_
          refine x_iconst C 143 rfl 1 dL_law_142 rfl ?_
          refine x_iadd C 144 rfl dL_law_143 ?_
          have i4 := h.1
          have h := h.2
          refine x_sld C 145 rfl hX hbl hbA i4 dL_law_144 ?_
          refine x_aload_n C 146 rfl 0 dL_law_145 rfl rfl ?_
          refine x_iload_n C 147 rfl 3 dL_law_146 rfl rfl ?_
          refine x_iconst C 148 rfl 2 dL_law_147 rfl ?_
          refine x_iadd C 149 rfl dL_law_148 ?_
          have i5 := h.1
          have h := h.2
          refine x_sld C 150 rfl hX hbl hbA i5 dL_law_149 ?_
          refine x_cVI C 153 rfl (CtI.in1 (wC_adr ad ct) (wM_adr ad' ct) (m_X4_thing l D ad ct _ _ _ _ h) _) (cwV 2 C.1.2.2.2.2 gL_law_X4_thing rfl rfl rfl (by decide +kernel) ⟨Nat.le_of_ble_eq_true rfl, Nat.le_of_ble_eq_true rfl⟩) ⟨0, 4, _, _, _, rfl, rfl⟩ rfl rfl (Nat.le_of_ble_eq_true rfl) dL_law_150 ?_
          intro r7 u h; obtain ⟨u1, u2⟩ := u; obtain ⟨h, e9⟩ := h; dsimp only at e9 h; subst e9
          refine x_aload_n C 154 rfl 2 dL_law_153 rfl rfl ?_
          refine x_aload_n C 155 rfl 0 dL_law_154 rfl rfl ?_
          refine x_iload_n C 156 rfl 3 dL_law_155 rfl rfl ?_
          refine x_iconst C 157 rfl 1 dL_law_156 rfl ?_
          refine x_iadd C 158 rfl dL_law_157 ?_
          refine x_sld C 159 rfl hX hbl hbA i4 dL_law_158 ?_
          refine x_aload_n C 160 rfl 0 dL_law_159 rfl rfl ?_
          refine x_iload_n C 161 rfl 3 dL_law_160 rfl rfl ?_
          refine x_iconst C 162 rfl 2 dL_law_161 rfl ?_
          refine x_iadd C 163 rfl dL_law_162 ?_
          refine x_sld C 164 rfl hX hbl hbA i5 dL_law_163 ?_
          refine x_cVI C 167 rfl (CtI.in2 (wC_adr ad ct) (wM_adr ad' ct) (m_X5_thing l D ad' ct _ _ _ _ h) _) (cwV 2 C.1.2.2.2.2 gL_law_X5_thing rfl rfl rfl (by decide +kernel) ⟨Nat.le_of_ble_eq_true rfl, Nat.le_of_ble_eq_true rfl⟩) ⟨50, 5, _, _, _, rfl, rfl⟩ rfl rfl (Nat.le_of_ble_eq_true rfl) dL_law_164 ?_
          intro r9 u h; obtain ⟨u1, u2⟩ := u; obtain ⟨h, e9⟩ := h; dsimp only at e9 h; subst e9
          refine x_icmp_eq C 834 170 dL_law_167 (by decide) rfl (fun c167 => ?_) (fun c167 => ?_)
          · have h := h.1 c167
            refine x_iinc C 837 rfl 3 (x3 + 6) [(3, .int (x3 + 6)), (0, .ref b), (1, .ref (ad 0)), (2, .ref (ad' 0))] dL_law_834 rfl rfl (by decide) rfl ?_
            refine x_goto C 18 dL_law_837 (by decide) ?_
            refine x_sub (lv' := [(0, .ref b), (1, .ref (ad 0)), (2, .ref (ad' 0)), (3, .int (x3 + 6))]) [1, 2, 3, 0] rfl ?_
            exact ih _ _ _ h
          · have h := h.2 c167
            refine x_iconst C 171 rfl 0 dL_law_170 rfl ?_
            exact h.elim
        · have h := h.2 t33_1
          by_cases t33_2 : ((ss (Int32.toNatClampNeg x3)) &&& 31) = 2
          · have h := h.1 t33_2
            refine x_top t33_2 ?_
            refine x_tsIn C 172 139 dL_law_33 (by decide) (by decide) (by decide) (by decide) ?_
            refine x_aload_n C 173 rfl 1 dL_law_172 rfl rfl ?_
            refine x_aload_n C 174 rfl 0 dL_law_173 rfl rfl ?_
            refine x_iload_n C 175 rfl 3 dL_law_174 rfl rfl ?_
            refine x_iconst C 176 rfl 1 dL_law_175 rfl ?_
            refine x_iadd C 177 rfl dL_law_176 ?_
            have i10 := h.1
            have h := h.2
            refine x_sld C 178 rfl hX hbl hbA i10 dL_law_177 ?_
            refine x_aload_n C 179 rfl 0 dL_law_178 rfl rfl ?_
            refine x_iload_n C 180 rfl 3 dL_law_179 rfl rfl ?_
            refine x_iconst C 181 rfl 2 dL_law_180 rfl ?_
            refine x_iadd C 182 rfl dL_law_181 ?_
            have i11 := h.1
            have h := h.2
            refine x_sld C 183 rfl hX hbl hbA i11 dL_law_182 ?_
            refine x_i2l C 184 rfl dL_law_183 ?_
            refine x_bipush C 186 rfl 32 dL_law_184 rfl ?_
            refine x_lshl C 187 rfl dL_law_186 ?_
            refine x_aload_n C 188 rfl 0 dL_law_187 rfl rfl ?_
            refine x_iload_n C 189 rfl 3 dL_law_188 rfl rfl ?_
            refine x_iconst C 190 rfl 3 dL_law_189 rfl ?_
            refine x_iadd C 191 rfl dL_law_190 ?_
            have i12 := h.1
            have h := h.2
            refine x_sld C 192 rfl hX hbl hbA i12 dL_law_191 ?_
            refine x_i2l C 193 rfl dL_law_192 ?_
            refine x_ldc2 C 196 rfl 4294967295 lc_L_law_22 dL_law_193 ?_
            refine x_land C 197 rfl dL_law_196 ?_
            refine x_lor C 198 rfl dL_law_197 ?_
            refine x_aload_n C 199 rfl 0 dL_law_198 rfl rfl ?_
            refine x_iload_n C 200 rfl 3 dL_law_199 rfl rfl ?_
            refine x_iconst C 201 rfl 4 dL_law_200 rfl ?_
            refine x_iadd C 202 rfl dL_law_201 ?_
            have i13 := h.1
            have h := h.2
            refine x_sld C 203 rfl hX hbl hbA i13 dL_law_202 ?_
            refine x_i2l C 204 rfl dL_law_203 ?_
            refine x_bipush C 206 rfl 32 dL_law_204 rfl ?_
            refine x_lshl C 207 rfl dL_law_206 ?_
            refine x_aload_n C 208 rfl 0 dL_law_207 rfl rfl ?_
            refine x_iload_n C 209 rfl 3 dL_law_208 rfl rfl ?_
            refine x_iconst C 210 rfl 5 dL_law_209 rfl ?_
            refine x_iadd C 211 rfl dL_law_210 ?_
            have i14 := h.1
            have h := h.2
            refine x_sld C 212 rfl hX hbl hbA i14 dL_law_211 ?_
            refine x_i2l C 213 rfl dL_law_212 ?_
            refine x_ldc2 C 216 rfl 4294967295 lc_L_law_22 dL_law_213 ?_
            refine x_land C 217 rfl dL_law_216 ?_
            refine x_lor C 218 rfl dL_law_217 ?_
            refine x_cVI C 221 rfl (CtI.in1 (wC_adr ad ct) (wM_adr ad' ct) (m_X4_table l D ad ct _ _ _ _ _ h) _) (cwV 3 C.1.2.2.2.2 gL_law_X4_table rfl rfl rfl (by decide +kernel) ⟨Nat.le_of_ble_eq_true rfl, Nat.le_of_ble_eq_true rfl⟩) ⟨0, 4, _, _, _, rfl, rfl⟩ rfl rfl (Nat.le_of_ble_eq_true rfl) dL_law_218 ?_
            intro r16 u h; obtain ⟨u1, u2⟩ := u; obtain ⟨h, e9⟩ := h; dsimp only at e9 h; subst e9
            refine x_aload_n C 222 rfl 2 dL_law_221 rfl rfl ?_
            refine x_aload_n C 223 rfl 0 dL_law_222 rfl rfl ?_
            refine x_iload_n C 224 rfl 3 dL_law_223 rfl rfl ?_
            refine x_iconst C 225 rfl 1 dL_law_224 rfl ?_
            refine x_iadd C 226 rfl dL_law_225 ?_
            refine x_sld C 227 rfl hX hbl hbA i10 dL_law_226 ?_
            refine x_aload_n C 228 rfl 0 dL_law_227 rfl rfl ?_
            refine x_iload_n C 229 rfl 3 dL_law_228 rfl rfl ?_
            refine x_iconst C 230 rfl 2 dL_law_229 rfl ?_
            refine x_iadd C 231 rfl dL_law_230 ?_
            refine x_sld C 232 rfl hX hbl hbA i11 dL_law_231 ?_
            refine x_i2l C 233 rfl dL_law_232 ?_
            refine x_bipush C 235 rfl 32 dL_law_233 rfl ?_
            refine x_lshl C 236 rfl dL_law_235 ?_
            refine x_aload_n C 237 rfl 0 dL_law_236 rfl rfl ?_
            refine x_iload_n C 238 rfl 3 dL_law_237 rfl rfl ?_
            refine x_iconst C 239 rfl 3 dL_law_238 rfl ?_
            refine x_iadd C 240 rfl dL_law_239 ?_
            refine x_sld C 241 rfl hX hbl hbA i12 dL_law_240 ?_
            refine x_i2l C 242 rfl dL_law_241 ?_
            refine x_ldc2 C 245 rfl 4294967295 lc_L_law_22 dL_law_242 ?_
            refine x_land C 246 rfl dL_law_245 ?_
            refine x_lor C 247 rfl dL_law_246 ?_
            refine x_aload_n C 248 rfl 0 dL_law_247 rfl rfl ?_
            refine x_iload_n C 249 rfl 3 dL_law_248 rfl rfl ?_
            refine x_iconst C 250 rfl 4 dL_law_249 rfl ?_
            refine x_iadd C 251 rfl dL_law_250 ?_
            refine x_sld C 252 rfl hX hbl hbA i13 dL_law_251 ?_
            refine x_i2l C 253 rfl dL_law_252 ?_
            refine x_bipush C 255 rfl 32 dL_law_253 rfl ?_
            refine x_lshl C 256 rfl dL_law_255 ?_
            refine x_aload_n C 257 rfl 0 dL_law_256 rfl rfl ?_
            refine x_iload_n C 258 rfl 3 dL_law_257 rfl rfl ?_
            refine x_iconst C 259 rfl 5 dL_law_258 rfl ?_
            refine x_iadd C 260 rfl dL_law_259 ?_
            refine x_sld C 261 rfl hX hbl hbA i14 dL_law_260 ?_
            refine x_i2l C 262 rfl dL_law_261 ?_
            refine x_ldc2 C 265 rfl 4294967295 lc_L_law_22 dL_law_262 ?_
            refine x_land C 266 rfl dL_law_265 ?_
            refine x_lor C 267 rfl dL_law_266 ?_
            refine x_cVI C 270 rfl (CtI.in2 (wC_adr ad ct) (wM_adr ad' ct) (m_X5_table l D ad' ct _ _ _ _ _ h) _) (cwV 3 C.1.2.2.2.2 gL_law_X5_table rfl rfl rfl (by decide +kernel) ⟨Nat.le_of_ble_eq_true rfl, Nat.le_of_ble_eq_true rfl⟩) ⟨50, 5, _, _, _, rfl, rfl⟩ rfl rfl (Nat.le_of_ble_eq_true rfl) dL_law_267 ?_
            intro r18 u h; obtain ⟨u1, u2⟩ := u; obtain ⟨h, e9⟩ := h; dsimp only at e9 h; subst e9
            refine x_icmp_eq C 834 273 dL_law_270 (by decide) rfl (fun c270 => ?_) (fun c270 => ?_)
            · have h := h.1 c270
              refine x_iinc C 837 rfl 3 (x3 + 6) [(3, .int (x3 + 6)), (0, .ref b), (1, .ref (ad 0)), (2, .ref (ad' 0))] dL_law_834 rfl rfl (by decide) rfl ?_
              refine x_goto C 18 dL_law_837 (by decide) ?_
              refine x_sub (lv' := [(0, .ref b), (1, .ref (ad 0)), (2, .ref (ad' 0)), (3, .int (x3 + 6))]) [1, 2, 3, 0] rfl ?_
              exact ih _ _ _ h
            · have h := h.2 c270
              refine x_iconst C 274 rfl 0 dL_law_273 rfl ?_
              exact h.elim
          · have h := h.2 t33_2
            by_cases t33_3 : ((ss (Int32.toNatClampNeg x3)) &&& 31) = 3
            · have h := h.1 t33_3
              refine x_top t33_3 ?_
              refine x_tsIn C 275 242 dL_law_33 (by decide) (by decide) (by decide) (by decide) ?_
              refine x_aload_n C 276 rfl 1 dL_law_275 rfl rfl ?_
              refine x_aload_n C 277 rfl 0 dL_law_276 rfl rfl ?_
              refine x_iload_n C 278 rfl 3 dL_law_277 rfl rfl ?_
              refine x_iconst C 279 rfl 1 dL_law_278 rfl ?_
              refine x_iadd C 280 rfl dL_law_279 ?_
              have i19 := h.1
              have h := h.2
              refine x_sld C 281 rfl hX hbl hbA i19 dL_law_280 ?_
              refine x_aload_n C 282 rfl 0 dL_law_281 rfl rfl ?_
              refine x_iload_n C 283 rfl 3 dL_law_282 rfl rfl ?_
              refine x_iconst C 284 rfl 2 dL_law_283 rfl ?_
              refine x_iadd C 285 rfl dL_law_284 ?_
              have i20 := h.1
              have h := h.2
              refine x_sld C 286 rfl hX hbl hbA i20 dL_law_285 ?_
              refine x_aload_n C 287 rfl 0 dL_law_286 rfl rfl ?_
              refine x_iload_n C 288 rfl 3 dL_law_287 rfl rfl ?_
              refine x_iconst C 289 rfl 3 dL_law_288 rfl ?_
              refine x_iadd C 290 rfl dL_law_289 ?_
              have i21 := h.1
              have h := h.2
              refine x_sld C 291 rfl hX hbl hbA i21 dL_law_290 ?_
              refine x_cVI C 294 rfl (CtI.in1 (wC_adr ad ct) (wM_adr ad' ct) (m_X4_wall l D ad ct _ _ _ _ _ h) _) (cwV 3 C.1.2.2.2.2 gL_law_X4_wall rfl rfl rfl (by decide +kernel) ⟨Nat.le_of_ble_eq_true rfl, Nat.le_of_ble_eq_true rfl⟩) ⟨0, 4, _, _, _, rfl, rfl⟩ rfl rfl (Nat.le_of_ble_eq_true rfl) dL_law_291 ?_
              intro r23 u h; obtain ⟨u1, u2⟩ := u; obtain ⟨h, e9⟩ := h; dsimp only at e9 h; subst e9
              refine x_aload_n C 295 rfl 2 dL_law_294 rfl rfl ?_
              refine x_aload_n C 296 rfl 0 dL_law_295 rfl rfl ?_
              refine x_iload_n C 297 rfl 3 dL_law_296 rfl rfl ?_
              refine x_iconst C 298 rfl 1 dL_law_297 rfl ?_
              refine x_iadd C 299 rfl dL_law_298 ?_
              refine x_sld C 300 rfl hX hbl hbA i19 dL_law_299 ?_
              refine x_aload_n C 301 rfl 0 dL_law_300 rfl rfl ?_
              refine x_iload_n C 302 rfl 3 dL_law_301 rfl rfl ?_
              refine x_iconst C 303 rfl 2 dL_law_302 rfl ?_
              refine x_iadd C 304 rfl dL_law_303 ?_
              refine x_sld C 305 rfl hX hbl hbA i20 dL_law_304 ?_
              refine x_aload_n C 306 rfl 0 dL_law_305 rfl rfl ?_
              refine x_iload_n C 307 rfl 3 dL_law_306 rfl rfl ?_
              refine x_iconst C 308 rfl 3 dL_law_307 rfl ?_
              refine x_iadd C 309 rfl dL_law_308 ?_
              refine x_sld C 310 rfl hX hbl hbA i21 dL_law_309 ?_
              refine x_cVI C 313 rfl (CtI.in2 (wC_adr ad ct) (wM_adr ad' ct) (m_X5_wall l D ad' ct _ _ _ _ _ h) _) (cwV 3 C.1.2.2.2.2 gL_law_X5_wall rfl rfl rfl (by decide +kernel) ⟨Nat.le_of_ble_eq_true rfl, Nat.le_of_ble_eq_true rfl⟩) ⟨50, 5, _, _, _, rfl, rfl⟩ rfl rfl (Nat.le_of_ble_eq_true rfl) dL_law_310 ?_
              intro r25 u h; obtain ⟨u1, u2⟩ := u; obtain ⟨h, e9⟩ := h; dsimp only at e9 h; subst e9
              refine x_icmp_eq C 834 316 dL_law_313 (by decide) rfl (fun c313 => ?_) (fun c313 => ?_)
              · have h := h.1 c313
                refine x_iinc C 837 rfl 3 (x3 + 6) [(3, .int (x3 + 6)), (0, .ref b), (1, .ref (ad 0)), (2, .ref (ad' 0))] dL_law_834 rfl rfl (by decide) rfl ?_
                refine x_goto C 18 dL_law_837 (by decide) ?_
                refine x_sub (lv' := [(0, .ref b), (1, .ref (ad 0)), (2, .ref (ad' 0)), (3, .int (x3 + 6))]) [1, 2, 3, 0] rfl ?_
                exact ih _ _ _ h
              · have h := h.2 c313
                refine x_iconst C 317 rfl 0 dL_law_316 rfl ?_
                exact h.elim
            · have h := h.2 t33_3
              by_cases t33_4 : ((ss (Int32.toNatClampNeg x3)) &&& 31) = 4
              · have h := h.1 t33_4
                refine x_top t33_4 ?_
                refine x_tsIn C 318 285 dL_law_33 (by decide) (by decide) (by decide) (by decide) ?_
                refine x_aload_n C 319 rfl 1 dL_law_318 rfl rfl ?_
                refine x_aload_n C 320 rfl 0 dL_law_319 rfl rfl ?_
                refine x_iload_n C 321 rfl 3 dL_law_320 rfl rfl ?_
                refine x_iconst C 322 rfl 1 dL_law_321 rfl ?_
                refine x_iadd C 323 rfl dL_law_322 ?_
                have i26 := h.1
                have h := h.2
                refine x_sld C 324 rfl hX hbl hbA i26 dL_law_323 ?_
                refine x_aload_n C 325 rfl 0 dL_law_324 rfl rfl ?_
                refine x_iload_n C 326 rfl 3 dL_law_325 rfl rfl ?_
                refine x_iconst C 327 rfl 2 dL_law_326 rfl ?_
                refine x_iadd C 328 rfl dL_law_327 ?_
                have i27 := h.1
                have h := h.2
                refine x_sld C 329 rfl hX hbl hbA i27 dL_law_328 ?_
                refine x_aload_n C 330 rfl 0 dL_law_329 rfl rfl ?_
                refine x_iload_n C 331 rfl 3 dL_law_330 rfl rfl ?_
                refine x_iconst C 332 rfl 3 dL_law_331 rfl ?_
                refine x_iadd C 333 rfl dL_law_332 ?_
                have i28 := h.1
                have h := h.2
                refine x_sld C 334 rfl hX hbl hbA i28 dL_law_333 ?_
                refine x_cVI C 337 rfl (CtI.in1 (wC_adr ad ct) (wM_adr ad' ct) (m_X4_set l D ad ct _ _ _ _ _ h) _) (cwV 3 C.1.2.2.2.2 gL_law_X4_set rfl rfl rfl (by decide +kernel) ⟨Nat.le_of_ble_eq_true rfl, Nat.le_of_ble_eq_true rfl⟩) ⟨0, 4, _, _, _, rfl, rfl⟩ rfl rfl (Nat.le_of_ble_eq_true rfl) dL_law_334 ?_
                intro r30 u h; obtain ⟨u1, u2⟩ := u; obtain ⟨h, e9⟩ := h; dsimp only at e9 h; subst e9
                refine x_aload_n C 338 rfl 2 dL_law_337 rfl rfl ?_
                refine x_aload_n C 339 rfl 0 dL_law_338 rfl rfl ?_
                refine x_iload_n C 340 rfl 3 dL_law_339 rfl rfl ?_
                refine x_iconst C 341 rfl 1 dL_law_340 rfl ?_
                refine x_iadd C 342 rfl dL_law_341 ?_
                refine x_sld C 343 rfl hX hbl hbA i26 dL_law_342 ?_
                refine x_aload_n C 344 rfl 0 dL_law_343 rfl rfl ?_
                refine x_iload_n C 345 rfl 3 dL_law_344 rfl rfl ?_
                refine x_iconst C 346 rfl 2 dL_law_345 rfl ?_
                refine x_iadd C 347 rfl dL_law_346 ?_
                refine x_sld C 348 rfl hX hbl hbA i27 dL_law_347 ?_
                refine x_aload_n C 349 rfl 0 dL_law_348 rfl rfl ?_
                refine x_iload_n C 350 rfl 3 dL_law_349 rfl rfl ?_
                refine x_iconst C 351 rfl 3 dL_law_350 rfl ?_
                refine x_iadd C 352 rfl dL_law_351 ?_
                refine x_sld C 353 rfl hX hbl hbA i28 dL_law_352 ?_
                refine x_cVI C 356 rfl (CtI.in2 (wC_adr ad ct) (wM_adr ad' ct) (m_X5_set l D ad' ct _ _ _ _ _ h) _) (cwV 3 C.1.2.2.2.2 gL_law_X5_set rfl rfl rfl (by decide +kernel) ⟨Nat.le_of_ble_eq_true rfl, Nat.le_of_ble_eq_true rfl⟩) ⟨50, 5, _, _, _, rfl, rfl⟩ rfl rfl (Nat.le_of_ble_eq_true rfl) dL_law_353 ?_
                intro r32 u h; obtain ⟨u1, u2⟩ := u; obtain ⟨h, e9⟩ := h; dsimp only at e9 h; subst e9
                refine x_icmp_eq C 834 359 dL_law_356 (by decide) rfl (fun c356 => ?_) (fun c356 => ?_)
                · have h := h.1 c356
                  refine x_iinc C 837 rfl 3 (x3 + 6) [(3, .int (x3 + 6)), (0, .ref b), (1, .ref (ad 0)), (2, .ref (ad' 0))] dL_law_834 rfl rfl (by decide) rfl ?_
                  refine x_goto C 18 dL_law_837 (by decide) ?_
                  refine x_sub (lv' := [(0, .ref b), (1, .ref (ad 0)), (2, .ref (ad' 0)), (3, .int (x3 + 6))]) [1, 2, 3, 0] rfl ?_
                  exact ih _ _ _ h
                · have h := h.2 c356
                  refine x_iconst C 360 rfl 0 dL_law_359 rfl ?_
                  exact h.elim
              · have h := h.2 t33_4
                by_cases t33_5 : ((ss (Int32.toNatClampNeg x3)) &&& 31) = 5
                · have h := h.1 t33_5
                  refine x_top t33_5 ?_
                  refine x_tsIn C 361 328 dL_law_33 (by decide) (by decide) (by decide) (by decide) ?_
                  refine x_aload_n C 362 rfl 1 dL_law_361 rfl rfl ?_
                  refine x_aload_n C 363 rfl 0 dL_law_362 rfl rfl ?_
                  refine x_iload_n C 364 rfl 3 dL_law_363 rfl rfl ?_
                  refine x_iconst C 365 rfl 1 dL_law_364 rfl ?_
                  refine x_iadd C 366 rfl dL_law_365 ?_
                  have i33 := h.1
                  have h := h.2
                  refine x_sld C 367 rfl hX hbl hbA i33 dL_law_366 ?_
                  refine x_aload_n C 368 rfl 0 dL_law_367 rfl rfl ?_
                  refine x_iload_n C 369 rfl 3 dL_law_368 rfl rfl ?_
                  refine x_iconst C 370 rfl 2 dL_law_369 rfl ?_
                  refine x_iadd C 371 rfl dL_law_370 ?_
                  have i34 := h.1
                  have h := h.2
                  refine x_sld C 372 rfl hX hbl hbA i34 dL_law_371 ?_
                  refine x_aload_n C 373 rfl 0 dL_law_372 rfl rfl ?_
                  refine x_iload_n C 374 rfl 3 dL_law_373 rfl rfl ?_
                  refine x_iconst C 375 rfl 3 dL_law_374 rfl ?_
                  refine x_iadd C 376 rfl dL_law_375 ?_
                  have i35 := h.1
                  have h := h.2
                  refine x_sld C 377 rfl hX hbl hbA i35 dL_law_376 ?_
                  refine x_cVI C 380 rfl (CtI.in1 (wC_adr ad ct) (wM_adr ad' ct) (m_X4_price l D ad ct _ _ _ _ _ h) _) (cwV 3 C.1.2.2.2.2 gL_law_X4_price rfl rfl rfl (by decide +kernel) ⟨Nat.le_of_ble_eq_true rfl, Nat.le_of_ble_eq_true rfl⟩) ⟨0, 4, _, _, _, rfl, rfl⟩ rfl rfl (Nat.le_of_ble_eq_true rfl) dL_law_377 ?_
                  intro r37 u h; obtain ⟨u1, u2⟩ := u; obtain ⟨h, e9⟩ := h; dsimp only at e9 h; subst e9
                  refine x_aload_n C 381 rfl 2 dL_law_380 rfl rfl ?_
                  refine x_aload_n C 382 rfl 0 dL_law_381 rfl rfl ?_
                  refine x_iload_n C 383 rfl 3 dL_law_382 rfl rfl ?_
                  refine x_iconst C 384 rfl 1 dL_law_383 rfl ?_
                  refine x_iadd C 385 rfl dL_law_384 ?_
                  refine x_sld C 386 rfl hX hbl hbA i33 dL_law_385 ?_
                  refine x_aload_n C 387 rfl 0 dL_law_386 rfl rfl ?_
                  refine x_iload_n C 388 rfl 3 dL_law_387 rfl rfl ?_
                  refine x_iconst C 389 rfl 2 dL_law_388 rfl ?_
                  refine x_iadd C 390 rfl dL_law_389 ?_
                  refine x_sld C 391 rfl hX hbl hbA i34 dL_law_390 ?_
                  refine x_aload_n C 392 rfl 0 dL_law_391 rfl rfl ?_
                  refine x_iload_n C 393 rfl 3 dL_law_392 rfl rfl ?_
                  refine x_iconst C 394 rfl 3 dL_law_393 rfl ?_
                  refine x_iadd C 395 rfl dL_law_394 ?_
                  refine x_sld C 396 rfl hX hbl hbA i35 dL_law_395 ?_
                  refine x_cVI C 399 rfl (CtI.in2 (wC_adr ad ct) (wM_adr ad' ct) (m_X5_price l D ad' ct _ _ _ _ _ h) _) (cwV 3 C.1.2.2.2.2 gL_law_X5_price rfl rfl rfl (by decide +kernel) ⟨Nat.le_of_ble_eq_true rfl, Nat.le_of_ble_eq_true rfl⟩) ⟨50, 5, _, _, _, rfl, rfl⟩ rfl rfl (Nat.le_of_ble_eq_true rfl) dL_law_396 ?_
                  intro r39 u h; obtain ⟨u1, u2⟩ := u; obtain ⟨h, e9⟩ := h; dsimp only at e9 h; subst e9
                  refine x_icmp_eq C 834 402 dL_law_399 (by decide) rfl (fun c399 => ?_) (fun c399 => ?_)
                  · have h := h.1 c399
                    refine x_iinc C 837 rfl 3 (x3 + 6) [(3, .int (x3 + 6)), (0, .ref b), (1, .ref (ad 0)), (2, .ref (ad' 0))] dL_law_834 rfl rfl (by decide) rfl ?_
                    refine x_goto C 18 dL_law_837 (by decide) ?_
                    refine x_sub (lv' := [(0, .ref b), (1, .ref (ad 0)), (2, .ref (ad' 0)), (3, .int (x3 + 6))]) [1, 2, 3, 0] rfl ?_
                    exact ih _ _ _ h
                  · have h := h.2 c399
                    refine x_iconst C 403 rfl 0 dL_law_402 rfl ?_
                    exact h.elim
                · have h := h.2 t33_5
                  by_cases t33_6 : ((ss (Int32.toNatClampNeg x3)) &&& 31) = 6
                  · have h := h.1 t33_6
                    refine x_top t33_6 ?_
                    refine x_tsIn C 404 371 dL_law_33 (by decide) (by decide) (by decide) (by decide) ?_
                    refine x_aload_n C 405 rfl 1 dL_law_404 rfl rfl ?_
                    refine x_aload_n C 406 rfl 0 dL_law_405 rfl rfl ?_
                    refine x_iload_n C 407 rfl 3 dL_law_406 rfl rfl ?_
                    refine x_iconst C 408 rfl 1 dL_law_407 rfl ?_
                    refine x_iadd C 409 rfl dL_law_408 ?_
                    have i40 := h.1
                    have h := h.2
                    refine x_sld C 410 rfl hX hbl hbA i40 dL_law_409 ?_
                    refine x_cVI C 413 rfl (CtI.in1 (wC_adr ad ct) (wM_adr ad' ct) (m_X4_look l D ad ct _ _ _ h) _) (cwV 1 C.1.2.2.2.2 gL_law_X4_look rfl rfl rfl (by decide +kernel) ⟨Nat.le_of_ble_eq_true rfl, Nat.le_of_ble_eq_true rfl⟩) ⟨0, 4, _, _, _, rfl, rfl⟩ rfl rfl (Nat.le_of_ble_eq_true rfl) dL_law_410 ?_
                    intro r42 u h; obtain ⟨u1, u2⟩ := u; obtain ⟨h, e9⟩ := h; dsimp only at e9 h; subst e9
                    refine x_aload_n C 414 rfl 2 dL_law_413 rfl rfl ?_
                    refine x_aload_n C 415 rfl 0 dL_law_414 rfl rfl ?_
                    refine x_iload_n C 416 rfl 3 dL_law_415 rfl rfl ?_
                    refine x_iconst C 417 rfl 1 dL_law_416 rfl ?_
                    refine x_iadd C 418 rfl dL_law_417 ?_
                    refine x_sld C 419 rfl hX hbl hbA i40 dL_law_418 ?_
                    refine x_cVI C 422 rfl (CtI.in2 (wC_adr ad ct) (wM_adr ad' ct) (m_X5_look l D ad' ct _ _ _ h) _) (cwV 1 C.1.2.2.2.2 gL_law_X5_look rfl rfl rfl (by decide +kernel) ⟨Nat.le_of_ble_eq_true rfl, Nat.le_of_ble_eq_true rfl⟩) ⟨50, 5, _, _, _, rfl, rfl⟩ rfl rfl (Nat.le_of_ble_eq_true rfl) dL_law_419 ?_
                    intro r44 u h; obtain ⟨u1, u2⟩ := u; obtain ⟨h, e9⟩ := h; dsimp only at e9 h; subst e9
                    refine x_icmp_eq C 834 425 dL_law_422 (by decide) rfl (fun c422 => ?_) (fun c422 => ?_)
                    · have h := h.1 c422
                      refine x_iinc C 837 rfl 3 (x3 + 6) [(3, .int (x3 + 6)), (0, .ref b), (1, .ref (ad 0)), (2, .ref (ad' 0))] dL_law_834 rfl rfl (by decide) rfl ?_
                      refine x_goto C 18 dL_law_837 (by decide) ?_
                      refine x_sub (lv' := [(0, .ref b), (1, .ref (ad 0)), (2, .ref (ad' 0)), (3, .int (x3 + 6))]) [1, 2, 3, 0] rfl ?_
                      exact ih _ _ _ h
                    · have h := h.2 c422
                      refine x_iconst C 426 rfl 0 dL_law_425 rfl ?_
                      exact h.elim
                  · have h := h.2 t33_6
                    by_cases t33_7 : ((ss (Int32.toNatClampNeg x3)) &&& 31) = 7
                    · have h := h.1 t33_7
                      refine x_top t33_7 ?_
                      refine x_tsIn C 427 394 dL_law_33 (by decide) (by decide) (by decide) (by decide) ?_
                      refine x_aload_n C 428 rfl 1 dL_law_427 rfl rfl ?_
                      refine x_aload_n C 429 rfl 0 dL_law_428 rfl rfl ?_
                      refine x_iload_n C 430 rfl 3 dL_law_429 rfl rfl ?_
                      refine x_iconst C 431 rfl 1 dL_law_430 rfl ?_
                      refine x_iadd C 432 rfl dL_law_431 ?_
                      have i45 := h.1
                      have h := h.2
                      refine x_sld C 433 rfl hX hbl hbA i45 dL_law_432 ?_
                      refine x_aload_n C 434 rfl 0 dL_law_433 rfl rfl ?_
                      refine x_iload_n C 435 rfl 3 dL_law_434 rfl rfl ?_
                      refine x_iconst C 436 rfl 2 dL_law_435 rfl ?_
                      refine x_iadd C 437 rfl dL_law_436 ?_
                      have i46 := h.1
                      have h := h.2
                      refine x_sld C 438 rfl hX hbl hbA i46 dL_law_437 ?_
                      refine x_cVI C 441 rfl (CtI.in1 (wC_adr ad ct) (wM_adr ad' ct) (m_X4_of l D ad ct _ _ _ _ h) _) (cwV 2 C.1.2.2.2.2 gL_law_X4_of rfl rfl rfl (by decide +kernel) ⟨Nat.le_of_ble_eq_true rfl, Nat.le_of_ble_eq_true rfl⟩) ⟨0, 4, _, _, _, rfl, rfl⟩ rfl rfl (Nat.le_of_ble_eq_true rfl) dL_law_438 ?_
                      intro r48 u h; obtain ⟨u1, u2⟩ := u; obtain ⟨h, e9⟩ := h; dsimp only at e9 h; subst e9
                      refine x_aload_n C 442 rfl 2 dL_law_441 rfl rfl ?_
                      refine x_aload_n C 443 rfl 0 dL_law_442 rfl rfl ?_
                      refine x_iload_n C 444 rfl 3 dL_law_443 rfl rfl ?_
                      refine x_iconst C 445 rfl 1 dL_law_444 rfl ?_
                      refine x_iadd C 446 rfl dL_law_445 ?_
                      refine x_sld C 447 rfl hX hbl hbA i45 dL_law_446 ?_
                      refine x_aload_n C 448 rfl 0 dL_law_447 rfl rfl ?_
                      refine x_iload_n C 449 rfl 3 dL_law_448 rfl rfl ?_
                      refine x_iconst C 450 rfl 2 dL_law_449 rfl ?_
                      refine x_iadd C 451 rfl dL_law_450 ?_
                      refine x_sld C 452 rfl hX hbl hbA i46 dL_law_451 ?_
                      refine x_cVI C 455 rfl (CtI.in2 (wC_adr ad ct) (wM_adr ad' ct) (m_X5_of l D ad' ct _ _ _ _ h) _) (cwV 2 C.1.2.2.2.2 gL_law_X5_of rfl rfl rfl (by decide +kernel) ⟨Nat.le_of_ble_eq_true rfl, Nat.le_of_ble_eq_true rfl⟩) ⟨50, 5, _, _, _, rfl, rfl⟩ rfl rfl (Nat.le_of_ble_eq_true rfl) dL_law_452 ?_
                      intro r50 u h; obtain ⟨u1, u2⟩ := u; obtain ⟨h, e9⟩ := h; dsimp only at e9 h; subst e9
                      refine x_icmp_eq C 834 458 dL_law_455 (by decide) rfl (fun c455 => ?_) (fun c455 => ?_)
                      · have h := h.1 c455
                        refine x_iinc C 837 rfl 3 (x3 + 6) [(3, .int (x3 + 6)), (0, .ref b), (1, .ref (ad 0)), (2, .ref (ad' 0))] dL_law_834 rfl rfl (by decide) rfl ?_
                        refine x_goto C 18 dL_law_837 (by decide) ?_
                        refine x_sub (lv' := [(0, .ref b), (1, .ref (ad 0)), (2, .ref (ad' 0)), (3, .int (x3 + 6))]) [1, 2, 3, 0] rfl ?_
                        exact ih _ _ _ h
                      · have h := h.2 c455
                        refine x_iconst C 459 rfl 0 dL_law_458 rfl ?_
                        exact h.elim
                    · have h := h.2 t33_7
                      by_cases t33_8 : ((ss (Int32.toNatClampNeg x3)) &&& 31) = 8
                      · have h := h.1 t33_8
                        refine x_top t33_8 ?_
                        refine x_tsIn C 460 427 dL_law_33 (by decide) (by decide) (by decide) (by decide) ?_
                        refine x_aload_n C 461 rfl 1 dL_law_460 rfl rfl ?_
                        refine x_aload_n C 462 rfl 0 dL_law_461 rfl rfl ?_
                        refine x_iload_n C 463 rfl 3 dL_law_462 rfl rfl ?_
                        refine x_iconst C 464 rfl 1 dL_law_463 rfl ?_
                        refine x_iadd C 465 rfl dL_law_464 ?_
                        have i51 := h.1
                        have h := h.2
                        refine x_sld C 466 rfl hX hbl hbA i51 dL_law_465 ?_
                        refine x_aload_n C 467 rfl 0 dL_law_466 rfl rfl ?_
                        refine x_iload_n C 468 rfl 3 dL_law_467 rfl rfl ?_
                        refine x_iconst C 469 rfl 2 dL_law_468 rfl ?_
                        refine x_iadd C 470 rfl dL_law_469 ?_
                        have i52 := h.1
                        have h := h.2
                        refine x_sld C 471 rfl hX hbl hbA i52 dL_law_470 ?_
                        refine x_aload_n C 472 rfl 0 dL_law_471 rfl rfl ?_
                        refine x_iload_n C 473 rfl 3 dL_law_472 rfl rfl ?_
                        refine x_iconst C 474 rfl 3 dL_law_473 rfl ?_
                        refine x_iadd C 475 rfl dL_law_474 ?_
                        have i53 := h.1
                        have h := h.2
                        refine x_sld C 476 rfl hX hbl hbA i53 dL_law_475 ?_
                        refine x_aload_n C 477 rfl 0 dL_law_476 rfl rfl ?_
                        refine x_iload_n C 478 rfl 3 dL_law_477 rfl rfl ?_
                        refine x_iconst C 479 rfl 4 dL_law_478 rfl ?_
                        refine x_iadd C 480 rfl dL_law_479 ?_
                        have i54 := h.1
                        have h := h.2
                        refine x_sld C 481 rfl hX hbl hbA i54 dL_law_480 ?_
                        refine x_aload_n C 482 rfl 0 dL_law_481 rfl rfl ?_
                        refine x_iload_n C 483 rfl 3 dL_law_482 rfl rfl ?_
                        refine x_iconst C 484 rfl 5 dL_law_483 rfl ?_
                        refine x_iadd C 485 rfl dL_law_484 ?_
                        have i55 := h.1
                        have h := h.2
                        refine x_sld C 486 rfl hX hbl hbA i55 dL_law_485 ?_
                        refine x_cVI C 489 rfl (CtI.in1 (wC_adr ad ct) (wM_adr ad' ct) (m_X4_does l D ad ct _ _ _ _ _ _ _ h) _) (cwV 5 C.1.2.2.2.2 gL_law_X4_does rfl rfl rfl (by decide +kernel) ⟨Nat.le_of_ble_eq_true rfl, Nat.le_of_ble_eq_true rfl⟩) ⟨0, 4, _, _, _, rfl, rfl⟩ rfl rfl (Nat.le_of_ble_eq_true rfl) dL_law_486 ?_
                        intro r57 u h; obtain ⟨u1, u2⟩ := u; obtain ⟨h, e9⟩ := h; dsimp only at e9 h; subst e9
                        refine x_aload_n C 490 rfl 2 dL_law_489 rfl rfl ?_
                        refine x_aload_n C 491 rfl 0 dL_law_490 rfl rfl ?_
                        refine x_iload_n C 492 rfl 3 dL_law_491 rfl rfl ?_
                        refine x_iconst C 493 rfl 1 dL_law_492 rfl ?_
                        refine x_iadd C 494 rfl dL_law_493 ?_
                        refine x_sld C 495 rfl hX hbl hbA i51 dL_law_494 ?_
                        refine x_aload_n C 496 rfl 0 dL_law_495 rfl rfl ?_
                        refine x_iload_n C 497 rfl 3 dL_law_496 rfl rfl ?_
                        refine x_iconst C 498 rfl 2 dL_law_497 rfl ?_
                        refine x_iadd C 499 rfl dL_law_498 ?_
                        refine x_sld C 500 rfl hX hbl hbA i52 dL_law_499 ?_
                        refine x_aload_n C 501 rfl 0 dL_law_500 rfl rfl ?_
                        refine x_iload_n C 502 rfl 3 dL_law_501 rfl rfl ?_
                        refine x_iconst C 503 rfl 3 dL_law_502 rfl ?_
                        refine x_iadd C 504 rfl dL_law_503 ?_
                        refine x_sld C 505 rfl hX hbl hbA i53 dL_law_504 ?_
                        refine x_aload_n C 506 rfl 0 dL_law_505 rfl rfl ?_
                        refine x_iload_n C 507 rfl 3 dL_law_506 rfl rfl ?_
                        refine x_iconst C 508 rfl 4 dL_law_507 rfl ?_
                        refine x_iadd C 509 rfl dL_law_508 ?_
                        refine x_sld C 510 rfl hX hbl hbA i54 dL_law_509 ?_
                        refine x_aload_n C 511 rfl 0 dL_law_510 rfl rfl ?_
                        refine x_iload_n C 512 rfl 3 dL_law_511 rfl rfl ?_
                        refine x_iconst C 513 rfl 5 dL_law_512 rfl ?_
                        refine x_iadd C 514 rfl dL_law_513 ?_
                        refine x_sld C 515 rfl hX hbl hbA i55 dL_law_514 ?_
                        refine x_cVI C 518 rfl (CtI.in2 (wC_adr ad ct) (wM_adr ad' ct) (m_X5_does l D ad' ct _ _ _ _ _ _ _ h) _) (cwV 5 C.1.2.2.2.2 gL_law_X5_does rfl rfl rfl (by decide +kernel) ⟨Nat.le_of_ble_eq_true rfl, Nat.le_of_ble_eq_true rfl⟩) ⟨50, 5, _, _, _, rfl, rfl⟩ rfl rfl (Nat.le_of_ble_eq_true rfl) dL_law_515 ?_
                        intro r59 u h; obtain ⟨u1, u2⟩ := u; obtain ⟨h, e9⟩ := h; dsimp only at e9 h; subst e9
                        refine x_icmp_eq C 834 521 dL_law_518 (by decide) rfl (fun c518 => ?_) (fun c518 => ?_)
                        · have h := h.1 c518
                          refine x_iinc C 837 rfl 3 (x3 + 6) [(3, .int (x3 + 6)), (0, .ref b), (1, .ref (ad 0)), (2, .ref (ad' 0))] dL_law_834 rfl rfl (by decide) rfl ?_
                          refine x_goto C 18 dL_law_837 (by decide) ?_
                          refine x_sub (lv' := [(0, .ref b), (1, .ref (ad 0)), (2, .ref (ad' 0)), (3, .int (x3 + 6))]) [1, 2, 3, 0] rfl ?_
                          exact ih _ _ _ h
                        · have h := h.2 c518
                          refine x_iconst C 522 rfl 0 dL_law_521 rfl ?_
                          exact h.elim
                      · have h := h.2 t33_8
                        by_cases t33_9 : ((ss (Int32.toNatClampNeg x3)) &&& 31) = 9
                        · have h := h.1 t33_9
                          refine x_top t33_9 ?_
                          refine x_tsIn C 523 490 dL_law_33 (by decide) (by decide) (by decide) (by decide) ?_
                          refine x_aload_n C 524 rfl 1 dL_law_523 rfl rfl ?_
                          refine x_aload_n C 525 rfl 0 dL_law_524 rfl rfl ?_
                          refine x_iload_n C 526 rfl 3 dL_law_525 rfl rfl ?_
                          refine x_iconst C 527 rfl 1 dL_law_526 rfl ?_
                          refine x_iadd C 528 rfl dL_law_527 ?_
                          have i60 := h.1
                          have h := h.2
                          refine x_sld C 529 rfl hX hbl hbA i60 dL_law_528 ?_
                          refine x_cVI C 532 rfl (CtI.in1 (wC_adr ad ct) (wM_adr ad' ct) (m_X4_silent l D ad ct _ _ _ h) _) (cwV 1 C.1.2.2.2.2 gL_law_X4_silent rfl rfl rfl (by decide +kernel) ⟨Nat.le_of_ble_eq_true rfl, Nat.le_of_ble_eq_true rfl⟩) ⟨0, 4, _, _, _, rfl, rfl⟩ rfl rfl (Nat.le_of_ble_eq_true rfl) dL_law_529 ?_
                          intro r62 u h; obtain ⟨u1, u2⟩ := u; obtain ⟨h, e9⟩ := h; dsimp only at e9 h; subst e9
                          refine x_aload_n C 533 rfl 2 dL_law_532 rfl rfl ?_
                          refine x_aload_n C 534 rfl 0 dL_law_533 rfl rfl ?_
                          refine x_iload_n C 535 rfl 3 dL_law_534 rfl rfl ?_
                          refine x_iconst C 536 rfl 1 dL_law_535 rfl ?_
                          refine x_iadd C 537 rfl dL_law_536 ?_
                          refine x_sld C 538 rfl hX hbl hbA i60 dL_law_537 ?_
                          refine x_cVI C 541 rfl (CtI.in2 (wC_adr ad ct) (wM_adr ad' ct) (m_X5_silent l D ad' ct _ _ _ h) _) (cwV 1 C.1.2.2.2.2 gL_law_X5_silent rfl rfl rfl (by decide +kernel) ⟨Nat.le_of_ble_eq_true rfl, Nat.le_of_ble_eq_true rfl⟩) ⟨50, 5, _, _, _, rfl, rfl⟩ rfl rfl (Nat.le_of_ble_eq_true rfl) dL_law_538 ?_
                          intro r64 u h; obtain ⟨u1, u2⟩ := u; obtain ⟨h, e9⟩ := h; dsimp only at e9 h; subst e9
                          refine x_icmp_eq C 834 544 dL_law_541 (by decide) rfl (fun c541 => ?_) (fun c541 => ?_)
                          · have h := h.1 c541
                            refine x_iinc C 837 rfl 3 (x3 + 6) [(3, .int (x3 + 6)), (0, .ref b), (1, .ref (ad 0)), (2, .ref (ad' 0))] dL_law_834 rfl rfl (by decide) rfl ?_
                            refine x_goto C 18 dL_law_837 (by decide) ?_
                            refine x_sub (lv' := [(0, .ref b), (1, .ref (ad 0)), (2, .ref (ad' 0)), (3, .int (x3 + 6))]) [1, 2, 3, 0] rfl ?_
                            exact ih _ _ _ h
                          · have h := h.2 c541
                            refine x_iconst C 545 rfl 0 dL_law_544 rfl ?_
                            exact h.elim
                        · have h := h.2 t33_9
                          by_cases t33_10 : ((ss (Int32.toNatClampNeg x3)) &&& 31) = 10
                          · have h := h.1 t33_10
                            refine x_top t33_10 ?_
                            refine x_tsIn C 546 513 dL_law_33 (by decide) (by decide) (by decide) (by decide) ?_
                            refine x_aload_n C 547 rfl 1 dL_law_546 rfl rfl ?_
                            refine x_aload_n C 548 rfl 0 dL_law_547 rfl rfl ?_
                            refine x_iload_n C 549 rfl 3 dL_law_548 rfl rfl ?_
                            refine x_iconst C 550 rfl 1 dL_law_549 rfl ?_
                            refine x_iadd C 551 rfl dL_law_550 ?_
                            have i65 := h.1
                            have h := h.2
                            refine x_sld C 552 rfl hX hbl hbA i65 dL_law_551 ?_
                            refine x_cVI C 555 rfl (CtI.in1 (wC_adr ad ct) (wM_adr ad' ct) (m_X4_shown l D ad ct _ _ _ h) _) (cwV 1 C.1.2.2.2.2 gL_law_X4_shown rfl rfl rfl (by decide +kernel) ⟨Nat.le_of_ble_eq_true rfl, Nat.le_of_ble_eq_true rfl⟩) ⟨0, 4, _, _, _, rfl, rfl⟩ rfl rfl (Nat.le_of_ble_eq_true rfl) dL_law_552 ?_
                            intro r67 u h; obtain ⟨u1, u2⟩ := u; obtain ⟨h, e9⟩ := h; dsimp only at e9 h; subst e9
                            refine x_aload_n C 556 rfl 2 dL_law_555 rfl rfl ?_
                            refine x_aload_n C 557 rfl 0 dL_law_556 rfl rfl ?_
                            refine x_iload_n C 558 rfl 3 dL_law_557 rfl rfl ?_
                            refine x_iconst C 559 rfl 1 dL_law_558 rfl ?_
                            refine x_iadd C 560 rfl dL_law_559 ?_
                            refine x_sld C 561 rfl hX hbl hbA i65 dL_law_560 ?_
                            refine x_cVI C 564 rfl (CtI.in2 (wC_adr ad ct) (wM_adr ad' ct) (m_X5_shown l D ad' ct _ _ _ h) _) (cwV 1 C.1.2.2.2.2 gL_law_X5_shown rfl rfl rfl (by decide +kernel) ⟨Nat.le_of_ble_eq_true rfl, Nat.le_of_ble_eq_true rfl⟩) ⟨50, 5, _, _, _, rfl, rfl⟩ rfl rfl (Nat.le_of_ble_eq_true rfl) dL_law_561 ?_
                            intro r69 u h; obtain ⟨u1, u2⟩ := u; obtain ⟨h, e9⟩ := h; dsimp only at e9 h; subst e9
                            refine x_icmp_eq C 834 567 dL_law_564 (by decide) rfl (fun c564 => ?_) (fun c564 => ?_)
                            · have h := h.1 c564
                              refine x_iinc C 837 rfl 3 (x3 + 6) [(3, .int (x3 + 6)), (0, .ref b), (1, .ref (ad 0)), (2, .ref (ad' 0))] dL_law_834 rfl rfl (by decide) rfl ?_
                              refine x_goto C 18 dL_law_837 (by decide) ?_
                              refine x_sub (lv' := [(0, .ref b), (1, .ref (ad 0)), (2, .ref (ad' 0)), (3, .int (x3 + 6))]) [1, 2, 3, 0] rfl ?_
                              exact ih _ _ _ h
                            · have h := h.2 c564
                              refine x_iconst C 568 rfl 0 dL_law_567 rfl ?_
                              exact h.elim
                          · have h := h.2 t33_10
                            by_cases t33_11 : ((ss (Int32.toNatClampNeg x3)) &&& 31) = 11
                            · have h := h.1 t33_11
                              refine x_top t33_11 ?_
                              refine x_tsIn C 569 536 dL_law_33 (by decide) (by decide) (by decide) (by decide) ?_
                              refine x_aload_n C 570 rfl 1 dL_law_569 rfl rfl ?_
                              refine x_aload_n C 571 rfl 0 dL_law_570 rfl rfl ?_
                              refine x_iload_n C 572 rfl 3 dL_law_571 rfl rfl ?_
                              refine x_iconst C 573 rfl 1 dL_law_572 rfl ?_
                              refine x_iadd C 574 rfl dL_law_573 ?_
                              have i70 := h.1
                              have h := h.2
                              refine x_sld C 575 rfl hX hbl hbA i70 dL_law_574 ?_
                              refine x_aload_n C 576 rfl 0 dL_law_575 rfl rfl ?_
                              refine x_iload_n C 577 rfl 3 dL_law_576 rfl rfl ?_
                              refine x_iconst C 578 rfl 2 dL_law_577 rfl ?_
                              refine x_iadd C 579 rfl dL_law_578 ?_
                              have i71 := h.1
                              have h := h.2
                              refine x_sld C 580 rfl hX hbl hbA i71 dL_law_579 ?_
                              refine x_aload_n C 581 rfl 0 dL_law_580 rfl rfl ?_
                              refine x_iload_n C 582 rfl 3 dL_law_581 rfl rfl ?_
                              refine x_iconst C 583 rfl 3 dL_law_582 rfl ?_
                              refine x_iadd C 584 rfl dL_law_583 ?_
                              have i72 := h.1
                              have h := h.2
                              refine x_sld C 585 rfl hX hbl hbA i72 dL_law_584 ?_
                              refine x_cVI C 588 rfl (CtI.in1 (wC_adr ad ct) (wM_adr ad' ct) (m_X4_show l D ad ct _ _ _ _ _ h) _) (cwV 3 C.1.2.2.2.2 gL_law_X4_show rfl rfl rfl (by decide +kernel) ⟨Nat.le_of_ble_eq_true rfl, Nat.le_of_ble_eq_true rfl⟩) ⟨0, 4, _, _, _, rfl, rfl⟩ rfl rfl (Nat.le_of_ble_eq_true rfl) dL_law_585 ?_
                              intro r74 u h; obtain ⟨u1, u2⟩ := u; obtain ⟨h, e9⟩ := h; dsimp only at e9 h; subst e9
                              refine x_aload_n C 589 rfl 2 dL_law_588 rfl rfl ?_
                              refine x_aload_n C 590 rfl 0 dL_law_589 rfl rfl ?_
                              refine x_iload_n C 591 rfl 3 dL_law_590 rfl rfl ?_
                              refine x_iconst C 592 rfl 1 dL_law_591 rfl ?_
                              refine x_iadd C 593 rfl dL_law_592 ?_
                              refine x_sld C 594 rfl hX hbl hbA i70 dL_law_593 ?_
                              refine x_aload_n C 595 rfl 0 dL_law_594 rfl rfl ?_
                              refine x_iload_n C 596 rfl 3 dL_law_595 rfl rfl ?_
                              refine x_iconst C 597 rfl 2 dL_law_596 rfl ?_
                              refine x_iadd C 598 rfl dL_law_597 ?_
                              refine x_sld C 599 rfl hX hbl hbA i71 dL_law_598 ?_
                              refine x_aload_n C 600 rfl 0 dL_law_599 rfl rfl ?_
                              refine x_iload_n C 601 rfl 3 dL_law_600 rfl rfl ?_
                              refine x_iconst C 602 rfl 3 dL_law_601 rfl ?_
                              refine x_iadd C 603 rfl dL_law_602 ?_
                              refine x_sld C 604 rfl hX hbl hbA i72 dL_law_603 ?_
                              refine x_cVI C 607 rfl (CtI.in2 (wC_adr ad ct) (wM_adr ad' ct) (m_X5_show l D ad' ct _ _ _ _ _ h) _) (cwV 3 C.1.2.2.2.2 gL_law_X5_show rfl rfl rfl (by decide +kernel) ⟨Nat.le_of_ble_eq_true rfl, Nat.le_of_ble_eq_true rfl⟩) ⟨50, 5, _, _, _, rfl, rfl⟩ rfl rfl (Nat.le_of_ble_eq_true rfl) dL_law_604 ?_
                              intro r76 u h; obtain ⟨u1, u2⟩ := u; obtain ⟨h, e9⟩ := h; dsimp only at e9 h; subst e9
                              refine x_icmp_eq C 834 610 dL_law_607 (by decide) rfl (fun c607 => ?_) (fun c607 => ?_)
                              · have h := h.1 c607
                                refine x_iinc C 837 rfl 3 (x3 + 6) [(3, .int (x3 + 6)), (0, .ref b), (1, .ref (ad 0)), (2, .ref (ad' 0))] dL_law_834 rfl rfl (by decide) rfl ?_
                                refine x_goto C 18 dL_law_837 (by decide) ?_
                                refine x_sub (lv' := [(0, .ref b), (1, .ref (ad 0)), (2, .ref (ad' 0)), (3, .int (x3 + 6))]) [1, 2, 3, 0] rfl ?_
                                exact ih _ _ _ h
                              · have h := h.2 c607
                                refine x_iconst C 611 rfl 0 dL_law_610 rfl ?_
                                exact h.elim
                            · have h := h.2 t33_11
                              by_cases t33_12 : ((ss (Int32.toNatClampNeg x3)) &&& 31) = 12
                              · have h := h.1 t33_12
                                refine x_top t33_12 ?_
                                refine x_tsIn C 612 579 dL_law_33 (by decide) (by decide) (by decide) (by decide) ?_
                                refine x_aload_n C 613 rfl 1 dL_law_612 rfl rfl ?_
                                refine x_aload_n C 614 rfl 0 dL_law_613 rfl rfl ?_
                                refine x_iload_n C 615 rfl 3 dL_law_614 rfl rfl ?_
                                refine x_iconst C 616 rfl 1 dL_law_615 rfl ?_
                                refine x_iadd C 617 rfl dL_law_616 ?_
                                have i77 := h.1
                                have h := h.2
                                refine x_sld C 618 rfl hX hbl hbA i77 dL_law_617 ?_
                                refine x_cVI C 621 rfl (CtI.in1 (wC_adr ad ct) (wM_adr ad' ct) (m_X4_letters l D ad ct _ _ _ h) _) (cwV 1 C.1.2.2.2.2 gL_law_X4_letters rfl rfl rfl (by decide +kernel) ⟨Nat.le_of_ble_eq_true rfl, Nat.le_of_ble_eq_true rfl⟩) ⟨0, 4, _, _, _, rfl, rfl⟩ rfl rfl (Nat.le_of_ble_eq_true rfl) dL_law_618 ?_
                                intro r79 u h; obtain ⟨u1, u2⟩ := u; obtain ⟨h, e9⟩ := h; dsimp only at e9 h; subst e9
                                refine x_aload_n C 622 rfl 2 dL_law_621 rfl rfl ?_
                                refine x_aload_n C 623 rfl 0 dL_law_622 rfl rfl ?_
                                refine x_iload_n C 624 rfl 3 dL_law_623 rfl rfl ?_
                                refine x_iconst C 625 rfl 1 dL_law_624 rfl ?_
                                refine x_iadd C 626 rfl dL_law_625 ?_
                                refine x_sld C 627 rfl hX hbl hbA i77 dL_law_626 ?_
                                refine x_cVI C 630 rfl (CtI.in2 (wC_adr ad ct) (wM_adr ad' ct) (m_X5_letters l D ad' ct _ _ _ h) _) (cwV 1 C.1.2.2.2.2 gL_law_X5_letters rfl rfl rfl (by decide +kernel) ⟨Nat.le_of_ble_eq_true rfl, Nat.le_of_ble_eq_true rfl⟩) ⟨50, 5, _, _, _, rfl, rfl⟩ rfl rfl (Nat.le_of_ble_eq_true rfl) dL_law_627 ?_
                                intro r81 u h; obtain ⟨u1, u2⟩ := u; obtain ⟨h, e9⟩ := h; dsimp only at e9 h; subst e9
                                refine x_icmp_eq C 834 633 dL_law_630 (by decide) rfl (fun c630 => ?_) (fun c630 => ?_)
                                · have h := h.1 c630
                                  refine x_iinc C 837 rfl 3 (x3 + 6) [(3, .int (x3 + 6)), (0, .ref b), (1, .ref (ad 0)), (2, .ref (ad' 0))] dL_law_834 rfl rfl (by decide) rfl ?_
                                  refine x_goto C 18 dL_law_837 (by decide) ?_
                                  refine x_sub (lv' := [(0, .ref b), (1, .ref (ad 0)), (2, .ref (ad' 0)), (3, .int (x3 + 6))]) [1, 2, 3, 0] rfl ?_
                                  exact ih _ _ _ h
                                · have h := h.2 c630
                                  refine x_iconst C 634 rfl 0 dL_law_633 rfl ?_
                                  exact h.elim
                              · have h := h.2 t33_12
                                by_cases t33_13 : ((ss (Int32.toNatClampNeg x3)) &&& 31) = 13
                                · have h := h.1 t33_13
                                  refine x_top t33_13 ?_
                                  refine x_tsIn C 635 602 dL_law_33 (by decide) (by decide) (by decide) (by decide) ?_
                                  refine x_aload_n C 636 rfl 1 dL_law_635 rfl rfl ?_
                                  refine x_aload_n C 637 rfl 0 dL_law_636 rfl rfl ?_
                                  refine x_iload_n C 638 rfl 3 dL_law_637 rfl rfl ?_
                                  refine x_iconst C 639 rfl 1 dL_law_638 rfl ?_
                                  refine x_iadd C 640 rfl dL_law_639 ?_
                                  have i82 := h.1
                                  have h := h.2
                                  refine x_sld C 641 rfl hX hbl hbA i82 dL_law_640 ?_
                                  refine x_aload_n C 642 rfl 0 dL_law_641 rfl rfl ?_
                                  refine x_iload_n C 643 rfl 3 dL_law_642 rfl rfl ?_
                                  refine x_iconst C 644 rfl 2 dL_law_643 rfl ?_
                                  refine x_iadd C 645 rfl dL_law_644 ?_
                                  have i83 := h.1
                                  have h := h.2
                                  refine x_sld C 646 rfl hX hbl hbA i83 dL_law_645 ?_
                                  refine x_aload_n C 647 rfl 0 dL_law_646 rfl rfl ?_
                                  refine x_iload_n C 648 rfl 3 dL_law_647 rfl rfl ?_
                                  refine x_iconst C 649 rfl 3 dL_law_648 rfl ?_
                                  refine x_iadd C 650 rfl dL_law_649 ?_
                                  have i84 := h.1
                                  have h := h.2
                                  refine x_sld C 651 rfl hX hbl hbA i84 dL_law_650 ?_
                                  refine x_aload_n C 652 rfl 0 dL_law_651 rfl rfl ?_
                                  refine x_iload_n C 653 rfl 3 dL_law_652 rfl rfl ?_
                                  refine x_iconst C 654 rfl 4 dL_law_653 rfl ?_
                                  refine x_iadd C 655 rfl dL_law_654 ?_
                                  have i85 := h.1
                                  have h := h.2
                                  refine x_sld C 656 rfl hX hbl hbA i85 dL_law_655 ?_
                                  refine x_cVI C 659 rfl (CtI.in1 (wC_adr ad ct) (wM_adr ad' ct) (m_X4_letter l D ad ct _ _ _ _ _ _ h) _) (cwV 4 C.1.2.2.2.2 gL_law_X4_letter rfl rfl rfl (by decide +kernel) ⟨Nat.le_of_ble_eq_true rfl, Nat.le_of_ble_eq_true rfl⟩) ⟨0, 4, _, _, _, rfl, rfl⟩ rfl rfl (Nat.le_of_ble_eq_true rfl) dL_law_656 ?_
                                  intro r87 u h; obtain ⟨u1, u2⟩ := u; obtain ⟨h, e9⟩ := h; dsimp only at e9 h; subst e9
                                  refine x_aload_n C 660 rfl 2 dL_law_659 rfl rfl ?_
                                  refine x_aload_n C 661 rfl 0 dL_law_660 rfl rfl ?_
                                  refine x_iload_n C 662 rfl 3 dL_law_661 rfl rfl ?_
                                  refine x_iconst C 663 rfl 1 dL_law_662 rfl ?_
                                  refine x_iadd C 664 rfl dL_law_663 ?_
                                  refine x_sld C 665 rfl hX hbl hbA i82 dL_law_664 ?_
                                  refine x_aload_n C 666 rfl 0 dL_law_665 rfl rfl ?_
                                  refine x_iload_n C 667 rfl 3 dL_law_666 rfl rfl ?_
                                  refine x_iconst C 668 rfl 2 dL_law_667 rfl ?_
                                  refine x_iadd C 669 rfl dL_law_668 ?_
                                  refine x_sld C 670 rfl hX hbl hbA i83 dL_law_669 ?_
                                  refine x_aload_n C 671 rfl 0 dL_law_670 rfl rfl ?_
                                  refine x_iload_n C 672 rfl 3 dL_law_671 rfl rfl ?_
                                  refine x_iconst C 673 rfl 3 dL_law_672 rfl ?_
                                  refine x_iadd C 674 rfl dL_law_673 ?_
                                  refine x_sld C 675 rfl hX hbl hbA i84 dL_law_674 ?_
                                  refine x_aload_n C 676 rfl 0 dL_law_675 rfl rfl ?_
                                  refine x_iload_n C 677 rfl 3 dL_law_676 rfl rfl ?_
                                  refine x_iconst C 678 rfl 4 dL_law_677 rfl ?_
                                  refine x_iadd C 679 rfl dL_law_678 ?_
                                  refine x_sld C 680 rfl hX hbl hbA i85 dL_law_679 ?_
                                  refine x_cVI C 683 rfl (CtI.in2 (wC_adr ad ct) (wM_adr ad' ct) (m_X5_letter l D ad' ct _ _ _ _ _ _ h) _) (cwV 4 C.1.2.2.2.2 gL_law_X5_letter rfl rfl rfl (by decide +kernel) ⟨Nat.le_of_ble_eq_true rfl, Nat.le_of_ble_eq_true rfl⟩) ⟨50, 5, _, _, _, rfl, rfl⟩ rfl rfl (Nat.le_of_ble_eq_true rfl) dL_law_680 ?_
                                  intro r89 u h; obtain ⟨u1, u2⟩ := u; obtain ⟨h, e9⟩ := h; dsimp only at e9 h; subst e9
                                  refine x_icmp_eq C 834 686 dL_law_683 (by decide) rfl (fun c683 => ?_) (fun c683 => ?_)
                                  · have h := h.1 c683
                                    refine x_iinc C 837 rfl 3 (x3 + 6) [(3, .int (x3 + 6)), (0, .ref b), (1, .ref (ad 0)), (2, .ref (ad' 0))] dL_law_834 rfl rfl (by decide) rfl ?_
                                    refine x_goto C 18 dL_law_837 (by decide) ?_
                                    refine x_sub (lv' := [(0, .ref b), (1, .ref (ad 0)), (2, .ref (ad' 0)), (3, .int (x3 + 6))]) [1, 2, 3, 0] rfl ?_
                                    exact ih _ _ _ h
                                  · have h := h.2 c683
                                    refine x_iconst C 687 rfl 0 dL_law_686 rfl ?_
                                    exact h.elim
                                · have h := h.2 t33_13
                                  by_cases t33_14 : ((ss (Int32.toNatClampNeg x3)) &&& 31) = 14
                                  · have h := h.1 t33_14
                                    refine x_top t33_14 ?_
                                    refine x_tsIn C 688 655 dL_law_33 (by decide) (by decide) (by decide) (by decide) ?_
                                    refine x_aload_n C 689 rfl 1 dL_law_688 rfl rfl ?_
                                    refine x_cVV C 692 rfl (CtV.in1 (wC_adr ad ct) (wM_adr ad' ct) (m_X4_begin l D ad ct _ _ h) _) (cwV 0 C.1.2.2.2.2 gL_law_X4_begin rfl rfl rfl (by decide +kernel) ⟨Nat.le_of_ble_eq_true rfl, Nat.le_of_ble_eq_true rfl⟩) ⟨0, 4, _, _, _, rfl, rfl⟩ rfl rfl (Nat.le_of_ble_eq_true rfl) dL_law_689 ?_
                                    intro  u h; obtain ⟨u1, u2⟩ := u; obtain ⟨h, e9⟩ := h; dsimp only at e9 h; subst e9
                                    refine x_aload_n C 693 rfl 2 dL_law_692 rfl rfl ?_
                                    refine x_cVV C 696 rfl (CtV.in2 (wC_adr ad ct) (wM_adr ad' ct) (m_X5_begin l D ad' ct _ _ h) _) (cwV 0 C.1.2.2.2.2 gL_law_X5_begin rfl rfl rfl (by decide +kernel) ⟨Nat.le_of_ble_eq_true rfl, Nat.le_of_ble_eq_true rfl⟩) ⟨50, 5, _, _, _, rfl, rfl⟩ rfl rfl (Nat.le_of_ble_eq_true rfl) dL_law_693 ?_
                                    intro  u h; obtain ⟨u1, u2⟩ := u; obtain ⟨h, e9⟩ := h; dsimp only at e9 h; subst e9
                                    refine x_goto C 834 dL_law_696 (by decide) ?_
                                    refine x_iinc C 837 rfl 3 (x3 + 6) [(3, .int (x3 + 6)), (0, .ref b), (1, .ref (ad 0)), (2, .ref (ad' 0))] dL_law_834 rfl rfl (by decide) rfl ?_
                                    refine x_goto C 18 dL_law_837 (by decide) ?_
                                    refine x_sub (lv' := [(0, .ref b), (1, .ref (ad 0)), (2, .ref (ad' 0)), (3, .int (x3 + 6))]) [1, 2, 3, 0] rfl ?_
                                    exact ih _ _ _ h
                                  · have h := h.2 t33_14
                                    by_cases t33_15 : ((ss (Int32.toNatClampNeg x3)) &&& 31) = 15
                                    · have h := h.1 t33_15
                                      refine x_top t33_15 ?_
                                      refine x_tsIn C 699 666 dL_law_33 (by decide) (by decide) (by decide) (by decide) ?_
                                      refine x_aload_n C 700 rfl 1 dL_law_699 rfl rfl ?_
                                      refine x_aload_n C 701 rfl 0 dL_law_700 rfl rfl ?_
                                      refine x_iload_n C 702 rfl 3 dL_law_701 rfl rfl ?_
                                      refine x_iconst C 703 rfl 1 dL_law_702 rfl ?_
                                      refine x_iadd C 704 rfl dL_law_703 ?_
                                      have i92 := h.1
                                      have h := h.2
                                      refine x_sld C 705 rfl hX hbl hbA i92 dL_law_704 ?_
                                      refine x_aload_n C 706 rfl 0 dL_law_705 rfl rfl ?_
                                      refine x_iload_n C 707 rfl 3 dL_law_706 rfl rfl ?_
                                      refine x_iconst C 708 rfl 2 dL_law_707 rfl ?_
                                      refine x_iadd C 709 rfl dL_law_708 ?_
                                      have i93 := h.1
                                      have h := h.2
                                      refine x_sld C 710 rfl hX hbl hbA i93 dL_law_709 ?_
                                      refine x_cVI C 713 rfl (CtI.in1 (wC_adr ad ct) (wM_adr ad' ct) (m_X4_run l D ad ct _ _ _ _ h) _) (cwV 2 C.1.2.2.2.2 gL_law_X4_run rfl rfl rfl (by decide +kernel) ⟨Nat.le_of_ble_eq_true rfl, Nat.le_of_ble_eq_true rfl⟩) ⟨0, 4, _, _, _, rfl, rfl⟩ rfl rfl (Nat.le_of_ble_eq_true rfl) dL_law_710 ?_
                                      intro r95 u h; obtain ⟨u1, u2⟩ := u; obtain ⟨h, e9⟩ := h; dsimp only at e9 h; subst e9
                                      refine x_aload_n C 714 rfl 2 dL_law_713 rfl rfl ?_
                                      refine x_aload_n C 715 rfl 0 dL_law_714 rfl rfl ?_
                                      refine x_iload_n C 716 rfl 3 dL_law_715 rfl rfl ?_
                                      refine x_iconst C 717 rfl 1 dL_law_716 rfl ?_
                                      refine x_iadd C 718 rfl dL_law_717 ?_
                                      refine x_sld C 719 rfl hX hbl hbA i92 dL_law_718 ?_
                                      refine x_aload_n C 720 rfl 0 dL_law_719 rfl rfl ?_
                                      refine x_iload_n C 721 rfl 3 dL_law_720 rfl rfl ?_
                                      refine x_iconst C 722 rfl 2 dL_law_721 rfl ?_
                                      refine x_iadd C 723 rfl dL_law_722 ?_
                                      refine x_sld C 724 rfl hX hbl hbA i93 dL_law_723 ?_
                                      refine x_cVI C 727 rfl (CtI.in2 (wC_adr ad ct) (wM_adr ad' ct) (m_X5_run l D ad' ct _ _ _ _ h) _) (cwV 2 C.1.2.2.2.2 gL_law_X5_run rfl rfl rfl (by decide +kernel) ⟨Nat.le_of_ble_eq_true rfl, Nat.le_of_ble_eq_true rfl⟩) ⟨50, 5, _, _, _, rfl, rfl⟩ rfl rfl (Nat.le_of_ble_eq_true rfl) dL_law_724 ?_
                                      intro r97 u h; obtain ⟨u1, u2⟩ := u; obtain ⟨h, e9⟩ := h; dsimp only at e9 h; subst e9
                                      refine x_icmp_eq C 834 730 dL_law_727 (by decide) rfl (fun c727 => ?_) (fun c727 => ?_)
                                      · have h := h.1 c727
                                        refine x_iinc C 837 rfl 3 (x3 + 6) [(3, .int (x3 + 6)), (0, .ref b), (1, .ref (ad 0)), (2, .ref (ad' 0))] dL_law_834 rfl rfl (by decide) rfl ?_
                                        refine x_goto C 18 dL_law_837 (by decide) ?_
                                        refine x_sub (lv' := [(0, .ref b), (1, .ref (ad 0)), (2, .ref (ad' 0)), (3, .int (x3 + 6))]) [1, 2, 3, 0] rfl ?_
                                        exact ih _ _ _ h
                                      · have h := h.2 c727
                                        refine x_iconst C 731 rfl 0 dL_law_730 rfl ?_
                                        exact h.elim
                                    · have h := h.2 t33_15
                                      by_cases t33_16 : ((ss (Int32.toNatClampNeg x3)) &&& 31) = 16
                                      · have h := h.1 t33_16
                                        refine x_top t33_16 ?_
                                        refine x_tsIn C 732 699 dL_law_33 (by decide) (by decide) (by decide) (by decide) ?_
                                        refine x_aload_n C 733 rfl 1 dL_law_732 rfl rfl ?_
                                        refine x_aload_n C 734 rfl 0 dL_law_733 rfl rfl ?_
                                        refine x_iload_n C 735 rfl 3 dL_law_734 rfl rfl ?_
                                        refine x_iconst C 736 rfl 1 dL_law_735 rfl ?_
                                        refine x_iadd C 737 rfl dL_law_736 ?_
                                        have i98 := h.1
                                        have h := h.2
                                        refine x_sld C 738 rfl hX hbl hbA i98 dL_law_737 ?_
                                        refine x_cVI C 741 rfl (CtI.in1 (wC_adr ad ct) (wM_adr ad' ct) (m_X4_state l D ad ct _ _ _ h) _) (cwV 1 C.1.2.2.2.2 gL_law_X4_state rfl rfl rfl (by decide +kernel) ⟨Nat.le_of_ble_eq_true rfl, Nat.le_of_ble_eq_true rfl⟩) ⟨0, 4, _, _, _, rfl, rfl⟩ rfl rfl (Nat.le_of_ble_eq_true rfl) dL_law_738 ?_
                                        intro r100 u h; obtain ⟨u1, u2⟩ := u; obtain ⟨h, e9⟩ := h; dsimp only at e9 h; subst e9
                                        refine x_aload_n C 742 rfl 2 dL_law_741 rfl rfl ?_
                                        refine x_aload_n C 743 rfl 0 dL_law_742 rfl rfl ?_
                                        refine x_iload_n C 744 rfl 3 dL_law_743 rfl rfl ?_
                                        refine x_iconst C 745 rfl 1 dL_law_744 rfl ?_
                                        refine x_iadd C 746 rfl dL_law_745 ?_
                                        refine x_sld C 747 rfl hX hbl hbA i98 dL_law_746 ?_
                                        refine x_cVI C 750 rfl (CtI.in2 (wC_adr ad ct) (wM_adr ad' ct) (m_X5_state l D ad' ct _ _ _ h) _) (cwV 1 C.1.2.2.2.2 gL_law_X5_state rfl rfl rfl (by decide +kernel) ⟨Nat.le_of_ble_eq_true rfl, Nat.le_of_ble_eq_true rfl⟩) ⟨50, 5, _, _, _, rfl, rfl⟩ rfl rfl (Nat.le_of_ble_eq_true rfl) dL_law_747 ?_
                                        intro r102 u h; obtain ⟨u1, u2⟩ := u; obtain ⟨h, e9⟩ := h; dsimp only at e9 h; subst e9
                                        refine x_icmp_eq C 834 753 dL_law_750 (by decide) rfl (fun c750 => ?_) (fun c750 => ?_)
                                        · have h := h.1 c750
                                          refine x_iinc C 837 rfl 3 (x3 + 6) [(3, .int (x3 + 6)), (0, .ref b), (1, .ref (ad 0)), (2, .ref (ad' 0))] dL_law_834 rfl rfl (by decide) rfl ?_
                                          refine x_goto C 18 dL_law_837 (by decide) ?_
                                          refine x_sub (lv' := [(0, .ref b), (1, .ref (ad 0)), (2, .ref (ad' 0)), (3, .int (x3 + 6))]) [1, 2, 3, 0] rfl ?_
                                          exact ih _ _ _ h
                                        · have h := h.2 c750
                                          refine x_iconst C 754 rfl 0 dL_law_753 rfl ?_
                                          exact h.elim
                                      · have h := h.2 t33_16
                                        by_cases t33_17 : ((ss (Int32.toNatClampNeg x3)) &&& 31) = 17
                                        · have h := h.1 t33_17
                                          refine x_top t33_17 ?_
                                          refine x_tsIn C 755 722 dL_law_33 (by decide) (by decide) (by decide) (by decide) ?_
                                          refine x_aload_n C 756 rfl 1 dL_law_755 rfl rfl ?_
                                          refine x_cVI C 759 rfl (CtI.in1 (wC_adr ad ct) (wM_adr ad' ct) (m_X4_ticks l D ad ct _ _ h) _) (cwV 0 C.1.2.2.2.2 gL_law_X4_ticks rfl rfl rfl (by decide +kernel) ⟨Nat.le_of_ble_eq_true rfl, Nat.le_of_ble_eq_true rfl⟩) ⟨0, 4, _, _, _, rfl, rfl⟩ rfl rfl (Nat.le_of_ble_eq_true rfl) dL_law_756 ?_
                                          intro r104 u h; obtain ⟨u1, u2⟩ := u; obtain ⟨h, e9⟩ := h; dsimp only at e9 h; subst e9
                                          refine x_aload_n C 760 rfl 2 dL_law_759 rfl rfl ?_
                                          refine x_cVI C 763 rfl (CtI.in2 (wC_adr ad ct) (wM_adr ad' ct) (m_X5_ticks l D ad' ct _ _ h) _) (cwV 0 C.1.2.2.2.2 gL_law_X5_ticks rfl rfl rfl (by decide +kernel) ⟨Nat.le_of_ble_eq_true rfl, Nat.le_of_ble_eq_true rfl⟩) ⟨50, 5, _, _, _, rfl, rfl⟩ rfl rfl (Nat.le_of_ble_eq_true rfl) dL_law_760 ?_
                                          intro r106 u h; obtain ⟨u1, u2⟩ := u; obtain ⟨h, e9⟩ := h; dsimp only at e9 h; subst e9
                                          refine x_icmp_eq C 834 766 dL_law_763 (by decide) rfl (fun c763 => ?_) (fun c763 => ?_)
                                          · have h := h.1 c763
                                            refine x_iinc C 837 rfl 3 (x3 + 6) [(3, .int (x3 + 6)), (0, .ref b), (1, .ref (ad 0)), (2, .ref (ad' 0))] dL_law_834 rfl rfl (by decide) rfl ?_
                                            refine x_goto C 18 dL_law_837 (by decide) ?_
                                            refine x_sub (lv' := [(0, .ref b), (1, .ref (ad 0)), (2, .ref (ad' 0)), (3, .int (x3 + 6))]) [1, 2, 3, 0] rfl ?_
                                            exact ih _ _ _ h
                                          · have h := h.2 c763
                                            refine x_iconst C 767 rfl 0 dL_law_766 rfl ?_
                                            exact h.elim
                                        · have h := h.2 t33_17
                                          by_cases t33_18 : ((ss (Int32.toNatClampNeg x3)) &&& 31) = 18
                                          · have h := h.1 t33_18
                                            refine x_top t33_18 ?_
                                            refine x_tsIn C 768 735 dL_law_33 (by decide) (by decide) (by decide) (by decide) ?_
                                            refine x_aload_n C 769 rfl 1 dL_law_768 rfl rfl ?_
                                            refine x_aload_n C 770 rfl 0 dL_law_769 rfl rfl ?_
                                            refine x_iload_n C 771 rfl 3 dL_law_770 rfl rfl ?_
                                            refine x_iconst C 772 rfl 1 dL_law_771 rfl ?_
                                            refine x_iadd C 773 rfl dL_law_772 ?_
                                            have i107 := h.1
                                            have h := h.2
                                            refine x_sld C 774 rfl hX hbl hbA i107 dL_law_773 ?_
                                            refine x_aload_n C 775 rfl 0 dL_law_774 rfl rfl ?_
                                            refine x_iload_n C 776 rfl 3 dL_law_775 rfl rfl ?_
                                            refine x_iconst C 777 rfl 2 dL_law_776 rfl ?_
                                            refine x_iadd C 778 rfl dL_law_777 ?_
                                            have i108 := h.1
                                            have h := h.2
                                            refine x_sld C 779 rfl hX hbl hbA i108 dL_law_778 ?_
                                            refine x_aload_n C 780 rfl 0 dL_law_779 rfl rfl ?_
                                            refine x_iload_n C 781 rfl 3 dL_law_780 rfl rfl ?_
                                            refine x_iconst C 782 rfl 3 dL_law_781 rfl ?_
                                            refine x_iadd C 783 rfl dL_law_782 ?_
                                            have i109 := h.1
                                            have h := h.2
                                            refine x_sld C 784 rfl hX hbl hbA i109 dL_law_783 ?_
                                            refine x_cVI C 787 rfl (CtI.in1 (wC_adr ad ct) (wM_adr ad' ct) (m_X4_walls l D ad ct _ _ _ _ _ h) _) (cwV 3 C.1.2.2.2.2 gL_law_X4_walls rfl rfl rfl (by decide +kernel) ⟨Nat.le_of_ble_eq_true rfl, Nat.le_of_ble_eq_true rfl⟩) ⟨0, 4, _, _, _, rfl, rfl⟩ rfl rfl (Nat.le_of_ble_eq_true rfl) dL_law_784 ?_
                                            intro r111 u h; obtain ⟨u1, u2⟩ := u; obtain ⟨h, e9⟩ := h; dsimp only at e9 h; subst e9
                                            refine x_aload_n C 788 rfl 2 dL_law_787 rfl rfl ?_
                                            refine x_aload_n C 789 rfl 0 dL_law_788 rfl rfl ?_
                                            refine x_iload_n C 790 rfl 3 dL_law_789 rfl rfl ?_
                                            refine x_iconst C 791 rfl 1 dL_law_790 rfl ?_
                                            refine x_iadd C 792 rfl dL_law_791 ?_
                                            refine x_sld C 793 rfl hX hbl hbA i107 dL_law_792 ?_
                                            refine x_aload_n C 794 rfl 0 dL_law_793 rfl rfl ?_
                                            refine x_iload_n C 795 rfl 3 dL_law_794 rfl rfl ?_
                                            refine x_iconst C 796 rfl 2 dL_law_795 rfl ?_
                                            refine x_iadd C 797 rfl dL_law_796 ?_
                                            refine x_sld C 798 rfl hX hbl hbA i108 dL_law_797 ?_
                                            refine x_aload_n C 799 rfl 0 dL_law_798 rfl rfl ?_
                                            refine x_iload_n C 800 rfl 3 dL_law_799 rfl rfl ?_
                                            refine x_iconst C 801 rfl 3 dL_law_800 rfl ?_
                                            refine x_iadd C 802 rfl dL_law_801 ?_
                                            refine x_sld C 803 rfl hX hbl hbA i109 dL_law_802 ?_
                                            refine x_cVI C 806 rfl (CtI.in2 (wC_adr ad ct) (wM_adr ad' ct) (m_X5_walls l D ad' ct _ _ _ _ _ h) _) (cwV 3 C.1.2.2.2.2 gL_law_X5_walls rfl rfl rfl (by decide +kernel) ⟨Nat.le_of_ble_eq_true rfl, Nat.le_of_ble_eq_true rfl⟩) ⟨50, 5, _, _, _, rfl, rfl⟩ rfl rfl (Nat.le_of_ble_eq_true rfl) dL_law_803 ?_
                                            intro r113 u h; obtain ⟨u1, u2⟩ := u; obtain ⟨h, e9⟩ := h; dsimp only at e9 h; subst e9
                                            refine x_icmp_eq C 834 809 dL_law_806 (by decide) rfl (fun c806 => ?_) (fun c806 => ?_)
                                            · have h := h.1 c806
                                              refine x_iinc C 837 rfl 3 (x3 + 6) [(3, .int (x3 + 6)), (0, .ref b), (1, .ref (ad 0)), (2, .ref (ad' 0))] dL_law_834 rfl rfl (by decide) rfl ?_
                                              refine x_goto C 18 dL_law_837 (by decide) ?_
                                              refine x_sub (lv' := [(0, .ref b), (1, .ref (ad 0)), (2, .ref (ad' 0)), (3, .int (x3 + 6))]) [1, 2, 3, 0] rfl ?_
                                              exact ih _ _ _ h
                                            · have h := h.2 c806
                                              refine x_iconst C 810 rfl 0 dL_law_809 rfl ?_
                                              exact h.elim
                                          · have h := h.2 t33_18
                                            by_cases t33_19 : ((ss (Int32.toNatClampNeg x3)) &&& 31) = 19
                                            · have h := h.1 t33_19
                                              refine x_top t33_19 ?_
                                              refine x_tsIn C 811 778 dL_law_33 (by decide) (by decide) (by decide) (by decide) ?_
                                              refine x_aload_n C 812 rfl 1 dL_law_811 rfl rfl ?_
                                              refine x_aload_n C 813 rfl 0 dL_law_812 rfl rfl ?_
                                              refine x_iload_n C 814 rfl 3 dL_law_813 rfl rfl ?_
                                              refine x_iconst C 815 rfl 1 dL_law_814 rfl ?_
                                              refine x_iadd C 816 rfl dL_law_815 ?_
                                              have i114 := h.1
                                              have h := h.2
                                              refine x_sld C 817 rfl hX hbl hbA i114 dL_law_816 ?_
                                              refine x_cVI C 820 rfl (CtI.in1 (wC_adr ad ct) (wM_adr ad' ct) (m_X4_give l D ad ct _ _ _ h) _) (cwV 1 C.1.2.2.2.2 gL_law_X4_give rfl rfl rfl (by decide +kernel) ⟨Nat.le_of_ble_eq_true rfl, Nat.le_of_ble_eq_true rfl⟩) ⟨0, 4, _, _, _, rfl, rfl⟩ rfl rfl (Nat.le_of_ble_eq_true rfl) dL_law_817 ?_
                                              intro r116 u h; obtain ⟨u1, u2⟩ := u; obtain ⟨h, e9⟩ := h; dsimp only at e9 h; subst e9
                                              refine x_aload_n C 821 rfl 2 dL_law_820 rfl rfl ?_
                                              refine x_aload_n C 822 rfl 0 dL_law_821 rfl rfl ?_
                                              refine x_iload_n C 823 rfl 3 dL_law_822 rfl rfl ?_
                                              refine x_iconst C 824 rfl 1 dL_law_823 rfl ?_
                                              refine x_iadd C 825 rfl dL_law_824 ?_
                                              refine x_sld C 826 rfl hX hbl hbA i114 dL_law_825 ?_
                                              refine x_cVI C 829 rfl (CtI.in2 (wC_adr ad ct) (wM_adr ad' ct) (m_X5_give l D ad' ct _ _ _ h) _) (cwV 1 C.1.2.2.2.2 gL_law_X5_give rfl rfl rfl (by decide +kernel) ⟨Nat.le_of_ble_eq_true rfl, Nat.le_of_ble_eq_true rfl⟩) ⟨50, 5, _, _, _, rfl, rfl⟩ rfl rfl (Nat.le_of_ble_eq_true rfl) dL_law_826 ?_
                                              intro r118 u h; obtain ⟨u1, u2⟩ := u; obtain ⟨h, e9⟩ := h; dsimp only at e9 h; subst e9
                                              refine x_icmp_eq C 834 832 dL_law_829 (by decide) rfl (fun c829 => ?_) (fun c829 => ?_)
                                              · have h := h.1 c829
                                                refine x_iinc C 837 rfl 3 (x3 + 6) [(3, .int (x3 + 6)), (0, .ref b), (1, .ref (ad 0)), (2, .ref (ad' 0))] dL_law_834 rfl rfl (by decide) rfl ?_
                                                refine x_goto C 18 dL_law_837 (by decide) ?_
                                                refine x_sub (lv' := [(0, .ref b), (1, .ref (ad 0)), (2, .ref (ad' 0)), (3, .int (x3 + 6))]) [1, 2, 3, 0] rfl ?_
                                                exact ih _ _ _ h
                                              · have h := h.2 c829
                                                refine x_iconst C 833 rfl 0 dL_law_832 rfl ?_
                                                exact h.elim
                                            · have h := h.2 t33_19
                                              refine x_tsOut C 834 dL_law_33 (by have a0 := tne t33_0 (k := 0) (by decide); have a1 := tne t33_1 (k := 1) (by decide); have a2 := tne t33_2 (k := 2) (by decide); have a3 := tne t33_3 (k := 3) (by decide); have a4 := tne t33_4 (k := 4) (by decide); have a5 := tne t33_5 (k := 5) (by decide); have a6 := tne t33_6 (k := 6) (by decide); have a7 := tne t33_7 (k := 7) (by decide); have a8 := tne t33_8 (k := 8) (by decide); have a9 := tne t33_9 (k := 9) (by decide); have a10 := tne t33_10 (k := 10) (by decide); have a11 := tne t33_11 (k := 11) (by decide); have a12 := tne t33_12 (k := 12) (by decide); have a13 := tne t33_13 (k := 13) (by decide); have a14 := tne t33_14 (k := 14) (by decide); have a15 := tne t33_15 (k := 15) (by decide); have a16 := tne t33_16 (k := 16) (by decide); have a17 := tne t33_17 (k := 17) (by decide); have a18 := tne t33_18 (k := 18) (by decide); have a19 := tne t33_19 (k := 19) (by decide); omega) (by decide) ?_
                                              refine x_iinc C 837 rfl 3 (x3 + 6) [(3, .int (x3 + 6)), (0, .ref b), (1, .ref (ad 0)), (2, .ref (ad' 0))] dL_law_834 rfl rfl (by decide) rfl ?_
                                              refine x_goto C 18 dL_law_837 (by decide) ?_
                                              refine x_sub (lv' := [(0, .ref b), (1, .ref (ad 0)), (2, .ref (ad' 0)), (3, .int (x3 + 6))]) [1, 2, 3, 0] rfl ?_
                                              exact ih _ _ _ h
