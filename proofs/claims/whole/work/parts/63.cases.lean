section LZ
variable {p : Program} {l : Launch} {e : Env} {s : State} {m : MethodId} {below : List Frame} {meth : Method} {c : Code} {H : Heap} {locs : List Loc}
variable {i b L : Nat} {ls : Array Slot} {D : va_G} {xs : Nat → Int32} {a g : Nat → Nat} {cI cII dI cZ : ClassId} {Z1 Z2 : Nat → Prop}
variable {N K : Nat} {A B Q : Nat → Nat → Int32}

set_option maxHeartbeats 2000000 in
set_option maxRecDepth 100000 in
theorem lw_c_thing (F : lw_F p s m meth c b L xs D a cI cII g dI cZ Z1 Z2) (R : Rel N K A B) (h1 : va_P D classes (wC a cI cII (nI N) (nI K) A) H) (h2 : va_P D classes (wM g dI cZ (nI N) (nI K) B Q) H) (hS : va_S (fun q : Nat => s.heap.size ≤ q) s.heap H locs) (hl : lv_has ls 4 [(0, .ref b), (1, .ref (a 0)), (2, .ref (g 0)), (3, .int (nI i))]) (hi : i + 4 ≤ L) (kk : lw_K p l e s m below meth c b D a cI cII g dI cZ ls) : W p l e room_1 s m #[Value.ref b] below meth c H locs 27 2391 (lw_Z below #[Value.ref b] s) (F0 m 124 ls []) := by
  obtain ⟨⟨hx, hb, hr, hml, hown, hts, hX, hbl, hlocks, hgv⟩, hL, -⟩ := id F
  refine lv_aload_n hx hb d_L_law_124 rfl (lv_at hl 1 rfl) ?_
  refine ldA (pc := 125) (k := 1) hx hb hX hbl hL hS hl (by omega) (by decide +kernel) d_L_law_125 d_L_law_126 d_L_law_127 d_L_law_128 d_L_law_129 ?_
  refine lC (As := [.int (xs (i + 1))]) (rest := []) F (ck_thing l D a cI cII N K A R.hN R.hK Z1 (xs (i + 1))) v_L_C_thing ⟨rfl, rfl, Nat.le_of_ble_eq_true rfl, Nat.le_of_ble_eq_true rfl⟩ h1 h2 hS rfl hl.1 rfl (Nat.le_of_ble_eq_true rfl) d_L_law_130 (fun r1 u1 H locs hp1 h1 h2 hS => ?_)
  obtain ⟨rfl, rfl⟩ := hp1
  refine lv_aload_n hx hb d_L_law_133 rfl (lv_at hl 2 rfl) ?_
  refine ldA (pc := 134) (k := 1) hx hb hX hbl hL hS hl (by omega) (by decide +kernel) d_L_law_134 d_L_law_135 d_L_law_136 d_L_law_137 d_L_law_138 ?_
  refine lM (As := [.int (xs (i + 1))]) (rest := [.int ((k_thing N K A (xs (i + 1))).1)]) F (cm_thing l D g dI cZ N K B Q R.hN R.hK R.hC R.hDr Z2 (xs (i + 1))) v_L_M_thing ⟨rfl, rfl, Nat.le_of_ble_eq_true rfl, Nat.le_of_ble_eq_true rfl⟩ h1 h2 hS rfl hl.1 rfl (Nat.le_of_ble_eq_true rfl) d_L_law_139 (fun r2 u2 H locs hp2 h1 h2 hS => ?_)
  obtain ⟨rfl, rfl⟩ := hp2
  obtain ⟨e1, e2, e3, e4⟩ := p_thing (Q := Q) R (xs (i + 1))
  refine lv_icmp_eq (tgt := 741) hx hb d_L_law_142 (by decide) (fun _ => ?_) (fun q => absurd e1 q)
  have h2 : va_P D classes (wM g dI cZ (nI (k_thing N K A (xs (i + 1))).2.1) (nI (k_thing N K A (xs (i + 1))).2.2.1) (m_thing N K B Q (xs (i + 1))).2.2.2.1 (m_thing N K B Q (xs (i + 1))).2.2.2.2) H := by rw [e2, e3]; exact h2
  exact kk _ _ _ _ _ _ _ e4 h1 h2 hS
set_option maxHeartbeats 2000000 in
set_option maxRecDepth 100000 in
theorem lw_c_clear (F : lw_F p s m meth c b L xs D a cI cII g dI cZ Z1 Z2) (R : Rel N K A B) (h1 : va_P D classes (wC a cI cII (nI N) (nI K) A) H) (h2 : va_P D classes (wM g dI cZ (nI N) (nI K) B Q) H) (hS : va_S (fun q : Nat => s.heap.size ≤ q) s.heap H locs) (hl : lv_has ls 4 [(0, .ref b), (1, .ref (a 0)), (2, .ref (g 0)), (3, .int (nI i))]) (hi : i + 4 ≤ L) (kk : lw_K p l e s m below meth c b D a cI cII g dI cZ ls) : W p l e room_1 s m #[Value.ref b] below meth c H locs 27 2391 (lw_Z below #[Value.ref b] s) (F0 m 147 ls []) := by
  obtain ⟨⟨hx, hb, hr, hml, hown, hts, hX, hbl, hlocks, hgv⟩, hL, -⟩ := id F
  refine lv_aload_n hx hb d_L_law_147 rfl (lv_at hl 1 rfl) ?_
  refine lC (As := []) (rest := []) F (ck_clear l D a cI cII N K A R.hN R.hK Z1 ) v_L_C_clear ⟨rfl, rfl, Nat.le_of_ble_eq_true rfl, Nat.le_of_ble_eq_true rfl⟩ h1 h2 hS rfl hl.1 rfl (Nat.le_of_ble_eq_true rfl) d_L_law_148 (fun r1 u1 H locs hp1 h1 h2 hS => ?_)
  obtain ⟨rfl, rfl⟩ := hp1
  refine lv_aload_n hx hb d_L_law_151 rfl (lv_at hl 2 rfl) ?_
  refine lM (As := []) (rest := [.int ((k_clear N K A ).1)]) F (cm_clear l D g dI cZ N K B Q R.hN R.hK R.hC R.hDr Z2 ) v_L_M_clear ⟨rfl, rfl, Nat.le_of_ble_eq_true rfl, Nat.le_of_ble_eq_true rfl⟩ h1 h2 hS rfl hl.1 rfl (Nat.le_of_ble_eq_true rfl) d_L_law_152 (fun r2 u2 H locs hp2 h1 h2 hS => ?_)
  obtain ⟨rfl, rfl⟩ := hp2
  obtain ⟨e1, e2, e3, e4⟩ := p_clear (N := N) (K := K) (A := A) (B := B) (Q := Q)
  refine lv_icmp_eq (tgt := 741) hx hb d_L_law_155 (by decide) (fun _ => ?_) (fun q => absurd e1 q)
  have h2 : va_P D classes (wM g dI cZ (nI (k_clear N K A ).2.1) (nI (k_clear N K A ).2.2.1) (m_clear N K B Q ).2.2.2.1 (m_clear N K B Q ).2.2.2.2) H := by rw [e2, e3]; exact h2
  exact kk _ _ _ _ _ _ _ e4 h1 h2 hS
set_option maxHeartbeats 2000000 in
set_option maxRecDepth 100000 in
theorem lw_c_put (F : lw_F p s m meth c b L xs D a cI cII g dI cZ Z1 Z2) (R : Rel N K A B) (h1 : va_P D classes (wC a cI cII (nI N) (nI K) A) H) (h2 : va_P D classes (wM g dI cZ (nI N) (nI K) B Q) H) (hS : va_S (fun q : Nat => s.heap.size ≤ q) s.heap H locs) (hl : lv_has ls 4 [(0, .ref b), (1, .ref (a 0)), (2, .ref (g 0)), (3, .int (nI i))]) (hi : i + 4 ≤ L) (kk : lw_K p l e s m below meth c b D a cI cII g dI cZ ls) : W p l e room_1 s m #[Value.ref b] below meth c H locs 27 2391 (lw_Z below #[Value.ref b] s) (F0 m 160 ls []) := by
  obtain ⟨⟨hx, hb, hr, hml, hown, hts, hX, hbl, hlocks, hgv⟩, hL, -⟩ := id F
  refine lv_aload_n hx hb d_L_law_160 rfl (lv_at hl 1 rfl) ?_
  refine ldA (pc := 161) (k := 1) hx hb hX hbl hL hS hl (by omega) (by decide +kernel) d_L_law_161 d_L_law_162 d_L_law_163 d_L_law_164 d_L_law_165 ?_
  refine ldA (pc := 166) (k := 2) hx hb hX hbl hL hS hl (by omega) (by decide +kernel) d_L_law_166 d_L_law_167 d_L_law_168 d_L_law_169 d_L_law_170 ?_
  refine lC (As := [.int (xs (i + 1)), .int (xs (i + 2))]) (rest := []) F (ck_put l D a cI cII N K A R.hN R.hK Z1 (xs (i + 1)) (xs (i + 2))) v_L_C_put ⟨rfl, rfl, Nat.le_of_ble_eq_true rfl, Nat.le_of_ble_eq_true rfl⟩ h1 h2 hS rfl hl.1 rfl (Nat.le_of_ble_eq_true rfl) d_L_law_171 (fun r1 u1 H locs hp1 h1 h2 hS => ?_)
  obtain ⟨rfl, rfl⟩ := hp1
  refine lv_aload_n hx hb d_L_law_174 rfl (lv_at hl 2 rfl) ?_
  refine ldA (pc := 175) (k := 1) hx hb hX hbl hL hS hl (by omega) (by decide +kernel) d_L_law_175 d_L_law_176 d_L_law_177 d_L_law_178 d_L_law_179 ?_
  refine ldA (pc := 180) (k := 2) hx hb hX hbl hL hS hl (by omega) (by decide +kernel) d_L_law_180 d_L_law_181 d_L_law_182 d_L_law_183 d_L_law_184 ?_
  refine lM (As := [.int (xs (i + 1)), .int (xs (i + 2))]) (rest := [.int ((k_put N K A (xs (i + 1)) (xs (i + 2))).1)]) F (cm_put l D g dI cZ N K B Q R.hN R.hK R.hC R.hDr Z2 (xs (i + 1)) (xs (i + 2))) v_L_M_put ⟨rfl, rfl, Nat.le_of_ble_eq_true rfl, Nat.le_of_ble_eq_true rfl⟩ h1 h2 hS rfl hl.1 rfl (Nat.le_of_ble_eq_true rfl) d_L_law_185 (fun r2 u2 H locs hp2 h1 h2 hS => ?_)
  obtain ⟨rfl, rfl⟩ := hp2
  obtain ⟨e1, e2⟩ := p_put (Q := Q) R (xs (i + 1)) (xs (i + 2))
  refine lv_icmp_eq (tgt := 741) hx hb d_L_law_188 (by decide) (fun _ => ?_) (fun q => absurd e1 q)
  exact kk N K _ _ _ _ _ e2 h1 h2 hS
set_option maxHeartbeats 2000000 in
set_option maxRecDepth 100000 in
theorem lw_c_set (F : lw_F p s m meth c b L xs D a cI cII g dI cZ Z1 Z2) (R : Rel N K A B) (h1 : va_P D classes (wC a cI cII (nI N) (nI K) A) H) (h2 : va_P D classes (wM g dI cZ (nI N) (nI K) B Q) H) (hS : va_S (fun q : Nat => s.heap.size ≤ q) s.heap H locs) (hl : lv_has ls 4 [(0, .ref b), (1, .ref (a 0)), (2, .ref (g 0)), (3, .int (nI i))]) (hi : i + 4 ≤ L) (kk : lw_K p l e s m below meth c b D a cI cII g dI cZ ls) : W p l e room_1 s m #[Value.ref b] below meth c H locs 27 2391 (lw_Z below #[Value.ref b] s) (F0 m 193 ls []) := by
  obtain ⟨⟨hx, hb, hr, hml, hown, hts, hX, hbl, hlocks, hgv⟩, hL, -⟩ := id F
  refine lv_aload_n hx hb d_L_law_193 rfl (lv_at hl 1 rfl) ?_
  refine ldA (pc := 194) (k := 1) hx hb hX hbl hL hS hl (by omega) (by decide +kernel) d_L_law_194 d_L_law_195 d_L_law_196 d_L_law_197 d_L_law_198 ?_
  refine ldA (pc := 199) (k := 2) hx hb hX hbl hL hS hl (by omega) (by decide +kernel) d_L_law_199 d_L_law_200 d_L_law_201 d_L_law_202 d_L_law_203 ?_
  refine ldA (pc := 204) (k := 3) hx hb hX hbl hL hS hl (by omega) (by decide +kernel) d_L_law_204 d_L_law_205 d_L_law_206 d_L_law_207 d_L_law_208 ?_
  refine lC (As := [.int (xs (i + 1)), .int (xs (i + 2)), .int (xs (i + 3))]) (rest := []) F (ck_set l D a cI cII N K A R.hN R.hK Z1 (xs (i + 1)) (xs (i + 2)) (xs (i + 3))) v_L_C_set ⟨rfl, rfl, Nat.le_of_ble_eq_true rfl, Nat.le_of_ble_eq_true rfl⟩ h1 h2 hS rfl hl.1 rfl (Nat.le_of_ble_eq_true rfl) d_L_law_209 (fun r1 u1 H locs hp1 h1 h2 hS => ?_)
  obtain ⟨rfl, rfl⟩ := hp1
  refine lv_aload_n hx hb d_L_law_212 rfl (lv_at hl 2 rfl) ?_
  refine ldA (pc := 213) (k := 1) hx hb hX hbl hL hS hl (by omega) (by decide +kernel) d_L_law_213 d_L_law_214 d_L_law_215 d_L_law_216 d_L_law_217 ?_
  refine ldA (pc := 218) (k := 2) hx hb hX hbl hL hS hl (by omega) (by decide +kernel) d_L_law_218 d_L_law_219 d_L_law_220 d_L_law_221 d_L_law_222 ?_
  refine ldA (pc := 223) (k := 3) hx hb hX hbl hL hS hl (by omega) (by decide +kernel) d_L_law_223 d_L_law_224 d_L_law_225 d_L_law_226 d_L_law_227 ?_
  refine lM (As := [.int (xs (i + 1)), .int (xs (i + 2)), .int (xs (i + 3))]) (rest := [.int ((k_set N K A (xs (i + 1)) (xs (i + 2)) (xs (i + 3))).1)]) F (cm_set l D g dI cZ N K B Q R.hN R.hK R.hC R.hDr Z2 (xs (i + 1)) (xs (i + 2)) (xs (i + 3))) v_L_M_set ⟨rfl, rfl, Nat.le_of_ble_eq_true rfl, Nat.le_of_ble_eq_true rfl⟩ h1 h2 hS rfl hl.1 rfl (Nat.le_of_ble_eq_true rfl) d_L_law_228 (fun r2 u2 H locs hp2 h1 h2 hS => ?_)
  obtain ⟨rfl, rfl⟩ := hp2
  obtain ⟨e1, e2⟩ := p_set (Q := Q) R (xs (i + 1)) (xs (i + 2)) (xs (i + 3))
  refine lv_icmp_eq (tgt := 741) hx hb d_L_law_231 (by decide) (fun _ => ?_) (fun q => absurd e1 q)
  exact kk N K _ _ _ _ _ e2 h1 h2 hS
set_option maxHeartbeats 2000000 in
set_option maxRecDepth 100000 in
theorem lw_c_door (F : lw_F p s m meth c b L xs D a cI cII g dI cZ Z1 Z2) (R : Rel N K A B) (h1 : va_P D classes (wC a cI cII (nI N) (nI K) A) H) (h2 : va_P D classes (wM g dI cZ (nI N) (nI K) B Q) H) (hS : va_S (fun q : Nat => s.heap.size ≤ q) s.heap H locs) (hl : lv_has ls 4 [(0, .ref b), (1, .ref (a 0)), (2, .ref (g 0)), (3, .int (nI i))]) (hi : i + 4 ≤ L) (kk : lw_K p l e s m below meth c b D a cI cII g dI cZ ls) : W p l e room_1 s m #[Value.ref b] below meth c H locs 27 2391 (lw_Z below #[Value.ref b] s) (F0 m 236 ls []) := by
  obtain ⟨⟨hx, hb, hr, hml, hown, hts, hX, hbl, hlocks, hgv⟩, hL, -⟩ := id F
  refine lv_aload_n hx hb d_L_law_236 rfl (lv_at hl 1 rfl) ?_
  refine ldA (pc := 237) (k := 1) hx hb hX hbl hL hS hl (by omega) (by decide +kernel) d_L_law_237 d_L_law_238 d_L_law_239 d_L_law_240 d_L_law_241 ?_
  refine ldA (pc := 242) (k := 2) hx hb hX hbl hL hS hl (by omega) (by decide +kernel) d_L_law_242 d_L_law_243 d_L_law_244 d_L_law_245 d_L_law_246 ?_
  refine lC (As := [.int (xs (i + 1)), .int (xs (i + 2))]) (rest := []) F (ck_door l D a cI cII N K A R.hN R.hK Z1 (xs (i + 1)) (xs (i + 2))) v_L_C_door ⟨rfl, rfl, Nat.le_of_ble_eq_true rfl, Nat.le_of_ble_eq_true rfl⟩ h1 h2 hS rfl hl.1 rfl (Nat.le_of_ble_eq_true rfl) d_L_law_247 (fun r1 u1 H locs hp1 h1 h2 hS => ?_)
  obtain ⟨rfl, rfl⟩ := hp1
  refine lv_aload_n hx hb d_L_law_250 rfl (lv_at hl 2 rfl) ?_
  refine ldA (pc := 251) (k := 1) hx hb hX hbl hL hS hl (by omega) (by decide +kernel) d_L_law_251 d_L_law_252 d_L_law_253 d_L_law_254 d_L_law_255 ?_
  refine ldA (pc := 256) (k := 2) hx hb hX hbl hL hS hl (by omega) (by decide +kernel) d_L_law_256 d_L_law_257 d_L_law_258 d_L_law_259 d_L_law_260 ?_
  refine lM (As := [.int (xs (i + 1)), .int (xs (i + 2))]) (rest := [.int ((k_door N K A (xs (i + 1)) (xs (i + 2))).1)]) F (cm_door l D g dI cZ N K B Q R.hN R.hK R.hC R.hDr Z2 (xs (i + 1)) (xs (i + 2))) v_L_M_door ⟨rfl, rfl, Nat.le_of_ble_eq_true rfl, Nat.le_of_ble_eq_true rfl⟩ h1 h2 hS rfl hl.1 rfl (Nat.le_of_ble_eq_true rfl) d_L_law_261 (fun r2 u2 H locs hp2 h1 h2 hS => ?_)
  obtain ⟨rfl, rfl⟩ := hp2
  obtain ⟨e1, e2, e3, e4⟩ := p_door (Q := Q) R (xs (i + 1)) (xs (i + 2))
  refine lv_icmp_eq (tgt := 741) hx hb d_L_law_264 (by decide) (fun _ => ?_) (fun q => absurd e1 q)
  have h2 : va_P D classes (wM g dI cZ (nI (k_door N K A (xs (i + 1)) (xs (i + 2))).2.1) (nI (k_door N K A (xs (i + 1)) (xs (i + 2))).2.2.1) (m_door N K B Q (xs (i + 1)) (xs (i + 2))).2.2.2.1 (m_door N K B Q (xs (i + 1)) (xs (i + 2))).2.2.2.2) H := by rw [e2, e3]; exact h2
  exact kk _ _ _ _ _ _ _ e4 h1 h2 hS
set_option maxHeartbeats 2000000 in
set_option maxRecDepth 100000 in
theorem lw_c_turn (F : lw_F p s m meth c b L xs D a cI cII g dI cZ Z1 Z2) (R : Rel N K A B) (h1 : va_P D classes (wC a cI cII (nI N) (nI K) A) H) (h2 : va_P D classes (wM g dI cZ (nI N) (nI K) B Q) H) (hS : va_S (fun q : Nat => s.heap.size ≤ q) s.heap H locs) (hl : lv_has ls 4 [(0, .ref b), (1, .ref (a 0)), (2, .ref (g 0)), (3, .int (nI i))]) (hi : i + 4 ≤ L) (kk : lw_K p l e s m below meth c b D a cI cII g dI cZ ls) : W p l e room_1 s m #[Value.ref b] below meth c H locs 27 2391 (lw_Z below #[Value.ref b] s) (F0 m 269 ls []) := by
  obtain ⟨⟨hx, hb, hr, hml, hown, hts, hX, hbl, hlocks, hgv⟩, hL, -⟩ := id F
  refine lv_aload_n hx hb d_L_law_269 rfl (lv_at hl 1 rfl) ?_
  refine ldA (pc := 270) (k := 1) hx hb hX hbl hL hS hl (by omega) (by decide +kernel) d_L_law_270 d_L_law_271 d_L_law_272 d_L_law_273 d_L_law_274 ?_
  refine ldA (pc := 275) (k := 2) hx hb hX hbl hL hS hl (by omega) (by decide +kernel) d_L_law_275 d_L_law_276 d_L_law_277 d_L_law_278 d_L_law_279 ?_
  refine ldA (pc := 280) (k := 3) hx hb hX hbl hL hS hl (by omega) (by decide +kernel) d_L_law_280 d_L_law_281 d_L_law_282 d_L_law_283 d_L_law_284 ?_
  refine lC (As := [.int (xs (i + 1)), .int (xs (i + 2)), .int (xs (i + 3))]) (rest := []) F (ck_turn l D a cI cII N K A R.hN R.hK Z1 (xs (i + 1)) (xs (i + 2)) (xs (i + 3))) v_L_C_turn ⟨rfl, rfl, Nat.le_of_ble_eq_true rfl, Nat.le_of_ble_eq_true rfl⟩ h1 h2 hS rfl hl.1 rfl (Nat.le_of_ble_eq_true rfl) d_L_law_285 (fun r1 u1 H locs hp1 h1 h2 hS => ?_)
  obtain ⟨rfl, rfl⟩ := hp1
  refine lv_aload_n hx hb d_L_law_288 rfl (lv_at hl 2 rfl) ?_
  refine ldA (pc := 289) (k := 1) hx hb hX hbl hL hS hl (by omega) (by decide +kernel) d_L_law_289 d_L_law_290 d_L_law_291 d_L_law_292 d_L_law_293 ?_
  refine ldA (pc := 294) (k := 2) hx hb hX hbl hL hS hl (by omega) (by decide +kernel) d_L_law_294 d_L_law_295 d_L_law_296 d_L_law_297 d_L_law_298 ?_
  refine ldA (pc := 299) (k := 3) hx hb hX hbl hL hS hl (by omega) (by decide +kernel) d_L_law_299 d_L_law_300 d_L_law_301 d_L_law_302 d_L_law_303 ?_
  refine lM (As := [.int (xs (i + 1)), .int (xs (i + 2)), .int (xs (i + 3))]) (rest := [.int ((k_turn N K A (xs (i + 1)) (xs (i + 2)) (xs (i + 3))).1)]) F (cm_turn l D g dI cZ N K B Q R.hN R.hK R.hC R.hDr Z2 (xs (i + 1)) (xs (i + 2)) (xs (i + 3))) v_L_M_turn ⟨rfl, rfl, Nat.le_of_ble_eq_true rfl, Nat.le_of_ble_eq_true rfl⟩ h1 h2 hS rfl hl.1 rfl (Nat.le_of_ble_eq_true rfl) d_L_law_304 (fun r2 u2 H locs hp2 h1 h2 hS => ?_)
  obtain ⟨rfl, rfl⟩ := hp2
  obtain ⟨e1, e2⟩ := p_turn (Q := Q) R (xs (i + 1)) (xs (i + 2)) (xs (i + 3))
  refine lv_icmp_eq (tgt := 741) hx hb d_L_law_307 (by decide) (fun _ => ?_) (fun q => absurd e1 q)
  exact kk N K _ _ _ _ _ e2 h1 h2 hS
set_option maxHeartbeats 2000000 in
set_option maxRecDepth 100000 in
theorem lw_c_take (F : lw_F p s m meth c b L xs D a cI cII g dI cZ Z1 Z2) (R : Rel N K A B) (h1 : va_P D classes (wC a cI cII (nI N) (nI K) A) H) (h2 : va_P D classes (wM g dI cZ (nI N) (nI K) B Q) H) (hS : va_S (fun q : Nat => s.heap.size ≤ q) s.heap H locs) (hl : lv_has ls 4 [(0, .ref b), (1, .ref (a 0)), (2, .ref (g 0)), (3, .int (nI i))]) (hi : i + 4 ≤ L) (kk : lw_K p l e s m below meth c b D a cI cII g dI cZ ls) : W p l e room_1 s m #[Value.ref b] below meth c H locs 27 2391 (lw_Z below #[Value.ref b] s) (F0 m 312 ls []) := by
  obtain ⟨⟨hx, hb, hr, hml, hown, hts, hX, hbl, hlocks, hgv⟩, hL, -⟩ := id F
  refine lv_aload_n hx hb d_L_law_312 rfl (lv_at hl 1 rfl) ?_
  refine ldA (pc := 313) (k := 1) hx hb hX hbl hL hS hl (by omega) (by decide +kernel) d_L_law_313 d_L_law_314 d_L_law_315 d_L_law_316 d_L_law_317 ?_
  refine ldA (pc := 318) (k := 2) hx hb hX hbl hL hS hl (by omega) (by decide +kernel) d_L_law_318 d_L_law_319 d_L_law_320 d_L_law_321 d_L_law_322 ?_
  refine lC (As := [.int (xs (i + 1)), .int (xs (i + 2))]) (rest := []) F (ck_take l D a cI cII N K A R.hN R.hK Z1 (xs (i + 1)) (xs (i + 2))) v_L_C_take ⟨rfl, rfl, Nat.le_of_ble_eq_true rfl, Nat.le_of_ble_eq_true rfl⟩ h1 h2 hS rfl hl.1 rfl (Nat.le_of_ble_eq_true rfl) d_L_law_323 (fun r1 u1 H locs hp1 h1 h2 hS => ?_)
  obtain ⟨rfl, rfl⟩ := hp1
  refine lv_aload_n hx hb d_L_law_326 rfl (lv_at hl 2 rfl) ?_
  refine ldA (pc := 327) (k := 1) hx hb hX hbl hL hS hl (by omega) (by decide +kernel) d_L_law_327 d_L_law_328 d_L_law_329 d_L_law_330 d_L_law_331 ?_
  refine ldA (pc := 332) (k := 2) hx hb hX hbl hL hS hl (by omega) (by decide +kernel) d_L_law_332 d_L_law_333 d_L_law_334 d_L_law_335 d_L_law_336 ?_
  refine lM (As := [.int (xs (i + 1)), .int (xs (i + 2))]) (rest := [.int ((k_take N K A (xs (i + 1)) (xs (i + 2))).1)]) F (cm_take l D g dI cZ N K B Q R.hN R.hK R.hC R.hDr Z2 (xs (i + 1)) (xs (i + 2))) v_L_M_take ⟨rfl, rfl, Nat.le_of_ble_eq_true rfl, Nat.le_of_ble_eq_true rfl⟩ h1 h2 hS rfl hl.1 rfl (Nat.le_of_ble_eq_true rfl) d_L_law_337 (fun r2 u2 H locs hp2 h1 h2 hS => ?_)
  obtain ⟨rfl, rfl⟩ := hp2
  obtain ⟨e1, e2⟩ := p_take (Q := Q) R (xs (i + 1)) (xs (i + 2))
  refine lv_icmp_eq (tgt := 741) hx hb d_L_law_340 (by decide) (fun _ => ?_) (fun q => absurd e1 q)
  exact kk N K _ _ _ _ _ e2 h1 h2 hS
set_option maxHeartbeats 2000000 in
set_option maxRecDepth 100000 in
theorem lw_c_give (F : lw_F p s m meth c b L xs D a cI cII g dI cZ Z1 Z2) (R : Rel N K A B) (h1 : va_P D classes (wC a cI cII (nI N) (nI K) A) H) (h2 : va_P D classes (wM g dI cZ (nI N) (nI K) B Q) H) (hS : va_S (fun q : Nat => s.heap.size ≤ q) s.heap H locs) (hl : lv_has ls 4 [(0, .ref b), (1, .ref (a 0)), (2, .ref (g 0)), (3, .int (nI i))]) (hi : i + 4 ≤ L) (kk : lw_K p l e s m below meth c b D a cI cII g dI cZ ls) : W p l e room_1 s m #[Value.ref b] below meth c H locs 27 2391 (lw_Z below #[Value.ref b] s) (F0 m 345 ls []) := by
  obtain ⟨⟨hx, hb, hr, hml, hown, hts, hX, hbl, hlocks, hgv⟩, hL, -⟩ := id F
  refine lv_aload_n hx hb d_L_law_345 rfl (lv_at hl 1 rfl) ?_
  refine ldA (pc := 346) (k := 1) hx hb hX hbl hL hS hl (by omega) (by decide +kernel) d_L_law_346 d_L_law_347 d_L_law_348 d_L_law_349 d_L_law_350 ?_
  refine ldA (pc := 351) (k := 2) hx hb hX hbl hL hS hl (by omega) (by decide +kernel) d_L_law_351 d_L_law_352 d_L_law_353 d_L_law_354 d_L_law_355 ?_
  refine ldA (pc := 356) (k := 3) hx hb hX hbl hL hS hl (by omega) (by decide +kernel) d_L_law_356 d_L_law_357 d_L_law_358 d_L_law_359 d_L_law_360 ?_
  refine lC (As := [.int (xs (i + 1)), .int (xs (i + 2)), .int (xs (i + 3))]) (rest := []) F (ck_give l D a cI cII N K A R.hN R.hK Z1 (xs (i + 1)) (xs (i + 2)) (xs (i + 3))) v_L_C_give ⟨rfl, rfl, Nat.le_of_ble_eq_true rfl, Nat.le_of_ble_eq_true rfl⟩ h1 h2 hS rfl hl.1 rfl (Nat.le_of_ble_eq_true rfl) d_L_law_361 (fun r1 u1 H locs hp1 h1 h2 hS => ?_)
  obtain ⟨rfl, rfl⟩ := hp1
  refine lv_aload_n hx hb d_L_law_364 rfl (lv_at hl 2 rfl) ?_
  refine ldA (pc := 365) (k := 1) hx hb hX hbl hL hS hl (by omega) (by decide +kernel) d_L_law_365 d_L_law_366 d_L_law_367 d_L_law_368 d_L_law_369 ?_
  refine ldA (pc := 370) (k := 2) hx hb hX hbl hL hS hl (by omega) (by decide +kernel) d_L_law_370 d_L_law_371 d_L_law_372 d_L_law_373 d_L_law_374 ?_
  refine ldA (pc := 375) (k := 3) hx hb hX hbl hL hS hl (by omega) (by decide +kernel) d_L_law_375 d_L_law_376 d_L_law_377 d_L_law_378 d_L_law_379 ?_
  refine lM (As := [.int (xs (i + 1)), .int (xs (i + 2)), .int (xs (i + 3))]) (rest := [.int ((k_give N K A (xs (i + 1)) (xs (i + 2)) (xs (i + 3))).1)]) F (cm_give l D g dI cZ N K B Q R.hN R.hK R.hC R.hDr Z2 (xs (i + 1)) (xs (i + 2)) (xs (i + 3))) v_L_M_give ⟨rfl, rfl, Nat.le_of_ble_eq_true rfl, Nat.le_of_ble_eq_true rfl⟩ h1 h2 hS rfl hl.1 rfl (Nat.le_of_ble_eq_true rfl) d_L_law_380 (fun r2 u2 H locs hp2 h1 h2 hS => ?_)
  obtain ⟨rfl, rfl⟩ := hp2
  obtain ⟨e1, e2⟩ := p_give (Q := Q) R (xs (i + 1)) (xs (i + 2)) (xs (i + 3))
  refine lv_icmp_eq (tgt := 741) hx hb d_L_law_383 (by decide) (fun _ => ?_) (fun q => absurd e1 q)
  exact kk N K _ _ _ _ _ e2 h1 h2 hS
set_option maxHeartbeats 2000000 in
set_option maxRecDepth 100000 in
theorem lw_c_drop (F : lw_F p s m meth c b L xs D a cI cII g dI cZ Z1 Z2) (R : Rel N K A B) (h1 : va_P D classes (wC a cI cII (nI N) (nI K) A) H) (h2 : va_P D classes (wM g dI cZ (nI N) (nI K) B Q) H) (hS : va_S (fun q : Nat => s.heap.size ≤ q) s.heap H locs) (hl : lv_has ls 4 [(0, .ref b), (1, .ref (a 0)), (2, .ref (g 0)), (3, .int (nI i))]) (hi : i + 4 ≤ L) (kk : lw_K p l e s m below meth c b D a cI cII g dI cZ ls) : W p l e room_1 s m #[Value.ref b] below meth c H locs 27 2391 (lw_Z below #[Value.ref b] s) (F0 m 388 ls []) := by
  obtain ⟨⟨hx, hb, hr, hml, hown, hts, hX, hbl, hlocks, hgv⟩, hL, -⟩ := id F
  refine lv_aload_n hx hb d_L_law_388 rfl (lv_at hl 1 rfl) ?_
  refine ldA (pc := 389) (k := 1) hx hb hX hbl hL hS hl (by omega) (by decide +kernel) d_L_law_389 d_L_law_390 d_L_law_391 d_L_law_392 d_L_law_393 ?_
  refine ldA (pc := 394) (k := 2) hx hb hX hbl hL hS hl (by omega) (by decide +kernel) d_L_law_394 d_L_law_395 d_L_law_396 d_L_law_397 d_L_law_398 ?_
  refine lC (As := [.int (xs (i + 1)), .int (xs (i + 2))]) (rest := []) F (ck_drop l D a cI cII N K A R.hN R.hK Z1 (xs (i + 1)) (xs (i + 2))) v_L_C_drop ⟨rfl, rfl, Nat.le_of_ble_eq_true rfl, Nat.le_of_ble_eq_true rfl⟩ h1 h2 hS rfl hl.1 rfl (Nat.le_of_ble_eq_true rfl) d_L_law_399 (fun r1 u1 H locs hp1 h1 h2 hS => ?_)
  obtain ⟨rfl, rfl⟩ := hp1
  refine lv_aload_n hx hb d_L_law_402 rfl (lv_at hl 2 rfl) ?_
  refine ldA (pc := 403) (k := 1) hx hb hX hbl hL hS hl (by omega) (by decide +kernel) d_L_law_403 d_L_law_404 d_L_law_405 d_L_law_406 d_L_law_407 ?_
  refine ldA (pc := 408) (k := 2) hx hb hX hbl hL hS hl (by omega) (by decide +kernel) d_L_law_408 d_L_law_409 d_L_law_410 d_L_law_411 d_L_law_412 ?_
  refine lM (As := [.int (xs (i + 1)), .int (xs (i + 2))]) (rest := [.int ((k_drop N K A (xs (i + 1)) (xs (i + 2))).1)]) F (cm_drop l D g dI cZ N K B Q R.hN R.hK R.hC R.hDr Z2 (xs (i + 1)) (xs (i + 2))) v_L_M_drop ⟨rfl, rfl, Nat.le_of_ble_eq_true rfl, Nat.le_of_ble_eq_true rfl⟩ h1 h2 hS rfl hl.1 rfl (Nat.le_of_ble_eq_true rfl) d_L_law_413 (fun r2 u2 H locs hp2 h1 h2 hS => ?_)
  obtain ⟨rfl, rfl⟩ := hp2
  obtain ⟨e1, e2⟩ := p_drop (Q := Q) R (xs (i + 1)) (xs (i + 2))
  refine lv_icmp_eq (tgt := 741) hx hb d_L_law_416 (by decide) (fun _ => ?_) (fun q => absurd e1 q)
  exact kk N K _ _ _ _ _ e2 h1 h2 hS
set_option maxHeartbeats 2000000 in
set_option maxRecDepth 100000 in
theorem lw_c_go (F : lw_F p s m meth c b L xs D a cI cII g dI cZ Z1 Z2) (R : Rel N K A B) (h1 : va_P D classes (wC a cI cII (nI N) (nI K) A) H) (h2 : va_P D classes (wM g dI cZ (nI N) (nI K) B Q) H) (hS : va_S (fun q : Nat => s.heap.size ≤ q) s.heap H locs) (hl : lv_has ls 4 [(0, .ref b), (1, .ref (a 0)), (2, .ref (g 0)), (3, .int (nI i))]) (hi : i + 4 ≤ L) (kk : lw_K p l e s m below meth c b D a cI cII g dI cZ ls) : W p l e room_1 s m #[Value.ref b] below meth c H locs 27 2391 (lw_Z below #[Value.ref b] s) (F0 m 421 ls []) := by
  obtain ⟨⟨hx, hb, hr, hml, hown, hts, hX, hbl, hlocks, hgv⟩, hL, -⟩ := id F
  refine lv_aload_n hx hb d_L_law_421 rfl (lv_at hl 1 rfl) ?_
  refine ldA (pc := 422) (k := 1) hx hb hX hbl hL hS hl (by omega) (by decide +kernel) d_L_law_422 d_L_law_423 d_L_law_424 d_L_law_425 d_L_law_426 ?_
  refine ldA (pc := 427) (k := 2) hx hb hX hbl hL hS hl (by omega) (by decide +kernel) d_L_law_427 d_L_law_428 d_L_law_429 d_L_law_430 d_L_law_431 ?_
  refine lC (As := [.int (xs (i + 1)), .int (xs (i + 2))]) (rest := []) F (ck_go l D a cI cII N K A R.hN R.hK Z1 (xs (i + 1)) (xs (i + 2))) v_L_C_go ⟨rfl, rfl, Nat.le_of_ble_eq_true rfl, Nat.le_of_ble_eq_true rfl⟩ h1 h2 hS rfl hl.1 rfl (Nat.le_of_ble_eq_true rfl) d_L_law_432 (fun r1 u1 H locs hp1 h1 h2 hS => ?_)
  obtain ⟨rfl, rfl⟩ := hp1
  refine lv_aload_n hx hb d_L_law_435 rfl (lv_at hl 2 rfl) ?_
  refine ldA (pc := 436) (k := 1) hx hb hX hbl hL hS hl (by omega) (by decide +kernel) d_L_law_436 d_L_law_437 d_L_law_438 d_L_law_439 d_L_law_440 ?_
  refine ldA (pc := 441) (k := 2) hx hb hX hbl hL hS hl (by omega) (by decide +kernel) d_L_law_441 d_L_law_442 d_L_law_443 d_L_law_444 d_L_law_445 ?_
  refine lM (As := [.int (xs (i + 1)), .int (xs (i + 2))]) (rest := [.int ((k_go N K A (xs (i + 1)) (xs (i + 2))).1)]) F (cm_go l D g dI cZ N K B Q R.hN R.hK R.hC R.hDr Z2 (xs (i + 1)) (xs (i + 2))) v_L_M_go ⟨rfl, rfl, Nat.le_of_ble_eq_true rfl, Nat.le_of_ble_eq_true rfl⟩ h1 h2 hS rfl hl.1 rfl (Nat.le_of_ble_eq_true rfl) d_L_law_446 (fun r2 u2 H locs hp2 h1 h2 hS => ?_)
  obtain ⟨rfl, rfl⟩ := hp2
  obtain ⟨e1, e2⟩ := p_go (Q := Q) R (xs (i + 1)) (xs (i + 2))
  refine lv_icmp_eq (tgt := 741) hx hb d_L_law_449 (by decide) (fun _ => ?_) (fun q => absurd e1 q)
  exact kk N K _ _ _ _ _ e2 h1 h2 hS
set_option maxHeartbeats 2000000 in
set_option maxRecDepth 100000 in
theorem lw_c_count (F : lw_F p s m meth c b L xs D a cI cII g dI cZ Z1 Z2) (R : Rel N K A B) (h1 : va_P D classes (wC a cI cII (nI N) (nI K) A) H) (h2 : va_P D classes (wM g dI cZ (nI N) (nI K) B Q) H) (hS : va_S (fun q : Nat => s.heap.size ≤ q) s.heap H locs) (hl : lv_has ls 4 [(0, .ref b), (1, .ref (a 0)), (2, .ref (g 0)), (3, .int (nI i))]) (hi : i + 4 ≤ L) (kk : lw_K p l e s m below meth c b D a cI cII g dI cZ ls) : W p l e room_1 s m #[Value.ref b] below meth c H locs 27 2391 (lw_Z below #[Value.ref b] s) (F0 m 454 ls []) := by
  obtain ⟨⟨hx, hb, hr, hml, hown, hts, hX, hbl, hlocks, hgv⟩, hL, -⟩ := id F
  refine lv_aload_n hx hb d_L_law_454 rfl (lv_at hl 1 rfl) ?_
  refine ldA (pc := 455) (k := 1) hx hb hX hbl hL hS hl (by omega) (by decide +kernel) d_L_law_455 d_L_law_456 d_L_law_457 d_L_law_458 d_L_law_459 ?_
  refine lCr (As := [.int (xs (i + 1))]) (rest := []) F (ck_count l D a cI cII N K A R.hN R.hK (xs (i + 1))) v_L_C_count ⟨rfl, rfl, Nat.le_of_ble_eq_true rfl, Nat.le_of_ble_eq_true rfl⟩ h1 rfl hl.1 rfl (Nat.le_of_ble_eq_true rfl) d_L_law_460 (fun r1 hp1 => ?_)
  subst hp1
  refine lv_aload_n hx hb d_L_law_463 rfl (lv_at hl 2 rfl) ?_
  refine ldA (pc := 464) (k := 1) hx hb hX hbl hL hS hl (by omega) (by decide +kernel) d_L_law_464 d_L_law_465 d_L_law_466 d_L_law_467 d_L_law_468 ?_
  refine lMr (As := [.int (xs (i + 1))]) (rest := [.int (k_count N K A (xs (i + 1)))]) F (cm_count l D g dI cZ N K B Q R.hN R.hK R.hC R.hDr (xs (i + 1))) v_L_M_count ⟨rfl, rfl, Nat.le_of_ble_eq_true rfl, Nat.le_of_ble_eq_true rfl⟩ h2 rfl hl.1 rfl (Nat.le_of_ble_eq_true rfl) d_L_law_469 (fun r2 hp2 => ?_)
  subst hp2
  have e1 := p_count (N := N) (K := K) (A := A) (B := B) (Q := Q) (xs (i + 1))
  refine lv_icmp_eq (tgt := 741) hx hb d_L_law_472 (by decide) (fun _ => ?_) (fun q => absurd e1 q)
  exact kk N K A B Q _ _ R h1 h2 hS
set_option maxHeartbeats 2000000 in
set_option maxRecDepth 100000 in
theorem lw_c_told (F : lw_F p s m meth c b L xs D a cI cII g dI cZ Z1 Z2) (R : Rel N K A B) (h1 : va_P D classes (wC a cI cII (nI N) (nI K) A) H) (h2 : va_P D classes (wM g dI cZ (nI N) (nI K) B Q) H) (hS : va_S (fun q : Nat => s.heap.size ≤ q) s.heap H locs) (hl : lv_has ls 4 [(0, .ref b), (1, .ref (a 0)), (2, .ref (g 0)), (3, .int (nI i))]) (hi : i + 4 ≤ L) (kk : lw_K p l e s m below meth c b D a cI cII g dI cZ ls) : W p l e room_1 s m #[Value.ref b] below meth c H locs 27 2391 (lw_Z below #[Value.ref b] s) (F0 m 477 ls []) := by
  obtain ⟨⟨hx, hb, hr, hml, hown, hts, hX, hbl, hlocks, hgv⟩, hL, -⟩ := id F
  refine lv_aload_n hx hb d_L_law_477 rfl (lv_at hl 1 rfl) ?_
  refine ldA (pc := 478) (k := 1) hx hb hX hbl hL hS hl (by omega) (by decide +kernel) d_L_law_478 d_L_law_479 d_L_law_480 d_L_law_481 d_L_law_482 ?_
  refine ldA (pc := 483) (k := 2) hx hb hX hbl hL hS hl (by omega) (by decide +kernel) d_L_law_483 d_L_law_484 d_L_law_485 d_L_law_486 d_L_law_487 ?_
  refine lCr (As := [.int (xs (i + 1)), .int (xs (i + 2))]) (rest := []) F (ck_told l D a cI cII N K A R.hN R.hK (xs (i + 1)) (xs (i + 2))) v_L_C_told ⟨rfl, rfl, Nat.le_of_ble_eq_true rfl, Nat.le_of_ble_eq_true rfl⟩ h1 rfl hl.1 rfl (Nat.le_of_ble_eq_true rfl) d_L_law_488 (fun r1 hp1 => ?_)
  subst hp1
  refine lv_aload_n hx hb d_L_law_491 rfl (lv_at hl 2 rfl) ?_
  refine ldA (pc := 492) (k := 1) hx hb hX hbl hL hS hl (by omega) (by decide +kernel) d_L_law_492 d_L_law_493 d_L_law_494 d_L_law_495 d_L_law_496 ?_
  refine ldA (pc := 497) (k := 2) hx hb hX hbl hL hS hl (by omega) (by decide +kernel) d_L_law_497 d_L_law_498 d_L_law_499 d_L_law_500 d_L_law_501 ?_
  refine lMr (As := [.int (xs (i + 1)), .int (xs (i + 2))]) (rest := [.int (k_told N K A (xs (i + 1)) (xs (i + 2)))]) F (cm_told l D g dI cZ N K B Q R.hN R.hK R.hC R.hDr (xs (i + 1)) (xs (i + 2))) v_L_M_told ⟨rfl, rfl, Nat.le_of_ble_eq_true rfl, Nat.le_of_ble_eq_true rfl⟩ h2 rfl hl.1 rfl (Nat.le_of_ble_eq_true rfl) d_L_law_502 (fun r2 hp2 => ?_)
  subst hp2
  have e1 := p_told (Q := Q) R (xs (i + 1)) (xs (i + 2))
  refine lv_icmp_eq (tgt := 741) hx hb d_L_law_505 (by decide) (fun _ => ?_) (fun q => absurd e1 q)
  exact kk N K A B Q _ _ R h1 h2 hS
set_option maxHeartbeats 2000000 in
set_option maxRecDepth 100000 in
theorem lw_c_held (F : lw_F p s m meth c b L xs D a cI cII g dI cZ Z1 Z2) (R : Rel N K A B) (h1 : va_P D classes (wC a cI cII (nI N) (nI K) A) H) (h2 : va_P D classes (wM g dI cZ (nI N) (nI K) B Q) H) (hS : va_S (fun q : Nat => s.heap.size ≤ q) s.heap H locs) (hl : lv_has ls 4 [(0, .ref b), (1, .ref (a 0)), (2, .ref (g 0)), (3, .int (nI i))]) (hi : i + 4 ≤ L) (kk : lw_K p l e s m below meth c b D a cI cII g dI cZ ls) : W p l e room_1 s m #[Value.ref b] below meth c H locs 27 2391 (lw_Z below #[Value.ref b] s) (F0 m 510 ls []) := by
  obtain ⟨⟨hx, hb, hr, hml, hown, hts, hX, hbl, hlocks, hgv⟩, hL, -⟩ := id F
  refine lv_aload_n hx hb d_L_law_510 rfl (lv_at hl 1 rfl) ?_
  refine ldA (pc := 511) (k := 1) hx hb hX hbl hL hS hl (by omega) (by decide +kernel) d_L_law_511 d_L_law_512 d_L_law_513 d_L_law_514 d_L_law_515 ?_
  refine ldA (pc := 516) (k := 2) hx hb hX hbl hL hS hl (by omega) (by decide +kernel) d_L_law_516 d_L_law_517 d_L_law_518 d_L_law_519 d_L_law_520 ?_
  refine lCr (As := [.int (xs (i + 1)), .int (xs (i + 2))]) (rest := []) F (ck_held l D a cI cII N K A R.hN R.hK (xs (i + 1)) (xs (i + 2))) v_L_C_held ⟨rfl, rfl, Nat.le_of_ble_eq_true rfl, Nat.le_of_ble_eq_true rfl⟩ h1 rfl hl.1 rfl (Nat.le_of_ble_eq_true rfl) d_L_law_521 (fun r1 hp1 => ?_)
  subst hp1
  refine lv_aload_n hx hb d_L_law_524 rfl (lv_at hl 2 rfl) ?_
  refine ldA (pc := 525) (k := 1) hx hb hX hbl hL hS hl (by omega) (by decide +kernel) d_L_law_525 d_L_law_526 d_L_law_527 d_L_law_528 d_L_law_529 ?_
  refine ldA (pc := 530) (k := 2) hx hb hX hbl hL hS hl (by omega) (by decide +kernel) d_L_law_530 d_L_law_531 d_L_law_532 d_L_law_533 d_L_law_534 ?_
  refine lMr (As := [.int (xs (i + 1)), .int (xs (i + 2))]) (rest := [.int (k_held N K A (xs (i + 1)) (xs (i + 2)))]) F (cm_held l D g dI cZ N K B Q R.hN R.hK R.hC R.hDr (xs (i + 1)) (xs (i + 2))) v_L_M_held ⟨rfl, rfl, Nat.le_of_ble_eq_true rfl, Nat.le_of_ble_eq_true rfl⟩ h2 rfl hl.1 rfl (Nat.le_of_ble_eq_true rfl) d_L_law_535 (fun r2 hp2 => ?_)
  subst hp2
  have e1 := p_held (Q := Q) R (xs (i + 1)) (xs (i + 2))
  refine lv_icmp_eq (tgt := 741) hx hb d_L_law_538 (by decide) (fun _ => ?_) (fun q => absurd e1 q)
  exact kk N K A B Q _ _ R h1 h2 hS
set_option maxHeartbeats 2000000 in
set_option maxRecDepth 100000 in
theorem lw_c_space (F : lw_F p s m meth c b L xs D a cI cII g dI cZ Z1 Z2) (R : Rel N K A B) (h1 : va_P D classes (wC a cI cII (nI N) (nI K) A) H) (h2 : va_P D classes (wM g dI cZ (nI N) (nI K) B Q) H) (hS : va_S (fun q : Nat => s.heap.size ≤ q) s.heap H locs) (hl : lv_has ls 4 [(0, .ref b), (1, .ref (a 0)), (2, .ref (g 0)), (3, .int (nI i))]) (hi : i + 4 ≤ L) (kk : lw_K p l e s m below meth c b D a cI cII g dI cZ ls) : W p l e room_1 s m #[Value.ref b] below meth c H locs 27 2391 (lw_Z below #[Value.ref b] s) (F0 m 543 ls []) := by
  obtain ⟨⟨hx, hb, hr, hml, hown, hts, hX, hbl, hlocks, hgv⟩, hL, -⟩ := id F
  refine lv_aload_n hx hb d_L_law_543 rfl (lv_at hl 1 rfl) ?_
  refine ldA (pc := 544) (k := 1) hx hb hX hbl hL hS hl (by omega) (by decide +kernel) d_L_law_544 d_L_law_545 d_L_law_546 d_L_law_547 d_L_law_548 ?_
  refine ldA (pc := 549) (k := 2) hx hb hX hbl hL hS hl (by omega) (by decide +kernel) d_L_law_549 d_L_law_550 d_L_law_551 d_L_law_552 d_L_law_553 ?_
  refine lC (As := [.int (xs (i + 1)), .int (xs (i + 2))]) (rest := []) F (ck_space l D a cI cII N K A R.hN R.hK Z1 (xs (i + 1)) (xs (i + 2))) v_L_C_space ⟨rfl, rfl, Nat.le_of_ble_eq_true rfl, Nat.le_of_ble_eq_true rfl⟩ h1 h2 hS rfl hl.1 rfl (Nat.le_of_ble_eq_true rfl) d_L_law_554 (fun r1 u1 H locs hp1 h1 h2 hS => ?_)
  obtain ⟨rfl, rfl⟩ := hp1
  refine lv_aload_n hx hb d_L_law_557 rfl (lv_at hl 2 rfl) ?_
  refine ldA (pc := 558) (k := 1) hx hb hX hbl hL hS hl (by omega) (by decide +kernel) d_L_law_558 d_L_law_559 d_L_law_560 d_L_law_561 d_L_law_562 ?_
  refine ldA (pc := 563) (k := 2) hx hb hX hbl hL hS hl (by omega) (by decide +kernel) d_L_law_563 d_L_law_564 d_L_law_565 d_L_law_566 d_L_law_567 ?_
  refine lM (As := [.int (xs (i + 1)), .int (xs (i + 2))]) (rest := [.int ((k_space N K A (xs (i + 1)) (xs (i + 2))).1)]) F (cm_space l D g dI cZ N K B Q R.hN R.hK R.hC R.hDr Z2 (xs (i + 1)) (xs (i + 2))) v_L_M_space ⟨rfl, rfl, Nat.le_of_ble_eq_true rfl, Nat.le_of_ble_eq_true rfl⟩ h1 h2 hS rfl hl.1 rfl (Nat.le_of_ble_eq_true rfl) d_L_law_568 (fun r2 u2 H locs hp2 h1 h2 hS => ?_)
  obtain ⟨rfl, rfl⟩ := hp2
  obtain ⟨e1, e2⟩ := p_space (Q := Q) R (xs (i + 1)) (xs (i + 2))
  refine lv_icmp_eq (tgt := 741) hx hb d_L_law_571 (by decide) (fun _ => ?_) (fun q => absurd e1 q)
  exact kk N K _ B _ _ _ (Rel_ev R e2) h1 h2 hS
set_option maxHeartbeats 2000000 in
set_option maxRecDepth 100000 in
theorem lw_c_loses (F : lw_F p s m meth c b L xs D a cI cII g dI cZ Z1 Z2) (R : Rel N K A B) (h1 : va_P D classes (wC a cI cII (nI N) (nI K) A) H) (h2 : va_P D classes (wM g dI cZ (nI N) (nI K) B Q) H) (hS : va_S (fun q : Nat => s.heap.size ≤ q) s.heap H locs) (hl : lv_has ls 4 [(0, .ref b), (1, .ref (a 0)), (2, .ref (g 0)), (3, .int (nI i))]) (hi : i + 4 ≤ L) (kk : lw_K p l e s m below meth c b D a cI cII g dI cZ ls) : W p l e room_1 s m #[Value.ref b] below meth c H locs 27 2391 (lw_Z below #[Value.ref b] s) (F0 m 576 ls []) := by
  obtain ⟨⟨hx, hb, hr, hml, hown, hts, hX, hbl, hlocks, hgv⟩, hL, -⟩ := id F
  refine lv_aload_n hx hb d_L_law_576 rfl (lv_at hl 1 rfl) ?_
  refine ldA (pc := 577) (k := 1) hx hb hX hbl hL hS hl (by omega) (by decide +kernel) d_L_law_577 d_L_law_578 d_L_law_579 d_L_law_580 d_L_law_581 ?_
  refine ldA (pc := 582) (k := 2) hx hb hX hbl hL hS hl (by omega) (by decide +kernel) d_L_law_582 d_L_law_583 d_L_law_584 d_L_law_585 d_L_law_586 ?_
  refine ldA (pc := 587) (k := 3) hx hb hX hbl hL hS hl (by omega) (by decide +kernel) d_L_law_587 d_L_law_588 d_L_law_589 d_L_law_590 d_L_law_591 ?_
  refine lC (As := [.int (xs (i + 1)), .int (xs (i + 2)), .int (xs (i + 3))]) (rest := []) F (ck_loses l D a cI cII N K A R.hN R.hK Z1 (xs (i + 1)) (xs (i + 2)) (xs (i + 3))) v_L_C_loses ⟨rfl, rfl, Nat.le_of_ble_eq_true rfl, Nat.le_of_ble_eq_true rfl⟩ h1 h2 hS rfl hl.1 rfl (Nat.le_of_ble_eq_true rfl) d_L_law_592 (fun r1 u1 H locs hp1 h1 h2 hS => ?_)
  obtain ⟨rfl, rfl⟩ := hp1
  refine lv_aload_n hx hb d_L_law_595 rfl (lv_at hl 2 rfl) ?_
  refine ldA (pc := 596) (k := 1) hx hb hX hbl hL hS hl (by omega) (by decide +kernel) d_L_law_596 d_L_law_597 d_L_law_598 d_L_law_599 d_L_law_600 ?_
  refine ldA (pc := 601) (k := 2) hx hb hX hbl hL hS hl (by omega) (by decide +kernel) d_L_law_601 d_L_law_602 d_L_law_603 d_L_law_604 d_L_law_605 ?_
  refine ldA (pc := 606) (k := 3) hx hb hX hbl hL hS hl (by omega) (by decide +kernel) d_L_law_606 d_L_law_607 d_L_law_608 d_L_law_609 d_L_law_610 ?_
  refine lM (As := [.int (xs (i + 1)), .int (xs (i + 2)), .int (xs (i + 3))]) (rest := [.int ((k_loses N K A (xs (i + 1)) (xs (i + 2)) (xs (i + 3))).1)]) F (cm_loses l D g dI cZ N K B Q R.hN R.hK R.hC R.hDr Z2 (xs (i + 1)) (xs (i + 2)) (xs (i + 3))) v_L_M_loses ⟨rfl, rfl, Nat.le_of_ble_eq_true rfl, Nat.le_of_ble_eq_true rfl⟩ h1 h2 hS rfl hl.1 rfl (Nat.le_of_ble_eq_true rfl) d_L_law_611 (fun r2 u2 H locs hp2 h1 h2 hS => ?_)
  obtain ⟨rfl, rfl⟩ := hp2
  obtain ⟨e1, e2⟩ := p_loses (Q := Q) R (xs (i + 1)) (xs (i + 2)) (xs (i + 3))
  refine lv_icmp_eq (tgt := 741) hx hb d_L_law_614 (by decide) (fun _ => ?_) (fun q => absurd e1 q)
  exact kk N K _ B _ _ _ (Rel_ev R e2) h1 h2 hS
set_option maxHeartbeats 2000000 in
set_option maxRecDepth 100000 in
theorem lw_c_sees (F : lw_F p s m meth c b L xs D a cI cII g dI cZ Z1 Z2) (R : Rel N K A B) (h1 : va_P D classes (wC a cI cII (nI N) (nI K) A) H) (h2 : va_P D classes (wM g dI cZ (nI N) (nI K) B Q) H) (hS : va_S (fun q : Nat => s.heap.size ≤ q) s.heap H locs) (hl : lv_has ls 4 [(0, .ref b), (1, .ref (a 0)), (2, .ref (g 0)), (3, .int (nI i))]) (hi : i + 4 ≤ L) (kk : lw_K p l e s m below meth c b D a cI cII g dI cZ ls) : W p l e room_1 s m #[Value.ref b] below meth c H locs 27 2391 (lw_Z below #[Value.ref b] s) (F0 m 619 ls []) := by
  obtain ⟨⟨hx, hb, hr, hml, hown, hts, hX, hbl, hlocks, hgv⟩, hL, -⟩ := id F
  refine lv_aload_n hx hb d_L_law_619 rfl (lv_at hl 1 rfl) ?_
  refine ldA (pc := 620) (k := 1) hx hb hX hbl hL hS hl (by omega) (by decide +kernel) d_L_law_620 d_L_law_621 d_L_law_622 d_L_law_623 d_L_law_624 ?_
  refine ldA (pc := 625) (k := 2) hx hb hX hbl hL hS hl (by omega) (by decide +kernel) d_L_law_625 d_L_law_626 d_L_law_627 d_L_law_628 d_L_law_629 ?_
  refine lC (As := [.int (xs (i + 1)), .int (xs (i + 2))]) (rest := []) F (ck_sees l D a cI cII N K A R.hN R.hK Z1 (xs (i + 1)) (xs (i + 2))) v_L_C_sees ⟨rfl, rfl, Nat.le_of_ble_eq_true rfl, Nat.le_of_ble_eq_true rfl⟩ h1 h2 hS rfl hl.1 rfl (Nat.le_of_ble_eq_true rfl) d_L_law_630 (fun r1 u1 H locs hp1 h1 h2 hS => ?_)
  obtain ⟨rfl, rfl⟩ := hp1
  refine lv_aload_n hx hb d_L_law_633 rfl (lv_at hl 2 rfl) ?_
  refine ldA (pc := 634) (k := 1) hx hb hX hbl hL hS hl (by omega) (by decide +kernel) d_L_law_634 d_L_law_635 d_L_law_636 d_L_law_637 d_L_law_638 ?_
  refine ldA (pc := 639) (k := 2) hx hb hX hbl hL hS hl (by omega) (by decide +kernel) d_L_law_639 d_L_law_640 d_L_law_641 d_L_law_642 d_L_law_643 ?_
  refine lM (As := [.int (xs (i + 1)), .int (xs (i + 2))]) (rest := [.int ((k_sees N K A (xs (i + 1)) (xs (i + 2))).1)]) F (cm_sees l D g dI cZ N K B Q R.hN R.hK R.hC R.hDr Z2 (xs (i + 1)) (xs (i + 2))) v_L_M_sees ⟨rfl, rfl, Nat.le_of_ble_eq_true rfl, Nat.le_of_ble_eq_true rfl⟩ h1 h2 hS rfl hl.1 rfl (Nat.le_of_ble_eq_true rfl) d_L_law_644 (fun r2 u2 H locs hp2 h1 h2 hS => ?_)
  obtain ⟨rfl, rfl⟩ := hp2
  obtain ⟨e1, e2⟩ := p_sees (Q := Q) R (xs (i + 1)) (xs (i + 2))
  refine lv_icmp_eq (tgt := 741) hx hb d_L_law_647 (by decide) (fun _ => ?_) (fun q => absurd e1 q)
  exact kk N K _ B _ _ _ (Rel_ev R e2) h1 h2 hS
set_option maxHeartbeats 2000000 in
set_option maxRecDepth 100000 in
theorem lw_c_barrier (F : lw_F p s m meth c b L xs D a cI cII g dI cZ Z1 Z2) (R : Rel N K A B) (h1 : va_P D classes (wC a cI cII (nI N) (nI K) A) H) (h2 : va_P D classes (wM g dI cZ (nI N) (nI K) B Q) H) (hS : va_S (fun q : Nat => s.heap.size ≤ q) s.heap H locs) (hl : lv_has ls 4 [(0, .ref b), (1, .ref (a 0)), (2, .ref (g 0)), (3, .int (nI i))]) (hi : i + 4 ≤ L) (kk : lw_K p l e s m below meth c b D a cI cII g dI cZ ls) : W p l e room_1 s m #[Value.ref b] below meth c H locs 27 2391 (lw_Z below #[Value.ref b] s) (F0 m 652 ls []) := by
  obtain ⟨⟨hx, hb, hr, hml, hown, hts, hX, hbl, hlocks, hgv⟩, hL, -⟩ := id F
  refine lv_aload_n hx hb d_L_law_652 rfl (lv_at hl 1 rfl) ?_
  refine ldA (pc := 653) (k := 1) hx hb hX hbl hL hS hl (by omega) (by decide +kernel) d_L_law_653 d_L_law_654 d_L_law_655 d_L_law_656 d_L_law_657 ?_
  refine ldA (pc := 658) (k := 2) hx hb hX hbl hL hS hl (by omega) (by decide +kernel) d_L_law_658 d_L_law_659 d_L_law_660 d_L_law_661 d_L_law_662 ?_
  refine lCr (As := [.int (xs (i + 1)), .int (xs (i + 2))]) (rest := []) F (ck_barrier l D a cI cII N K A R.hN R.hK (xs (i + 1)) (xs (i + 2))) v_L_C_barrier ⟨rfl, rfl, Nat.le_of_ble_eq_true rfl, Nat.le_of_ble_eq_true rfl⟩ h1 rfl hl.1 rfl (Nat.le_of_ble_eq_true rfl) d_L_law_663 (fun r1 hp1 => ?_)
  subst hp1
  refine lv_aload_n hx hb d_L_law_666 rfl (lv_at hl 2 rfl) ?_
  refine ldA (pc := 667) (k := 1) hx hb hX hbl hL hS hl (by omega) (by decide +kernel) d_L_law_667 d_L_law_668 d_L_law_669 d_L_law_670 d_L_law_671 ?_
  refine ldA (pc := 672) (k := 2) hx hb hX hbl hL hS hl (by omega) (by decide +kernel) d_L_law_672 d_L_law_673 d_L_law_674 d_L_law_675 d_L_law_676 ?_
  refine lM (As := [.int (xs (i + 1)), .int (xs (i + 2))]) (rest := [.int (k_barrier N K A (xs (i + 1)) (xs (i + 2)))]) F (cm_barrier l D g dI cZ N K B Q R.hN R.hK R.hC R.hDr Z2 (xs (i + 1)) (xs (i + 2))) v_L_M_barrier ⟨rfl, rfl, Nat.le_of_ble_eq_true rfl, Nat.le_of_ble_eq_true rfl⟩ h1 h2 hS rfl hl.1 rfl (Nat.le_of_ble_eq_true rfl) d_L_law_677 (fun r2 u2 H locs hp2 h1 h2 hS => ?_)
  obtain ⟨rfl, rfl⟩ := hp2
  have e1 := p_barrier (Q := Q) R (xs (i + 1)) (xs (i + 2))
  refine lv_icmp_eq (tgt := 741) hx hb d_L_law_680 (by decide) (fun _ => ?_) (fun q => absurd e1 q)
  exact kk N K A B _ _ _ R h1 h2 hS
set_option maxHeartbeats 2000000 in
set_option maxRecDepth 100000 in
theorem lw_c_scope (F : lw_F p s m meth c b L xs D a cI cII g dI cZ Z1 Z2) (R : Rel N K A B) (h1 : va_P D classes (wC a cI cII (nI N) (nI K) A) H) (h2 : va_P D classes (wM g dI cZ (nI N) (nI K) B Q) H) (hS : va_S (fun q : Nat => s.heap.size ≤ q) s.heap H locs) (hl : lv_has ls 4 [(0, .ref b), (1, .ref (a 0)), (2, .ref (g 0)), (3, .int (nI i))]) (hi : i + 4 ≤ L) (kk : lw_K p l e s m below meth c b D a cI cII g dI cZ ls) : W p l e room_1 s m #[Value.ref b] below meth c H locs 27 2391 (lw_Z below #[Value.ref b] s) (F0 m 685 ls []) := by
  obtain ⟨⟨hx, hb, hr, hml, hown, hts, hX, hbl, hlocks, hgv⟩, hL, -⟩ := id F
  refine lv_aload_n hx hb d_L_law_685 rfl (lv_at hl 1 rfl) ?_
  refine ldA (pc := 686) (k := 1) hx hb hX hbl hL hS hl (by omega) (by decide +kernel) d_L_law_686 d_L_law_687 d_L_law_688 d_L_law_689 d_L_law_690 ?_
  refine ldA (pc := 691) (k := 2) hx hb hX hbl hL hS hl (by omega) (by decide +kernel) d_L_law_691 d_L_law_692 d_L_law_693 d_L_law_694 d_L_law_695 ?_
  refine lC (As := [.int (xs (i + 1)), .int (xs (i + 2))]) (rest := []) F (ck_scope l D a cI cII N K A R.hN R.hK Z1 (xs (i + 1)) (xs (i + 2))) v_L_C_scope ⟨rfl, rfl, Nat.le_of_ble_eq_true rfl, Nat.le_of_ble_eq_true rfl⟩ h1 h2 hS rfl hl.1 rfl (Nat.le_of_ble_eq_true rfl) d_L_law_696 (fun r1 u1 H locs hp1 h1 h2 hS => ?_)
  obtain ⟨rfl, rfl⟩ := hp1
  refine lv_aload_n hx hb d_L_law_699 rfl (lv_at hl 2 rfl) ?_
  refine ldA (pc := 700) (k := 1) hx hb hX hbl hL hS hl (by omega) (by decide +kernel) d_L_law_700 d_L_law_701 d_L_law_702 d_L_law_703 d_L_law_704 ?_
  refine ldA (pc := 705) (k := 2) hx hb hX hbl hL hS hl (by omega) (by decide +kernel) d_L_law_705 d_L_law_706 d_L_law_707 d_L_law_708 d_L_law_709 ?_
  refine lM (As := [.int (xs (i + 1)), .int (xs (i + 2))]) (rest := [.int ((k_scope N K A (xs (i + 1)) (xs (i + 2))).1)]) F (cm_scope l D g dI cZ N K B Q R.hN R.hK R.hC R.hDr Z2 (xs (i + 1)) (xs (i + 2))) v_L_M_scope ⟨rfl, rfl, Nat.le_of_ble_eq_true rfl, Nat.le_of_ble_eq_true rfl⟩ h1 h2 hS rfl hl.1 rfl (Nat.le_of_ble_eq_true rfl) d_L_law_710 (fun r2 u2 H locs hp2 h1 h2 hS => ?_)
  obtain ⟨rfl, rfl⟩ := hp2
  obtain ⟨e1, e2⟩ := p_scope (Q := Q) R (xs (i + 1)) (xs (i + 2))
  refine lv_icmp_eq (tgt := 741) hx hb d_L_law_713 (by decide) (fun _ => ?_) (fun q => absurd e1 q)
  exact kk N K _ B _ _ _ (Rel_ev R e2) h1 h2 hS
set_option maxHeartbeats 2000000 in
set_option maxRecDepth 100000 in
theorem lw_c_hears (F : lw_F p s m meth c b L xs D a cI cII g dI cZ Z1 Z2) (R : Rel N K A B) (h1 : va_P D classes (wC a cI cII (nI N) (nI K) A) H) (h2 : va_P D classes (wM g dI cZ (nI N) (nI K) B Q) H) (hS : va_S (fun q : Nat => s.heap.size ≤ q) s.heap H locs) (hl : lv_has ls 4 [(0, .ref b), (1, .ref (a 0)), (2, .ref (g 0)), (3, .int (nI i))]) (hi : i + 4 ≤ L) (kk : lw_K p l e s m below meth c b D a cI cII g dI cZ ls) : W p l e room_1 s m #[Value.ref b] below meth c H locs 27 2391 (lw_Z below #[Value.ref b] s) (F0 m 718 ls []) := by
  obtain ⟨⟨hx, hb, hr, hml, hown, hts, hX, hbl, hlocks, hgv⟩, hL, -⟩ := id F
  refine lv_aload_n hx hb d_L_law_718 rfl (lv_at hl 1 rfl) ?_
  refine ldA (pc := 719) (k := 1) hx hb hX hbl hL hS hl (by omega) (by decide +kernel) d_L_law_719 d_L_law_720 d_L_law_721 d_L_law_722 d_L_law_723 ?_
  refine lC (As := [.int (xs (i + 1))]) (rest := []) F (ck_hears l D a cI cII N K A R.hN R.hK Z1 (xs (i + 1))) v_L_C_hears ⟨rfl, rfl, Nat.le_of_ble_eq_true rfl, Nat.le_of_ble_eq_true rfl⟩ h1 h2 hS rfl hl.1 rfl (Nat.le_of_ble_eq_true rfl) d_L_law_724 (fun r1 u1 H locs hp1 h1 h2 hS => ?_)
  obtain ⟨rfl, rfl⟩ := hp1
  refine lv_aload_n hx hb d_L_law_727 rfl (lv_at hl 2 rfl) ?_
  refine ldA (pc := 728) (k := 1) hx hb hX hbl hL hS hl (by omega) (by decide +kernel) d_L_law_728 d_L_law_729 d_L_law_730 d_L_law_731 d_L_law_732 ?_
  refine lM (As := [.int (xs (i + 1))]) (rest := [.int ((k_hears N K A (xs (i + 1))).1)]) F (cm_hears l D g dI cZ N K B Q R.hN R.hK R.hC R.hDr Z2 (xs (i + 1))) v_L_M_hears ⟨rfl, rfl, Nat.le_of_ble_eq_true rfl, Nat.le_of_ble_eq_true rfl⟩ h1 h2 hS rfl hl.1 rfl (Nat.le_of_ble_eq_true rfl) d_L_law_733 (fun r2 u2 H locs hp2 h1 h2 hS => ?_)
  obtain ⟨rfl, rfl⟩ := hp2
  obtain ⟨e1, e2⟩ := p_hears (Q := Q) R (xs (i + 1))
  refine lv_icmp_eq (tgt := 741) hx hb d_L_law_736 (by decide) (fun _ => ?_) (fun q => absurd e1 q)
  exact kk N K _ B _ _ _ (Rel_ev R e2) h1 h2 hS
end LZ
