theorem lcmp_eq {x y : Int64} (h : x = y) : lg_cmp x y = 0 := by subst h; simp [lg_cmp]
def mLaw (nm : String) : gM := (⟨"StoryNumbersLaw", nm, "([I)Z"⟩, code, 4, some .boolean, 0, 0, 0)
def lawQ (G : gC) : List Frame → Array Value → State → State → Prop := fun below args s t => (s.heap.size = G.2.1 ∧ args = #[.ref (G.2.2.2 10)]) → lw_Z below args s t
def sc (G : gC) (j : Nat) : Int32 := nI (G.2.2.2 (20 + j))
abbrev lawLv (G : gC) (i : Int32) : List (Nat × Value) := [(0, .ref (G.2.2.2 10)), (1, .ref (ga G 0)), (2, .ref (ga G 78)), (3, .int i)]
def lawGo (G : gC) (l : Launch) (nm : String) (pc k1 k2 : Nat) (i : Int32) (μ : Mem) : Prop := Gg G l (mLaw nm) room_1 (lawQ G) k1 k2 pc (gw G μ) (lawLv G i) []
section LAWR
variable {G : gC} {l : Launch} {M : gM} {R : Room} {Q : List Frame → Array Value → State → State → Prop} {k1 k2 pc : Nat} {wd : Heap → Prop} {lv : List (Nat × Value)} {st : List Value}
theorem go_sld {i : Int32} (hd : decode M.cc pc = .ok (.iaload, 1)) (hin : vp_in i (G.2.2.2 11)) (kk : Gg G l M R Q k1 k2 (pc + 1) wd lv (.int (sc G i.toNatClampNeg) :: st)) : Gg G l M R Q k1 k2 pc wd lv (.int i :: .ref (G.2.2.2 10) :: st) := by
  intro p e s m args below meth c cx H locs ls hP hS hl
  obtain ⟨cell, h1, h2, h3, h4, h5, h6⟩ := (cx.2.2.2.2.2.2.2.2.1).1.2.2
  have hlt : i.toNatClampNeg < G.2.2.2 11 := Nat.not_le.mp fun q => hin (Or.inr q)
  exact W.iald (v := .int (sc G i.toNatClampNeg)) cx.1 cx.2.1 (by rw [hS.2.1 _ (Array.getElem?_eq_some_iff.mp h1).1 h6]; exact h1) h2 h3 (fun q => hin (q.elim Or.inl (fun q => Or.inr (by rw [h4] at q; exact q)))) (h5 _ hlt) rfl rfl hd (kk p e s m args below meth c cx H locs ls hP hS hl)
theorem go_slen (hd : decode M.cc pc = .ok (.arraylength, 1)) (kk : Gg G l M R Q k1 k2 (pc + 1) wd lv (.int (nI (G.2.2.2 11)) :: st)) : Gg G l M R Q k1 k2 pc wd lv (.ref (G.2.2.2 10) :: st) := by
  intro p e s m args below meth c cx H locs ls hP hS hl
  obtain ⟨cell, h1, h2, h3, h4, h5, h6⟩ := (cx.2.2.2.2.2.2.2.2.1).1.2.2
  exact W.alen cx.1 cx.2.1 (by rw [hS.2.1 _ (Array.getElem?_eq_some_iff.mp h1).1 h6]; exact h1) h2 (show cell.slots.size.toInt32 = nI (G.2.2.2 11) by rw [h4]; rfl) rfl rfl hd (kk p e s m args below meth c cx H locs ls hP hS hl)
theorem law_ret {nm : String} (h1 : k1 ≤ 600000) (h2 : k2 ≤ 7302250) : Gg G l (mLaw nm) room_1 (lawQ G) k1 k2 978 wd lv [.int 1] := by
  intro p e s m args below meth c cx H locs ls hP hS hl
  by_cases hb : s.heap.size = G.2.1 ∧ args = #[.ref (G.2.2.2 10)]
  · obtain ⟨hb, rfl⟩ := hb
    have hw : W p l e room_1 s m #[.ref (G.2.2.2 10)] below meth c H locs k1 k2 (lw_Z below #[.ref (G.2.2.2 10)] s) (F0 m 978 ls [.int 1]) := by
      refine va_forget (fun q hq => by rw [hb]; exact hS.2.2 q hq) ?_
      refine W.widen h1 h2 ?_
      exact lw_ret cx.1 cx.2.1 cx.2.2.1 cx.2.2.2.2.2.2.1 dL_law_978
    intro T hT X
    obtain ⟨t, a1, b1⟩ := hw T hT X
    exact ⟨t, a1, fun _ => b1⟩
  · intro T hT X
    exact ⟨_, Steps.refl _, fun h => absurd h hb⟩
theorem go_eqi {x y : Int32} (h : x = y) (k : Gg G l M R Q k1 k2 pc wd lv (.int y :: st)) : Gg G l M R Q k1 k2 pc wd lv (.int x :: st) := by rw [h]; exact k
end LAWR
theorem cL_13 : Cond.constantLong "StoryNumbersLaw" 13 4294967295 ∈ g_tbl := g_in 1354 (by decide +kernel) rfl
theorem lL_15 : gLV "StoryNumbersLaw" 15 mX9_feed := ⟨g_in 348 (by decide +kernel) rfl, g_in 349 (by decide +kernel) rfl, g_in 350 (by decide +kernel) rfl⟩
theorem lL_19 : gLV "StoryNumbersLaw" 19 mX10_feed := ⟨g_in 1074 (by decide +kernel) rfl, g_in 1075 (by decide +kernel) rfl, g_in 1076 (by decide +kernel) rfl⟩
set_option maxRecDepth 100000 in
theorem law_case_0 {G : gC} {l : Launch} {nm : String} {k1 k2 : Nat} {i : Int32} {μ : Mem} (hk1 : k1 + 38 ≤ 600000) (hk2 : k2 + 34859 ≤ 7302250) (b0 : vp_in (i + (1 : Int32)) (G.2.2.2 11)) (b1 : vp_in (i + (2 : Int32)) (G.2.2.2 11)) (b2 : vp_in (i + (3 : Int32)) (G.2.2.2 11)) (h : qX9_feed G l (sc G ((i + (1 : Int32))).toNatClampNeg) ((((sc G ((i + (2 : Int32))).toNatClampNeg)).toInt64 <<< (((32 : Int32)).toInt64 &&& 63)) ||| (((sc G ((i + (3 : Int32))).toNatClampNeg)).toInt64 &&& (4294967295 : Int64))) μ (fun (r1 : Int32) (μ1 : Mem) => qX10_feed G l (sc G ((i + (1 : Int32))).toNatClampNeg) ((((sc G ((i + (2 : Int32))).toNatClampNeg)).toInt64 <<< (((32 : Int32)).toInt64 &&& 63)) ||| (((sc G ((i + (3 : Int32))).toNatClampNeg)).toInt64 &&& (4294967295 : Int64))) μ1 (fun (r2 : Int32) (μ2 : Mem) => r1 = r2 ∧ lawGo G l nm 971 (k1 + 38) (k2 + 34859) i μ2))) : lawGo G l nm 160 k1 k2 i μ := by
  refine go_aload_n dL_law_160 rfl 1 rfl ?_
  refine go_aload_n dL_law_161 rfl 0 rfl ?_
  refine go_iload_n dL_law_162 rfl 3 rfl ?_
  refine go_iconst (v := 1) dL_law_163 (by decide) ?_
  refine go_iadd dL_law_164 ?_
  refine go_sld dL_law_165 b0 ?_
  refine go_aload_n dL_law_166 rfl 0 rfl ?_
  refine go_iload_n dL_law_167 rfl 3 rfl ?_
  refine go_iconst (v := 2) dL_law_168 (by decide) ?_
  refine go_iadd dL_law_169 ?_
  refine go_sld dL_law_170 b1 ?_
  refine go_i2l dL_law_171 ?_
  refine go_bipush (v := 32) dL_law_172 (by decide) ?_
  refine go_lshl dL_law_174 ?_
  refine go_aload_n dL_law_175 rfl 0 rfl ?_
  refine go_iload_n dL_law_176 rfl 3 rfl ?_
  refine go_iconst (v := 3) dL_law_177 (by decide) ?_
  refine go_iadd dL_law_178 ?_
  refine go_sld dL_law_179 b2 ?_
  refine go_i2l dL_law_180 ?_
  refine go_ldc2_w (v := 4294967295) cL_13 dL_law_181 ?_
  refine go_land dL_law_184 ?_
  refine go_lor dL_law_185 ?_
  refine go_callV (As := [.int (sc G ((i + (1 : Int32))).toNatClampNeg), .long ((((sc G ((i + (2 : Int32))).toNatClampNeg)).toInt64 <<< (((32 : Int32)).toInt64 &&& 63)) ||| (((sc G ((i + (3 : Int32))).toNatClampNeg)).toInt64 &&& (4294967295 : Int64)))]) (rest := []) dL_law_186 lL_15 kX9_feed rfl (by decide) (Nat.le_of_ble_eq_true rfl) (g_lt rfl) (gs_0 G _ _) rfl (show k1 + 0 ≤ 600000 ∧ k2 + 0 ≤ 7302250 by omega) rfl (gI_go (fun r1 μ1 h => ?_)) h
  refine go_aload_n dL_law_189 rfl 2 rfl ?_
  refine go_aload_n dL_law_190 rfl 0 rfl ?_
  refine go_iload_n dL_law_191 rfl 3 rfl ?_
  refine go_iconst (v := 1) dL_law_192 (by decide) ?_
  refine go_iadd dL_law_193 ?_
  refine go_sld dL_law_194 b0 ?_
  refine go_aload_n dL_law_195 rfl 0 rfl ?_
  refine go_iload_n dL_law_196 rfl 3 rfl ?_
  refine go_iconst (v := 2) dL_law_197 (by decide) ?_
  refine go_iadd dL_law_198 ?_
  refine go_sld dL_law_199 b1 ?_
  refine go_i2l dL_law_200 ?_
  refine go_bipush (v := 32) dL_law_201 (by decide) ?_
  refine go_lshl dL_law_203 ?_
  refine go_aload_n dL_law_204 rfl 0 rfl ?_
  refine go_iload_n dL_law_205 rfl 3 rfl ?_
  refine go_iconst (v := 3) dL_law_206 (by decide) ?_
  refine go_iadd dL_law_207 ?_
  refine go_sld dL_law_208 b2 ?_
  refine go_i2l dL_law_209 ?_
  refine go_ldc2_w (v := 4294967295) cL_13 dL_law_210 ?_
  refine go_land dL_law_213 ?_
  refine go_lor dL_law_214 ?_
  refine go_callV (As := [.int (sc G ((i + (1 : Int32))).toNatClampNeg), .long ((((sc G ((i + (2 : Int32))).toNatClampNeg)).toInt64 <<< (((32 : Int32)).toInt64 &&& 63)) ||| (((sc G ((i + (3 : Int32))).toNatClampNeg)).toInt64 &&& (4294967295 : Int64)))]) (rest := [.int r1]) dL_law_215 lL_19 kX10_feed rfl (by decide) (Nat.le_of_ble_eq_true rfl) (g_lt rfl) (gs_78 G _ _) rfl (show k1 + 0 + 0 ≤ 600000 ∧ k2 + 0 + 0 ≤ 7302250 by omega) rfl (gI_go (fun r2 μ2 h => ?_)) h
  refine go_icmp_eq 971 dL_law_218 (by decide) (fun c => ?_) (fun c => absurd h.1 c)
  exact go_widen (n1 := k1 + 38) (n2 := k2 + 34859) (show k1 + 0 + 0 ≤ k1 + 38 by omega) (show k2 + 0 + 0 ≤ k2 + 34859 by omega) h.2
theorem lL_20 : gLV "StoryNumbersLaw" 20 mX9_story := ⟨g_in 356 (by decide +kernel) rfl, g_in 357 (by decide +kernel) rfl, g_in 358 (by decide +kernel) rfl⟩
theorem lL_24 : gLV "StoryNumbersLaw" 24 mX10_story := ⟨g_in 1083 (by decide +kernel) rfl, g_in 1084 (by decide +kernel) rfl, g_in 1085 (by decide +kernel) rfl⟩
set_option maxRecDepth 100000 in
theorem law_case_1 {G : gC} {l : Launch} {nm : String} {k1 k2 : Nat} {i : Int32} {μ : Mem} (hk1 : k1 + 38 ≤ 600000) (hk2 : k2 + 34859 ≤ 7302250)  (h : qX9_story G l  μ (fun (r1 : Int32) (μ1 : Mem) => qX10_story G l  μ1 (fun (r2 : Int32) (μ2 : Mem) => r1 = r2 ∧ lawGo G l nm 971 (k1 + 38) (k2 + 34859) i μ2))) : lawGo G l nm 223 k1 k2 i μ := by
  refine go_aload_n dL_law_223 rfl 1 rfl ?_
  refine go_callV (As := []) (rest := []) dL_law_224 lL_20 kX9_story rfl (by decide) (Nat.le_of_ble_eq_true rfl) (g_lt rfl) (gs_0 G _ _) rfl (show k1 + 0 ≤ 600000 ∧ k2 + 0 ≤ 7302250 by omega) rfl (gI_go (fun r1 μ1 h => ?_)) h
  refine go_aload_n dL_law_227 rfl 2 rfl ?_
  refine go_callV (As := []) (rest := [.int r1]) dL_law_228 lL_24 kX10_story rfl (by decide) (Nat.le_of_ble_eq_true rfl) (g_lt rfl) (gs_78 G _ _) rfl (show k1 + 0 + 0 ≤ 600000 ∧ k2 + 0 + 0 ≤ 7302250 by omega) rfl (gI_go (fun r2 μ2 h => ?_)) h
  refine go_icmp_eq 971 dL_law_231 (by decide) (fun c => ?_) (fun c => absurd h.1 c)
  exact go_widen (n1 := k1 + 38) (n2 := k2 + 34859) (show k1 + 0 + 0 ≤ k1 + 38 by omega) (show k2 + 0 + 0 ≤ k2 + 34859 by omega) h.2
theorem lL_25 : gLV "StoryNumbersLaw" 25 mX9_fault := ⟨g_in 495 (by decide +kernel) rfl, g_in 496 (by decide +kernel) rfl, g_in 497 (by decide +kernel) rfl⟩
theorem lL_28 : gLV "StoryNumbersLaw" 28 mX10_fault := ⟨g_in 1137 (by decide +kernel) rfl, g_in 1138 (by decide +kernel) rfl, g_in 1139 (by decide +kernel) rfl⟩
set_option maxRecDepth 100000 in
theorem law_case_2 {G : gC} {l : Launch} {nm : String} {k1 k2 : Nat} {i : Int32} {μ : Mem} (hk1 : k1 + 38 ≤ 600000) (hk2 : k2 + 34859 ≤ 7302250)  (h : qX9_fault G l  μ (fun (r1 : Int32) (μ1 : Mem) => qX10_fault G l  μ1 (fun (r2 : Int32) (μ2 : Mem) => r1 = r2 ∧ lawGo G l nm 971 (k1 + 38) (k2 + 34859) i μ2))) : lawGo G l nm 236 k1 k2 i μ := by
  refine go_aload_n dL_law_236 rfl 1 rfl ?_
  refine go_callV (As := []) (rest := []) dL_law_237 lL_25 kX9_fault rfl (by decide) (Nat.le_of_ble_eq_true rfl) (g_lt rfl) (gs_0 G _ _) rfl (show k1 + 0 ≤ 600000 ∧ k2 + 0 ≤ 7302250 by omega) rfl (gI_go (fun r1 μ1 h => ?_)) h
  refine go_aload_n dL_law_240 rfl 2 rfl ?_
  refine go_callV (As := []) (rest := [.int r1]) dL_law_241 lL_28 kX10_fault rfl (by decide) (Nat.le_of_ble_eq_true rfl) (g_lt rfl) (gs_78 G _ _) rfl (show k1 + 0 + 0 ≤ 600000 ∧ k2 + 0 + 0 ≤ 7302250 by omega) rfl (gI_go (fun r2 μ2 h => ?_)) h
  refine go_icmp_eq 971 dL_law_244 (by decide) (fun c => ?_) (fun c => absurd h.1 c)
  exact go_widen (n1 := k1 + 38) (n2 := k2 + 34859) (show k1 + 0 + 0 ≤ k1 + 38 by omega) (show k2 + 0 + 0 ≤ k2 + 34859 by omega) h.2
theorem lL_29 : gLV "StoryNumbersLaw" 29 mX9_scene := ⟨g_in 499 (by decide +kernel) rfl, g_in 500 (by decide +kernel) rfl, g_in 501 (by decide +kernel) rfl⟩
theorem lL_33 : gLV "StoryNumbersLaw" 33 mX10_scene := ⟨g_in 1141 (by decide +kernel) rfl, g_in 1142 (by decide +kernel) rfl, g_in 1143 (by decide +kernel) rfl⟩
set_option maxRecDepth 100000 in
theorem law_case_3 {G : gC} {l : Launch} {nm : String} {k1 k2 : Nat} {i : Int32} {μ : Mem} (hk1 : k1 + 38 ≤ 600000) (hk2 : k2 + 34859 ≤ 7302250) (b0 : vp_in (i + (1 : Int32)) (G.2.2.2 11)) (b1 : vp_in (i + (2 : Int32)) (G.2.2.2 11)) (h : qX9_scene G l (sc G ((i + (1 : Int32))).toNatClampNeg) (sc G ((i + (2 : Int32))).toNatClampNeg) μ (fun (r1 : Int32) (μ1 : Mem) => qX10_scene G l (sc G ((i + (1 : Int32))).toNatClampNeg) (sc G ((i + (2 : Int32))).toNatClampNeg) μ1 (fun (r2 : Int32) (μ2 : Mem) => r1 = r2 ∧ lawGo G l nm 971 (k1 + 38) (k2 + 34859) i μ2))) : lawGo G l nm 249 k1 k2 i μ := by
  refine go_aload_n dL_law_249 rfl 1 rfl ?_
  refine go_aload_n dL_law_250 rfl 0 rfl ?_
  refine go_iload_n dL_law_251 rfl 3 rfl ?_
  refine go_iconst (v := 1) dL_law_252 (by decide) ?_
  refine go_iadd dL_law_253 ?_
  refine go_sld dL_law_254 b0 ?_
  refine go_aload_n dL_law_255 rfl 0 rfl ?_
  refine go_iload_n dL_law_256 rfl 3 rfl ?_
  refine go_iconst (v := 2) dL_law_257 (by decide) ?_
  refine go_iadd dL_law_258 ?_
  refine go_sld dL_law_259 b1 ?_
  refine go_callV (As := [.int (sc G ((i + (1 : Int32))).toNatClampNeg), .int (sc G ((i + (2 : Int32))).toNatClampNeg)]) (rest := []) dL_law_260 lL_29 kX9_scene rfl (by decide) (Nat.le_of_ble_eq_true rfl) (g_lt rfl) (gs_0 G _ _) rfl (show k1 + 0 ≤ 600000 ∧ k2 + 0 ≤ 7302250 by omega) rfl (gI_go (fun r1 μ1 h => ?_)) h
  refine go_aload_n dL_law_263 rfl 2 rfl ?_
  refine go_aload_n dL_law_264 rfl 0 rfl ?_
  refine go_iload_n dL_law_265 rfl 3 rfl ?_
  refine go_iconst (v := 1) dL_law_266 (by decide) ?_
  refine go_iadd dL_law_267 ?_
  refine go_sld dL_law_268 b0 ?_
  refine go_aload_n dL_law_269 rfl 0 rfl ?_
  refine go_iload_n dL_law_270 rfl 3 rfl ?_
  refine go_iconst (v := 2) dL_law_271 (by decide) ?_
  refine go_iadd dL_law_272 ?_
  refine go_sld dL_law_273 b1 ?_
  refine go_callV (As := [.int (sc G ((i + (1 : Int32))).toNatClampNeg), .int (sc G ((i + (2 : Int32))).toNatClampNeg)]) (rest := [.int r1]) dL_law_274 lL_33 kX10_scene rfl (by decide) (Nat.le_of_ble_eq_true rfl) (g_lt rfl) (gs_78 G _ _) rfl (show k1 + 0 + 0 ≤ 600000 ∧ k2 + 0 + 0 ≤ 7302250 by omega) rfl (gI_go (fun r2 μ2 h => ?_)) h
  refine go_icmp_eq 971 dL_law_277 (by decide) (fun c => ?_) (fun c => absurd h.1 c)
  exact go_widen (n1 := k1 + 38) (n2 := k2 + 34859) (show k1 + 0 + 0 ≤ k1 + 38 by omega) (show k2 + 0 + 0 ≤ k2 + 34859 by omega) h.2
theorem lL_34 : gLV "StoryNumbersLaw" 34 mX9_never := ⟨g_in 528 (by decide +kernel) rfl, g_in 529 (by decide +kernel) rfl, g_in 530 (by decide +kernel) rfl⟩
theorem lL_38 : gLV "StoryNumbersLaw" 38 mX10_never := ⟨g_in 1161 (by decide +kernel) rfl, g_in 1162 (by decide +kernel) rfl, g_in 1163 (by decide +kernel) rfl⟩
set_option maxRecDepth 100000 in
theorem law_case_4 {G : gC} {l : Launch} {nm : String} {k1 k2 : Nat} {i : Int32} {μ : Mem} (hk1 : k1 + 38 ≤ 600000) (hk2 : k2 + 34859 ≤ 7302250) (b0 : vp_in (i + (1 : Int32)) (G.2.2.2 11)) (b1 : vp_in (i + (2 : Int32)) (G.2.2.2 11)) (b2 : vp_in (i + (3 : Int32)) (G.2.2.2 11)) (h : qX9_never G l (sc G ((i + (1 : Int32))).toNatClampNeg) (sc G ((i + (2 : Int32))).toNatClampNeg) (if (sc G ((i + (3 : Int32))).toNatClampNeg) = 0 then (0 : Int32) else 1) μ (fun (r1 : Int32) (μ1 : Mem) => qX10_never G l (sc G ((i + (1 : Int32))).toNatClampNeg) (sc G ((i + (2 : Int32))).toNatClampNeg) (if (sc G ((i + (3 : Int32))).toNatClampNeg) = 0 then (0 : Int32) else 1) μ1 (fun (r2 : Int32) (μ2 : Mem) => r1 = r2 ∧ lawGo G l nm 971 (k1 + 38) (k2 + 34859) i μ2))) : lawGo G l nm 282 k1 k2 i μ := by
  refine go_aload_n dL_law_282 rfl 1 rfl ?_
  refine go_aload_n dL_law_283 rfl 0 rfl ?_
  refine go_iload_n dL_law_284 rfl 3 rfl ?_
  refine go_iconst (v := 1) dL_law_285 (by decide) ?_
  refine go_iadd dL_law_286 ?_
  refine go_sld dL_law_287 b0 ?_
  refine go_aload_n dL_law_288 rfl 0 rfl ?_
  refine go_iload_n dL_law_289 rfl 3 rfl ?_
  refine go_iconst (v := 2) dL_law_290 (by decide) ?_
  refine go_iadd dL_law_291 ?_
  refine go_sld dL_law_292 b1 ?_
  refine go_aload_n dL_law_293 rfl 0 rfl ?_
  refine go_iload_n dL_law_294 rfl 3 rfl ?_
  refine go_iconst (v := 3) dL_law_295 (by decide) ?_
  refine go_iadd dL_law_296 ?_
  refine go_sld dL_law_297 b2 ?_
  refine go_if_eq 305 dL_law_298 (by decide) (fun c => ?_) (fun c => ?_)
  · have hz : (if (sc G ((i + (3 : Int32))).toNatClampNeg) = 0 then (0 : Int32) else 1) = 0 := if_pos c
    refine go_iconst (v := 0) dL_law_305 (by decide) ?_
    refine go_eqi hz.symm ?_
    refine go_callV (As := [.int (sc G ((i + (1 : Int32))).toNatClampNeg), .int (sc G ((i + (2 : Int32))).toNatClampNeg), .int (if (sc G ((i + (3 : Int32))).toNatClampNeg) = 0 then (0 : Int32) else 1)]) (rest := []) dL_law_306 lL_34 kX9_never rfl (by decide) (Nat.le_of_ble_eq_true rfl) (g_lt rfl) (gs_0 G _ _) rfl (show k1 + 0 ≤ 600000 ∧ k2 + 0 ≤ 7302250 by omega) rfl (gI_go (fun r1 μ1 h => ?_)) h
    refine go_aload_n dL_law_309 rfl 2 rfl ?_
    refine go_aload_n dL_law_310 rfl 0 rfl ?_
    refine go_iload_n dL_law_311 rfl 3 rfl ?_
    refine go_iconst (v := 1) dL_law_312 (by decide) ?_
    refine go_iadd dL_law_313 ?_
    refine go_sld dL_law_314 b0 ?_
    refine go_aload_n dL_law_315 rfl 0 rfl ?_
    refine go_iload_n dL_law_316 rfl 3 rfl ?_
    refine go_iconst (v := 2) dL_law_317 (by decide) ?_
    refine go_iadd dL_law_318 ?_
    refine go_sld dL_law_319 b1 ?_
    refine go_aload_n dL_law_320 rfl 0 rfl ?_
    refine go_iload_n dL_law_321 rfl 3 rfl ?_
    refine go_iconst (v := 3) dL_law_322 (by decide) ?_
    refine go_iadd dL_law_323 ?_
    refine go_sld dL_law_324 b2 ?_
    refine go_if_eq 332 dL_law_325 (by decide) (fun c => ?_) (fun c => ?_)
    · have hz : (if (sc G ((i + (3 : Int32))).toNatClampNeg) = 0 then (0 : Int32) else 1) = 0 := if_pos c
      refine go_iconst (v := 0) dL_law_332 (by decide) ?_
      refine go_eqi hz.symm ?_
      refine go_callV (As := [.int (sc G ((i + (1 : Int32))).toNatClampNeg), .int (sc G ((i + (2 : Int32))).toNatClampNeg), .int (if (sc G ((i + (3 : Int32))).toNatClampNeg) = 0 then (0 : Int32) else 1)]) (rest := [.int r1]) dL_law_333 lL_38 kX10_never rfl (by decide) (Nat.le_of_ble_eq_true rfl) (g_lt rfl) (gs_78 G _ _) rfl (show k1 + 0 + 0 ≤ 600000 ∧ k2 + 0 + 0 ≤ 7302250 by omega) rfl (gI_go (fun r2 μ2 h => ?_)) h
      refine go_icmp_eq 971 dL_law_336 (by decide) (fun c => ?_) (fun c => absurd h.1 c)
      exact go_widen (n1 := k1 + 38) (n2 := k2 + 34859) (show k1 + 0 + 0 ≤ k1 + 38 by omega) (show k2 + 0 + 0 ≤ k2 + 34859 by omega) h.2
    · have hz : (if (sc G ((i + (3 : Int32))).toNatClampNeg) = 0 then (0 : Int32) else 1) = 1 := if_neg c
      refine go_iconst (v := 1) dL_law_328 (by decide) ?_
      refine go_goto 333 dL_law_329 (by decide) ?_
      refine go_eqi hz.symm ?_
      refine go_callV (As := [.int (sc G ((i + (1 : Int32))).toNatClampNeg), .int (sc G ((i + (2 : Int32))).toNatClampNeg), .int (if (sc G ((i + (3 : Int32))).toNatClampNeg) = 0 then (0 : Int32) else 1)]) (rest := [.int r1]) dL_law_333 lL_38 kX10_never rfl (by decide) (Nat.le_of_ble_eq_true rfl) (g_lt rfl) (gs_78 G _ _) rfl (show k1 + 0 + 0 ≤ 600000 ∧ k2 + 0 + 0 ≤ 7302250 by omega) rfl (gI_go (fun r2 μ2 h => ?_)) h
      refine go_icmp_eq 971 dL_law_336 (by decide) (fun c => ?_) (fun c => absurd h.1 c)
      exact go_widen (n1 := k1 + 38) (n2 := k2 + 34859) (show k1 + 0 + 0 ≤ k1 + 38 by omega) (show k2 + 0 + 0 ≤ k2 + 34859 by omega) h.2
  · have hz : (if (sc G ((i + (3 : Int32))).toNatClampNeg) = 0 then (0 : Int32) else 1) = 1 := if_neg c
    refine go_iconst (v := 1) dL_law_301 (by decide) ?_
    refine go_goto 306 dL_law_302 (by decide) ?_
    refine go_eqi hz.symm ?_
    refine go_callV (As := [.int (sc G ((i + (1 : Int32))).toNatClampNeg), .int (sc G ((i + (2 : Int32))).toNatClampNeg), .int (if (sc G ((i + (3 : Int32))).toNatClampNeg) = 0 then (0 : Int32) else 1)]) (rest := []) dL_law_306 lL_34 kX9_never rfl (by decide) (Nat.le_of_ble_eq_true rfl) (g_lt rfl) (gs_0 G _ _) rfl (show k1 + 0 ≤ 600000 ∧ k2 + 0 ≤ 7302250 by omega) rfl (gI_go (fun r1 μ1 h => ?_)) h
    refine go_aload_n dL_law_309 rfl 2 rfl ?_
    refine go_aload_n dL_law_310 rfl 0 rfl ?_
    refine go_iload_n dL_law_311 rfl 3 rfl ?_
    refine go_iconst (v := 1) dL_law_312 (by decide) ?_
    refine go_iadd dL_law_313 ?_
    refine go_sld dL_law_314 b0 ?_
    refine go_aload_n dL_law_315 rfl 0 rfl ?_
    refine go_iload_n dL_law_316 rfl 3 rfl ?_
    refine go_iconst (v := 2) dL_law_317 (by decide) ?_
    refine go_iadd dL_law_318 ?_
    refine go_sld dL_law_319 b1 ?_
    refine go_aload_n dL_law_320 rfl 0 rfl ?_
    refine go_iload_n dL_law_321 rfl 3 rfl ?_
    refine go_iconst (v := 3) dL_law_322 (by decide) ?_
    refine go_iadd dL_law_323 ?_
    refine go_sld dL_law_324 b2 ?_
    refine go_if_eq 332 dL_law_325 (by decide) (fun c => ?_) (fun c => ?_)
    · have hz : (if (sc G ((i + (3 : Int32))).toNatClampNeg) = 0 then (0 : Int32) else 1) = 0 := if_pos c
      refine go_iconst (v := 0) dL_law_332 (by decide) ?_
      refine go_eqi hz.symm ?_
      refine go_callV (As := [.int (sc G ((i + (1 : Int32))).toNatClampNeg), .int (sc G ((i + (2 : Int32))).toNatClampNeg), .int (if (sc G ((i + (3 : Int32))).toNatClampNeg) = 0 then (0 : Int32) else 1)]) (rest := [.int r1]) dL_law_333 lL_38 kX10_never rfl (by decide) (Nat.le_of_ble_eq_true rfl) (g_lt rfl) (gs_78 G _ _) rfl (show k1 + 0 + 0 ≤ 600000 ∧ k2 + 0 + 0 ≤ 7302250 by omega) rfl (gI_go (fun r2 μ2 h => ?_)) h
      refine go_icmp_eq 971 dL_law_336 (by decide) (fun c => ?_) (fun c => absurd h.1 c)
      exact go_widen (n1 := k1 + 38) (n2 := k2 + 34859) (show k1 + 0 + 0 ≤ k1 + 38 by omega) (show k2 + 0 + 0 ≤ k2 + 34859 by omega) h.2
    · have hz : (if (sc G ((i + (3 : Int32))).toNatClampNeg) = 0 then (0 : Int32) else 1) = 1 := if_neg c
      refine go_iconst (v := 1) dL_law_328 (by decide) ?_
      refine go_goto 333 dL_law_329 (by decide) ?_
      refine go_eqi hz.symm ?_
      refine go_callV (As := [.int (sc G ((i + (1 : Int32))).toNatClampNeg), .int (sc G ((i + (2 : Int32))).toNatClampNeg), .int (if (sc G ((i + (3 : Int32))).toNatClampNeg) = 0 then (0 : Int32) else 1)]) (rest := [.int r1]) dL_law_333 lL_38 kX10_never rfl (by decide) (Nat.le_of_ble_eq_true rfl) (g_lt rfl) (gs_78 G _ _) rfl (show k1 + 0 + 0 ≤ 600000 ∧ k2 + 0 + 0 ≤ 7302250 by omega) rfl (gI_go (fun r2 μ2 h => ?_)) h
      refine go_icmp_eq 971 dL_law_336 (by decide) (fun c => ?_) (fun c => absurd h.1 c)
      exact go_widen (n1 := k1 + 38) (n2 := k2 + 34859) (show k1 + 0 + 0 ≤ k1 + 38 by omega) (show k2 + 0 + 0 ≤ k2 + 34859 by omega) h.2
theorem lL_39 : gLV "StoryNumbersLaw" 39 mX9_count := ⟨g_in 541 (by decide +kernel) rfl, g_in 542 (by decide +kernel) rfl, g_in 543 (by decide +kernel) rfl⟩
theorem lL_43 : gLV "StoryNumbersLaw" 43 mX10_count := ⟨g_in 1166 (by decide +kernel) rfl, g_in 1167 (by decide +kernel) rfl, g_in 1168 (by decide +kernel) rfl⟩
set_option maxRecDepth 100000 in
theorem law_case_5 {G : gC} {l : Launch} {nm : String} {k1 k2 : Nat} {i : Int32} {μ : Mem} (hk1 : k1 + 38 ≤ 600000) (hk2 : k2 + 34859 ≤ 7302250) (b0 : vp_in (i + (1 : Int32)) (G.2.2.2 11)) (h : qX9_count G l (sc G ((i + (1 : Int32))).toNatClampNeg) μ (fun (r1 : Int32) (μ1 : Mem) => qX10_count G l (sc G ((i + (1 : Int32))).toNatClampNeg) μ1 (fun (r2 : Int32) (μ2 : Mem) => r1 = r2 ∧ lawGo G l nm 971 (k1 + 38) (k2 + 34859) i μ2))) : lawGo G l nm 341 k1 k2 i μ := by
  refine go_aload_n dL_law_341 rfl 1 rfl ?_
  refine go_aload_n dL_law_342 rfl 0 rfl ?_
  refine go_iload_n dL_law_343 rfl 3 rfl ?_
  refine go_iconst (v := 1) dL_law_344 (by decide) ?_
  refine go_iadd dL_law_345 ?_
  refine go_sld dL_law_346 b0 ?_
  refine go_callV (As := [.int (sc G ((i + (1 : Int32))).toNatClampNeg)]) (rest := []) dL_law_347 lL_39 kX9_count rfl (by decide) (Nat.le_of_ble_eq_true rfl) (g_lt rfl) (gs_0 G _ _) rfl (show k1 + 0 ≤ 600000 ∧ k2 + 0 ≤ 7302250 by omega) rfl (gI_go (fun r1 μ1 h => ?_)) h
  refine go_aload_n dL_law_350 rfl 2 rfl ?_
  refine go_aload_n dL_law_351 rfl 0 rfl ?_
  refine go_iload_n dL_law_352 rfl 3 rfl ?_
  refine go_iconst (v := 1) dL_law_353 (by decide) ?_
  refine go_iadd dL_law_354 ?_
  refine go_sld dL_law_355 b0 ?_
  refine go_callV (As := [.int (sc G ((i + (1 : Int32))).toNatClampNeg)]) (rest := [.int r1]) dL_law_356 lL_43 kX10_count rfl (by decide) (Nat.le_of_ble_eq_true rfl) (g_lt rfl) (gs_78 G _ _) rfl (show k1 + 0 + 0 ≤ 600000 ∧ k2 + 0 + 0 ≤ 7302250 by omega) rfl (gI_go (fun r2 μ2 h => ?_)) h
  refine go_icmp_eq 971 dL_law_359 (by decide) (fun c => ?_) (fun c => absurd h.1 c)
  exact go_widen (n1 := k1 + 38) (n2 := k2 + 34859) (show k1 + 0 + 0 ≤ k1 + 38 by omega) (show k2 + 0 + 0 ≤ k2 + 34859 by omega) h.2
theorem lL_44 : gLV "StoryNumbersLaw" 44 mX9_may := ⟨g_in 572 (by decide +kernel) rfl, g_in 573 (by decide +kernel) rfl, g_in 574 (by decide +kernel) rfl⟩
theorem lL_47 : gLV "StoryNumbersLaw" 47 mX10_may := ⟨g_in 1189 (by decide +kernel) rfl, g_in 1190 (by decide +kernel) rfl, g_in 1191 (by decide +kernel) rfl⟩
set_option maxRecDepth 100000 in
theorem law_case_6 {G : gC} {l : Launch} {nm : String} {k1 k2 : Nat} {i : Int32} {μ : Mem} (hk1 : k1 + 38 ≤ 600000) (hk2 : k2 + 34859 ≤ 7302250) (b0 : vp_in (i + (1 : Int32)) (G.2.2.2 11)) (b1 : vp_in (i + (2 : Int32)) (G.2.2.2 11)) (h : qX9_may G l (sc G ((i + (1 : Int32))).toNatClampNeg) (sc G ((i + (2 : Int32))).toNatClampNeg) μ (fun (r1 : Int32) (μ1 : Mem) => qX10_may G l (sc G ((i + (1 : Int32))).toNatClampNeg) (sc G ((i + (2 : Int32))).toNatClampNeg) μ1 (fun (r2 : Int32) (μ2 : Mem) => r1 = r2 ∧ lawGo G l nm 971 (k1 + 38) (k2 + 34859) i μ2))) : lawGo G l nm 364 k1 k2 i μ := by
  refine go_aload_n dL_law_364 rfl 1 rfl ?_
  refine go_aload_n dL_law_365 rfl 0 rfl ?_
  refine go_iload_n dL_law_366 rfl 3 rfl ?_
  refine go_iconst (v := 1) dL_law_367 (by decide) ?_
  refine go_iadd dL_law_368 ?_
  refine go_sld dL_law_369 b0 ?_
  refine go_aload_n dL_law_370 rfl 0 rfl ?_
  refine go_iload_n dL_law_371 rfl 3 rfl ?_
  refine go_iconst (v := 2) dL_law_372 (by decide) ?_
  refine go_iadd dL_law_373 ?_
  refine go_sld dL_law_374 b1 ?_
  refine go_callV (As := [.int (sc G ((i + (1 : Int32))).toNatClampNeg), .int (sc G ((i + (2 : Int32))).toNatClampNeg)]) (rest := []) dL_law_375 lL_44 kX9_may rfl (by decide) (Nat.le_of_ble_eq_true rfl) (g_lt rfl) (gs_0 G _ _) rfl (show k1 + 0 ≤ 600000 ∧ k2 + 0 ≤ 7302250 by omega) rfl (gI_go (fun r1 μ1 h => ?_)) h
  refine go_aload_n dL_law_378 rfl 2 rfl ?_
  refine go_aload_n dL_law_379 rfl 0 rfl ?_
  refine go_iload_n dL_law_380 rfl 3 rfl ?_
  refine go_iconst (v := 1) dL_law_381 (by decide) ?_
  refine go_iadd dL_law_382 ?_
  refine go_sld dL_law_383 b0 ?_
  refine go_aload_n dL_law_384 rfl 0 rfl ?_
  refine go_iload_n dL_law_385 rfl 3 rfl ?_
  refine go_iconst (v := 2) dL_law_386 (by decide) ?_
  refine go_iadd dL_law_387 ?_
  refine go_sld dL_law_388 b1 ?_
  refine go_callV (As := [.int (sc G ((i + (1 : Int32))).toNatClampNeg), .int (sc G ((i + (2 : Int32))).toNatClampNeg)]) (rest := [.int r1]) dL_law_389 lL_47 kX10_may rfl (by decide) (Nat.le_of_ble_eq_true rfl) (g_lt rfl) (gs_78 G _ _) rfl (show k1 + 0 + 0 ≤ 600000 ∧ k2 + 0 + 0 ≤ 7302250 by omega) rfl (gI_go (fun r2 μ2 h => ?_)) h
  refine go_icmp_eq 971 dL_law_392 (by decide) (fun c => ?_) (fun c => absurd h.1 c)
  exact go_widen (n1 := k1 + 38) (n2 := k2 + 34859) (show k1 + 0 + 0 ≤ k1 + 38 by omega) (show k2 + 0 + 0 ≤ k2 + 34859 by omega) h.2
theorem lL_48 : gLV "StoryNumbersLaw" 48 mX9_next := ⟨g_in 597 (by decide +kernel) rfl, g_in 598 (by decide +kernel) rfl, g_in 599 (by decide +kernel) rfl⟩
theorem lL_51 : gLV "StoryNumbersLaw" 51 mX10_next := ⟨g_in 1201 (by decide +kernel) rfl, g_in 1202 (by decide +kernel) rfl, g_in 1203 (by decide +kernel) rfl⟩
set_option maxRecDepth 100000 in
theorem law_case_7 {G : gC} {l : Launch} {nm : String} {k1 k2 : Nat} {i : Int32} {μ : Mem} (hk1 : k1 + 38 ≤ 600000) (hk2 : k2 + 34859 ≤ 7302250) (b0 : vp_in (i + (1 : Int32)) (G.2.2.2 11)) (h : qX9_next G l (sc G ((i + (1 : Int32))).toNatClampNeg) μ (fun (r1 : Int32) (μ1 : Mem) => qX10_next G l (sc G ((i + (1 : Int32))).toNatClampNeg) μ1 (fun (r2 : Int32) (μ2 : Mem) => r1 = r2 ∧ lawGo G l nm 971 (k1 + 38) (k2 + 34859) i μ2))) : lawGo G l nm 397 k1 k2 i μ := by
  refine go_aload_n dL_law_397 rfl 1 rfl ?_
  refine go_aload_n dL_law_398 rfl 0 rfl ?_
  refine go_iload_n dL_law_399 rfl 3 rfl ?_
  refine go_iconst (v := 1) dL_law_400 (by decide) ?_
  refine go_iadd dL_law_401 ?_
  refine go_sld dL_law_402 b0 ?_
  refine go_callV (As := [.int (sc G ((i + (1 : Int32))).toNatClampNeg)]) (rest := []) dL_law_403 lL_48 kX9_next rfl (by decide) (Nat.le_of_ble_eq_true rfl) (g_lt rfl) (gs_0 G _ _) rfl (show k1 + 0 ≤ 600000 ∧ k2 + 0 ≤ 7302250 by omega) rfl (gI_go (fun r1 μ1 h => ?_)) h
  refine go_aload_n dL_law_406 rfl 2 rfl ?_
  refine go_aload_n dL_law_407 rfl 0 rfl ?_
  refine go_iload_n dL_law_408 rfl 3 rfl ?_
  refine go_iconst (v := 1) dL_law_409 (by decide) ?_
  refine go_iadd dL_law_410 ?_
  refine go_sld dL_law_411 b0 ?_
  refine go_callV (As := [.int (sc G ((i + (1 : Int32))).toNatClampNeg)]) (rest := [.int r1]) dL_law_412 lL_51 kX10_next rfl (by decide) (Nat.le_of_ble_eq_true rfl) (g_lt rfl) (gs_78 G _ _) rfl (show k1 + 0 + 0 ≤ 600000 ∧ k2 + 0 + 0 ≤ 7302250 by omega) rfl (gI_go (fun r2 μ2 h => ?_)) h
  refine go_icmp_eq 971 dL_law_415 (by decide) (fun c => ?_) (fun c => absurd h.1 c)
  exact go_widen (n1 := k1 + 38) (n2 := k2 + 34859) (show k1 + 0 + 0 ≤ k1 + 38 by omega) (show k2 + 0 + 0 ≤ k2 + 34859 by omega) h.2
theorem lL_52 : gLV "StoryNumbersLaw" 52 mX9_orders := ⟨g_in 601 (by decide +kernel) rfl, g_in 602 (by decide +kernel) rfl, g_in 603 (by decide +kernel) rfl⟩
theorem lL_56 : gLV "StoryNumbersLaw" 56 mX10_orders := ⟨g_in 1205 (by decide +kernel) rfl, g_in 1206 (by decide +kernel) rfl, g_in 1207 (by decide +kernel) rfl⟩
set_option maxRecDepth 100000 in
theorem law_case_8 {G : gC} {l : Launch} {nm : String} {k1 k2 : Nat} {i : Int32} {μ : Mem} (hk1 : k1 + 38 ≤ 600000) (hk2 : k2 + 34859 ≤ 7302250) (b0 : vp_in (i + (1 : Int32)) (G.2.2.2 11)) (h : qX9_orders G l (sc G ((i + (1 : Int32))).toNatClampNeg) μ (fun (r1 : Int64) (μ1 : Mem) => qX10_orders G l (sc G ((i + (1 : Int32))).toNatClampNeg) μ1 (fun (r2 : Int64) (μ2 : Mem) => r1 = r2 ∧ lawGo G l nm 971 (k1 + 38) (k2 + 34859) i μ2))) : lawGo G l nm 420 k1 k2 i μ := by
  refine go_aload_n dL_law_420 rfl 1 rfl ?_
  refine go_aload_n dL_law_421 rfl 0 rfl ?_
  refine go_iload_n dL_law_422 rfl 3 rfl ?_
  refine go_iconst (v := 1) dL_law_423 (by decide) ?_
  refine go_iadd dL_law_424 ?_
  refine go_sld dL_law_425 b0 ?_
  refine go_callV (As := [.int (sc G ((i + (1 : Int32))).toNatClampNeg)]) (rest := []) dL_law_426 lL_52 kX9_orders rfl (by decide) (Nat.le_of_ble_eq_true rfl) (g_lt rfl) (gs_0 G _ _) rfl (show k1 + 0 ≤ 600000 ∧ k2 + 0 ≤ 7302250 by omega) rfl (gL_go (fun r1 μ1 h => ?_)) h
  refine go_aload_n dL_law_429 rfl 2 rfl ?_
  refine go_aload_n dL_law_430 rfl 0 rfl ?_
  refine go_iload_n dL_law_431 rfl 3 rfl ?_
  refine go_iconst (v := 1) dL_law_432 (by decide) ?_
  refine go_iadd dL_law_433 ?_
  refine go_sld dL_law_434 b0 ?_
  refine go_callV (As := [.int (sc G ((i + (1 : Int32))).toNatClampNeg)]) (rest := [.long r1]) dL_law_435 lL_56 kX10_orders rfl (by decide) (Nat.le_of_ble_eq_true rfl) (g_lt rfl) (gs_78 G _ _) rfl (show k1 + 0 + 0 ≤ 600000 ∧ k2 + 0 + 0 ≤ 7302250 by omega) rfl (gL_go (fun r2 μ2 h => ?_)) h
  refine go_lcmp dL_law_438 ?_
  refine go_if_eq 971 dL_law_439 (by decide) (fun c => ?_) (fun c => absurd (lcmp_eq h.1) c)
  exact go_widen (n1 := k1 + 38) (n2 := k2 + 34859) (show k1 + 0 + 0 ≤ k1 + 38 by omega) (show k2 + 0 + 0 ≤ k2 + 34859 by omega) h.2
theorem lL_57 : gLV "StoryNumbersLaw" 57 mX9_order := ⟨g_in 631 (by decide +kernel) rfl, g_in 632 (by decide +kernel) rfl, g_in 633 (by decide +kernel) rfl⟩
theorem lL_61 : gLV "StoryNumbersLaw" 61 mX10_order := ⟨g_in 1218 (by decide +kernel) rfl, g_in 1219 (by decide +kernel) rfl, g_in 1220 (by decide +kernel) rfl⟩
set_option maxRecDepth 100000 in
theorem law_case_9 {G : gC} {l : Launch} {nm : String} {k1 k2 : Nat} {i : Int32} {μ : Mem} (hk1 : k1 + 38 ≤ 600000) (hk2 : k2 + 34859 ≤ 7302250) (b0 : vp_in (i + (1 : Int32)) (G.2.2.2 11)) (b1 : vp_in (i + (2 : Int32)) (G.2.2.2 11)) (b2 : vp_in (i + (3 : Int32)) (G.2.2.2 11)) (b3 : vp_in (i + (4 : Int32)) (G.2.2.2 11)) (h : qX9_order G l (sc G ((i + (1 : Int32))).toNatClampNeg) ((((sc G ((i + (2 : Int32))).toNatClampNeg)).toInt64 <<< (((32 : Int32)).toInt64 &&& 63)) ||| (((sc G ((i + (3 : Int32))).toNatClampNeg)).toInt64 &&& (4294967295 : Int64))) (sc G ((i + (4 : Int32))).toNatClampNeg) μ (fun (r1 : Int32) (μ1 : Mem) => qX10_order G l (sc G ((i + (1 : Int32))).toNatClampNeg) ((((sc G ((i + (2 : Int32))).toNatClampNeg)).toInt64 <<< (((32 : Int32)).toInt64 &&& 63)) ||| (((sc G ((i + (3 : Int32))).toNatClampNeg)).toInt64 &&& (4294967295 : Int64))) (sc G ((i + (4 : Int32))).toNatClampNeg) μ1 (fun (r2 : Int32) (μ2 : Mem) => r1 = r2 ∧ lawGo G l nm 971 (k1 + 38) (k2 + 34859) i μ2))) : lawGo G l nm 444 k1 k2 i μ := by
  refine go_aload_n dL_law_444 rfl 1 rfl ?_
  refine go_aload_n dL_law_445 rfl 0 rfl ?_
  refine go_iload_n dL_law_446 rfl 3 rfl ?_
  refine go_iconst (v := 1) dL_law_447 (by decide) ?_
  refine go_iadd dL_law_448 ?_
  refine go_sld dL_law_449 b0 ?_
  refine go_aload_n dL_law_450 rfl 0 rfl ?_
  refine go_iload_n dL_law_451 rfl 3 rfl ?_
  refine go_iconst (v := 2) dL_law_452 (by decide) ?_
  refine go_iadd dL_law_453 ?_
  refine go_sld dL_law_454 b1 ?_
  refine go_i2l dL_law_455 ?_
  refine go_bipush (v := 32) dL_law_456 (by decide) ?_
  refine go_lshl dL_law_458 ?_
  refine go_aload_n dL_law_459 rfl 0 rfl ?_
  refine go_iload_n dL_law_460 rfl 3 rfl ?_
  refine go_iconst (v := 3) dL_law_461 (by decide) ?_
  refine go_iadd dL_law_462 ?_
  refine go_sld dL_law_463 b2 ?_
  refine go_i2l dL_law_464 ?_
  refine go_ldc2_w (v := 4294967295) cL_13 dL_law_465 ?_
  refine go_land dL_law_468 ?_
  refine go_lor dL_law_469 ?_
  refine go_aload_n dL_law_470 rfl 0 rfl ?_
  refine go_iload_n dL_law_471 rfl 3 rfl ?_
  refine go_iconst (v := 4) dL_law_472 (by decide) ?_
  refine go_iadd dL_law_473 ?_
  refine go_sld dL_law_474 b3 ?_
  refine go_callV (As := [.int (sc G ((i + (1 : Int32))).toNatClampNeg), .long ((((sc G ((i + (2 : Int32))).toNatClampNeg)).toInt64 <<< (((32 : Int32)).toInt64 &&& 63)) ||| (((sc G ((i + (3 : Int32))).toNatClampNeg)).toInt64 &&& (4294967295 : Int64))), .int (sc G ((i + (4 : Int32))).toNatClampNeg)]) (rest := []) dL_law_475 lL_57 kX9_order rfl (by decide) (Nat.le_of_ble_eq_true rfl) (g_lt rfl) (gs_0 G _ _) rfl (show k1 + 0 ≤ 600000 ∧ k2 + 0 ≤ 7302250 by omega) rfl (gI_go (fun r1 μ1 h => ?_)) h
  refine go_aload_n dL_law_478 rfl 2 rfl ?_
  refine go_aload_n dL_law_479 rfl 0 rfl ?_
  refine go_iload_n dL_law_480 rfl 3 rfl ?_
  refine go_iconst (v := 1) dL_law_481 (by decide) ?_
  refine go_iadd dL_law_482 ?_
  refine go_sld dL_law_483 b0 ?_
  refine go_aload_n dL_law_484 rfl 0 rfl ?_
  refine go_iload_n dL_law_485 rfl 3 rfl ?_
  refine go_iconst (v := 2) dL_law_486 (by decide) ?_
  refine go_iadd dL_law_487 ?_
  refine go_sld dL_law_488 b1 ?_
  refine go_i2l dL_law_489 ?_
  refine go_bipush (v := 32) dL_law_490 (by decide) ?_
  refine go_lshl dL_law_492 ?_
  refine go_aload_n dL_law_493 rfl 0 rfl ?_
  refine go_iload_n dL_law_494 rfl 3 rfl ?_
  refine go_iconst (v := 3) dL_law_495 (by decide) ?_
  refine go_iadd dL_law_496 ?_
  refine go_sld dL_law_497 b2 ?_
  refine go_i2l dL_law_498 ?_
  refine go_ldc2_w (v := 4294967295) cL_13 dL_law_499 ?_
  refine go_land dL_law_502 ?_
  refine go_lor dL_law_503 ?_
  refine go_aload_n dL_law_504 rfl 0 rfl ?_
  refine go_iload_n dL_law_505 rfl 3 rfl ?_
  refine go_iconst (v := 4) dL_law_506 (by decide) ?_
  refine go_iadd dL_law_507 ?_
  refine go_sld dL_law_508 b3 ?_
  refine go_callV (As := [.int (sc G ((i + (1 : Int32))).toNatClampNeg), .long ((((sc G ((i + (2 : Int32))).toNatClampNeg)).toInt64 <<< (((32 : Int32)).toInt64 &&& 63)) ||| (((sc G ((i + (3 : Int32))).toNatClampNeg)).toInt64 &&& (4294967295 : Int64))), .int (sc G ((i + (4 : Int32))).toNatClampNeg)]) (rest := [.int r1]) dL_law_509 lL_61 kX10_order rfl (by decide) (Nat.le_of_ble_eq_true rfl) (g_lt rfl) (gs_78 G _ _) rfl (show k1 + 0 + 0 ≤ 600000 ∧ k2 + 0 + 0 ≤ 7302250 by omega) rfl (gI_go (fun r2 μ2 h => ?_)) h
  refine go_icmp_eq 971 dL_law_512 (by decide) (fun c => ?_) (fun c => absurd h.1 c)
  exact go_widen (n1 := k1 + 38) (n2 := k2 + 34859) (show k1 + 0 + 0 ≤ k1 + 38 by omega) (show k2 + 0 + 0 ≤ k2 + 34859 by omega) h.2
theorem lL_62 : gLV "StoryNumbersLaw" 62 mX9_good := ⟨g_in 643 (by decide +kernel) rfl, g_in 644 (by decide +kernel) rfl, g_in 645 (by decide +kernel) rfl⟩
theorem lL_65 : gLV "StoryNumbersLaw" 65 mX10_good := ⟨g_in 1222 (by decide +kernel) rfl, g_in 1223 (by decide +kernel) rfl, g_in 1224 (by decide +kernel) rfl⟩
set_option maxRecDepth 100000 in
theorem law_case_10 {G : gC} {l : Launch} {nm : String} {k1 k2 : Nat} {i : Int32} {μ : Mem} (hk1 : k1 + 38 ≤ 600000) (hk2 : k2 + 34859 ≤ 7302250)  (h : qX9_good G l  μ (fun (r1 : Int32) (μ1 : Mem) => qX10_good G l  μ1 (fun (r2 : Int32) (μ2 : Mem) => r1 = r2 ∧ lawGo G l nm 971 (k1 + 38) (k2 + 34859) i μ2))) : lawGo G l nm 517 k1 k2 i μ := by
  refine go_aload_n dL_law_517 rfl 1 rfl ?_
  refine go_callV (As := []) (rest := []) dL_law_518 lL_62 kX9_good rfl (by decide) (Nat.le_of_ble_eq_true rfl) (g_lt rfl) (gs_0 G _ _) rfl (show k1 + 0 ≤ 600000 ∧ k2 + 0 ≤ 7302250 by omega) rfl (gI_go (fun r1 μ1 h => ?_)) h
  refine go_aload_n dL_law_521 rfl 2 rfl ?_
  refine go_callV (As := []) (rest := [.int r1]) dL_law_522 lL_65 kX10_good rfl (by decide) (Nat.le_of_ble_eq_true rfl) (g_lt rfl) (gs_78 G _ _) rfl (show k1 + 0 + 0 ≤ 600000 ∧ k2 + 0 + 0 ≤ 7302250 by omega) rfl (gI_go (fun r2 μ2 h => ?_)) h
  refine go_icmp_eq 971 dL_law_525 (by decide) (fun c => ?_) (fun c => absurd h.1 c)
  exact go_widen (n1 := k1 + 38) (n2 := k2 + 34859) (show k1 + 0 + 0 ≤ k1 + 38 by omega) (show k2 + 0 + 0 ≤ k2 + 34859 by omega) h.2
theorem lL_66 : gLV "StoryNumbersLaw" 66 mX9_place := ⟨g_in 651 (by decide +kernel) rfl, g_in 652 (by decide +kernel) rfl, g_in 653 (by decide +kernel) rfl⟩
theorem lL_69 : gLV "StoryNumbersLaw" 69 mX10_place := ⟨g_in 1230 (by decide +kernel) rfl, g_in 1231 (by decide +kernel) rfl, g_in 1232 (by decide +kernel) rfl⟩
set_option maxRecDepth 100000 in
theorem law_case_11 {G : gC} {l : Launch} {nm : String} {k1 k2 : Nat} {i : Int32} {μ : Mem} (hk1 : k1 + 38 ≤ 600000) (hk2 : k2 + 34859 ≤ 7302250) (b0 : vp_in (i + (1 : Int32)) (G.2.2.2 11)) (b1 : vp_in (i + (2 : Int32)) (G.2.2.2 11)) (h : qX9_place G l (sc G ((i + (1 : Int32))).toNatClampNeg) (sc G ((i + (2 : Int32))).toNatClampNeg) μ (fun (r1 : Int32) (μ1 : Mem) => qX10_place G l (sc G ((i + (1 : Int32))).toNatClampNeg) (sc G ((i + (2 : Int32))).toNatClampNeg) μ1 (fun (r2 : Int32) (μ2 : Mem) => r1 = r2 ∧ lawGo G l nm 971 (k1 + 38) (k2 + 34859) i μ2))) : lawGo G l nm 530 k1 k2 i μ := by
  refine go_aload_n dL_law_530 rfl 1 rfl ?_
  refine go_aload_n dL_law_531 rfl 0 rfl ?_
  refine go_iload_n dL_law_532 rfl 3 rfl ?_
  refine go_iconst (v := 1) dL_law_533 (by decide) ?_
  refine go_iadd dL_law_534 ?_
  refine go_sld dL_law_535 b0 ?_
  refine go_aload_n dL_law_536 rfl 0 rfl ?_
  refine go_iload_n dL_law_537 rfl 3 rfl ?_
  refine go_iconst (v := 2) dL_law_538 (by decide) ?_
  refine go_iadd dL_law_539 ?_
  refine go_sld dL_law_540 b1 ?_
  refine go_callV (As := [.int (sc G ((i + (1 : Int32))).toNatClampNeg), .int (sc G ((i + (2 : Int32))).toNatClampNeg)]) (rest := []) dL_law_541 lL_66 kX9_place rfl (by decide) (Nat.le_of_ble_eq_true rfl) (g_lt rfl) (gs_0 G _ _) rfl (show k1 + 0 ≤ 600000 ∧ k2 + 0 ≤ 7302250 by omega) rfl (gI_go (fun r1 μ1 h => ?_)) h
  refine go_aload_n dL_law_544 rfl 2 rfl ?_
  refine go_aload_n dL_law_545 rfl 0 rfl ?_
  refine go_iload_n dL_law_546 rfl 3 rfl ?_
  refine go_iconst (v := 1) dL_law_547 (by decide) ?_
  refine go_iadd dL_law_548 ?_
  refine go_sld dL_law_549 b0 ?_
  refine go_aload_n dL_law_550 rfl 0 rfl ?_
  refine go_iload_n dL_law_551 rfl 3 rfl ?_
  refine go_iconst (v := 2) dL_law_552 (by decide) ?_
  refine go_iadd dL_law_553 ?_
  refine go_sld dL_law_554 b1 ?_
  refine go_callV (As := [.int (sc G ((i + (1 : Int32))).toNatClampNeg), .int (sc G ((i + (2 : Int32))).toNatClampNeg)]) (rest := [.int r1]) dL_law_555 lL_69 kX10_place rfl (by decide) (Nat.le_of_ble_eq_true rfl) (g_lt rfl) (gs_78 G _ _) rfl (show k1 + 0 + 0 ≤ 600000 ∧ k2 + 0 + 0 ≤ 7302250 by omega) rfl (gI_go (fun r2 μ2 h => ?_)) h
  refine go_icmp_eq 971 dL_law_558 (by decide) (fun c => ?_) (fun c => absurd h.1 c)
  exact go_widen (n1 := k1 + 38) (n2 := k2 + 34859) (show k1 + 0 + 0 ≤ k1 + 38 by omega) (show k2 + 0 + 0 ≤ k2 + 34859 by omega) h.2
theorem lL_70 : gLV "StoryNumbersLaw" 70 mX9_open := ⟨g_in 667 (by decide +kernel) rfl, g_in 668 (by decide +kernel) rfl, g_in 669 (by decide +kernel) rfl⟩
theorem lL_73 : gLV "StoryNumbersLaw" 73 mX10_open := ⟨g_in 1234 (by decide +kernel) rfl, g_in 1235 (by decide +kernel) rfl, g_in 1236 (by decide +kernel) rfl⟩
set_option maxRecDepth 100000 in
theorem law_case_12 {G : gC} {l : Launch} {nm : String} {k1 k2 : Nat} {i : Int32} {μ : Mem} (hk1 : k1 + 38 ≤ 600000) (hk2 : k2 + 34859 ≤ 7302250) (b0 : vp_in (i + (1 : Int32)) (G.2.2.2 11)) (h : qX9_open G l (sc G ((i + (1 : Int32))).toNatClampNeg) μ (fun (r1 : Int32) (μ1 : Mem) => qX10_open G l (sc G ((i + (1 : Int32))).toNatClampNeg) μ1 (fun (r2 : Int32) (μ2 : Mem) => r1 = r2 ∧ lawGo G l nm 971 (k1 + 38) (k2 + 34859) i μ2))) : lawGo G l nm 563 k1 k2 i μ := by
  refine go_aload_n dL_law_563 rfl 1 rfl ?_
  refine go_aload_n dL_law_564 rfl 0 rfl ?_
  refine go_iload_n dL_law_565 rfl 3 rfl ?_
  refine go_iconst (v := 1) dL_law_566 (by decide) ?_
  refine go_iadd dL_law_567 ?_
  refine go_sld dL_law_568 b0 ?_
  refine go_callV (As := [.int (sc G ((i + (1 : Int32))).toNatClampNeg)]) (rest := []) dL_law_569 lL_70 kX9_open rfl (by decide) (Nat.le_of_ble_eq_true rfl) (g_lt rfl) (gs_0 G _ _) rfl (show k1 + 0 ≤ 600000 ∧ k2 + 0 ≤ 7302250 by omega) rfl (gI_go (fun r1 μ1 h => ?_)) h
  refine go_aload_n dL_law_572 rfl 2 rfl ?_
  refine go_aload_n dL_law_573 rfl 0 rfl ?_
  refine go_iload_n dL_law_574 rfl 3 rfl ?_
  refine go_iconst (v := 1) dL_law_575 (by decide) ?_
  refine go_iadd dL_law_576 ?_
  refine go_sld dL_law_577 b0 ?_
  refine go_callV (As := [.int (sc G ((i + (1 : Int32))).toNatClampNeg)]) (rest := [.int r1]) dL_law_578 lL_73 kX10_open rfl (by decide) (Nat.le_of_ble_eq_true rfl) (g_lt rfl) (gs_78 G _ _) rfl (show k1 + 0 + 0 ≤ 600000 ∧ k2 + 0 + 0 ≤ 7302250 by omega) rfl (gI_go (fun r2 μ2 h => ?_)) h
  refine go_icmp_eq 971 dL_law_581 (by decide) (fun c => ?_) (fun c => absurd h.1 c)
  exact go_widen (n1 := k1 + 38) (n2 := k2 + 34859) (show k1 + 0 + 0 ≤ k1 + 38 by omega) (show k2 + 0 + 0 ≤ k2 + 34859 by omega) h.2
theorem lL_74 : gLV "StoryNumbersLaw" 74 mX9_atOnce := ⟨g_in 676 (by decide +kernel) rfl, g_in 677 (by decide +kernel) rfl, g_in 678 (by decide +kernel) rfl⟩
theorem lL_77 : gLV "StoryNumbersLaw" 77 mX10_atOnce := ⟨g_in 1242 (by decide +kernel) rfl, g_in 1243 (by decide +kernel) rfl, g_in 1244 (by decide +kernel) rfl⟩
set_option maxRecDepth 100000 in
theorem law_case_13 {G : gC} {l : Launch} {nm : String} {k1 k2 : Nat} {i : Int32} {μ : Mem} (hk1 : k1 + 38 ≤ 600000) (hk2 : k2 + 34859 ≤ 7302250) (b0 : vp_in (i + (1 : Int32)) (G.2.2.2 11)) (h : qX9_atOnce G l (sc G ((i + (1 : Int32))).toNatClampNeg) μ (fun (r1 : Int32) (μ1 : Mem) => qX10_atOnce G l (sc G ((i + (1 : Int32))).toNatClampNeg) μ1 (fun (r2 : Int32) (μ2 : Mem) => r1 = r2 ∧ lawGo G l nm 971 (k1 + 38) (k2 + 34859) i μ2))) : lawGo G l nm 586 k1 k2 i μ := by
  refine go_aload_n dL_law_586 rfl 1 rfl ?_
  refine go_aload_n dL_law_587 rfl 0 rfl ?_
  refine go_iload_n dL_law_588 rfl 3 rfl ?_
  refine go_iconst (v := 1) dL_law_589 (by decide) ?_
  refine go_iadd dL_law_590 ?_
  refine go_sld dL_law_591 b0 ?_
  refine go_callV (As := [.int (sc G ((i + (1 : Int32))).toNatClampNeg)]) (rest := []) dL_law_592 lL_74 kX9_atOnce rfl (by decide) (Nat.le_of_ble_eq_true rfl) (g_lt rfl) (gs_0 G _ _) rfl (show k1 + 0 ≤ 600000 ∧ k2 + 0 ≤ 7302250 by omega) rfl (gI_go (fun r1 μ1 h => ?_)) h
  refine go_aload_n dL_law_595 rfl 2 rfl ?_
  refine go_aload_n dL_law_596 rfl 0 rfl ?_
  refine go_iload_n dL_law_597 rfl 3 rfl ?_
  refine go_iconst (v := 1) dL_law_598 (by decide) ?_
  refine go_iadd dL_law_599 ?_
  refine go_sld dL_law_600 b0 ?_
  refine go_callV (As := [.int (sc G ((i + (1 : Int32))).toNatClampNeg)]) (rest := [.int r1]) dL_law_601 lL_77 kX10_atOnce rfl (by decide) (Nat.le_of_ble_eq_true rfl) (g_lt rfl) (gs_78 G _ _) rfl (show k1 + 0 + 0 ≤ 600000 ∧ k2 + 0 + 0 ≤ 7302250 by omega) rfl (gI_go (fun r2 μ2 h => ?_)) h
  refine go_icmp_eq 971 dL_law_604 (by decide) (fun c => ?_) (fun c => absurd h.1 c)
  exact go_widen (n1 := k1 + 38) (n2 := k2 + 34859) (show k1 + 0 + 0 ≤ k1 + 38 by omega) (show k2 + 0 + 0 ≤ k2 + 34859 by omega) h.2
theorem lL_78 : gLV "StoryNumbersLaw" 78 mX9_along := ⟨g_in 680 (by decide +kernel) rfl, g_in 681 (by decide +kernel) rfl, g_in 682 (by decide +kernel) rfl⟩
theorem lL_81 : gLV "StoryNumbersLaw" 81 mX10_along := ⟨g_in 1247 (by decide +kernel) rfl, g_in 1248 (by decide +kernel) rfl, g_in 1249 (by decide +kernel) rfl⟩
set_option maxRecDepth 100000 in
theorem law_case_14 {G : gC} {l : Launch} {nm : String} {k1 k2 : Nat} {i : Int32} {μ : Mem} (hk1 : k1 + 38 ≤ 600000) (hk2 : k2 + 34859 ≤ 7302250) (b0 : vp_in (i + (1 : Int32)) (G.2.2.2 11)) (h : qX9_along G l (sc G ((i + (1 : Int32))).toNatClampNeg) μ (fun (r1 : Int32) (μ1 : Mem) => qX10_along G l (sc G ((i + (1 : Int32))).toNatClampNeg) μ1 (fun (r2 : Int32) (μ2 : Mem) => r1 = r2 ∧ lawGo G l nm 971 (k1 + 38) (k2 + 34859) i μ2))) : lawGo G l nm 609 k1 k2 i μ := by
  refine go_aload_n dL_law_609 rfl 1 rfl ?_
  refine go_aload_n dL_law_610 rfl 0 rfl ?_
  refine go_iload_n dL_law_611 rfl 3 rfl ?_
  refine go_iconst (v := 1) dL_law_612 (by decide) ?_
  refine go_iadd dL_law_613 ?_
  refine go_sld dL_law_614 b0 ?_
  refine go_callV (As := [.int (sc G ((i + (1 : Int32))).toNatClampNeg)]) (rest := []) dL_law_615 lL_78 kX9_along rfl (by decide) (Nat.le_of_ble_eq_true rfl) (g_lt rfl) (gs_0 G _ _) rfl (show k1 + 0 ≤ 600000 ∧ k2 + 0 ≤ 7302250 by omega) rfl (gI_go (fun r1 μ1 h => ?_)) h
  refine go_aload_n dL_law_618 rfl 2 rfl ?_
  refine go_aload_n dL_law_619 rfl 0 rfl ?_
  refine go_iload_n dL_law_620 rfl 3 rfl ?_
  refine go_iconst (v := 1) dL_law_621 (by decide) ?_
  refine go_iadd dL_law_622 ?_
  refine go_sld dL_law_623 b0 ?_
  refine go_callV (As := [.int (sc G ((i + (1 : Int32))).toNatClampNeg)]) (rest := [.int r1]) dL_law_624 lL_81 kX10_along rfl (by decide) (Nat.le_of_ble_eq_true rfl) (g_lt rfl) (gs_78 G _ _) rfl (show k1 + 0 + 0 ≤ 600000 ∧ k2 + 0 + 0 ≤ 7302250 by omega) rfl (gI_go (fun r2 μ2 h => ?_)) h
  refine go_icmp_eq 971 dL_law_627 (by decide) (fun c => ?_) (fun c => absurd h.1 c)
  exact go_widen (n1 := k1 + 38) (n2 := k2 + 34859) (show k1 + 0 + 0 ≤ k1 + 38 by omega) (show k2 + 0 + 0 ≤ k2 + 34859 by omega) h.2
theorem lL_82 : gLV "StoryNumbersLaw" 82 mX9_shortest := ⟨g_in 689 (by decide +kernel) rfl, g_in 690 (by decide +kernel) rfl, g_in 691 (by decide +kernel) rfl⟩
theorem lL_85 : gLV "StoryNumbersLaw" 85 mX10_shortest := ⟨g_in 1251 (by decide +kernel) rfl, g_in 1252 (by decide +kernel) rfl, g_in 1253 (by decide +kernel) rfl⟩
set_option maxRecDepth 100000 in
theorem law_case_15 {G : gC} {l : Launch} {nm : String} {k1 k2 : Nat} {i : Int32} {μ : Mem} (hk1 : k1 + 38 ≤ 600000) (hk2 : k2 + 34859 ≤ 7302250) (b0 : vp_in (i + (1 : Int32)) (G.2.2.2 11)) (b1 : vp_in (i + (2 : Int32)) (G.2.2.2 11)) (h : qX9_shortest G l (sc G ((i + (1 : Int32))).toNatClampNeg) (sc G ((i + (2 : Int32))).toNatClampNeg) μ (fun (r1 : Int32) (μ1 : Mem) => qX10_shortest G l (sc G ((i + (1 : Int32))).toNatClampNeg) (sc G ((i + (2 : Int32))).toNatClampNeg) μ1 (fun (r2 : Int32) (μ2 : Mem) => r1 = r2 ∧ lawGo G l nm 971 (k1 + 38) (k2 + 34859) i μ2))) : lawGo G l nm 632 k1 k2 i μ := by
  refine go_aload_n dL_law_632 rfl 1 rfl ?_
  refine go_aload_n dL_law_633 rfl 0 rfl ?_
  refine go_iload_n dL_law_634 rfl 3 rfl ?_
  refine go_iconst (v := 1) dL_law_635 (by decide) ?_
  refine go_iadd dL_law_636 ?_
  refine go_sld dL_law_637 b0 ?_
  refine go_aload_n dL_law_638 rfl 0 rfl ?_
  refine go_iload_n dL_law_639 rfl 3 rfl ?_
  refine go_iconst (v := 2) dL_law_640 (by decide) ?_
  refine go_iadd dL_law_641 ?_
  refine go_sld dL_law_642 b1 ?_
  refine go_callV (As := [.int (sc G ((i + (1 : Int32))).toNatClampNeg), .int (sc G ((i + (2 : Int32))).toNatClampNeg)]) (rest := []) dL_law_643 lL_82 kX9_shortest rfl (by decide) (Nat.le_of_ble_eq_true rfl) (g_lt rfl) (gs_0 G _ _) rfl (show k1 + 0 ≤ 600000 ∧ k2 + 0 ≤ 7302250 by omega) rfl (gI_go (fun r1 μ1 h => ?_)) h
  refine go_aload_n dL_law_646 rfl 2 rfl ?_
  refine go_aload_n dL_law_647 rfl 0 rfl ?_
  refine go_iload_n dL_law_648 rfl 3 rfl ?_
  refine go_iconst (v := 1) dL_law_649 (by decide) ?_
  refine go_iadd dL_law_650 ?_
  refine go_sld dL_law_651 b0 ?_
  refine go_aload_n dL_law_652 rfl 0 rfl ?_
  refine go_iload_n dL_law_653 rfl 3 rfl ?_
  refine go_iconst (v := 2) dL_law_654 (by decide) ?_
  refine go_iadd dL_law_655 ?_
  refine go_sld dL_law_656 b1 ?_
  refine go_callV (As := [.int (sc G ((i + (1 : Int32))).toNatClampNeg), .int (sc G ((i + (2 : Int32))).toNatClampNeg)]) (rest := [.int r1]) dL_law_657 lL_85 kX10_shortest rfl (by decide) (Nat.le_of_ble_eq_true rfl) (g_lt rfl) (gs_78 G _ _) rfl (show k1 + 0 + 0 ≤ 600000 ∧ k2 + 0 + 0 ≤ 7302250 by omega) rfl (gI_go (fun r2 μ2 h => ?_)) h
  refine go_icmp_eq 971 dL_law_660 (by decide) (fun c => ?_) (fun c => absurd h.1 c)
  exact go_widen (n1 := k1 + 38) (n2 := k2 + 34859) (show k1 + 0 + 0 ≤ k1 + 38 by omega) (show k2 + 0 + 0 ≤ k2 + 34859 by omega) h.2
theorem lL_86 : gLV "StoryNumbersLaw" 86 mX9_law := ⟨g_in 697 (by decide +kernel) rfl, g_in 698 (by decide +kernel) rfl, g_in 699 (by decide +kernel) rfl⟩
theorem lL_89 : gLV "StoryNumbersLaw" 89 mX10_law := ⟨g_in 1255 (by decide +kernel) rfl, g_in 1256 (by decide +kernel) rfl, g_in 1257 (by decide +kernel) rfl⟩
set_option maxRecDepth 100000 in
theorem law_case_16 {G : gC} {l : Launch} {nm : String} {k1 k2 : Nat} {i : Int32} {μ : Mem} (hk1 : k1 + 38 ≤ 600000) (hk2 : k2 + 34859 ≤ 7302250) (b0 : vp_in (i + (1 : Int32)) (G.2.2.2 11)) (b1 : vp_in (i + (2 : Int32)) (G.2.2.2 11)) (h : qX9_law G l (sc G ((i + (1 : Int32))).toNatClampNeg) (sc G ((i + (2 : Int32))).toNatClampNeg) μ (fun (r1 : Int32) (μ1 : Mem) => qX10_law G l (sc G ((i + (1 : Int32))).toNatClampNeg) (sc G ((i + (2 : Int32))).toNatClampNeg) μ1 (fun (r2 : Int32) (μ2 : Mem) => r1 = r2 ∧ lawGo G l nm 971 (k1 + 38) (k2 + 34859) i μ2))) : lawGo G l nm 665 k1 k2 i μ := by
  refine go_aload_n dL_law_665 rfl 1 rfl ?_
  refine go_aload_n dL_law_666 rfl 0 rfl ?_
  refine go_iload_n dL_law_667 rfl 3 rfl ?_
  refine go_iconst (v := 1) dL_law_668 (by decide) ?_
  refine go_iadd dL_law_669 ?_
  refine go_sld dL_law_670 b0 ?_
  refine go_aload_n dL_law_671 rfl 0 rfl ?_
  refine go_iload_n dL_law_672 rfl 3 rfl ?_
  refine go_iconst (v := 2) dL_law_673 (by decide) ?_
  refine go_iadd dL_law_674 ?_
  refine go_sld dL_law_675 b1 ?_
  refine go_callV (As := [.int (sc G ((i + (1 : Int32))).toNatClampNeg), .int (sc G ((i + (2 : Int32))).toNatClampNeg)]) (rest := []) dL_law_676 lL_86 kX9_law rfl (by decide) (Nat.le_of_ble_eq_true rfl) (g_lt rfl) (gs_0 G _ _) rfl (show k1 + 0 ≤ 600000 ∧ k2 + 0 ≤ 7302250 by omega) rfl (gI_go (fun r1 μ1 h => ?_)) h
  refine go_aload_n dL_law_679 rfl 2 rfl ?_
  refine go_aload_n dL_law_680 rfl 0 rfl ?_
  refine go_iload_n dL_law_681 rfl 3 rfl ?_
  refine go_iconst (v := 1) dL_law_682 (by decide) ?_
  refine go_iadd dL_law_683 ?_
  refine go_sld dL_law_684 b0 ?_
  refine go_aload_n dL_law_685 rfl 0 rfl ?_
  refine go_iload_n dL_law_686 rfl 3 rfl ?_
  refine go_iconst (v := 2) dL_law_687 (by decide) ?_
  refine go_iadd dL_law_688 ?_
  refine go_sld dL_law_689 b1 ?_
  refine go_callV (As := [.int (sc G ((i + (1 : Int32))).toNatClampNeg), .int (sc G ((i + (2 : Int32))).toNatClampNeg)]) (rest := [.int r1]) dL_law_690 lL_89 kX10_law rfl (by decide) (Nat.le_of_ble_eq_true rfl) (g_lt rfl) (gs_78 G _ _) rfl (show k1 + 0 + 0 ≤ 600000 ∧ k2 + 0 + 0 ≤ 7302250 by omega) rfl (gI_go (fun r2 μ2 h => ?_)) h
  refine go_icmp_eq 971 dL_law_693 (by decide) (fun c => ?_) (fun c => absurd h.1 c)
  exact go_widen (n1 := k1 + 38) (n2 := k2 + 34859) (show k1 + 0 + 0 ≤ k1 + 38 by omega) (show k2 + 0 + 0 ≤ k2 + 34859 by omega) h.2
theorem lL_90 : gLV "StoryNumbersLaw" 90 mX9_add := ⟨g_in 709 (by decide +kernel) rfl, g_in 710 (by decide +kernel) rfl, g_in 711 (by decide +kernel) rfl⟩
theorem lL_93 : gLV "StoryNumbersLaw" 93 mX10_add := ⟨g_in 1259 (by decide +kernel) rfl, g_in 1260 (by decide +kernel) rfl, g_in 1261 (by decide +kernel) rfl⟩
set_option maxRecDepth 100000 in
theorem law_case_17 {G : gC} {l : Launch} {nm : String} {k1 k2 : Nat} {i : Int32} {μ : Mem} (hk1 : k1 + 38 ≤ 600000) (hk2 : k2 + 34859 ≤ 7302250) (b0 : vp_in (i + (1 : Int32)) (G.2.2.2 11)) (h : qX9_add G l (sc G ((i + (1 : Int32))).toNatClampNeg) μ (fun (r1 : Int32) (μ1 : Mem) => qX10_add G l (sc G ((i + (1 : Int32))).toNatClampNeg) μ1 (fun (r2 : Int32) (μ2 : Mem) => r1 = r2 ∧ lawGo G l nm 971 (k1 + 38) (k2 + 34859) i μ2))) : lawGo G l nm 698 k1 k2 i μ := by
  refine go_aload_n dL_law_698 rfl 1 rfl ?_
  refine go_aload_n dL_law_699 rfl 0 rfl ?_
  refine go_iload_n dL_law_700 rfl 3 rfl ?_
  refine go_iconst (v := 1) dL_law_701 (by decide) ?_
  refine go_iadd dL_law_702 ?_
  refine go_sld dL_law_703 b0 ?_
  refine go_callV (As := [.int (sc G ((i + (1 : Int32))).toNatClampNeg)]) (rest := []) dL_law_704 lL_90 kX9_add rfl (by decide) (Nat.le_of_ble_eq_true rfl) (g_lt rfl) (gs_0 G _ _) rfl (show k1 + 0 ≤ 600000 ∧ k2 + 0 ≤ 7302250 by omega) rfl (gI_go (fun r1 μ1 h => ?_)) h
  refine go_aload_n dL_law_707 rfl 2 rfl ?_
  refine go_aload_n dL_law_708 rfl 0 rfl ?_
  refine go_iload_n dL_law_709 rfl 3 rfl ?_
  refine go_iconst (v := 1) dL_law_710 (by decide) ?_
  refine go_iadd dL_law_711 ?_
  refine go_sld dL_law_712 b0 ?_
  refine go_callV (As := [.int (sc G ((i + (1 : Int32))).toNatClampNeg)]) (rest := [.int r1]) dL_law_713 lL_93 kX10_add rfl (by decide) (Nat.le_of_ble_eq_true rfl) (g_lt rfl) (gs_78 G _ _) rfl (show k1 + 0 + 0 ≤ 600000 ∧ k2 + 0 + 0 ≤ 7302250 by omega) rfl (gI_go (fun r2 μ2 h => ?_)) h
  refine go_icmp_eq 971 dL_law_716 (by decide) (fun c => ?_) (fun c => absurd h.1 c)
  exact go_widen (n1 := k1 + 38) (n2 := k2 + 34859) (show k1 + 0 + 0 ≤ k1 + 38 by omega) (show k2 + 0 + 0 ≤ k2 + 34859 by omega) h.2
theorem lL_94 : gLV "StoryNumbersLaw" 94 mX9_drop := ⟨g_in 721 (by decide +kernel) rfl, g_in 722 (by decide +kernel) rfl, g_in 723 (by decide +kernel) rfl⟩
theorem lL_97 : gLV "StoryNumbersLaw" 97 mX10_drop := ⟨g_in 1263 (by decide +kernel) rfl, g_in 1264 (by decide +kernel) rfl, g_in 1265 (by decide +kernel) rfl⟩
set_option maxRecDepth 100000 in
theorem law_case_18 {G : gC} {l : Launch} {nm : String} {k1 k2 : Nat} {i : Int32} {μ : Mem} (hk1 : k1 + 38 ≤ 600000) (hk2 : k2 + 34859 ≤ 7302250)  (h : qX9_drop G l  μ (fun (r1 : Int32) (μ1 : Mem) => qX10_drop G l  μ1 (fun (r2 : Int32) (μ2 : Mem) => r1 = r2 ∧ lawGo G l nm 971 (k1 + 38) (k2 + 34859) i μ2))) : lawGo G l nm 721 k1 k2 i μ := by
  refine go_aload_n dL_law_721 rfl 1 rfl ?_
  refine go_callV (As := []) (rest := []) dL_law_722 lL_94 kX9_drop rfl (by decide) (Nat.le_of_ble_eq_true rfl) (g_lt rfl) (gs_0 G _ _) rfl (show k1 + 0 ≤ 600000 ∧ k2 + 0 ≤ 7302250 by omega) rfl (gI_go (fun r1 μ1 h => ?_)) h
  refine go_aload_n dL_law_725 rfl 2 rfl ?_
  refine go_callV (As := []) (rest := [.int r1]) dL_law_726 lL_97 kX10_drop rfl (by decide) (Nat.le_of_ble_eq_true rfl) (g_lt rfl) (gs_78 G _ _) rfl (show k1 + 0 + 0 ≤ 600000 ∧ k2 + 0 + 0 ≤ 7302250 by omega) rfl (gI_go (fun r2 μ2 h => ?_)) h
  refine go_icmp_eq 971 dL_law_729 (by decide) (fun c => ?_) (fun c => absurd h.1 c)
  exact go_widen (n1 := k1 + 38) (n2 := k2 + 34859) (show k1 + 0 + 0 ≤ k1 + 38 by omega) (show k2 + 0 + 0 ≤ k2 + 34859 by omega) h.2
theorem lL_98 : gLV "StoryNumbersLaw" 98 mX9_lines := ⟨g_in 729 (by decide +kernel) rfl, g_in 730 (by decide +kernel) rfl, g_in 731 (by decide +kernel) rfl⟩
theorem lL_101 : gLV "StoryNumbersLaw" 101 mX10_lines := ⟨g_in 1267 (by decide +kernel) rfl, g_in 1268 (by decide +kernel) rfl, g_in 1269 (by decide +kernel) rfl⟩
set_option maxRecDepth 100000 in
theorem law_case_19 {G : gC} {l : Launch} {nm : String} {k1 k2 : Nat} {i : Int32} {μ : Mem} (hk1 : k1 + 38 ≤ 600000) (hk2 : k2 + 34859 ≤ 7302250)  (h : qX9_lines G l  μ (fun (r1 : Int32) (μ1 : Mem) => qX10_lines G l  μ1 (fun (r2 : Int32) (μ2 : Mem) => r1 = r2 ∧ lawGo G l nm 971 (k1 + 38) (k2 + 34859) i μ2))) : lawGo G l nm 734 k1 k2 i μ := by
  refine go_aload_n dL_law_734 rfl 1 rfl ?_
  refine go_callV (As := []) (rest := []) dL_law_735 lL_98 kX9_lines rfl (by decide) (Nat.le_of_ble_eq_true rfl) (g_lt rfl) (gs_0 G _ _) rfl (show k1 + 0 ≤ 600000 ∧ k2 + 0 ≤ 7302250 by omega) rfl (gI_go (fun r1 μ1 h => ?_)) h
  refine go_aload_n dL_law_738 rfl 2 rfl ?_
  refine go_callV (As := []) (rest := [.int r1]) dL_law_739 lL_101 kX10_lines rfl (by decide) (Nat.le_of_ble_eq_true rfl) (g_lt rfl) (gs_78 G _ _) rfl (show k1 + 0 + 0 ≤ 600000 ∧ k2 + 0 + 0 ≤ 7302250 by omega) rfl (gI_go (fun r2 μ2 h => ?_)) h
  refine go_icmp_eq 971 dL_law_742 (by decide) (fun c => ?_) (fun c => absurd h.1 c)
  exact go_widen (n1 := k1 + 38) (n2 := k2 + 34859) (show k1 + 0 + 0 ≤ k1 + 38 by omega) (show k2 + 0 + 0 ≤ k2 + 34859 by omega) h.2
theorem lL_102 : gLV "StoryNumbersLaw" 102 mX9_print := ⟨g_in 745 (by decide +kernel) rfl, g_in 746 (by decide +kernel) rfl, g_in 747 (by decide +kernel) rfl⟩
theorem lL_105 : gLV "StoryNumbersLaw" 105 mX10_print := ⟨g_in 1279 (by decide +kernel) rfl, g_in 1280 (by decide +kernel) rfl, g_in 1281 (by decide +kernel) rfl⟩
set_option maxRecDepth 100000 in
theorem law_case_20 {G : gC} {l : Launch} {nm : String} {k1 k2 : Nat} {i : Int32} {μ : Mem} (hk1 : k1 + 38 ≤ 600000) (hk2 : k2 + 34859 ≤ 7302250)  (h : qX9_print G l  μ (fun (r1 : Int32) (μ1 : Mem) => qX10_print G l  μ1 (fun (r2 : Int32) (μ2 : Mem) => r1 = r2 ∧ lawGo G l nm 971 (k1 + 38) (k2 + 34859) i μ2))) : lawGo G l nm 747 k1 k2 i μ := by
  refine go_aload_n dL_law_747 rfl 1 rfl ?_
  refine go_callV (As := []) (rest := []) dL_law_748 lL_102 kX9_print rfl (by decide) (Nat.le_of_ble_eq_true rfl) (g_lt rfl) (gs_0 G _ _) rfl (show k1 + 0 ≤ 600000 ∧ k2 + 0 ≤ 7302250 by omega) rfl (gI_go (fun r1 μ1 h => ?_)) h
  refine go_aload_n dL_law_751 rfl 2 rfl ?_
  refine go_callV (As := []) (rest := [.int r1]) dL_law_752 lL_105 kX10_print rfl (by decide) (Nat.le_of_ble_eq_true rfl) (g_lt rfl) (gs_78 G _ _) rfl (show k1 + 0 + 0 ≤ 600000 ∧ k2 + 0 + 0 ≤ 7302250 by omega) rfl (gI_go (fun r2 μ2 h => ?_)) h
  refine go_icmp_eq 971 dL_law_755 (by decide) (fun c => ?_) (fun c => absurd h.1 c)
  exact go_widen (n1 := k1 + 38) (n2 := k2 + 34859) (show k1 + 0 + 0 ≤ k1 + 38 by omega) (show k2 + 0 + 0 ≤ k2 + 34859 by omega) h.2
theorem lL_106 : gLV "StoryNumbersLaw" 106 mX9_number := ⟨g_in 753 (by decide +kernel) rfl, g_in 754 (by decide +kernel) rfl, g_in 755 (by decide +kernel) rfl⟩
theorem lL_109 : gLV "StoryNumbersLaw" 109 mX10_number := ⟨g_in 1283 (by decide +kernel) rfl, g_in 1284 (by decide +kernel) rfl, g_in 1285 (by decide +kernel) rfl⟩
set_option maxRecDepth 100000 in
theorem law_case_21 {G : gC} {l : Launch} {nm : String} {k1 k2 : Nat} {i : Int32} {μ : Mem} (hk1 : k1 + 38 ≤ 600000) (hk2 : k2 + 34859 ≤ 7302250) (b0 : vp_in (i + (1 : Int32)) (G.2.2.2 11)) (b1 : vp_in (i + (2 : Int32)) (G.2.2.2 11)) (h : qX9_number G l (sc G ((i + (1 : Int32))).toNatClampNeg) (sc G ((i + (2 : Int32))).toNatClampNeg) μ (fun (r1 : Int32) (μ1 : Mem) => qX10_number G l (sc G ((i + (1 : Int32))).toNatClampNeg) (sc G ((i + (2 : Int32))).toNatClampNeg) μ1 (fun (r2 : Int32) (μ2 : Mem) => r1 = r2 ∧ lawGo G l nm 971 (k1 + 38) (k2 + 34859) i μ2))) : lawGo G l nm 760 k1 k2 i μ := by
  refine go_aload_n dL_law_760 rfl 1 rfl ?_
  refine go_aload_n dL_law_761 rfl 0 rfl ?_
  refine go_iload_n dL_law_762 rfl 3 rfl ?_
  refine go_iconst (v := 1) dL_law_763 (by decide) ?_
  refine go_iadd dL_law_764 ?_
  refine go_sld dL_law_765 b0 ?_
  refine go_aload_n dL_law_766 rfl 0 rfl ?_
  refine go_iload_n dL_law_767 rfl 3 rfl ?_
  refine go_iconst (v := 2) dL_law_768 (by decide) ?_
  refine go_iadd dL_law_769 ?_
  refine go_sld dL_law_770 b1 ?_
  refine go_callV (As := [.int (sc G ((i + (1 : Int32))).toNatClampNeg), .int (sc G ((i + (2 : Int32))).toNatClampNeg)]) (rest := []) dL_law_771 lL_106 kX9_number rfl (by decide) (Nat.le_of_ble_eq_true rfl) (g_lt rfl) (gs_0 G _ _) rfl (show k1 + 0 ≤ 600000 ∧ k2 + 0 ≤ 7302250 by omega) rfl (gI_go (fun r1 μ1 h => ?_)) h
  refine go_aload_n dL_law_774 rfl 2 rfl ?_
  refine go_aload_n dL_law_775 rfl 0 rfl ?_
  refine go_iload_n dL_law_776 rfl 3 rfl ?_
  refine go_iconst (v := 1) dL_law_777 (by decide) ?_
  refine go_iadd dL_law_778 ?_
  refine go_sld dL_law_779 b0 ?_
  refine go_aload_n dL_law_780 rfl 0 rfl ?_
  refine go_iload_n dL_law_781 rfl 3 rfl ?_
  refine go_iconst (v := 2) dL_law_782 (by decide) ?_
  refine go_iadd dL_law_783 ?_
  refine go_sld dL_law_784 b1 ?_
  refine go_callV (As := [.int (sc G ((i + (1 : Int32))).toNatClampNeg), .int (sc G ((i + (2 : Int32))).toNatClampNeg)]) (rest := [.int r1]) dL_law_785 lL_109 kX10_number rfl (by decide) (Nat.le_of_ble_eq_true rfl) (g_lt rfl) (gs_78 G _ _) rfl (show k1 + 0 + 0 ≤ 600000 ∧ k2 + 0 + 0 ≤ 7302250 by omega) rfl (gI_go (fun r2 μ2 h => ?_)) h
  refine go_icmp_eq 971 dL_law_788 (by decide) (fun c => ?_) (fun c => absurd h.1 c)
  exact go_widen (n1 := k1 + 38) (n2 := k2 + 34859) (show k1 + 0 + 0 ≤ k1 + 38 by omega) (show k2 + 0 + 0 ≤ k2 + 34859 by omega) h.2
theorem lL_110 : gLV "StoryNumbersLaw" 110 mX9_readers := ⟨g_in 793 (by decide +kernel) rfl, g_in 794 (by decide +kernel) rfl, g_in 795 (by decide +kernel) rfl⟩
theorem lL_113 : gLV "StoryNumbersLaw" 113 mX10_readers := ⟨g_in 1308 (by decide +kernel) rfl, g_in 1309 (by decide +kernel) rfl, g_in 1310 (by decide +kernel) rfl⟩
set_option maxRecDepth 100000 in
theorem law_case_22 {G : gC} {l : Launch} {nm : String} {k1 k2 : Nat} {i : Int32} {μ : Mem} (hk1 : k1 + 38 ≤ 600000) (hk2 : k2 + 34859 ≤ 7302250)  (h : qX9_readers G l  μ (fun (r1 : Int32) (μ1 : Mem) => qX10_readers G l  μ1 (fun (r2 : Int32) (μ2 : Mem) => r1 = r2 ∧ lawGo G l nm 971 (k1 + 38) (k2 + 34859) i μ2))) : lawGo G l nm 793 k1 k2 i μ := by
  refine go_aload_n dL_law_793 rfl 1 rfl ?_
  refine go_callV (As := []) (rest := []) dL_law_794 lL_110 kX9_readers rfl (by decide) (Nat.le_of_ble_eq_true rfl) (g_lt rfl) (gs_0 G _ _) rfl (show k1 + 0 ≤ 600000 ∧ k2 + 0 ≤ 7302250 by omega) rfl (gI_go (fun r1 μ1 h => ?_)) h
  refine go_aload_n dL_law_797 rfl 2 rfl ?_
  refine go_callV (As := []) (rest := [.int r1]) dL_law_798 lL_113 kX10_readers rfl (by decide) (Nat.le_of_ble_eq_true rfl) (g_lt rfl) (gs_78 G _ _) rfl (show k1 + 0 + 0 ≤ 600000 ∧ k2 + 0 + 0 ≤ 7302250 by omega) rfl (gI_go (fun r2 μ2 h => ?_)) h
  refine go_icmp_eq 971 dL_law_801 (by decide) (fun c => ?_) (fun c => absurd h.1 c)
  exact go_widen (n1 := k1 + 38) (n2 := k2 + 34859) (show k1 + 0 + 0 ≤ k1 + 38 by omega) (show k2 + 0 + 0 ≤ k2 + 34859 by omega) h.2
theorem lL_114 : gLV "StoryNumbersLaw" 114 mX9_plan := ⟨g_in 797 (by decide +kernel) rfl, g_in 798 (by decide +kernel) rfl, g_in 799 (by decide +kernel) rfl⟩
theorem lL_118 : gLV "StoryNumbersLaw" 118 mX10_plan := ⟨g_in 1312 (by decide +kernel) rfl, g_in 1313 (by decide +kernel) rfl, g_in 1314 (by decide +kernel) rfl⟩
set_option maxRecDepth 100000 in
theorem law_case_23 {G : gC} {l : Launch} {nm : String} {k1 k2 : Nat} {i : Int32} {μ : Mem} (hk1 : k1 + 38 ≤ 600000) (hk2 : k2 + 34859 ≤ 7302250) (b0 : vp_in (i + (1 : Int32)) (G.2.2.2 11)) (b1 : vp_in (i + (2 : Int32)) (G.2.2.2 11)) (b2 : vp_in (i + (3 : Int32)) (G.2.2.2 11)) (h : qX9_plan G l (sc G ((i + (1 : Int32))).toNatClampNeg) (sc G ((i + (2 : Int32))).toNatClampNeg) (sc G ((i + (3 : Int32))).toNatClampNeg) μ (fun (r1 : Int32) (μ1 : Mem) => qX10_plan G l (sc G ((i + (1 : Int32))).toNatClampNeg) (sc G ((i + (2 : Int32))).toNatClampNeg) (sc G ((i + (3 : Int32))).toNatClampNeg) μ1 (fun (r2 : Int32) (μ2 : Mem) => r1 = r2 ∧ lawGo G l nm 971 (k1 + 38) (k2 + 34859) i μ2))) : lawGo G l nm 806 k1 k2 i μ := by
  refine go_aload_n dL_law_806 rfl 1 rfl ?_
  refine go_aload_n dL_law_807 rfl 0 rfl ?_
  refine go_iload_n dL_law_808 rfl 3 rfl ?_
  refine go_iconst (v := 1) dL_law_809 (by decide) ?_
  refine go_iadd dL_law_810 ?_
  refine go_sld dL_law_811 b0 ?_
  refine go_aload_n dL_law_812 rfl 0 rfl ?_
  refine go_iload_n dL_law_813 rfl 3 rfl ?_
  refine go_iconst (v := 2) dL_law_814 (by decide) ?_
  refine go_iadd dL_law_815 ?_
  refine go_sld dL_law_816 b1 ?_
  refine go_aload_n dL_law_817 rfl 0 rfl ?_
  refine go_iload_n dL_law_818 rfl 3 rfl ?_
  refine go_iconst (v := 3) dL_law_819 (by decide) ?_
  refine go_iadd dL_law_820 ?_
  refine go_sld dL_law_821 b2 ?_
  refine go_callV (As := [.int (sc G ((i + (1 : Int32))).toNatClampNeg), .int (sc G ((i + (2 : Int32))).toNatClampNeg), .int (sc G ((i + (3 : Int32))).toNatClampNeg)]) (rest := []) dL_law_822 lL_114 kX9_plan rfl (by decide) (Nat.le_of_ble_eq_true rfl) (g_lt rfl) (gs_0 G _ _) rfl (show k1 + 38 ≤ 600000 ∧ k2 + 34859 ≤ 7302250 by omega) rfl (gI_go (fun r1 μ1 h => ?_)) h
  refine go_aload_n dL_law_825 rfl 2 rfl ?_
  refine go_aload_n dL_law_826 rfl 0 rfl ?_
  refine go_iload_n dL_law_827 rfl 3 rfl ?_
  refine go_iconst (v := 1) dL_law_828 (by decide) ?_
  refine go_iadd dL_law_829 ?_
  refine go_sld dL_law_830 b0 ?_
  refine go_aload_n dL_law_831 rfl 0 rfl ?_
  refine go_iload_n dL_law_832 rfl 3 rfl ?_
  refine go_iconst (v := 2) dL_law_833 (by decide) ?_
  refine go_iadd dL_law_834 ?_
  refine go_sld dL_law_835 b1 ?_
  refine go_aload_n dL_law_836 rfl 0 rfl ?_
  refine go_iload_n dL_law_837 rfl 3 rfl ?_
  refine go_iconst (v := 3) dL_law_838 (by decide) ?_
  refine go_iadd dL_law_839 ?_
  refine go_sld dL_law_840 b2 ?_
  refine go_callV (As := [.int (sc G ((i + (1 : Int32))).toNatClampNeg), .int (sc G ((i + (2 : Int32))).toNatClampNeg), .int (sc G ((i + (3 : Int32))).toNatClampNeg)]) (rest := [.int r1]) dL_law_841 lL_118 kX10_plan rfl (by decide) (Nat.le_of_ble_eq_true rfl) (g_lt rfl) (gs_78 G _ _) rfl (show k1 + 38 + 0 ≤ 600000 ∧ k2 + 34859 + 0 ≤ 7302250 by omega) rfl (gI_go (fun r2 μ2 h => ?_)) h
  refine go_icmp_eq 971 dL_law_844 (by decide) (fun c => ?_) (fun c => absurd h.1 c)
  exact go_widen (n1 := k1 + 38) (n2 := k2 + 34859) (show k1 + 38 + 0 ≤ k1 + 38 by omega) (show k2 + 34859 + 0 ≤ k2 + 34859 by omega) h.2
theorem lL_119 : gLV "StoryNumbersLaw" 119 mX9_kind := ⟨g_in 877 (by decide +kernel) rfl, g_in 878 (by decide +kernel) rfl, g_in 879 (by decide +kernel) rfl⟩
theorem lL_122 : gLV "StoryNumbersLaw" 122 mX10_kind := ⟨g_in 1333 (by decide +kernel) rfl, g_in 1334 (by decide +kernel) rfl, g_in 1335 (by decide +kernel) rfl⟩
set_option maxRecDepth 100000 in
theorem law_case_24 {G : gC} {l : Launch} {nm : String} {k1 k2 : Nat} {i : Int32} {μ : Mem} (hk1 : k1 + 38 ≤ 600000) (hk2 : k2 + 34859 ≤ 7302250) (b0 : vp_in (i + (1 : Int32)) (G.2.2.2 11)) (b1 : vp_in (i + (2 : Int32)) (G.2.2.2 11)) (b2 : vp_in (i + (3 : Int32)) (G.2.2.2 11)) (h : qX9_kind G l (sc G ((i + (1 : Int32))).toNatClampNeg) (sc G ((i + (2 : Int32))).toNatClampNeg) (sc G ((i + (3 : Int32))).toNatClampNeg) μ (fun (r1 : Int32) (μ1 : Mem) => qX10_kind G l (sc G ((i + (1 : Int32))).toNatClampNeg) (sc G ((i + (2 : Int32))).toNatClampNeg) (sc G ((i + (3 : Int32))).toNatClampNeg) μ1 (fun (r2 : Int32) (μ2 : Mem) => r1 = r2 ∧ lawGo G l nm 971 (k1 + 38) (k2 + 34859) i μ2))) : lawGo G l nm 849 k1 k2 i μ := by
  refine go_aload_n dL_law_849 rfl 1 rfl ?_
  refine go_aload_n dL_law_850 rfl 0 rfl ?_
  refine go_iload_n dL_law_851 rfl 3 rfl ?_
  refine go_iconst (v := 1) dL_law_852 (by decide) ?_
  refine go_iadd dL_law_853 ?_
  refine go_sld dL_law_854 b0 ?_
  refine go_aload_n dL_law_855 rfl 0 rfl ?_
  refine go_iload_n dL_law_856 rfl 3 rfl ?_
  refine go_iconst (v := 2) dL_law_857 (by decide) ?_
  refine go_iadd dL_law_858 ?_
  refine go_sld dL_law_859 b1 ?_
  refine go_aload_n dL_law_860 rfl 0 rfl ?_
  refine go_iload_n dL_law_861 rfl 3 rfl ?_
  refine go_iconst (v := 3) dL_law_862 (by decide) ?_
  refine go_iadd dL_law_863 ?_
  refine go_sld dL_law_864 b2 ?_
  refine go_callV (As := [.int (sc G ((i + (1 : Int32))).toNatClampNeg), .int (sc G ((i + (2 : Int32))).toNatClampNeg), .int (sc G ((i + (3 : Int32))).toNatClampNeg)]) (rest := []) dL_law_865 lL_119 kX9_kind rfl (by decide) (Nat.le_of_ble_eq_true rfl) (g_lt rfl) (gs_0 G _ _) rfl (show k1 + 38 ≤ 600000 ∧ k2 + 34859 ≤ 7302250 by omega) rfl (gI_go (fun r1 μ1 h => ?_)) h
  refine go_aload_n dL_law_868 rfl 2 rfl ?_
  refine go_aload_n dL_law_869 rfl 0 rfl ?_
  refine go_iload_n dL_law_870 rfl 3 rfl ?_
  refine go_iconst (v := 1) dL_law_871 (by decide) ?_
  refine go_iadd dL_law_872 ?_
  refine go_sld dL_law_873 b0 ?_
  refine go_aload_n dL_law_874 rfl 0 rfl ?_
  refine go_iload_n dL_law_875 rfl 3 rfl ?_
  refine go_iconst (v := 2) dL_law_876 (by decide) ?_
  refine go_iadd dL_law_877 ?_
  refine go_sld dL_law_878 b1 ?_
  refine go_aload_n dL_law_879 rfl 0 rfl ?_
  refine go_iload_n dL_law_880 rfl 3 rfl ?_
  refine go_iconst (v := 3) dL_law_881 (by decide) ?_
  refine go_iadd dL_law_882 ?_
  refine go_sld dL_law_883 b2 ?_
  refine go_callV (As := [.int (sc G ((i + (1 : Int32))).toNatClampNeg), .int (sc G ((i + (2 : Int32))).toNatClampNeg), .int (sc G ((i + (3 : Int32))).toNatClampNeg)]) (rest := [.int r1]) dL_law_884 lL_122 kX10_kind rfl (by decide) (Nat.le_of_ble_eq_true rfl) (g_lt rfl) (gs_78 G _ _) rfl (show k1 + 38 + 0 ≤ 600000 ∧ k2 + 34859 + 0 ≤ 7302250 by omega) rfl (gI_go (fun r2 μ2 h => ?_)) h
  refine go_icmp_eq 971 dL_law_887 (by decide) (fun c => ?_) (fun c => absurd h.1 c)
  exact go_widen (n1 := k1 + 38) (n2 := k2 + 34859) (show k1 + 38 + 0 ≤ k1 + 38 by omega) (show k2 + 34859 + 0 ≤ k2 + 34859 by omega) h.2
theorem lL_123 : gLV "StoryNumbersLaw" 123 mX9_chapter := ⟨g_in 910 (by decide +kernel) rfl, g_in 911 (by decide +kernel) rfl, g_in 912 (by decide +kernel) rfl⟩
theorem lL_126 : gLV "StoryNumbersLaw" 126 mX10_chapter := ⟨g_in 1341 (by decide +kernel) rfl, g_in 1342 (by decide +kernel) rfl, g_in 1343 (by decide +kernel) rfl⟩
set_option maxRecDepth 100000 in
theorem law_case_25 {G : gC} {l : Launch} {nm : String} {k1 k2 : Nat} {i : Int32} {μ : Mem} (hk1 : k1 + 38 ≤ 600000) (hk2 : k2 + 34859 ≤ 7302250) (b0 : vp_in (i + (1 : Int32)) (G.2.2.2 11)) (b1 : vp_in (i + (2 : Int32)) (G.2.2.2 11)) (h : qX9_chapter G l (sc G ((i + (1 : Int32))).toNatClampNeg) (sc G ((i + (2 : Int32))).toNatClampNeg) μ (fun (r1 : Int32) (μ1 : Mem) => qX10_chapter G l (sc G ((i + (1 : Int32))).toNatClampNeg) (sc G ((i + (2 : Int32))).toNatClampNeg) μ1 (fun (r2 : Int32) (μ2 : Mem) => r1 = r2 ∧ lawGo G l nm 971 (k1 + 38) (k2 + 34859) i μ2))) : lawGo G l nm 892 k1 k2 i μ := by
  refine go_aload_n dL_law_892 rfl 1 rfl ?_
  refine go_aload_n dL_law_893 rfl 0 rfl ?_
  refine go_iload_n dL_law_894 rfl 3 rfl ?_
  refine go_iconst (v := 1) dL_law_895 (by decide) ?_
  refine go_iadd dL_law_896 ?_
  refine go_sld dL_law_897 b0 ?_
  refine go_aload_n dL_law_898 rfl 0 rfl ?_
  refine go_iload_n dL_law_899 rfl 3 rfl ?_
  refine go_iconst (v := 2) dL_law_900 (by decide) ?_
  refine go_iadd dL_law_901 ?_
  refine go_sld dL_law_902 b1 ?_
  refine go_callV (As := [.int (sc G ((i + (1 : Int32))).toNatClampNeg), .int (sc G ((i + (2 : Int32))).toNatClampNeg)]) (rest := []) dL_law_903 lL_123 kX9_chapter rfl (by decide) (Nat.le_of_ble_eq_true rfl) (g_lt rfl) (gs_0 G _ _) rfl (show k1 + 0 ≤ 600000 ∧ k2 + 0 ≤ 7302250 by omega) rfl (gI_go (fun r1 μ1 h => ?_)) h
  refine go_aload_n dL_law_906 rfl 2 rfl ?_
  refine go_aload_n dL_law_907 rfl 0 rfl ?_
  refine go_iload_n dL_law_908 rfl 3 rfl ?_
  refine go_iconst (v := 1) dL_law_909 (by decide) ?_
  refine go_iadd dL_law_910 ?_
  refine go_sld dL_law_911 b0 ?_
  refine go_aload_n dL_law_912 rfl 0 rfl ?_
  refine go_iload_n dL_law_913 rfl 3 rfl ?_
  refine go_iconst (v := 2) dL_law_914 (by decide) ?_
  refine go_iadd dL_law_915 ?_
  refine go_sld dL_law_916 b1 ?_
  refine go_callV (As := [.int (sc G ((i + (1 : Int32))).toNatClampNeg), .int (sc G ((i + (2 : Int32))).toNatClampNeg)]) (rest := [.int r1]) dL_law_917 lL_126 kX10_chapter rfl (by decide) (Nat.le_of_ble_eq_true rfl) (g_lt rfl) (gs_78 G _ _) rfl (show k1 + 0 + 0 ≤ 600000 ∧ k2 + 0 + 0 ≤ 7302250 by omega) rfl (gI_go (fun r2 μ2 h => ?_)) h
  refine go_icmp_eq 971 dL_law_920 (by decide) (fun c => ?_) (fun c => absurd h.1 c)
  exact go_widen (n1 := k1 + 38) (n2 := k2 + 34859) (show k1 + 0 + 0 ≤ k1 + 38 by omega) (show k2 + 0 + 0 ≤ k2 + 34859 by omega) h.2
theorem lL_127 : gLV "StoryNumbersLaw" 127 mX9_keep := ⟨g_in 933 (by decide +kernel) rfl, g_in 934 (by decide +kernel) rfl, g_in 935 (by decide +kernel) rfl⟩
theorem lL_130 : gLV "StoryNumbersLaw" 130 mX10_keep := ⟨g_in 1346 (by decide +kernel) rfl, g_in 1347 (by decide +kernel) rfl, g_in 1348 (by decide +kernel) rfl⟩
set_option maxRecDepth 100000 in
theorem law_case_26 {G : gC} {l : Launch} {nm : String} {k1 k2 : Nat} {i : Int32} {μ : Mem} (hk1 : k1 + 38 ≤ 600000) (hk2 : k2 + 34859 ≤ 7302250) (b0 : vp_in (i + (1 : Int32)) (G.2.2.2 11)) (h : qX9_keep G l (sc G ((i + (1 : Int32))).toNatClampNeg) μ (fun (r1 : Int32) (μ1 : Mem) => qX10_keep G l (sc G ((i + (1 : Int32))).toNatClampNeg) μ1 (fun (r2 : Int32) (μ2 : Mem) => r1 = r2 ∧ lawGo G l nm 971 (k1 + 38) (k2 + 34859) i μ2))) : lawGo G l nm 925 k1 k2 i μ := by
  refine go_aload_n dL_law_925 rfl 1 rfl ?_
  refine go_aload_n dL_law_926 rfl 0 rfl ?_
  refine go_iload_n dL_law_927 rfl 3 rfl ?_
  refine go_iconst (v := 1) dL_law_928 (by decide) ?_
  refine go_iadd dL_law_929 ?_
  refine go_sld dL_law_930 b0 ?_
  refine go_callV (As := [.int (sc G ((i + (1 : Int32))).toNatClampNeg)]) (rest := []) dL_law_931 lL_127 kX9_keep rfl (by decide) (Nat.le_of_ble_eq_true rfl) (g_lt rfl) (gs_0 G _ _) rfl (show k1 + 0 ≤ 600000 ∧ k2 + 0 ≤ 7302250 by omega) rfl (gI_go (fun r1 μ1 h => ?_)) h
  refine go_aload_n dL_law_934 rfl 2 rfl ?_
  refine go_aload_n dL_law_935 rfl 0 rfl ?_
  refine go_iload_n dL_law_936 rfl 3 rfl ?_
  refine go_iconst (v := 1) dL_law_937 (by decide) ?_
  refine go_iadd dL_law_938 ?_
  refine go_sld dL_law_939 b0 ?_
  refine go_callV (As := [.int (sc G ((i + (1 : Int32))).toNatClampNeg)]) (rest := [.int r1]) dL_law_940 lL_130 kX10_keep rfl (by decide) (Nat.le_of_ble_eq_true rfl) (g_lt rfl) (gs_78 G _ _) rfl (show k1 + 0 + 0 ≤ 600000 ∧ k2 + 0 + 0 ≤ 7302250 by omega) rfl (gI_go (fun r2 μ2 h => ?_)) h
  refine go_icmp_eq 971 dL_law_943 (by decide) (fun c => ?_) (fun c => absurd h.1 c)
  exact go_widen (n1 := k1 + 38) (n2 := k2 + 34859) (show k1 + 0 + 0 ≤ k1 + 38 by omega) (show k2 + 0 + 0 ≤ k2 + 34859 by omega) h.2
theorem lL_131 : gLV "StoryNumbersLaw" 131 mX9_goBack := ⟨g_in 942 (by decide +kernel) rfl, g_in 943 (by decide +kernel) rfl, g_in 944 (by decide +kernel) rfl⟩
theorem lL_134 : gLV "StoryNumbersLaw" 134 mX10_goBack := ⟨g_in 1350 (by decide +kernel) rfl, g_in 1351 (by decide +kernel) rfl, g_in 1352 (by decide +kernel) rfl⟩
set_option maxRecDepth 100000 in
theorem law_case_27 {G : gC} {l : Launch} {nm : String} {k1 k2 : Nat} {i : Int32} {μ : Mem} (hk1 : k1 + 38 ≤ 600000) (hk2 : k2 + 34859 ≤ 7302250) (b0 : vp_in (i + (1 : Int32)) (G.2.2.2 11)) (h : qX9_goBack G l (sc G ((i + (1 : Int32))).toNatClampNeg) μ (fun (r1 : Int32) (μ1 : Mem) => qX10_goBack G l (sc G ((i + (1 : Int32))).toNatClampNeg) μ1 (fun (r2 : Int32) (μ2 : Mem) => r1 = r2 ∧ lawGo G l nm 971 (k1 + 38) (k2 + 34859) i μ2))) : lawGo G l nm 948 k1 k2 i μ := by
  refine go_aload_n dL_law_948 rfl 1 rfl ?_
  refine go_aload_n dL_law_949 rfl 0 rfl ?_
  refine go_iload_n dL_law_950 rfl 3 rfl ?_
  refine go_iconst (v := 1) dL_law_951 (by decide) ?_
  refine go_iadd dL_law_952 ?_
  refine go_sld dL_law_953 b0 ?_
  refine go_callV (As := [.int (sc G ((i + (1 : Int32))).toNatClampNeg)]) (rest := []) dL_law_954 lL_131 kX9_goBack rfl (by decide) (Nat.le_of_ble_eq_true rfl) (g_lt rfl) (gs_0 G _ _) rfl (show k1 + 0 ≤ 600000 ∧ k2 + 0 ≤ 7302250 by omega) rfl (gI_go (fun r1 μ1 h => ?_)) h
  refine go_aload_n dL_law_957 rfl 2 rfl ?_
  refine go_aload_n dL_law_958 rfl 0 rfl ?_
  refine go_iload_n dL_law_959 rfl 3 rfl ?_
  refine go_iconst (v := 1) dL_law_960 (by decide) ?_
  refine go_iadd dL_law_961 ?_
  refine go_sld dL_law_962 b0 ?_
  refine go_callV (As := [.int (sc G ((i + (1 : Int32))).toNatClampNeg)]) (rest := [.int r1]) dL_law_963 lL_134 kX10_goBack rfl (by decide) (Nat.le_of_ble_eq_true rfl) (g_lt rfl) (gs_78 G _ _) rfl (show k1 + 0 + 0 ≤ 600000 ∧ k2 + 0 + 0 ≤ 7302250 by omega) rfl (gI_go (fun r2 μ2 h => ?_)) h
  refine go_icmp_eq 971 dL_law_966 (by decide) (fun c => ?_) (fun c => absurd h.1 c)
  exact go_widen (n1 := k1 + 38) (n2 := k2 + 34859) (show k1 + 0 + 0 ≤ k1 + 38 by omega) (show k2 + 0 + 0 ≤ k2 + 34859 by omega) h.2
/-- each call: the class and the reference answer alike, and go on alike -/
def st_0 (G : gC) (l : Launch) (Rel Rel2 : Mem → Prop) : Prop := ∀ (a1 : Int32) (a2 : Int64) (μ : Mem), Rel μ → qX9_feed G l a1 a2 μ (fun (r1 : Int32) (μ1 : Mem) => qX10_feed G l a1 a2 μ1 (fun (r2 : Int32) (μ2 : Mem) => r1 = r2 ∧ Rel2 μ2))
def st_1 (G : gC) (l : Launch) (Rel Rel2 : Mem → Prop) : Prop := ∀ (μ : Mem), Rel μ → qX9_story G l  μ (fun (r1 : Int32) (μ1 : Mem) => qX10_story G l  μ1 (fun (r2 : Int32) (μ2 : Mem) => r1 = r2 ∧ Rel2 μ2))
def st_2 (G : gC) (l : Launch) (Rel Rel2 : Mem → Prop) : Prop := ∀ (μ : Mem), Rel μ → qX9_fault G l  μ (fun (r1 : Int32) (μ1 : Mem) => qX10_fault G l  μ1 (fun (r2 : Int32) (μ2 : Mem) => r1 = r2 ∧ Rel2 μ2))
def st_3 (G : gC) (l : Launch) (Rel Rel2 : Mem → Prop) : Prop := ∀ (a1 : Int32) (a2 : Int32) (μ : Mem), Rel μ → qX9_scene G l a1 a2 μ (fun (r1 : Int32) (μ1 : Mem) => qX10_scene G l a1 a2 μ1 (fun (r2 : Int32) (μ2 : Mem) => r1 = r2 ∧ Rel2 μ2))
def st_4 (G : gC) (l : Launch) (Rel Rel2 : Mem → Prop) : Prop := ∀ (a1 : Int32) (a2 : Int32) (a3 : Int32) (μ : Mem), (a3 = 0 ∨ a3 = 1) → Rel μ → qX9_never G l a1 a2 a3 μ (fun (r1 : Int32) (μ1 : Mem) => qX10_never G l a1 a2 a3 μ1 (fun (r2 : Int32) (μ2 : Mem) => r1 = r2 ∧ Rel2 μ2))
def st_5 (G : gC) (l : Launch) (Rel Rel2 : Mem → Prop) : Prop := ∀ (a1 : Int32) (μ : Mem), Rel μ → qX9_count G l a1 μ (fun (r1 : Int32) (μ1 : Mem) => qX10_count G l a1 μ1 (fun (r2 : Int32) (μ2 : Mem) => r1 = r2 ∧ Rel2 μ2))
def st_6 (G : gC) (l : Launch) (Rel Rel2 : Mem → Prop) : Prop := ∀ (a1 : Int32) (a2 : Int32) (μ : Mem), Rel μ → qX9_may G l a1 a2 μ (fun (r1 : Int32) (μ1 : Mem) => qX10_may G l a1 a2 μ1 (fun (r2 : Int32) (μ2 : Mem) => r1 = r2 ∧ Rel2 μ2))
def st_7 (G : gC) (l : Launch) (Rel Rel2 : Mem → Prop) : Prop := ∀ (a1 : Int32) (μ : Mem), Rel μ → qX9_next G l a1 μ (fun (r1 : Int32) (μ1 : Mem) => qX10_next G l a1 μ1 (fun (r2 : Int32) (μ2 : Mem) => r1 = r2 ∧ Rel2 μ2))
def st_8 (G : gC) (l : Launch) (Rel Rel2 : Mem → Prop) : Prop := ∀ (a1 : Int32) (μ : Mem), Rel μ → qX9_orders G l a1 μ (fun (r1 : Int64) (μ1 : Mem) => qX10_orders G l a1 μ1 (fun (r2 : Int64) (μ2 : Mem) => r1 = r2 ∧ Rel2 μ2))
def st_9 (G : gC) (l : Launch) (Rel Rel2 : Mem → Prop) : Prop := ∀ (a1 : Int32) (a2 : Int64) (a3 : Int32) (μ : Mem), Rel μ → qX9_order G l a1 a2 a3 μ (fun (r1 : Int32) (μ1 : Mem) => qX10_order G l a1 a2 a3 μ1 (fun (r2 : Int32) (μ2 : Mem) => r1 = r2 ∧ Rel2 μ2))
def st_10 (G : gC) (l : Launch) (Rel Rel2 : Mem → Prop) : Prop := ∀ (μ : Mem), Rel μ → qX9_good G l  μ (fun (r1 : Int32) (μ1 : Mem) => qX10_good G l  μ1 (fun (r2 : Int32) (μ2 : Mem) => r1 = r2 ∧ Rel2 μ2))
def st_11 (G : gC) (l : Launch) (Rel Rel2 : Mem → Prop) : Prop := ∀ (a1 : Int32) (a2 : Int32) (μ : Mem), Rel μ → qX9_place G l a1 a2 μ (fun (r1 : Int32) (μ1 : Mem) => qX10_place G l a1 a2 μ1 (fun (r2 : Int32) (μ2 : Mem) => r1 = r2 ∧ Rel2 μ2))
def st_12 (G : gC) (l : Launch) (Rel Rel2 : Mem → Prop) : Prop := ∀ (a1 : Int32) (μ : Mem), Rel μ → qX9_open G l a1 μ (fun (r1 : Int32) (μ1 : Mem) => qX10_open G l a1 μ1 (fun (r2 : Int32) (μ2 : Mem) => r1 = r2 ∧ Rel2 μ2))
def st_13 (G : gC) (l : Launch) (Rel Rel2 : Mem → Prop) : Prop := ∀ (a1 : Int32) (μ : Mem), Rel μ → qX9_atOnce G l a1 μ (fun (r1 : Int32) (μ1 : Mem) => qX10_atOnce G l a1 μ1 (fun (r2 : Int32) (μ2 : Mem) => r1 = r2 ∧ Rel2 μ2))
def st_14 (G : gC) (l : Launch) (Rel Rel2 : Mem → Prop) : Prop := ∀ (a1 : Int32) (μ : Mem), Rel μ → qX9_along G l a1 μ (fun (r1 : Int32) (μ1 : Mem) => qX10_along G l a1 μ1 (fun (r2 : Int32) (μ2 : Mem) => r1 = r2 ∧ Rel2 μ2))
def st_15 (G : gC) (l : Launch) (Rel Rel2 : Mem → Prop) : Prop := ∀ (a1 : Int32) (a2 : Int32) (μ : Mem), Rel μ → qX9_shortest G l a1 a2 μ (fun (r1 : Int32) (μ1 : Mem) => qX10_shortest G l a1 a2 μ1 (fun (r2 : Int32) (μ2 : Mem) => r1 = r2 ∧ Rel2 μ2))
def st_16 (G : gC) (l : Launch) (Rel Rel2 : Mem → Prop) : Prop := ∀ (a1 : Int32) (a2 : Int32) (μ : Mem), Rel μ → qX9_law G l a1 a2 μ (fun (r1 : Int32) (μ1 : Mem) => qX10_law G l a1 a2 μ1 (fun (r2 : Int32) (μ2 : Mem) => r1 = r2 ∧ Rel2 μ2))
def st_17 (G : gC) (l : Launch) (Rel Rel2 : Mem → Prop) : Prop := ∀ (a1 : Int32) (μ : Mem), Rel μ → qX9_add G l a1 μ (fun (r1 : Int32) (μ1 : Mem) => qX10_add G l a1 μ1 (fun (r2 : Int32) (μ2 : Mem) => r1 = r2 ∧ Rel2 μ2))
def st_18 (G : gC) (l : Launch) (Rel Rel2 : Mem → Prop) : Prop := ∀ (μ : Mem), Rel μ → qX9_drop G l  μ (fun (r1 : Int32) (μ1 : Mem) => qX10_drop G l  μ1 (fun (r2 : Int32) (μ2 : Mem) => r1 = r2 ∧ Rel2 μ2))
def st_19 (G : gC) (l : Launch) (Rel Rel2 : Mem → Prop) : Prop := ∀ (μ : Mem), Rel μ → qX9_lines G l  μ (fun (r1 : Int32) (μ1 : Mem) => qX10_lines G l  μ1 (fun (r2 : Int32) (μ2 : Mem) => r1 = r2 ∧ Rel2 μ2))
def st_20 (G : gC) (l : Launch) (Rel Rel2 : Mem → Prop) : Prop := ∀ (μ : Mem), Rel μ → qX9_print G l  μ (fun (r1 : Int32) (μ1 : Mem) => qX10_print G l  μ1 (fun (r2 : Int32) (μ2 : Mem) => r1 = r2 ∧ Rel2 μ2))
def st_21 (G : gC) (l : Launch) (Rel Rel2 : Mem → Prop) : Prop := ∀ (a1 : Int32) (a2 : Int32) (μ : Mem), Rel μ → qX9_number G l a1 a2 μ (fun (r1 : Int32) (μ1 : Mem) => qX10_number G l a1 a2 μ1 (fun (r2 : Int32) (μ2 : Mem) => r1 = r2 ∧ Rel2 μ2))
def st_22 (G : gC) (l : Launch) (Rel Rel2 : Mem → Prop) : Prop := ∀ (μ : Mem), Rel μ → qX9_readers G l  μ (fun (r1 : Int32) (μ1 : Mem) => qX10_readers G l  μ1 (fun (r2 : Int32) (μ2 : Mem) => r1 = r2 ∧ Rel2 μ2))
def st_23 (G : gC) (l : Launch) (Rel Rel2 : Mem → Prop) : Prop := ∀ (a1 : Int32) (a2 : Int32) (a3 : Int32) (μ : Mem), Rel μ → qX9_plan G l a1 a2 a3 μ (fun (r1 : Int32) (μ1 : Mem) => qX10_plan G l a1 a2 a3 μ1 (fun (r2 : Int32) (μ2 : Mem) => r1 = r2 ∧ Rel2 μ2))
def st_24 (G : gC) (l : Launch) (Rel Rel2 : Mem → Prop) : Prop := ∀ (a1 : Int32) (a2 : Int32) (a3 : Int32) (μ : Mem), Rel μ → qX9_kind G l a1 a2 a3 μ (fun (r1 : Int32) (μ1 : Mem) => qX10_kind G l a1 a2 a3 μ1 (fun (r2 : Int32) (μ2 : Mem) => r1 = r2 ∧ Rel2 μ2))
def st_25 (G : gC) (l : Launch) (Rel Rel2 : Mem → Prop) : Prop := ∀ (a1 : Int32) (a2 : Int32) (μ : Mem), Rel μ → qX9_chapter G l a1 a2 μ (fun (r1 : Int32) (μ1 : Mem) => qX10_chapter G l a1 a2 μ1 (fun (r2 : Int32) (μ2 : Mem) => r1 = r2 ∧ Rel2 μ2))
def st_26 (G : gC) (l : Launch) (Rel Rel2 : Mem → Prop) : Prop := ∀ (a1 : Int32) (μ : Mem), Rel μ → qX9_keep G l a1 μ (fun (r1 : Int32) (μ1 : Mem) => qX10_keep G l a1 μ1 (fun (r2 : Int32) (μ2 : Mem) => r1 = r2 ∧ Rel2 μ2))
def st_27 (G : gC) (l : Launch) (Rel Rel2 : Mem → Prop) : Prop := ∀ (a1 : Int32) (μ : Mem), Rel μ → qX9_goBack G l a1 μ (fun (r1 : Int32) (μ1 : Mem) => qX10_goBack G l a1 μ1 (fun (r2 : Int32) (μ2 : Mem) => r1 = r2 ∧ Rel2 μ2))
def st_all (G : gC) (l : Launch) (Rel : Nat → Mem → Prop) : Prop := (∀ k μ, Rel k μ → Rel (k + 1) μ) ∧ ∀ k, k < 65 → st_0 G l (Rel k) (Rel (k + 1)) ∧ st_1 G l (Rel k) (Rel (k + 1)) ∧ st_2 G l (Rel k) (Rel (k + 1)) ∧ st_3 G l (Rel k) (Rel (k + 1)) ∧ st_4 G l (Rel k) (Rel (k + 1)) ∧ st_5 G l (Rel k) (Rel (k + 1)) ∧ st_6 G l (Rel k) (Rel (k + 1)) ∧ st_7 G l (Rel k) (Rel (k + 1)) ∧ st_8 G l (Rel k) (Rel (k + 1)) ∧ st_9 G l (Rel k) (Rel (k + 1)) ∧ st_10 G l (Rel k) (Rel (k + 1)) ∧ st_11 G l (Rel k) (Rel (k + 1)) ∧ st_12 G l (Rel k) (Rel (k + 1)) ∧ st_13 G l (Rel k) (Rel (k + 1)) ∧ st_14 G l (Rel k) (Rel (k + 1)) ∧ st_15 G l (Rel k) (Rel (k + 1)) ∧ st_16 G l (Rel k) (Rel (k + 1)) ∧ st_17 G l (Rel k) (Rel (k + 1)) ∧ st_18 G l (Rel k) (Rel (k + 1)) ∧ st_19 G l (Rel k) (Rel (k + 1)) ∧ st_20 G l (Rel k) (Rel (k + 1)) ∧ st_21 G l (Rel k) (Rel (k + 1)) ∧ st_22 G l (Rel k) (Rel (k + 1)) ∧ st_23 G l (Rel k) (Rel (k + 1)) ∧ st_24 G l (Rel k) (Rel (k + 1)) ∧ st_25 G l (Rel k) (Rel (k + 1)) ∧ st_26 G l (Rel k) (Rel (k + 1)) ∧ st_27 G l (Rel k) (Rel (k + 1))
