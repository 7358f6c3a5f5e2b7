section GOJ
variable {G : gC} {l : Launch} {M : gM} {R : Room} {Q : List Frame → Array Value → State → State → Prop} {k1 k2 pc : Nat} {μ : Mem} {lv : List (Nat × Value)} {st : List Value}
theorem go_ldcS (hd : decode M.cc pc = .ok (.ldc 89, 2)) (hc : M.y.cls = "StoryNumbers$Reader") (k : Gg G l M R Q k1 k2 (pc + 2) (gw G μ) lv (.ref (G.2.2.2 4) :: st)) : Gg G l M R Q k1 k2 pc (gw G μ) lv st := by
  intro p e s m args below meth c cx H locs ls hP hS hl
  exact va_ldcS cx.1 cx.2.1 (own := "StoryNumbers$Reader") (by rw [← hc]; exact cx.2.2.2.2.1) (cx.2.2.2.2.2.2.2.2.1).2.2.2.2.2.1.2 hd (k p e s m args below meth c cx H locs ls hP hS hl)
theorem go_getV {idx q : Nat} {n d : String} {v : Value} (hd : decode M.cc pc = .ok (.getfield idx, 3)) (hE : ∀ s, gz G s s.heap → va_OF "java/lang/String" n d v q (gA G) s s.heap) (hlink : Cond.fieldLink M.y.cls idx "java/lang/String" n d ∈ g_tbl) (k : Gg G l M R Q k1 k2 (pc + 3) (gw G μ) lv (v :: st)) : Gg G l M R Q k1 k2 pc (gw G μ) lv (.ref q :: st) := by
  intro p e s m args below meth c cx H locs ls hP hS hl
  exact vk_getf cx.1 cx.2.1 (hE s cx.2.2.2.2.2.2.2.2.1) hS cx.2.2.2.2.1 (cx.2.2.2.2.2.1 _ hlink) (fun x hx => hx) hd (k p e s m args below meth c cx H locs ls hP hS hl)
theorem go_tlen {t N : Nat} {ty : FieldType} {f : Nat → Value} (hd : decode M.cc pc = .ok (.arraylength, 1)) (hT : ∀ s, gz G s s.heap → va_T ty t N f (gA G) s s.heap) (kk : Gg G l M R Q k1 k2 (pc + 1) (gw G μ) lv (.int (Int32.ofNat N) :: st)) : Gg G l M R Q k1 k2 pc (gw G μ) lv (.ref t :: st) := by
  intro p e s m args below meth c cx H locs ls hP hS hl
  obtain ⟨cell, h1, h2, h3, h4, h5, h6, h7⟩ := hT s cx.2.2.2.2.2.2.2.2.1
  exact W.alen cx.1 cx.2.1 (by rw [hS.2.1 t (Array.getElem?_eq_some_iff.mp h1).1 h7]; exact h1) h2 h5 rfl rfl hd (kk p e s m args below meth c cx H locs ls hP hS hl)
theorem go_tbald {t N : Nat} {f : Nat → Int32} {i : Int32} (hd : decode M.cc pc = .ok (.baload, 1)) (hT : ∀ s, gz G s s.heap → va_T .byte t N (fun j => .int (f j)) (gA G) s s.heap) (hin : vp_in i N) (kk : Gg G l M R Q k1 k2 (pc + 1) (gw G μ) lv (.int (f i.toNatClampNeg) :: st)) : Gg G l M R Q k1 k2 pc (gw G μ) lv (.int i :: .ref t :: st) := by
  intro p e s m args below meth c cx H locs ls hP hS hl
  obtain ⟨cell, h1, h2, h3, h4, h5, h6, h7⟩ := hT s cx.2.2.2.2.2.2.2.2.1
  have hlt : i.toNatClampNeg < N := Nat.not_le.mp fun q => hin (Or.inr q)
  exact W.bald (v := .int (f i.toNatClampNeg)) cx.1 cx.2.1 (by rw [hS.2.1 t (Array.getElem?_eq_some_iff.mp h1).1 h7]; exact h1) h2 h3 (fun q => hin (q.elim Or.inl (fun q => Or.inr (Nat.le_trans h4 q)))) (h6 _ hlt) rfl rfl hd (kk p e s m args below meth c cx H locs ls hP hS hl)
theorem go_callVS {Z : gM} {idx n : Nat} {As rest : List Value} (hd : decode M.cc pc = .ok (.invokevirtual idx, 3)) (hL : gLV M.y.cls idx Z) (hM : gMc Z n) (hcls : Z.y.cls = "java/lang/String") (hn : As.length = n) (hr : Z.d + 1 ≤ R.frames ∧ 8 + (Z.nL + 11) + 40 * Z.d ≤ R.locals) (hw : (rest.map fun v => v.category).sum ≤ 8) (hf : k1 + Z.mc ≤ R.cells ∧ k2 + Z.ms ≤ R.slots) (hst : As.reverse ++ .ref (G.2.2.2 4) :: rest = st) {P' : Option Value → Mem → Prop} (hP' : ∀ r μ', P' r μ' → Gg G l M R Q (k1 + Z.mc) (k2 + Z.ms) (pc + 3) (gw G μ') lv (r.toList ++ rest)) (k : Sp G l Z (.ref (G.2.2.2 4) :: As) μ P') : Gg G l M R Q k1 k2 pc (gw G μ) lv st := by
  subst hst
  intro p e s m args below meth c cx H locs ls hP hS hl
  have hts := cx.2.2.2.2.2.1
  have hK := cx.2.2.2.2.2.2.2.1
  have hrv := vk_recv (i := 0) (cx.2.2.2.2.2.2.2.2.1).2.2.2.2.2.2 (by decide) hS
  refine g_back (av := .ref (G.2.2.2 4) :: As) (len := 3) cx hS hl hP' (va_runV (C := Z.y.cls) (b := G.2.2.2 4) (As := As) (rest := rest) ⟨cx.1, cx.2.1, cx.2.2.2.1, cx.2.2.2.2.1, hts⟩ k ⟨callB_of n hts (g_goodIn hM.1) rfl rfl rfl (hts _ hM.2.1) (hts _ hL.1) hM.2.2 hr, hts _ hL.2.1, hts _ hL.2.2⟩ ⟨g_blind _, by rw [hcls]; exact hrv, g_pre hP hK cx.2.2.2.2.2.2.2.2.1 hS⟩ rfl hn hl.1 rfl (lv_room hw) hd hf)
theorem go_getsQ {idx : Nat} {C n d : String} (hd : decode M.cc pc = .ok (.getstatic idx, 3)) (hZ : ∀ s, gz G s s.heap → va_Zq C n d (gA G) s s.heap) (hlink : Cond.fieldLink M.y.cls idx C n d ∈ g_tbl) (kk : ∀ v : Value, (v = .null ∨ ∃ t, v = .ref t) → Gg G l M R Q k1 k2 (pc + 3) (gw G μ) lv (v :: st)) : Gg G l M R Q k1 k2 pc (gw G μ) lv st := by
  intro p e s m args below meth c cx H locs ls hP hS hl
  rcases hZ s cx.2.2.2.2.2.2.2.2.1 with hz | ⟨t, hz⟩
  · exact va_gets cx.1 cx.2.1 hz hS cx.2.2.2.2.1 (cx.2.2.2.2.2.1 _ hlink) (fun x hx => hx) hd (kk _ (Or.inl rfl) p e s m args below meth c cx H locs ls hP hS hl)
  · exact va_gets cx.1 cx.2.1 hz hS cx.2.2.2.2.1 (cx.2.2.2.2.2.1 _ hlink) (fun x hx => hx) hd (kk _ (Or.inr ⟨t, rfl⟩) p e s m args below meth c cx H locs ls hP hS hl)
end GOJ
set_option maxRecDepth 100000 in
theorem jc_check3 {G : gC} {l : Launch} {i n : Int32} {v : Value} {μ : Mem} {P : Int32 → Mem → Prop} (hv : v = .null ∨ ∃ t, v = .ref t) (h0 : ¬ i < 0) (h1 : i < n) (h : P i μ) : Sp G l mJ3_checkIndex_8e157 [.int i, .int n, v] μ (gI P) := by
  refine Sp.of (by decide) (by rcases hv with rfl | ⟨t, rfl⟩ <;> exact Nat.le_of_ble_eq_true rfl) (lv := [(0, .int i), (1, .int n), (2, v)]) rfl ?_
  refine go_iload_n dJ3_checkIndex_8e157_0 rfl 0 rfl ?_
  refine go_if_lt 9 dJ3_checkIndex_8e157_1 (by decide) (fun c => absurd c h0) (fun _ => ?_)
  refine go_iload_n dJ3_checkIndex_8e157_4 rfl 0 rfl ?_
  refine go_iload_n dJ3_checkIndex_8e157_5 rfl 1 rfl ?_
  refine go_icmp_lt 16 dJ3_checkIndex_8e157_6 (by decide) (fun _ => ?_) (fun c => absurd h1 c)
  refine go_iload_n dJ3_checkIndex_8e157_16 rfl 0 rfl ?_
  exact go_iret dJ3_checkIndex_8e157_17 rfl (Nat.le_refl _) (Nat.le_refl _) ⟨_, rfl, h⟩
set_option maxRecDepth 100000 in
theorem jc_check0 {G : gC} {l : Launch} {i n : Int32} {μ : Mem} {P : Mem → Prop} (h0 : ¬ i < 0) (h1 : i < n) (h : P μ) : Sp G l mJ0_checkIndex_df160 [.int i, .int n] μ (gV P) := by
  refine Sp.of (by decide) (Nat.le_of_ble_eq_true rfl) (lv := [(0, .int i), (1, .int n)]) rfl ?_
  refine go_iload_n dJ0_checkIndex_df160_0 rfl 0 rfl ?_
  refine go_iload_n dJ0_checkIndex_df160_1 rfl 1 rfl ?_
  refine go_getsQ dJ0_checkIndex_df160_2 (fun s hz => hz.2.2.2.2.1.2.1) (g_in 401 (by decide +kernel) rfl) (fun v hv => ?_)
  refine go_callS (As := [.int i, .int n, v]) (rest := []) dJ0_checkIndex_df160_5 lJ0_1059 kJ3_checkIndex_8e157 rfl (by decide) (Nat.le_of_ble_eq_true rfl) (by decide) rfl (gI_go (fun x μ1 h => ?_)) (jc_check3 (P := fun _ μ1 => P μ1) hv h0 h1 h)
  refine go_pop dJ0_checkIndex_df160_8 rfl ?_
  exact go_vret dJ0_checkIndex_df160_9 rfl (Nat.le_refl _) (Nat.le_refl _) ⟨rfl, h⟩
theorem jc_words : ∀ j : Nat, j < 45 → (((gz_words.getD j 0) &&& 255).toUInt32 % 65536).toInt32 = gz_words.getD j 0 ∧ narrow .char (.int (gz_words.getD j 0)) = .int (gz_words.getD j 0) := by decide +kernel
set_option maxRecDepth 100000 in
theorem jc_latin {G : gC} {l : Launch} {j : Nat} {μ : Mem} {P : Int32 → Mem → Prop} (hj : j < 45) (h : P (gz_words.getD j 0) μ) : Sp G l mJ1_charAt_3b067 [.ref (G.2.2.2 5), .int (nI j)] μ (gI P) := by
  refine Sp.of (by decide) (Nat.le_of_ble_eq_true rfl) (lv := [(0, .ref (G.2.2.2 5)), (1, .int (nI j))]) rfl ?_
  have hT : ∀ s, gz G s s.heap → va_T .byte (G.2.2.2 5) 45 (fun j => .int (gz_words.getD j 0)) (gA G) s s.heap := fun s hz => (hz.2.2.2.2.2.2.1 0 (by decide)).2.2.2
  refine go_iload_n dJ1_charAt_3b067_0 rfl 1 rfl ?_
  refine go_aload_n dJ1_charAt_3b067_1 rfl 0 rfl ?_
  refine go_tlen dJ1_charAt_3b067_2 hT ?_
  refine go_callS (As := [.int (nI j), .int (Int32.ofNat 45)]) (rest := []) dJ1_charAt_3b067_3 lJ1_9 kJ0_checkIndex_df160 rfl (by decide) (Nat.le_of_ble_eq_true rfl) (by decide) rfl (gV_go (fun μ1 h => ?_)) (jc_check0 (nI_pos (by omega)) (nI_lt hj (by decide)) h)
  refine go_aload_n dJ1_charAt_3b067_6 rfl 0 rfl ?_
  refine go_iload_n dJ1_charAt_3b067_7 rfl 1 rfl ?_
  refine go_tbald dJ1_charAt_3b067_8 hT (vp_in_nI hj (by decide)) ?_
  rw [nI_clamp (by omega)]
  refine go_sipush (v := 255) dJ1_charAt_3b067_9 (by decide) ?_
  refine go_iand dJ1_charAt_3b067_12 ?_
  refine go_i2c dJ1_charAt_3b067_13 ?_
  rw [(jc_words j hj).1]
  exact go_cret dJ1_charAt_3b067_14 rfl (Nat.le_refl _) (Nat.le_refl _) (jc_words j hj).2 ⟨_, rfl, h⟩
set_option maxRecDepth 100000 in
theorem jc_isLatin {G : gC} {l : Launch} {μ : Mem} {P : Int32 → Mem → Prop} (h : P 1 μ) : Sp G l mJ0_isLatin1_aae02 [.ref (G.2.2.2 4)] μ (gI P) := by
  refine Sp.of (by decide) (Nat.le_of_ble_eq_true rfl) (lv := [(0, .ref (G.2.2.2 4))]) rfl ?_
  refine go_gets dJ0_isLatin1_aae02_0 (fun s hz => hz.2.2.2.2.1.1) (g_in 393 (by decide +kernel) rfl) ?_
  refine go_if_eq 17 dJ0_isLatin1_aae02_3 (by decide) (fun c => absurd c (by decide)) (fun _ => ?_)
  refine go_aload_n dJ0_isLatin1_aae02_6 rfl 0 rfl ?_
  refine go_getV dJ0_isLatin1_aae02_7 (fun s hz => (hz.2.2.2.2.2.2.1 0 (by decide)).2.1) (g_in 1355 (by decide +kernel) rfl) ?_
  refine go_if_ne 17 dJ0_isLatin1_aae02_10 (by decide) (fun c => absurd rfl c) (fun _ => ?_)
  refine go_iconst (v := 1) dJ0_isLatin1_aae02_13 (by decide) ?_
  refine go_goto 18 dJ0_isLatin1_aae02_14 (by decide) ?_
  exact go_zret dJ0_isLatin1_aae02_18 rfl (Nat.le_refl _) (Nat.le_refl _) rfl ⟨_, rfl, h⟩
set_option maxRecDepth 100000 in
theorem jc_charAt {G : gC} {l : Launch} {j : Nat} {μ : Mem} {P : Int32 → Mem → Prop} (hj : j < 45) (h : P (gz_words.getD j 0) μ) : Sp G l mJ0_charAt_5068e [.ref (G.2.2.2 4), .int (nI j)] μ (gI P) := by
  refine Sp.of (by decide) (Nat.le_of_ble_eq_true rfl) (lv := [(0, .ref (G.2.2.2 4)), (1, .int (nI j))]) rfl ?_
  refine go_aload_n dJ0_charAt_5068e_0 rfl 0 rfl ?_
  refine go_callVS (As := []) (rest := []) dJ0_charAt_5068e_1 lJ0_492 kJ0_isLatin1_aae02 rfl rfl (by decide) (Nat.le_of_ble_eq_true rfl) (by decide) rfl (gI_go (fun x μ1 hx => ?_)) (jc_isLatin (P := fun x μ1 => x = 1 ∧ P (gz_words.getD j 0) μ1) ⟨rfl, h⟩)
  obtain ⟨rfl, h⟩ := hx
  refine go_if_eq 16 dJ0_charAt_5068e_4 (by decide) (fun c => absurd c (by decide)) (fun _ => ?_)
  refine go_aload_n dJ0_charAt_5068e_7 rfl 0 rfl ?_
  refine go_getV dJ0_charAt_5068e_8 (fun s hz => (hz.2.2.2.2.2.2.1 0 (by decide)).2.2.1) (g_in 1356 (by decide +kernel) rfl) ?_
  refine go_iload_n dJ0_charAt_5068e_11 rfl 1 rfl ?_
  refine go_callS (As := [.ref (G.2.2.2 5), .int (nI j)]) (rest := []) dJ0_charAt_5068e_12 lJ0_495 kJ1_charAt_3b067 rfl (by decide) (Nat.le_of_ble_eq_true rfl) (by decide) rfl (gI_go (fun x μ2 hx => ?_)) (jc_latin (P := fun x μ1 => x = gz_words.getD j 0 ∧ P (gz_words.getD j 0) μ1) hj ⟨rfl, h⟩)
  obtain ⟨rfl, h⟩ := hx
  exact go_cret dJ0_charAt_5068e_15 rfl (Nat.le_refl _) (Nat.le_refl _) (jc_words j hj).2 ⟨_, rfl, h⟩
