set_option maxRecDepth 100000 in
theorem eX10_never {G : gC} {l : Launch} {a1 : Int32} {a2 : Int32} {a3 : Int32} {μ : Mem} {P : Int32 → Mem → Prop} (h : qX10_in G l (a1).toInt64 (0 : Int64) (7 : Int64) μ (fun (r2 : Int32) (μ1 : Mem) => ((r2 = 0) → P (-1001 : Int32) μ1) ∧ ((¬ r2 = 0) → qX10_in G l (a2).toInt64 (0 : Int64) (7 : Int64) μ1 (fun (r5 : Int32) (μ4 : Mem) => ((r5 = 0) → P (-1001 : Int32) μ4) ∧ ((¬ r5 = 0) → ((¬ a1 = a2) → vp_in a1 8 ∧ ∀ v9 : Int32, v9 = (((gm_r μ4 82 a1.toNatClampNeg) >>> (a2 &&& 31)) &&& (1 : Int32)) → ((a3 = 0) → hX10_never_79 G l P a1 a2 a3 v9 ((gm_r μ4 82 a1.toNatClampNeg) &&& (((1 : Int32) <<< (a2 &&& 31)) ^^^ (-1 : Int32))) a1 μ4) ∧ ((¬ a3 = 0) → hX10_never_79 G l P a1 a2 a3 v9 ((gm_r μ4 82 a1.toNatClampNeg) ||| ((1 : Int32) <<< (a2 &&& 31))) a1 μ4)) ∧ ((a1 = a2) → P (-1001 : Int32) μ4)))))) : qX10_never G l a1 a2 a3 μ P := by
  refine Sp.of (by decide) (Nat.le_of_ble_eq_true rfl) (lv := [(0, .ref (ga G 78)), (1, .int a1), (2, .int a2), (3, .int a3)]) rfl ?_
  refine go_iload_n dX10_never_0 rfl 1 rfl ?_
  refine go_i2l dX10_never_1 ?_
  refine go_lconst (v := 0) dX10_never_2 (by decide) ?_
  refine go_ldc2_w (v := 7) (g_in 1165 (by decide +kernel) rfl) dX10_never_3 ?_
  refine go_callS (As := [.long (a1).toInt64, .long (0 : Int64), .long (7 : Int64)]) (rest := []) dX10_never_6 lX10_99 kX10_in rfl (by decide) (Nat.le_of_ble_eq_true rfl) (by decide) rfl (gI_go (fun r2 μ1 h => ?_)) h
  refine go_if_eq 29 dX10_never_9 (by decide) (fun c3 => ?_) (fun c3 => ?_)
  · have h := h.1 c3
    refine go_sipush (v := -1001) dX10_never_29 (by decide) ?_
    exact go_iret dX10_never_32 rfl (Nat.le_refl _) (Nat.le_refl _) ⟨_, rfl, h⟩
  · have h := h.2 c3
    refine go_iload_n dX10_never_12 rfl 2 rfl ?_
    refine go_i2l dX10_never_13 ?_
    refine go_lconst (v := 0) dX10_never_14 (by decide) ?_
    refine go_ldc2_w (v := 7) (g_in 1165 (by decide +kernel) rfl) dX10_never_15 ?_
    refine go_callS (As := [.long (a2).toInt64, .long (0 : Int64), .long (7 : Int64)]) (rest := []) dX10_never_18 lX10_99 kX10_in rfl (by decide) (Nat.le_of_ble_eq_true rfl) (by decide) rfl (gI_go (fun r5 μ4 h => ?_)) h
    refine go_if_eq 29 dX10_never_21 (by decide) (fun c6 => ?_) (fun c6 => ?_)
    · have h := h.1 c6
      refine go_sipush (v := -1001) dX10_never_29 (by decide) ?_
      exact go_iret dX10_never_32 rfl (Nat.le_refl _) (Nat.le_refl _) ⟨_, rfl, h⟩
    · have h := h.2 c6
      refine go_iload_n dX10_never_24 rfl 1 rfl ?_
      refine go_iload_n dX10_never_25 rfl 2 rfl ?_
      refine go_icmp_ne 33 dX10_never_26 (by decide) (fun c7 => ?_) (fun c7 => ?_)
      · have h := h.1 c7
        refine go_aload_n dX10_never_33 rfl 0 rfl ?_
        refine go_get (.ref (ga G 82)) dX10_never_34 fX10_19 (g_lt rfl) (gs_78 G _ _) rfl ?_
        refine go_iload_n dX10_never_37 rfl 1 rfl ?_
        obtain ⟨b8, h⟩ := h
        refine go_ialdv ((gm_r μ4 82 a1.toNatClampNeg)) dX10_never_38 (g_lt rfl) (gs_82 G) b8 rfl ?_
        refine go_iload_n dX10_never_39 rfl 2 rfl ?_
        refine go_ishr dX10_never_40 ?_
        refine go_iconst (v := 1) dX10_never_41 (by decide) ?_
        refine go_iand dX10_never_42 ?_
        refine go_topi (fun v9 e_v9 => ?_)
        have h := h v9 e_v9
        refine go_istore [(0, .ref (ga G 78)), (1, .int a1), (2, .int a2), (3, .int a3), (4, .int v9)] [1, 2, 3, 4, 0] dX10_never_43 (by decide) rfl ?_
        refine go_aload_n dX10_never_45 rfl 0 rfl ?_
        refine go_get (.ref (ga G 82)) dX10_never_46 fX10_19 (g_lt rfl) (gs_78 G _ _) rfl ?_
        refine go_iload_n dX10_never_49 rfl 1 rfl ?_
        refine go_iload_n dX10_never_50 rfl 3 rfl ?_
        refine go_if_eq 67 dX10_never_51 (by decide) (fun c10 => ?_) (fun c10 => ?_)
        · have h := h.1 c10
          refine go_aload_n dX10_never_67 rfl 0 rfl ?_
          refine go_get (.ref (ga G 82)) dX10_never_68 fX10_19 (g_lt rfl) (gs_78 G _ _) rfl ?_
          refine go_iload_n dX10_never_71 rfl 1 rfl ?_
          refine go_ialdv ((gm_r μ4 82 a1.toNatClampNeg)) dX10_never_72 (g_lt rfl) (gs_82 G) b8 rfl ?_
          refine go_iconst (v := 1) dX10_never_73 (by decide) ?_
          refine go_iload_n dX10_never_74 rfl 2 rfl ?_
          refine go_ishl dX10_never_75 ?_
          refine go_iconst (v := -1) dX10_never_76 (by decide) ?_
          refine go_ixor dX10_never_77 ?_
          refine go_iand dX10_never_78 ?_
          exact h
        · have h := h.2 c10
          refine go_aload_n dX10_never_54 rfl 0 rfl ?_
          refine go_get (.ref (ga G 82)) dX10_never_55 fX10_19 (g_lt rfl) (gs_78 G _ _) rfl ?_
          refine go_iload_n dX10_never_58 rfl 1 rfl ?_
          refine go_ialdv ((gm_r μ4 82 a1.toNatClampNeg)) dX10_never_59 (g_lt rfl) (gs_82 G) b8 rfl ?_
          refine go_iconst (v := 1) dX10_never_60 (by decide) ?_
          refine go_iload_n dX10_never_61 rfl 2 rfl ?_
          refine go_ishl dX10_never_62 ?_
          refine go_ior dX10_never_63 ?_
          refine go_goto 79 dX10_never_64 (by decide) ?_
          exact h
      · have h := h.2 c7
        refine go_sipush (v := -1001) dX10_never_29 (by decide) ?_
        exact go_iret dX10_never_32 rfl (Nat.le_refl _) (Nat.le_refl _) ⟨_, rfl, h⟩
set_option maxRecDepth 100000 in
theorem eX10_never_79 {G : gC} {l : Launch} {P : Int32 → Mem → Prop} {x1 : Int32} {x2 : Int32} {x3 : Int32} {x4 : Int32} {y0 : Int32} {y1 : Int32} {μ : Mem} (h : vp_in y1 8 ∧ ((x3 = 0) → vp_in x2 8 ∧ P x4 (gm_w (gm_w μ 82 y1.toNatClampNeg y0) 82 x2.toNatClampNeg ((gm_r (gm_w μ 82 y1.toNatClampNeg y0) 82 x2.toNatClampNeg) &&& (((1 : Int32) <<< (x1 &&& 31)) ^^^ (-1 : Int32))))) ∧ ((¬ x3 = 0) → vp_in x2 8 ∧ P x4 (gm_w (gm_w μ 82 y1.toNatClampNeg y0) 82 x2.toNatClampNeg ((gm_r (gm_w μ 82 y1.toNatClampNeg y0) 82 x2.toNatClampNeg) ||| ((1 : Int32) <<< (x1 &&& 31)))))) : hX10_never_79 G l P x1 x2 x3 x4 y0 y1 μ := by
  obtain ⟨b11, h⟩ := h
  refine go_iast dX10_never_79 (g_lt rfl) (gs_82 G) b11 ?_
  refine go_aload_n dX10_never_80 rfl 0 rfl ?_
  refine go_get (.ref (ga G 82)) dX10_never_81 fX10_19 (g_lt rfl) (gs_78 G _ _) rfl ?_
  refine go_iload_n dX10_never_84 rfl 2 rfl ?_
  refine go_iload_n dX10_never_85 rfl 3 rfl ?_
  refine go_if_eq 102 dX10_never_86 (by decide) (fun c12 => ?_) (fun c12 => ?_)
  · have h := h.1 c12
    refine go_aload_n dX10_never_102 rfl 0 rfl ?_
    refine go_get (.ref (ga G 82)) dX10_never_103 fX10_19 (g_lt rfl) (gs_78 G _ _) rfl ?_
    refine go_iload_n dX10_never_106 rfl 2 rfl ?_
    obtain ⟨b13, h⟩ := h
    refine go_ialdv ((gm_r (gm_w μ 82 y1.toNatClampNeg y0) 82 x2.toNatClampNeg)) dX10_never_107 (g_lt rfl) (gs_82 G) b13 rfl ?_
    refine go_iconst (v := 1) dX10_never_108 (by decide) ?_
    refine go_iload_n dX10_never_109 rfl 1 rfl ?_
    refine go_ishl dX10_never_110 ?_
    refine go_iconst (v := -1) dX10_never_111 (by decide) ?_
    refine go_ixor dX10_never_112 ?_
    refine go_iand dX10_never_113 ?_
    refine go_iast dX10_never_114 (g_lt rfl) (gs_82 G) b13 ?_
    refine go_iload dX10_never_115 4 rfl ?_
    exact go_iret dX10_never_117 rfl (Nat.le_refl _) (Nat.le_refl _) ⟨_, rfl, h⟩
  · have h := h.2 c12
    refine go_aload_n dX10_never_89 rfl 0 rfl ?_
    refine go_get (.ref (ga G 82)) dX10_never_90 fX10_19 (g_lt rfl) (gs_78 G _ _) rfl ?_
    refine go_iload_n dX10_never_93 rfl 2 rfl ?_
    obtain ⟨b14, h⟩ := h
    refine go_ialdv ((gm_r (gm_w μ 82 y1.toNatClampNeg y0) 82 x2.toNatClampNeg)) dX10_never_94 (g_lt rfl) (gs_82 G) b14 rfl ?_
    refine go_iconst (v := 1) dX10_never_95 (by decide) ?_
    refine go_iload_n dX10_never_96 rfl 1 rfl ?_
    refine go_ishl dX10_never_97 ?_
    refine go_ior dX10_never_98 ?_
    refine go_goto 114 dX10_never_99 (by decide) ?_
    refine go_iast dX10_never_114 (g_lt rfl) (gs_82 G) b14 ?_
    refine go_iload dX10_never_115 4 rfl ?_
    exact go_iret dX10_never_117 rfl (Nat.le_refl _) (Nat.le_refl _) ⟨_, rfl, h⟩
set_option maxRecDepth 100000 in
theorem eX10_linesOf {G : gC} {l : Launch} {a1 : Int32} {μ : Mem} {P : Int32 → Mem → Prop} (h : hX10_linesOf_4 G l P a1 (0 : Int32) (0 : Int32) μ) : qX10_linesOf G l a1 μ P := by
  refine Sp.of (by decide) (Nat.le_of_ble_eq_true rfl) (lv := [(0, .ref (ga G 78)), (1, .int a1)]) rfl ?_
  refine go_iconst (v := 0) dX10_linesOf_0 (by decide) ?_
  refine go_istore_n [(0, .ref (ga G 78)), (1, .int a1), (2, .int (0 : Int32))] [1, 2, 0] dX10_linesOf_1 rfl (by decide) rfl ?_
  refine go_iconst (v := 0) dX10_linesOf_2 (by decide) ?_
  refine go_istore_n [(0, .ref (ga G 78)), (1, .int a1), (2, .int (0 : Int32)), (3, .int (0 : Int32))] [1, 2, 3, 0] dX10_linesOf_3 rfl (by decide) rfl ?_
  exact h
set_option maxRecDepth 100000 in
theorem eX10_linesOf_4 {G : gC} {l : Launch} {P : Int32 → Mem → Prop} {x1 : Int32} {x2 : Int32} {x3 : Int32} {μ : Mem} (h : (((gm_r μ 78 0) ≤ x3) → P x2 μ) ∧ ((¬ (gm_r μ 78 0) ≤ x3) → qX10_has G l x1 x3 μ (fun (r3 : Int32) (μ2 : Mem) => ((r3 = 0) → hX10_linesOf_4 G l P x1 (x2 + (0 : Int32)) (x3 + (1 : Int32)) μ2) ∧ ((¬ r3 = 0) → vp_in x3 10 ∧ ∀ v6 : Int32, v6 = (x2 + (gm_r μ2 79 x3.toNatClampNeg)) → hX10_linesOf_4 G l P x1 v6 (x3 + (1 : Int32)) μ2)))) : hX10_linesOf_4 G l P x1 x2 x3 μ := by
  refine go_iload_n dX10_linesOf_4 rfl 3 rfl ?_
  refine go_aload_n dX10_linesOf_5 rfl 0 rfl ?_
  refine go_get (.int (gm_r μ 78 0)) dX10_linesOf_6 fX10_174 (g_lt rfl) (gs_78 G _ _) rfl ?_
  refine go_icmp_ge 39 dX10_linesOf_9 (by decide) (fun c1 => ?_) (fun c1 => ?_)
  · have h := h.1 c1
    refine go_iload_n dX10_linesOf_39 rfl 2 rfl ?_
    exact go_iret dX10_linesOf_40 rfl (Nat.le_refl _) (Nat.le_refl _) ⟨_, rfl, h⟩
  · have h := h.2 c1
    refine go_iload_n dX10_linesOf_12 rfl 2 rfl ?_
    refine go_iload_n dX10_linesOf_13 rfl 1 rfl ?_
    refine go_iload_n dX10_linesOf_14 rfl 3 rfl ?_
    refine go_callS (As := [.int x1, .int x3]) (rest := [.int x2]) dX10_linesOf_15 lX10_143 kX10_has rfl (by decide) (Nat.le_of_ble_eq_true rfl) (by decide) rfl (gI_go (fun r3 μ2 h => ?_)) h
    refine go_if_eq 30 dX10_linesOf_18 (by decide) (fun c4 => ?_) (fun c4 => ?_)
    · have h := h.1 c4
      refine go_iconst (v := 0) dX10_linesOf_30 (by decide) ?_
      refine go_iadd dX10_linesOf_31 ?_
      refine go_istore_n [(0, .ref (ga G 78)), (1, .int x1), (2, .int (x2 + (0 : Int32))), (3, .int x3)] [1, 2, 0, 3] dX10_linesOf_32 rfl (by decide) rfl ?_
      refine go_iinc (v := (x3 + (1 : Int32))) [(0, .ref (ga G 78)), (1, .int x1), (2, .int (x2 + (0 : Int32))), (3, .int (x3 + (1 : Int32)))] [1, 2, 3, 0] 3 dX10_linesOf_33 rfl rfl (by decide) rfl ?_
      refine go_goto 4 dX10_linesOf_36 (by decide) ?_
      exact h
    · have h := h.2 c4
      refine go_aload_n dX10_linesOf_21 rfl 0 rfl ?_
      refine go_get (.ref (ga G 79)) dX10_linesOf_22 fX10_7 (g_lt rfl) (gs_78 G _ _) rfl ?_
      refine go_iload_n dX10_linesOf_25 rfl 3 rfl ?_
      obtain ⟨b5, h⟩ := h
      refine go_ialdv ((gm_r μ2 79 x3.toNatClampNeg)) dX10_linesOf_26 (g_lt rfl) (gs_79 G) b5 rfl ?_
      refine go_goto 31 dX10_linesOf_27 (by decide) ?_
      refine go_iadd dX10_linesOf_31 ?_
      refine go_topi (fun v6 e_v6 => ?_)
      have h := h v6 e_v6
      refine go_istore_n [(0, .ref (ga G 78)), (1, .int x1), (2, .int v6), (3, .int x3)] [1, 2, 0, 3] dX10_linesOf_32 rfl (by decide) rfl ?_
      refine go_iinc (v := (x3 + (1 : Int32))) [(0, .ref (ga G 78)), (1, .int x1), (2, .int v6), (3, .int (x3 + (1 : Int32)))] [1, 2, 3, 0] 3 dX10_linesOf_33 rfl rfl (by decide) rfl ?_
      refine go_goto 4 dX10_linesOf_36 (by decide) ?_
      exact h
set_option maxRecDepth 100000 in
theorem eX10_union {G : gC} {l : Launch} {a1 : Int32} {a2 : Int32} {μ : Mem} {P : Int32 → Mem → Prop} (h : hX10_union_5 G l P a1 a2 (0 : Int32) (0 : Int32) μ) : qX10_union G l a1 a2 μ P := by
  refine Sp.of (by decide) (Nat.le_of_ble_eq_true rfl) (lv := [(0, .ref (ga G 78)), (1, .int a1), (2, .int a2)]) rfl ?_
  refine go_iconst (v := 0) dX10_union_0 (by decide) ?_
  refine go_istore_n [(0, .ref (ga G 78)), (1, .int a1), (2, .int a2), (3, .int (0 : Int32))] [1, 2, 3, 0] dX10_union_1 rfl (by decide) rfl ?_
  refine go_iconst (v := 0) dX10_union_2 (by decide) ?_
  refine go_istore [(0, .ref (ga G 78)), (1, .int a1), (2, .int a2), (3, .int (0 : Int32)), (4, .int (0 : Int32))] [1, 2, 3, 4, 0] dX10_union_3 (by decide) rfl ?_
  exact h
set_option maxRecDepth 100000 in
theorem eX10_union_5 {G : gC} {l : Launch} {P : Int32 → Mem → Prop} {x1 : Int32} {x2 : Int32} {x3 : Int32} {x4 : Int32} {μ : Mem} (h : (((gm_r μ 78 0) ≤ x4) → P x3 μ) ∧ ((¬ (gm_r μ 78 0) ≤ x4) → qX10_has G l x1 x4 μ (fun (r3 : Int32) (μ2 : Mem) => ((r3 = 0) → hX10_union_5 G l P x1 x2 (x3 ||| (0 : Int32)) (x4 + (1 : Int32)) μ2) ∧ ((¬ r3 = 0) → qX10_setOf G l x4 x2 μ2 (fun (r6 : Int32) (μ5 : Mem) => hX10_union_5 G l P x1 x2 (x3 ||| r6) (x4 + (1 : Int32)) μ5))))) : hX10_union_5 G l P x1 x2 x3 x4 μ := by
  refine go_iload dX10_union_5 4 rfl ?_
  refine go_aload_n dX10_union_7 rfl 0 rfl ?_
  refine go_get (.int (gm_r μ 78 0)) dX10_union_8 fX10_174 (g_lt rfl) (gs_78 G _ _) rfl ?_
  refine go_icmp_ge 43 dX10_union_11 (by decide) (fun c1 => ?_) (fun c1 => ?_)
  · have h := h.1 c1
    refine go_iload_n dX10_union_43 rfl 3 rfl ?_
    exact go_iret dX10_union_44 rfl (Nat.le_refl _) (Nat.le_refl _) ⟨_, rfl, h⟩
  · have h := h.2 c1
    refine go_iload_n dX10_union_14 rfl 3 rfl ?_
    refine go_iload_n dX10_union_15 rfl 1 rfl ?_
    refine go_iload dX10_union_16 4 rfl ?_
    refine go_callS (As := [.int x1, .int x4]) (rest := [.int x3]) dX10_union_18 lX10_143 kX10_has rfl (by decide) (Nat.le_of_ble_eq_true rfl) (by decide) rfl (gI_go (fun r3 μ2 h => ?_)) h
    refine go_if_eq 34 dX10_union_21 (by decide) (fun c4 => ?_) (fun c4 => ?_)
    · have h := h.1 c4
      refine go_iconst (v := 0) dX10_union_34 (by decide) ?_
      refine go_ior dX10_union_35 ?_
      refine go_istore_n [(0, .ref (ga G 78)), (1, .int x1), (2, .int x2), (3, .int (x3 ||| (0 : Int32))), (4, .int x4)] [1, 2, 3, 0, 4] dX10_union_36 rfl (by decide) rfl ?_
      refine go_iinc (v := (x4 + (1 : Int32))) [(0, .ref (ga G 78)), (1, .int x1), (2, .int x2), (3, .int (x3 ||| (0 : Int32))), (4, .int (x4 + (1 : Int32)))] [1, 2, 3, 4, 0] 4 dX10_union_37 rfl rfl (by decide) rfl ?_
      refine go_goto 5 dX10_union_40 (by decide) ?_
      exact h
    · have h := h.2 c4
      refine go_aload_n dX10_union_24 rfl 0 rfl ?_
      refine go_iload dX10_union_25 4 rfl ?_
      refine go_iload_n dX10_union_27 rfl 2 rfl ?_
      refine go_callV (As := [.int x4, .int x2]) (rest := [.int x3]) dX10_union_28 lX10_199 kX10_setOf rfl (by decide) (Nat.le_of_ble_eq_true rfl) (g_lt rfl) (gs_78 G _ _) rfl (by decide) rfl (gI_go (fun r6 μ5 h => ?_)) h
      refine go_goto 35 dX10_union_31 (by decide) ?_
      refine go_ior dX10_union_35 ?_
      refine go_istore_n [(0, .ref (ga G 78)), (1, .int x1), (2, .int x2), (3, .int (x3 ||| r6)), (4, .int x4)] [1, 2, 3, 0, 4] dX10_union_36 rfl (by decide) rfl ?_
      refine go_iinc (v := (x4 + (1 : Int32))) [(0, .ref (ga G 78)), (1, .int x1), (2, .int x2), (3, .int (x3 ||| r6)), (4, .int (x4 + (1 : Int32)))] [1, 2, 3, 4, 0] 4 dX10_union_37 rfl rfl (by decide) rfl ?_
      refine go_goto 5 dX10_union_40 (by decide) ?_
      exact h
set_option maxRecDepth 100000 in
theorem eX10_ones {G : gC} {l : Launch} {a1 : Int32} {μ : Mem} {P : Int32 → Mem → Prop} (h : hX10_ones_4 G l P a1 (0 : Int32) (0 : Int32) μ) : qX10_ones G l a1 μ P := by
  refine Sp.of (by decide) (Nat.le_of_ble_eq_true rfl) (lv := [(0, .int a1)]) rfl ?_
  refine go_iconst (v := 0) dX10_ones_0 (by decide) ?_
  refine go_istore_n [(0, .int a1), (1, .int (0 : Int32))] [1, 0] dX10_ones_1 rfl (by decide) rfl ?_
  refine go_iconst (v := 0) dX10_ones_2 (by decide) ?_
  refine go_istore_n [(0, .int a1), (1, .int (0 : Int32)), (2, .int (0 : Int32))] [1, 2, 0] dX10_ones_3 rfl (by decide) rfl ?_
  exact h
set_option maxRecDepth 100000 in
theorem eX10_ones_4 {G : gC} {l : Launch} {P : Int32 → Mem → Prop} {x0 : Int32} {x1 : Int32} {x2 : Int32} {μ : Mem} (h : (((10 : Int32) ≤ x2) → P x1 μ) ∧ ((¬ (10 : Int32) ≤ x2) → ∀ v2 : Int32, v2 = (x1 + ((x0 >>> (x2 &&& 31)) &&& (1 : Int32))) → hX10_ones_4 G l P x0 v2 (x2 + (1 : Int32)) μ)) : hX10_ones_4 G l P x0 x1 x2 μ := by
  refine go_iload_n dX10_ones_4 rfl 2 rfl ?_
  refine go_bipush (v := 10) dX10_ones_5 (by decide) ?_
  refine go_icmp_ge 24 dX10_ones_7 (by decide) (fun c1 => ?_) (fun c1 => ?_)
  · have h := h.1 c1
    refine go_iload_n dX10_ones_24 rfl 1 rfl ?_
    exact go_iret dX10_ones_25 rfl (Nat.le_refl _) (Nat.le_refl _) ⟨_, rfl, h⟩
  · have h := h.2 c1
    refine go_iload_n dX10_ones_10 rfl 1 rfl ?_
    refine go_iload_n dX10_ones_11 rfl 0 rfl ?_
    refine go_iload_n dX10_ones_12 rfl 2 rfl ?_
    refine go_ishr dX10_ones_13 ?_
    refine go_iconst (v := 1) dX10_ones_14 (by decide) ?_
    refine go_iand dX10_ones_15 ?_
    refine go_iadd dX10_ones_16 ?_
    refine go_topi (fun v2 e_v2 => ?_)
    have h := h v2 e_v2
    refine go_istore_n [(0, .int x0), (1, .int v2), (2, .int x2)] [1, 0, 2] dX10_ones_17 rfl (by decide) rfl ?_
    refine go_iinc (v := (x2 + (1 : Int32))) [(0, .int x0), (1, .int v2), (2, .int (x2 + (1 : Int32)))] [1, 2, 0] 2 dX10_ones_18 rfl rfl (by decide) rfl ?_
    refine go_goto 4 dX10_ones_21 (by decide) ?_
    exact h
set_option maxRecDepth 100000 in
theorem eX10_nevers {G : gC} {l : Launch}  {μ : Mem} {P : Int32 → Mem → Prop} (h : hX10_nevers_4 G l P (0 : Int32) (0 : Int32) μ) : qX10_nevers G l  μ P := by
  refine Sp.of (by decide) (Nat.le_of_ble_eq_true rfl) (lv := [(0, .ref (ga G 78))]) rfl ?_
  refine go_iconst (v := 0) dX10_nevers_0 (by decide) ?_
  refine go_istore_n [(0, .ref (ga G 78)), (1, .int (0 : Int32))] [1, 0] dX10_nevers_1 rfl (by decide) rfl ?_
  refine go_iconst (v := 0) dX10_nevers_2 (by decide) ?_
  refine go_istore_n [(0, .ref (ga G 78)), (1, .int (0 : Int32)), (2, .int (0 : Int32))] [1, 2, 0] dX10_nevers_3 rfl (by decide) rfl ?_
  exact h
set_option maxRecDepth 100000 in
theorem eX10_nevers_4 {G : gC} {l : Launch} {P : Int32 → Mem → Prop} {x1 : Int32} {x2 : Int32} {μ : Mem} (h : (((8 : Int32) ≤ x2) → P (x1 / (2 : Int32)) μ) ∧ ((¬ (8 : Int32) ≤ x2) → vp_in x2 8 ∧ qX10_ones G l (gm_r μ 82 x2.toNatClampNeg) μ (fun (r4 : Int32) (μ3 : Mem) => hX10_nevers_4 G l P (x1 + r4) (x2 + (1 : Int32)) μ3))) : hX10_nevers_4 G l P x1 x2 μ := by
  refine go_iload_n dX10_nevers_4 rfl 2 rfl ?_
  refine go_bipush (v := 8) dX10_nevers_5 (by decide) ?_
  refine go_icmp_ge 28 dX10_nevers_7 (by decide) (fun c1 => ?_) (fun c1 => ?_)
  · have h := h.1 c1
    refine go_iload_n dX10_nevers_28 rfl 1 rfl ?_
    refine go_iconst (v := 2) dX10_nevers_29 (by decide) ?_
    refine go_idiv dX10_nevers_30 (by decide) ?_
    exact go_iret dX10_nevers_31 rfl (Nat.le_refl _) (Nat.le_refl _) ⟨_, rfl, h⟩
  · have h := h.2 c1
    refine go_iload_n dX10_nevers_10 rfl 1 rfl ?_
    refine go_aload_n dX10_nevers_11 rfl 0 rfl ?_
    refine go_get (.ref (ga G 82)) dX10_nevers_12 fX10_19 (g_lt rfl) (gs_78 G _ _) rfl ?_
    refine go_iload_n dX10_nevers_15 rfl 2 rfl ?_
    obtain ⟨b2, h⟩ := h
    refine go_ialdv ((gm_r μ 82 x2.toNatClampNeg)) dX10_nevers_16 (g_lt rfl) (gs_82 G) b2 rfl ?_
    refine go_callS (As := [.int (gm_r μ 82 x2.toNatClampNeg)]) (rest := [.int x1]) dX10_nevers_17 lX10_208 kX10_ones rfl (by decide) (Nat.le_of_ble_eq_true rfl) (by decide) rfl (gI_go (fun r4 μ3 h => ?_)) h
    refine go_iadd dX10_nevers_20 ?_
    refine go_istore_n [(0, .ref (ga G 78)), (1, .int (x1 + r4)), (2, .int x2)] [1, 0, 2] dX10_nevers_21 rfl (by decide) rfl ?_
    refine go_iinc (v := (x2 + (1 : Int32))) [(0, .ref (ga G 78)), (1, .int (x1 + r4)), (2, .int (x2 + (1 : Int32)))] [1, 2, 0] 2 dX10_nevers_22 rfl rfl (by decide) rfl ?_
    refine go_goto 4 dX10_nevers_25 (by decide) ?_
    exact h
set_option maxRecDepth 100000 in
theorem eX10_count {G : gC} {l : Launch} {a1 : Int32} {μ : Mem} {P : Int32 → Mem → Prop} (h : ((a1.toInt < 0 ∨ 7 < a1.toInt) → P (-1002 : Int32) μ) ∧ ((a1 = (0 : Int32)) → P (gm_r μ 78 0) μ) ∧ ((a1 = (1 : Int32)) → qX10_ones G l (gm_r μ 78 23) μ (fun (r2 : Int32) (μ1 : Mem) => P r2 μ1)) ∧ ((a1 = (2 : Int32)) → P (gm_r μ 78 22) μ) ∧ ((a1 = (3 : Int32)) → P (gm_r μ 78 26) μ) ∧ ((a1 = (4 : Int32)) → qX10_all G l  μ (fun (r4 : Int32) (μ3 : Mem) => qX10_linesOf G l r4 μ3 (fun (r6 : Int32) (μ5 : Mem) => P r6 μ5))) ∧ ((a1 = (5 : Int32)) → P (gm_r μ 78 8) μ) ∧ ((a1 = (6 : Int32)) → qX10_nevers G l  μ (fun (r8 : Int32) (μ7 : Mem) => P r8 μ7)) ∧ ((a1 = (7 : Int32)) → qX10_all G l  μ (fun (r10 : Int32) (μ9 : Mem) => qX10_union G l r10 (3 : Int32) μ9 (fun (r12 : Int32) (μ11 : Mem) => qX10_ones G l r12 μ11 (fun (r14 : Int32) (μ13 : Mem) => P r14 μ13))))) : qX10_count G l a1 μ P := by
  refine Sp.of (by decide) (Nat.le_of_ble_eq_true rfl) (lv := [(0, .ref (ga G 78)), (1, .int a1)]) rfl ?_
  refine go_iload_n dX10_count_0 rfl 1 rfl ?_
  by_cases c15 : a1.toInt < 0 ∨ 7 < a1.toInt
  · have h := h.1 c15
    refine go_tableOut 103 dX10_count_1 c15 (by decide) ?_
    refine go_sipush (v := -1002) dX10_count_103 (by decide) ?_
    exact go_iret dX10_count_106 rfl (Nat.le_refl _) (Nat.le_refl _) ⟨_, rfl, h⟩
  · rcases (show a1.toInt = 0 ∨ a1.toInt = 1 ∨ a1.toInt = 2 ∨ a1.toInt = 3 ∨ a1.toInt = 4 ∨ a1.toInt = 5 ∨ a1.toInt = 6 ∨ a1.toInt = 7 by omega) with c15e | c15e | c15e | c15e | c15e | c15e | c15e | c15e
    · have h := h.2.1 (sw_eq (0 : Int32) rfl c15e)
      refine go_tableIn 48 dX10_count_1 (by omega) (by omega) (by rw [c15e]; rfl) (by decide) ?_
      refine go_aload_n dX10_count_48 rfl 0 rfl ?_
      refine go_get (.int (gm_r μ 78 0)) dX10_count_49 fX10_174 (g_lt rfl) (gs_78 G _ _) rfl ?_
      exact go_iret dX10_count_52 rfl (Nat.le_refl _) (Nat.le_refl _) ⟨_, rfl, h⟩
    · have h := h.2.2.1 (sw_eq (1 : Int32) rfl c15e)
      refine go_tableIn 53 dX10_count_1 (by omega) (by omega) (by rw [c15e]; rfl) (by decide) ?_
      refine go_aload_n dX10_count_53 rfl 0 rfl ?_
      refine go_get (.int (gm_r μ 78 23)) dX10_count_54 fX10_180 (g_lt rfl) (gs_78 G _ _) rfl ?_
      refine go_callS (As := [.int (gm_r μ 78 23)]) (rest := []) dX10_count_57 lX10_208 kX10_ones rfl (by decide) (Nat.le_of_ble_eq_true rfl) (by decide) rfl (gI_go (fun r2 μ1 h => ?_)) h
      exact go_iret dX10_count_60 rfl (Nat.le_refl _) (Nat.le_refl _) ⟨_, rfl, h⟩
    · have h := h.2.2.2.1 (sw_eq (2 : Int32) rfl c15e)
      refine go_tableIn 61 dX10_count_1 (by omega) (by omega) (by rw [c15e]; rfl) (by decide) ?_
      refine go_aload_n dX10_count_61 rfl 0 rfl ?_
      refine go_get (.int (gm_r μ 78 22)) dX10_count_62 fX10_177 (g_lt rfl) (gs_78 G _ _) rfl ?_
      exact go_iret dX10_count_65 rfl (Nat.le_refl _) (Nat.le_refl _) ⟨_, rfl, h⟩
    · have h := h.2.2.2.2.1 (sw_eq (3 : Int32) rfl c15e)
      refine go_tableIn 66 dX10_count_1 (by omega) (by omega) (by rw [c15e]; rfl) (by decide) ?_
      refine go_aload_n dX10_count_66 rfl 0 rfl ?_
      refine go_get (.int (gm_r μ 78 26)) dX10_count_67 fX10_183 (g_lt rfl) (gs_78 G _ _) rfl ?_
      exact go_iret dX10_count_70 rfl (Nat.le_refl _) (Nat.le_refl _) ⟨_, rfl, h⟩
    · have h := h.2.2.2.2.2.1 (sw_eq (4 : Int32) rfl c15e)
      refine go_tableIn 71 dX10_count_1 (by omega) (by omega) (by rw [c15e]; rfl) (by decide) ?_
      refine go_aload_n dX10_count_71 rfl 0 rfl ?_
      refine go_aload_n dX10_count_72 rfl 0 rfl ?_
      refine go_callV (As := []) (rest := [.ref (ga G 78)]) dX10_count_73 lX10_192 kX10_all rfl (by decide) (Nat.le_of_ble_eq_true rfl) (g_lt rfl) (gs_78 G _ _) rfl (by decide) rfl (gI_go (fun r4 μ3 h => ?_)) h
      refine go_callV (As := [.int r4]) (rest := []) dX10_count_76 lX10_211 kX10_linesOf rfl (by decide) (Nat.le_of_ble_eq_true rfl) (g_lt rfl) (gs_78 G _ _) rfl (by decide) rfl (gI_go (fun r6 μ5 h => ?_)) h
      exact go_iret dX10_count_79 rfl (Nat.le_refl _) (Nat.le_refl _) ⟨_, rfl, h⟩
    · have h := h.2.2.2.2.2.2.1 (sw_eq (5 : Int32) rfl c15e)
      refine go_tableIn 80 dX10_count_1 (by omega) (by omega) (by rw [c15e]; rfl) (by decide) ?_
      refine go_aload_n dX10_count_80 rfl 0 rfl ?_
      refine go_get (.int (gm_r μ 78 8)) dX10_count_81 fX10_103 (g_lt rfl) (gs_78 G _ _) rfl ?_
      exact go_iret dX10_count_84 rfl (Nat.le_refl _) (Nat.le_refl _) ⟨_, rfl, h⟩
    · have h := h.2.2.2.2.2.2.2.1 (sw_eq (6 : Int32) rfl c15e)
      refine go_tableIn 85 dX10_count_1 (by omega) (by omega) (by rw [c15e]; rfl) (by decide) ?_
      refine go_aload_n dX10_count_85 rfl 0 rfl ?_
      refine go_callV (As := []) (rest := []) dX10_count_86 lX10_214 kX10_nevers rfl (by decide) (Nat.le_of_ble_eq_true rfl) (g_lt rfl) (gs_78 G _ _) rfl (by decide) rfl (gI_go (fun r8 μ7 h => ?_)) h
      exact go_iret dX10_count_89 rfl (Nat.le_refl _) (Nat.le_refl _) ⟨_, rfl, h⟩
    · have h := h.2.2.2.2.2.2.2.2 (sw_eq (7 : Int32) rfl c15e)
      refine go_tableIn 90 dX10_count_1 (by omega) (by omega) (by rw [c15e]; rfl) (by decide) ?_
      refine go_aload_n dX10_count_90 rfl 0 rfl ?_
      refine go_aload_n dX10_count_91 rfl 0 rfl ?_
      refine go_callV (As := []) (rest := [.ref (ga G 78)]) dX10_count_92 lX10_192 kX10_all rfl (by decide) (Nat.le_of_ble_eq_true rfl) (g_lt rfl) (gs_78 G _ _) rfl (by decide) rfl (gI_go (fun r10 μ9 h => ?_)) h
      refine go_iconst (v := 3) dX10_count_95 (by decide) ?_
      refine go_callV (As := [.int r10, .int (3 : Int32)]) (rest := []) dX10_count_96 lX10_217 kX10_union rfl (by decide) (Nat.le_of_ble_eq_true rfl) (g_lt rfl) (gs_78 G _ _) rfl (by decide) rfl (gI_go (fun r12 μ11 h => ?_)) h
      refine go_callS (As := [.int r12]) (rest := []) dX10_count_99 lX10_208 kX10_ones rfl (by decide) (Nat.le_of_ble_eq_true rfl) (by decide) rfl (gI_go (fun r14 μ13 h => ?_)) h
      exact go_iret dX10_count_102 rfl (Nat.le_refl _) (Nat.le_refl _) ⟨_, rfl, h⟩
set_option maxRecDepth 100000 in
theorem eX10_mayCome {G : gC} {l : Launch} {a1 : Int32} {a2 : Int32} {μ : Mem} {P : Int32 → Mem → Prop} (h : qX10_has G l a2 a1 μ (fun (r2 : Int32) (μ1 : Mem) => ((¬ r2 = 0) → P (0 : Int32) μ1) ∧ ((r2 = 0) → qX10_setOf G l a1 (2 : Int32) μ1 (fun (r5 : Int32) (μ4 : Mem) => (((r5 &&& (a2 ^^^ (-1 : Int32))) = 0) → qX10_setOf G l a1 (4 : Int32) μ4 (fun (r8 : Int32) (μ7 : Mem) => qX10_union G l a2 (3 : Int32) μ7 (fun (r10 : Int32) (μ9 : Mem) => qX10_setOf G l a1 (3 : Int32) μ9 (fun (r12 : Int32) (μ11 : Mem) => ((¬ (r8 &&& ((r10 ||| r12) ^^^ (-1 : Int32))) = 0) → P (0 : Int32) μ11) ∧ (((r8 &&& ((r10 ||| r12) ^^^ (-1 : Int32))) = 0) → qX10_setOf G l a1 (6 : Int32) μ11 (fun (r15 : Int32) (μ14 : Mem) => qX10_union G l a2 (5 : Int32) μ14 (fun (r17 : Int32) (μ16 : Mem) => (((r15 &&& (r17 ^^^ (-1 : Int32))) = 0) → qX10_union G l a2 (5 : Int32) μ16 (fun (r20 : Int32) (μ19 : Mem) => qX10_setOf G l a1 (5 : Int32) μ19 (fun (r22 : Int32) (μ21 : Mem) => hX10_mayCome_86 G l P a1 a2 (r20 ||| r22) (0 : Int32) μ21))) ∧ ((¬ (r15 &&& (r17 ^^^ (-1 : Int32))) = 0) → P (0 : Int32) μ16)))))))) ∧ ((¬ (r5 &&& (a2 ^^^ (-1 : Int32))) = 0) → P (0 : Int32) μ4))))) : qX10_mayCome G l a1 a2 μ P := by
  refine Sp.of (by decide) (Nat.le_of_ble_eq_true rfl) (lv := [(0, .ref (ga G 78)), (1, .int a1), (2, .int a2)]) rfl ?_
  refine go_iload_n dX10_mayCome_0 rfl 2 rfl ?_
  refine go_iload_n dX10_mayCome_1 rfl 1 rfl ?_
  refine go_callS (As := [.int a2, .int a1]) (rest := []) dX10_mayCome_2 lX10_143 kX10_has rfl (by decide) (Nat.le_of_ble_eq_true rfl) (by decide) rfl (gI_go (fun r2 μ1 h => ?_)) h
  refine go_if_ne 21 dX10_mayCome_5 (by decide) (fun c3 => ?_) (fun c3 => ?_)
  · have h := h.1 c3
    refine go_iconst (v := 0) dX10_mayCome_21 (by decide) ?_
    exact go_zret dX10_mayCome_22 rfl (Nat.le_refl _) (Nat.le_refl _) rfl ⟨_, rfl, h⟩
  · have h := h.2 c3
    refine go_aload_n dX10_mayCome_8 rfl 0 rfl ?_
    refine go_iload_n dX10_mayCome_9 rfl 1 rfl ?_
    refine go_iconst (v := 2) dX10_mayCome_10 (by decide) ?_
    refine go_callV (As := [.int a1, .int (2 : Int32)]) (rest := []) dX10_mayCome_11 lX10_199 kX10_setOf rfl (by decide) (Nat.le_of_ble_eq_true rfl) (g_lt rfl) (gs_78 G _ _) rfl (by decide) rfl (gI_go (fun r5 μ4 h => ?_)) h
    refine go_iload_n dX10_mayCome_14 rfl 2 rfl ?_
    refine go_iconst (v := -1) dX10_mayCome_15 (by decide) ?_
    refine go_ixor dX10_mayCome_16 ?_
    refine go_iand dX10_mayCome_17 ?_
    refine go_if_eq 23 dX10_mayCome_18 (by decide) (fun c6 => ?_) (fun c6 => ?_)
    · have h := h.1 c6
      refine go_aload_n dX10_mayCome_23 rfl 0 rfl ?_
      refine go_iload_n dX10_mayCome_24 rfl 1 rfl ?_
      refine go_iconst (v := 4) dX10_mayCome_25 (by decide) ?_
      refine go_callV (As := [.int a1, .int (4 : Int32)]) (rest := []) dX10_mayCome_26 lX10_199 kX10_setOf rfl (by decide) (Nat.le_of_ble_eq_true rfl) (g_lt rfl) (gs_78 G _ _) rfl (by decide) rfl (gI_go (fun r8 μ7 h => ?_)) h
      refine go_aload_n dX10_mayCome_29 rfl 0 rfl ?_
      refine go_iload_n dX10_mayCome_30 rfl 2 rfl ?_
      refine go_iconst (v := 3) dX10_mayCome_31 (by decide) ?_
      refine go_callV (As := [.int a2, .int (3 : Int32)]) (rest := [.int r8]) dX10_mayCome_32 lX10_217 kX10_union rfl (by decide) (Nat.le_of_ble_eq_true rfl) (g_lt rfl) (gs_78 G _ _) rfl (by decide) rfl (gI_go (fun r10 μ9 h => ?_)) h
      refine go_aload_n dX10_mayCome_35 rfl 0 rfl ?_
      refine go_iload_n dX10_mayCome_36 rfl 1 rfl ?_
      refine go_iconst (v := 3) dX10_mayCome_37 (by decide) ?_
      refine go_callV (As := [.int a1, .int (3 : Int32)]) (rest := [.int r10, .int r8]) dX10_mayCome_38 lX10_199 kX10_setOf rfl (by decide) (Nat.le_of_ble_eq_true rfl) (g_lt rfl) (gs_78 G _ _) rfl (by decide) rfl (gI_go (fun r12 μ11 h => ?_)) h
      refine go_ior dX10_mayCome_41 ?_
      refine go_iconst (v := -1) dX10_mayCome_42 (by decide) ?_
      refine go_ixor dX10_mayCome_43 ?_
      refine go_iand dX10_mayCome_44 ?_
      refine go_if_ne 67 dX10_mayCome_45 (by decide) (fun c13 => ?_) (fun c13 => ?_)
      · have h := h.1 c13
        refine go_iconst (v := 0) dX10_mayCome_67 (by decide) ?_
        exact go_zret dX10_mayCome_68 rfl (Nat.le_refl _) (Nat.le_refl _) rfl ⟨_, rfl, h⟩
      · have h := h.2 c13
        refine go_aload_n dX10_mayCome_48 rfl 0 rfl ?_
        refine go_iload_n dX10_mayCome_49 rfl 1 rfl ?_
        refine go_bipush (v := 6) dX10_mayCome_50 (by decide) ?_
        refine go_callV (As := [.int a1, .int (6 : Int32)]) (rest := []) dX10_mayCome_52 lX10_199 kX10_setOf rfl (by decide) (Nat.le_of_ble_eq_true rfl) (g_lt rfl) (gs_78 G _ _) rfl (by decide) rfl (gI_go (fun r15 μ14 h => ?_)) h
        refine go_aload_n dX10_mayCome_55 rfl 0 rfl ?_
        refine go_iload_n dX10_mayCome_56 rfl 2 rfl ?_
        refine go_iconst (v := 5) dX10_mayCome_57 (by decide) ?_
        refine go_callV (As := [.int a2, .int (5 : Int32)]) (rest := [.int r15]) dX10_mayCome_58 lX10_217 kX10_union rfl (by decide) (Nat.le_of_ble_eq_true rfl) (g_lt rfl) (gs_78 G _ _) rfl (by decide) rfl (gI_go (fun r17 μ16 h => ?_)) h
        refine go_iconst (v := -1) dX10_mayCome_61 (by decide) ?_
        refine go_ixor dX10_mayCome_62 ?_
        refine go_iand dX10_mayCome_63 ?_
        refine go_if_eq 69 dX10_mayCome_64 (by decide) (fun c18 => ?_) (fun c18 => ?_)
        · have h := h.1 c18
          refine go_aload_n dX10_mayCome_69 rfl 0 rfl ?_
          refine go_iload_n dX10_mayCome_70 rfl 2 rfl ?_
          refine go_iconst (v := 5) dX10_mayCome_71 (by decide) ?_
          refine go_callV (As := [.int a2, .int (5 : Int32)]) (rest := []) dX10_mayCome_72 lX10_217 kX10_union rfl (by decide) (Nat.le_of_ble_eq_true rfl) (g_lt rfl) (gs_78 G _ _) rfl (by decide) rfl (gI_go (fun r20 μ19 h => ?_)) h
          refine go_aload_n dX10_mayCome_75 rfl 0 rfl ?_
          refine go_iload_n dX10_mayCome_76 rfl 1 rfl ?_
          refine go_iconst (v := 5) dX10_mayCome_77 (by decide) ?_
          refine go_callV (As := [.int a1, .int (5 : Int32)]) (rest := [.int r20]) dX10_mayCome_78 lX10_199 kX10_setOf rfl (by decide) (Nat.le_of_ble_eq_true rfl) (g_lt rfl) (gs_78 G _ _) rfl (by decide) rfl (gI_go (fun r22 μ21 h => ?_)) h
          refine go_ior dX10_mayCome_81 ?_
          refine go_istore_n [(0, .ref (ga G 78)), (1, .int a1), (2, .int a2), (3, .int (r20 ||| r22))] [1, 2, 3, 0] dX10_mayCome_82 rfl (by decide) rfl ?_
          refine go_iconst (v := 0) dX10_mayCome_83 (by decide) ?_
          refine go_istore [(0, .ref (ga G 78)), (1, .int a1), (2, .int a2), (3, .int (r20 ||| r22)), (4, .int (0 : Int32))] [1, 2, 3, 4, 0] dX10_mayCome_84 (by decide) rfl ?_
          exact h
        · have h := h.2 c18
          refine go_iconst (v := 0) dX10_mayCome_67 (by decide) ?_
          exact go_zret dX10_mayCome_68 rfl (Nat.le_refl _) (Nat.le_refl _) rfl ⟨_, rfl, h⟩
    · have h := h.2 c6
      refine go_iconst (v := 0) dX10_mayCome_21 (by decide) ?_
      exact go_zret dX10_mayCome_22 rfl (Nat.le_refl _) (Nat.le_refl _) rfl ⟨_, rfl, h⟩
set_option maxRecDepth 100000 in
theorem eX10_mayCome_86 {G : gC} {l : Launch} {P : Int32 → Mem → Prop} {x1 : Int32} {x2 : Int32} {x3 : Int32} {x4 : Int32} {μ : Mem} (h : (((8 : Int32) ≤ x4) → hX10_mayCome_133 G l P x1 x2 (1 : Int32) (0 : Int32) μ) ∧ ((¬ (8 : Int32) ≤ x4) → qX10_setOf G l x1 (5 : Int32) μ (fun (r25 : Int32) (μ24 : Mem) => qX10_has G l r25 x4 μ24 (fun (r27 : Int32) (μ26 : Mem) => ((r27 = 0) → hX10_mayCome_86 G l P x1 x2 x3 (x4 + (1 : Int32)) μ26) ∧ ((¬ r27 = 0) → vp_in x4 8 ∧ ((((gm_r μ26 82 x4.toNatClampNeg) &&& x3) = 0) → hX10_mayCome_86 G l P x1 x2 x3 (x4 + (1 : Int32)) μ26) ∧ ((¬ ((gm_r μ26 82 x4.toNatClampNeg) &&& x3) = 0) → P (0 : Int32) μ26)))))) : hX10_mayCome_86 G l P x1 x2 x3 x4 μ := by
  refine go_iload dX10_mayCome_86 4 rfl ?_
  refine go_bipush (v := 8) dX10_mayCome_88 (by decide) ?_
  refine go_icmp_ge 127 dX10_mayCome_90 (by decide) (fun c23 => ?_) (fun c23 => ?_)
  · have h := h.1 c23
    refine go_iconst (v := 1) dX10_mayCome_127 (by decide) ?_
    refine go_istore [(0, .ref (ga G 78)), (1, .int x1), (2, .int x2), (3, .int x3), (4, .int (1 : Int32))] [1, 2, 3, 4, 0] dX10_mayCome_128 (by decide) rfl ?_
    refine go_iconst (v := 0) dX10_mayCome_130 (by decide) ?_
    refine go_istore [(0, .ref (ga G 78)), (1, .int x1), (2, .int x2), (3, .int x3), (4, .int (1 : Int32)), (5, .int (0 : Int32))] [1, 2, 3, 4, 5, 0] dX10_mayCome_131 (by decide) rfl ?_
    exact go_sub [0, 1, 2, 4, 5] rfl h
  · have h := h.2 c23
    refine go_aload_n dX10_mayCome_93 rfl 0 rfl ?_
    refine go_iload_n dX10_mayCome_94 rfl 1 rfl ?_
    refine go_iconst (v := 5) dX10_mayCome_95 (by decide) ?_
    refine go_callV (As := [.int x1, .int (5 : Int32)]) (rest := []) dX10_mayCome_96 lX10_199 kX10_setOf rfl (by decide) (Nat.le_of_ble_eq_true rfl) (g_lt rfl) (gs_78 G _ _) rfl (by decide) rfl (gI_go (fun r25 μ24 h => ?_)) h
    refine go_iload dX10_mayCome_99 4 rfl ?_
    refine go_callS (As := [.int r25, .int x4]) (rest := []) dX10_mayCome_101 lX10_143 kX10_has rfl (by decide) (Nat.le_of_ble_eq_true rfl) (by decide) rfl (gI_go (fun r27 μ26 h => ?_)) h
    refine go_if_eq 121 dX10_mayCome_104 (by decide) (fun c28 => ?_) (fun c28 => ?_)
    · have h := h.1 c28
      refine go_iinc (v := (x4 + (1 : Int32))) [(0, .ref (ga G 78)), (1, .int x1), (2, .int x2), (3, .int x3), (4, .int (x4 + (1 : Int32)))] [1, 2, 3, 4, 0] 4 dX10_mayCome_121 rfl rfl (by decide) rfl ?_
      refine go_goto 86 dX10_mayCome_124 (by decide) ?_
      exact h
    · have h := h.2 c28
      refine go_aload_n dX10_mayCome_107 rfl 0 rfl ?_
      refine go_get (.ref (ga G 82)) dX10_mayCome_108 fX10_19 (g_lt rfl) (gs_78 G _ _) rfl ?_
      refine go_iload dX10_mayCome_111 4 rfl ?_
      obtain ⟨b29, h⟩ := h
      refine go_ialdv ((gm_r μ26 82 x4.toNatClampNeg)) dX10_mayCome_113 (g_lt rfl) (gs_82 G) b29 rfl ?_
      refine go_iload_n dX10_mayCome_114 rfl 3 rfl ?_
      refine go_iand dX10_mayCome_115 ?_
      refine go_if_eq 121 dX10_mayCome_116 (by decide) (fun c30 => ?_) (fun c30 => ?_)
      · have h := h.1 c30
        refine go_iinc (v := (x4 + (1 : Int32))) [(0, .ref (ga G 78)), (1, .int x1), (2, .int x2), (3, .int x3), (4, .int (x4 + (1 : Int32)))] [1, 2, 3, 4, 0] 4 dX10_mayCome_121 rfl rfl (by decide) rfl ?_
        refine go_goto 86 dX10_mayCome_124 (by decide) ?_
        exact h
      · have h := h.2 c30
        refine go_iconst (v := 0) dX10_mayCome_119 (by decide) ?_
        exact go_zret dX10_mayCome_120 rfl (Nat.le_refl _) (Nat.le_refl _) rfl ⟨_, rfl, h⟩
set_option maxRecDepth 100000 in
theorem eX10_mayCome_133 {G : gC} {l : Launch} {P : Int32 → Mem → Prop} {x1 : Int32} {x2 : Int32} {x4 : Int32} {x5 : Int32} {μ : Mem} (h : (((gm_r μ 78 0) ≤ x5) → (narrow .boolean (.int x4) = .int x4) ∧ P x4 μ) ∧ ((¬ (gm_r μ 78 0) ≤ x5) → ((x4 = 0) → hX10_mayCome_133 G l P x1 x2 (0 : Int32) (x5 + (1 : Int32)) μ) ∧ ((¬ x4 = 0) → qX10_has G l x2 x5 μ (fun (r34 : Int32) (μ33 : Mem) => ((r34 = 0) → hX10_mayCome_133 G l P x1 x2 (1 : Int32) (x5 + (1 : Int32)) μ33) ∧ ((¬ r34 = 0) → vp_in x5 10 ∧ (((gm_r μ33 80 x5.toNatClampNeg) < 0) → hX10_mayCome_133 G l P x1 x2 (1 : Int32) (x5 + (1 : Int32)) μ33) ∧ ((¬ (gm_r μ33 80 x5.toNatClampNeg) < 0) → qX10_setOf G l x1 (1 : Int32) μ33 (fun (r39 : Int32) (μ38 : Mem) => qX10_has G l r39 (gm_r μ38 80 x5.toNatClampNeg) μ38 (fun (r41 : Int32) (μ40 : Mem) => ((¬ r41 = 0) → hX10_mayCome_133 G l P x1 x2 (0 : Int32) (x5 + (1 : Int32)) μ40) ∧ ((r41 = 0) → hX10_mayCome_133 G l P x1 x2 (1 : Int32) (x5 + (1 : Int32)) μ40))))))))) : hX10_mayCome_133 G l P x1 x2 x4 x5 μ := by
  refine go_iload dX10_mayCome_133 4 rfl ?_
  refine go_aload_n dX10_mayCome_135 rfl 0 rfl ?_
  refine go_get (.int (gm_r μ 78 0)) dX10_mayCome_136 fX10_174 (g_lt rfl) (gs_78 G _ _) rfl ?_
  refine go_icmp_ge 198 dX10_mayCome_139 (by decide) (fun c31 => ?_) (fun c31 => ?_)
  · have h := h.1 c31
    refine go_iload dX10_mayCome_198 3 rfl ?_
    exact go_zret dX10_mayCome_200 rfl (Nat.le_refl _) (Nat.le_refl _) h.1 ⟨_, rfl, h.2⟩
  · have h := h.2 c31
    refine go_iload dX10_mayCome_142 3 rfl ?_
    refine go_if_eq 189 dX10_mayCome_144 (by decide) (fun c32 => ?_) (fun c32 => ?_)
    · have h := h.1 c32
      refine go_iconst (v := 0) dX10_mayCome_189 (by decide) ?_
      refine go_istore [(0, .ref (ga G 78)), (1, .int x1), (2, .int x2), (4, .int (0 : Int32)), (5, .int x5)] [1, 2, 3, 0, 4] dX10_mayCome_190 (by decide) rfl ?_
      refine go_iinc (v := (x5 + (1 : Int32))) [(0, .ref (ga G 78)), (1, .int x1), (2, .int x2), (4, .int (0 : Int32)), (5, .int (x5 + (1 : Int32)))] [1, 2, 3, 4, 0] 4 dX10_mayCome_192 rfl rfl (by decide) rfl ?_
      refine go_goto 133 dX10_mayCome_195 (by decide) ?_
      exact h
    · have h := h.2 c32
      refine go_iload_n dX10_mayCome_147 rfl 2 rfl ?_
      refine go_iload dX10_mayCome_148 4 rfl ?_
      refine go_callS (As := [.int x2, .int x5]) (rest := []) dX10_mayCome_150 lX10_143 kX10_has rfl (by decide) (Nat.le_of_ble_eq_true rfl) (by decide) rfl (gI_go (fun r34 μ33 h => ?_)) h
      refine go_if_eq 185 dX10_mayCome_153 (by decide) (fun c35 => ?_) (fun c35 => ?_)
      · have h := h.1 c35
        refine go_iconst (v := 1) dX10_mayCome_185 (by decide) ?_
        refine go_goto 190 dX10_mayCome_186 (by decide) ?_
        refine go_istore [(0, .ref (ga G 78)), (1, .int x1), (2, .int x2), (4, .int (1 : Int32)), (5, .int x5)] [1, 2, 3, 0, 4] dX10_mayCome_190 (by decide) rfl ?_
        refine go_iinc (v := (x5 + (1 : Int32))) [(0, .ref (ga G 78)), (1, .int x1), (2, .int x2), (4, .int (1 : Int32)), (5, .int (x5 + (1 : Int32)))] [1, 2, 3, 4, 0] 4 dX10_mayCome_192 rfl rfl (by decide) rfl ?_
        refine go_goto 133 dX10_mayCome_195 (by decide) ?_
        exact h
      · have h := h.2 c35
        refine go_aload_n dX10_mayCome_156 rfl 0 rfl ?_
        refine go_get (.ref (ga G 80)) dX10_mayCome_157 fX10_13 (g_lt rfl) (gs_78 G _ _) rfl ?_
        refine go_iload dX10_mayCome_160 4 rfl ?_
        obtain ⟨b36, h⟩ := h
        refine go_ialdv ((gm_r μ33 80 x5.toNatClampNeg)) dX10_mayCome_162 (g_lt rfl) (gs_80 G) b36 rfl ?_
        refine go_if_lt 185 dX10_mayCome_163 (by decide) (fun c37 => ?_) (fun c37 => ?_)
        · have h := h.1 c37
          refine go_iconst (v := 1) dX10_mayCome_185 (by decide) ?_
          refine go_goto 190 dX10_mayCome_186 (by decide) ?_
          refine go_istore [(0, .ref (ga G 78)), (1, .int x1), (2, .int x2), (4, .int (1 : Int32)), (5, .int x5)] [1, 2, 3, 0, 4] dX10_mayCome_190 (by decide) rfl ?_
          refine go_iinc (v := (x5 + (1 : Int32))) [(0, .ref (ga G 78)), (1, .int x1), (2, .int x2), (4, .int (1 : Int32)), (5, .int (x5 + (1 : Int32)))] [1, 2, 3, 4, 0] 4 dX10_mayCome_192 rfl rfl (by decide) rfl ?_
          refine go_goto 133 dX10_mayCome_195 (by decide) ?_
          exact h
        · have h := h.2 c37
          refine go_aload_n dX10_mayCome_166 rfl 0 rfl ?_
          refine go_iload_n dX10_mayCome_167 rfl 1 rfl ?_
          refine go_iconst (v := 1) dX10_mayCome_168 (by decide) ?_
          refine go_callV (As := [.int x1, .int (1 : Int32)]) (rest := []) dX10_mayCome_169 lX10_199 kX10_setOf rfl (by decide) (Nat.le_of_ble_eq_true rfl) (g_lt rfl) (gs_78 G _ _) rfl (by decide) rfl (gI_go (fun r39 μ38 h => ?_)) h
          refine go_aload_n dX10_mayCome_172 rfl 0 rfl ?_
          refine go_get (.ref (ga G 80)) dX10_mayCome_173 fX10_13 (g_lt rfl) (gs_78 G _ _) rfl ?_
          refine go_iload dX10_mayCome_176 4 rfl ?_
          refine go_ialdv ((gm_r μ38 80 x5.toNatClampNeg)) dX10_mayCome_178 (g_lt rfl) (gs_80 G) b36 rfl ?_
          refine go_callS (As := [.int r39, .int (gm_r μ38 80 x5.toNatClampNeg)]) (rest := []) dX10_mayCome_179 lX10_143 kX10_has rfl (by decide) (Nat.le_of_ble_eq_true rfl) (by decide) rfl (gI_go (fun r41 μ40 h => ?_)) h
          refine go_if_ne 189 dX10_mayCome_182 (by decide) (fun c42 => ?_) (fun c42 => ?_)
          · have h := h.1 c42
            refine go_iconst (v := 0) dX10_mayCome_189 (by decide) ?_
            refine go_istore [(0, .ref (ga G 78)), (1, .int x1), (2, .int x2), (4, .int (0 : Int32)), (5, .int x5)] [1, 2, 3, 0, 4] dX10_mayCome_190 (by decide) rfl ?_
            refine go_iinc (v := (x5 + (1 : Int32))) [(0, .ref (ga G 78)), (1, .int x1), (2, .int x2), (4, .int (0 : Int32)), (5, .int (x5 + (1 : Int32)))] [1, 2, 3, 4, 0] 4 dX10_mayCome_192 rfl rfl (by decide) rfl ?_
            refine go_goto 133 dX10_mayCome_195 (by decide) ?_
            exact h
          · have h := h.2 c42
            refine go_iconst (v := 1) dX10_mayCome_185 (by decide) ?_
            refine go_goto 190 dX10_mayCome_186 (by decide) ?_
            refine go_istore [(0, .ref (ga G 78)), (1, .int x1), (2, .int x2), (4, .int (1 : Int32)), (5, .int x5)] [1, 2, 3, 0, 4] dX10_mayCome_190 (by decide) rfl ?_
            refine go_iinc (v := (x5 + (1 : Int32))) [(0, .ref (ga G 78)), (1, .int x1), (2, .int x2), (4, .int (1 : Int32)), (5, .int (x5 + (1 : Int32)))] [1, 2, 3, 4, 0] 4 dX10_mayCome_192 rfl rfl (by decide) rfl ?_
            refine go_goto 133 dX10_mayCome_195 (by decide) ?_
            exact h
set_option maxRecDepth 100000 in
theorem eX10_may {G : gC} {l : Launch} {a1 : Int32} {a2 : Int32} {μ : Mem} {P : Int32 → Mem → Prop} (h : qX10_noScene G l a1 μ (fun (r2 : Int32) (μ1 : Mem) => ((¬ r2 = 0) → P (-1001 : Int32) μ1) ∧ ((r2 = 0) → qX10_noSet G l a2 μ1 (fun (r5 : Int32) (μ4 : Mem) => ((r5 = 0) → qX10_mayCome G l a1 a2 μ4 (fun (r8 : Int32) (μ7 : Mem) => qX10_one G l r8 μ7 (fun (r10 : Int32) (μ9 : Mem) => P r10 μ9))) ∧ ((¬ r5 = 0) → P (-1001 : Int32) μ4))))) : qX10_may G l a1 a2 μ P := by
  refine Sp.of (by decide) (Nat.le_of_ble_eq_true rfl) (lv := [(0, .ref (ga G 78)), (1, .int a1), (2, .int a2)]) rfl ?_
  refine go_aload_n dX10_may_0 rfl 0 rfl ?_
  refine go_iload_n dX10_may_1 rfl 1 rfl ?_
  refine go_callV (As := [.int a1]) (rest := []) dX10_may_2 lX10_195 kX10_noScene rfl (by decide) (Nat.le_of_ble_eq_true rfl) (g_lt rfl) (gs_78 G _ _) rfl (by decide) rfl (gI_go (fun r2 μ1 h => ?_)) h
  refine go_if_ne 16 dX10_may_5 (by decide) (fun c3 => ?_) (fun c3 => ?_)
  · have h := h.1 c3
    refine go_sipush (v := -1001) dX10_may_16 (by decide) ?_
    refine go_goto 31 dX10_may_19 (by decide) ?_
    exact go_iret dX10_may_31 rfl (Nat.le_refl _) (Nat.le_refl _) ⟨_, rfl, h⟩
  · have h := h.2 c3
    refine go_aload_n dX10_may_8 rfl 0 rfl ?_
    refine go_iload_n dX10_may_9 rfl 2 rfl ?_
    refine go_callV (As := [.int a2]) (rest := []) dX10_may_10 lX10_220 kX10_noSet rfl (by decide) (Nat.le_of_ble_eq_true rfl) (g_lt rfl) (gs_78 G _ _) rfl (by decide) rfl (gI_go (fun r5 μ4 h => ?_)) h
    refine go_if_eq 22 dX10_may_13 (by decide) (fun c6 => ?_) (fun c6 => ?_)
    · have h := h.1 c6
      refine go_aload_n dX10_may_22 rfl 0 rfl ?_
      refine go_iload_n dX10_may_23 rfl 1 rfl ?_
      refine go_iload_n dX10_may_24 rfl 2 rfl ?_
      refine go_callV (As := [.int a1, .int a2]) (rest := []) dX10_may_25 lX10_223 kX10_mayCome rfl (by decide) (Nat.le_of_ble_eq_true rfl) (g_lt rfl) (gs_78 G _ _) rfl (by decide) rfl (gI_go (fun r8 μ7 h => ?_)) h
      refine go_callS (As := [.int r8]) (rest := []) dX10_may_28 lX10_154 kX10_one rfl (by decide) (Nat.le_of_ble_eq_true rfl) (by decide) rfl (gI_go (fun r10 μ9 h => ?_)) h
      exact go_iret dX10_may_31 rfl (Nat.le_refl _) (Nat.le_refl _) ⟨_, rfl, h⟩
    · have h := h.2 c6
      refine go_sipush (v := -1001) dX10_may_16 (by decide) ?_
      refine go_goto 31 dX10_may_19 (by decide) ?_
      exact go_iret dX10_may_31 rfl (Nat.le_refl _) (Nat.le_refl _) ⟨_, rfl, h⟩
set_option maxRecDepth 100000 in
theorem eX10_next {G : gC} {l : Launch} {a1 : Int32} {μ : Mem} {P : Int32 → Mem → Prop} (h : qX10_noSet G l a1 μ (fun (r2 : Int32) (μ1 : Mem) => ((r2 = 0) → hX10_next_16 G l P a1 (0 : Int32) (0 : Int32) μ1) ∧ ((¬ r2 = 0) → P (-1001 : Int32) μ1))) : qX10_next G l a1 μ P := by
  refine Sp.of (by decide) (Nat.le_of_ble_eq_true rfl) (lv := [(0, .ref (ga G 78)), (1, .int a1)]) rfl ?_
  refine go_aload_n dX10_next_0 rfl 0 rfl ?_
  refine go_iload_n dX10_next_1 rfl 1 rfl ?_
  refine go_callV (As := [.int a1]) (rest := []) dX10_next_2 lX10_220 kX10_noSet rfl (by decide) (Nat.le_of_ble_eq_true rfl) (g_lt rfl) (gs_78 G _ _) rfl (by decide) rfl (gI_go (fun r2 μ1 h => ?_)) h
  refine go_if_eq 12 dX10_next_5 (by decide) (fun c3 => ?_) (fun c3 => ?_)
  · have h := h.1 c3
    refine go_iconst (v := 0) dX10_next_12 (by decide) ?_
    refine go_istore_n [(0, .ref (ga G 78)), (1, .int a1), (2, .int (0 : Int32))] [1, 2, 0] dX10_next_13 rfl (by decide) rfl ?_
    refine go_iconst (v := 0) dX10_next_14 (by decide) ?_
    refine go_istore_n [(0, .ref (ga G 78)), (1, .int a1), (2, .int (0 : Int32)), (3, .int (0 : Int32))] [1, 2, 3, 0] dX10_next_15 rfl (by decide) rfl ?_
    exact h
  · have h := h.2 c3
    refine go_sipush (v := -1001) dX10_next_8 (by decide) ?_
    exact go_iret dX10_next_11 rfl (Nat.le_refl _) (Nat.le_refl _) ⟨_, rfl, h⟩
set_option maxRecDepth 100000 in
theorem eX10_next_16 {G : gC} {l : Launch} {P : Int32 → Mem → Prop} {x1 : Int32} {x2 : Int32} {x3 : Int32} {μ : Mem} (h : (((gm_r μ 78 0) ≤ x3) → P x2 μ) ∧ ((¬ (gm_r μ 78 0) ≤ x3) → qX10_mayCome G l x3 x1 μ (fun (r6 : Int32) (μ5 : Mem) => qX10_one G l r6 μ5 (fun (r8 : Int32) (μ7 : Mem) => hX10_next_16 G l P x1 (x2 ||| (r8 <<< (x3 &&& 31))) (x3 + (1 : Int32)) μ7)))) : hX10_next_16 G l P x1 x2 x3 μ := by
  refine go_iload_n dX10_next_16 rfl 3 rfl ?_
  refine go_aload_n dX10_next_17 rfl 0 rfl ?_
  refine go_get (.int (gm_r μ 78 0)) dX10_next_18 fX10_174 (g_lt rfl) (gs_78 G _ _) rfl ?_
  refine go_icmp_ge 44 dX10_next_21 (by decide) (fun c4 => ?_) (fun c4 => ?_)
  · have h := h.1 c4
    refine go_iload_n dX10_next_44 rfl 2 rfl ?_
    exact go_iret dX10_next_45 rfl (Nat.le_refl _) (Nat.le_refl _) ⟨_, rfl, h⟩
  · have h := h.2 c4
    refine go_iload_n dX10_next_24 rfl 2 rfl ?_
    refine go_aload_n dX10_next_25 rfl 0 rfl ?_
    refine go_iload_n dX10_next_26 rfl 3 rfl ?_
    refine go_iload_n dX10_next_27 rfl 1 rfl ?_
    refine go_callV (As := [.int x3, .int x1]) (rest := [.int x2]) dX10_next_28 lX10_223 kX10_mayCome rfl (by decide) (Nat.le_of_ble_eq_true rfl) (g_lt rfl) (gs_78 G _ _) rfl (by decide) rfl (gI_go (fun r6 μ5 h => ?_)) h
    refine go_callS (As := [.int r6]) (rest := [.int x2]) dX10_next_31 lX10_154 kX10_one rfl (by decide) (Nat.le_of_ble_eq_true rfl) (by decide) rfl (gI_go (fun r8 μ7 h => ?_)) h
    refine go_iload_n dX10_next_34 rfl 3 rfl ?_
    refine go_ishl dX10_next_35 ?_
    refine go_ior dX10_next_36 ?_
    refine go_istore_n [(0, .ref (ga G 78)), (1, .int x1), (2, .int (x2 ||| (r8 <<< (x3 &&& 31)))), (3, .int x3)] [1, 2, 0, 3] dX10_next_37 rfl (by decide) rfl ?_
    refine go_iinc (v := (x3 + (1 : Int32))) [(0, .ref (ga G 78)), (1, .int x1), (2, .int (x2 ||| (r8 <<< (x3 &&& 31)))), (3, .int (x3 + (1 : Int32)))] [1, 2, 3, 0] 3 dX10_next_38 rfl rfl (by decide) rfl ?_
    refine go_goto 16 dX10_next_41 (by decide) ?_
    exact h
set_option maxRecDepth 100000 in
theorem eX10_findComing {G : gC} {l : Launch}  {μ : Mem} {P : Mem → Prop} (h : hX10_findComing_2 G l P (0 : Int32) μ) : qX10_findComing G l  μ P := by
  refine Sp.of (by decide) (Nat.le_of_ble_eq_true rfl) (lv := [(0, .ref (ga G 78))]) rfl ?_
  refine go_iconst (v := 0) dX10_findComing_0 (by decide) ?_
  refine go_istore_n [(0, .ref (ga G 78)), (1, .int (0 : Int32))] [1, 0] dX10_findComing_1 rfl (by decide) rfl ?_
  exact h
set_option maxRecDepth 100000 in
theorem eX10_findComing_2 {G : gC} {l : Launch} {P : Mem → Prop} {x1 : Int32} {μ : Mem} (h : qX10_all G l  μ (fun (r2 : Int32) (μ1 : Mem) => ((r2 < x1) → P μ1) ∧ ((¬ r2 < x1) → vp_in x1 1024 ∧ hX10_findComing_19 G l P x1 (0 : Int32) (gm_w μ1 90 x1.toNatClampNeg (0 : Int32))))) : hX10_findComing_2 G l P x1 μ := by
  refine go_iload_n dX10_findComing_2 rfl 1 rfl ?_
  refine go_aload_n dX10_findComing_3 rfl 0 rfl ?_
  refine go_callV (As := []) (rest := [.int x1]) dX10_findComing_4 lX10_192 kX10_all rfl (by decide) (Nat.le_of_ble_eq_true rfl) (g_lt rfl) (gs_78 G _ _) rfl (by decide) rfl (gI_go (fun r2 μ1 h => ?_)) h
  refine go_icmp_gt 59 dX10_findComing_7 (by decide) (fun c3 => ?_) (fun c3 => ?_)
  · have h := h.1 c3
    exact go_vret dX10_findComing_59 rfl (Nat.le_refl _) (Nat.le_refl _) ⟨rfl, h⟩
  · have h := h.2 c3
    refine go_aload_n dX10_findComing_10 rfl 0 rfl ?_
    refine go_get (.ref (ga G 90)) dX10_findComing_11 fX10_49 (g_lt rfl) (gs_78 G _ _) rfl ?_
    refine go_iload_n dX10_findComing_14 rfl 1 rfl ?_
    refine go_iconst (v := 0) dX10_findComing_15 (by decide) ?_
    obtain ⟨b4, h⟩ := h
    refine go_iast dX10_findComing_16 (g_lt rfl) (gs_90 G) b4 ?_
    refine go_iconst (v := 0) dX10_findComing_17 (by decide) ?_
    refine go_istore_n [(0, .ref (ga G 78)), (1, .int x1), (2, .int (0 : Int32))] [1, 2, 0] dX10_findComing_18 rfl (by decide) rfl ?_
    exact h
set_option maxRecDepth 100000 in
theorem eX10_findComing_19 {G : gC} {l : Launch} {P : Mem → Prop} {x1 : Int32} {x2 : Int32} {μ : Mem} (h : (((gm_r μ 78 0) ≤ x2) → hX10_findComing_2 G l P (x1 + (1 : Int32)) μ) ∧ ((¬ (gm_r μ 78 0) ≤ x2) → vp_in x1 1024 ∧ qX10_mayCome G l x2 x1 μ (fun (r8 : Int32) (μ7 : Mem) => qX10_one G l r8 μ7 (fun (r10 : Int32) (μ9 : Mem) => hX10_findComing_19 G l P x1 (x2 + (1 : Int32)) (gm_w μ9 90 x1.toNatClampNeg ((gm_r μ 90 x1.toNatClampNeg) ||| (r10 <<< (x2 &&& 31)))))))) : hX10_findComing_19 G l P x1 x2 μ := by
  refine go_iload_n dX10_findComing_19 rfl 2 rfl ?_
  refine go_aload_n dX10_findComing_20 rfl 0 rfl ?_
  refine go_get (.int (gm_r μ 78 0)) dX10_findComing_21 fX10_174 (g_lt rfl) (gs_78 G _ _) rfl ?_
  refine go_icmp_ge 53 dX10_findComing_24 (by decide) (fun c5 => ?_) (fun c5 => ?_)
  · have h := h.1 c5
    refine go_iinc (v := (x1 + (1 : Int32))) [(0, .ref (ga G 78)), (1, .int (x1 + (1 : Int32))), (2, .int x2)] [1, 0, 2] 1 dX10_findComing_53 rfl rfl (by decide) rfl ?_
    refine go_goto 2 dX10_findComing_56 (by decide) ?_
    exact go_sub [0, 1] rfl h
  · have h := h.2 c5
    refine go_aload_n dX10_findComing_27 rfl 0 rfl ?_
    refine go_get (.ref (ga G 90)) dX10_findComing_28 fX10_49 (g_lt rfl) (gs_78 G _ _) rfl ?_
    refine go_iload_n dX10_findComing_31 rfl 1 rfl ?_
    refine go_dup2 dX10_findComing_32 rfl rfl ?_
    obtain ⟨b6, h⟩ := h
    refine go_ialdv ((gm_r μ 90 x1.toNatClampNeg)) dX10_findComing_33 (g_lt rfl) (gs_90 G) b6 rfl ?_
    refine go_aload_n dX10_findComing_34 rfl 0 rfl ?_
    refine go_iload_n dX10_findComing_35 rfl 2 rfl ?_
    refine go_iload_n dX10_findComing_36 rfl 1 rfl ?_
    refine go_callV (As := [.int x2, .int x1]) (rest := [.int (gm_r μ 90 x1.toNatClampNeg), .int x1, .ref (ga G 90)]) dX10_findComing_37 lX10_223 kX10_mayCome rfl (by decide) (Nat.le_of_ble_eq_true rfl) (g_lt rfl) (gs_78 G _ _) rfl (by decide) rfl (gI_go (fun r8 μ7 h => ?_)) h
    refine go_callS (As := [.int r8]) (rest := [.int (gm_r μ 90 x1.toNatClampNeg), .int x1, .ref (ga G 90)]) dX10_findComing_40 lX10_154 kX10_one rfl (by decide) (Nat.le_of_ble_eq_true rfl) (by decide) rfl (gI_go (fun r10 μ9 h => ?_)) h
    refine go_iload_n dX10_findComing_43 rfl 2 rfl ?_
    refine go_ishl dX10_findComing_44 ?_
    refine go_ior dX10_findComing_45 ?_
    refine go_iast dX10_findComing_46 (g_lt rfl) (gs_90 G) b6 ?_
    refine go_iinc (v := (x2 + (1 : Int32))) [(0, .ref (ga G 78)), (1, .int x1), (2, .int (x2 + (1 : Int32)))] [1, 2, 0] 2 dX10_findComing_47 rfl rfl (by decide) rfl ?_
    refine go_goto 19 dX10_findComing_50 (by decide) ?_
    exact h
set_option maxRecDepth 100000 in
theorem eX10_findWays {G : gC} {l : Launch} {a1 : Int32} {μ : Mem} {P : Mem → Prop} (h : qX10_findComing G l  μ (fun (μ1 : Mem) => hX10_findWays_6 G l P a1 a1 μ1)) : qX10_findWays G l a1 μ P := by
  refine Sp.of (by decide) (Nat.le_of_ble_eq_true rfl) (lv := [(0, .ref (ga G 78)), (1, .int a1)]) rfl ?_
  refine go_aload_n dX10_findWays_0 rfl 0 rfl ?_
  refine go_callV (As := []) (rest := []) dX10_findWays_1 lX10_226 kX10_findComing rfl (by decide) (Nat.le_of_ble_eq_true rfl) (g_lt rfl) (gs_78 G _ _) rfl (by decide) rfl (gV_go (fun μ1 h => ?_)) h
  refine go_iload_n dX10_findWays_4 rfl 1 rfl ?_
  refine go_istore_n [(0, .ref (ga G 78)), (1, .int a1), (2, .int a1)] [1, 2, 0] dX10_findWays_5 rfl (by decide) rfl ?_
  exact h
set_option maxRecDepth 100000 in
theorem eX10_findWays_6 {G : gC} {l : Launch} {P : Mem → Prop} {x1 : Int32} {x2 : Int32} {μ : Mem} (h : ((x2 < 0) → P μ) ∧ ((¬ x2 < 0) → ((¬ x2 = x1) → qX10_one G l (0 : Int32) μ (fun (r6 : Int32) (μ5 : Mem) => vp_in x2 1024 ∧ hX10_findWays_32 G l P x1 x2 (0 : Int32) (gm_wl μ5 x2.toNatClampNeg (r6).toInt64))) ∧ ((x2 = x1) → qX10_one G l (1 : Int32) μ (fun (r9 : Int32) (μ8 : Mem) => vp_in x2 1024 ∧ hX10_findWays_32 G l P x1 x2 (0 : Int32) (gm_wl μ8 x2.toNatClampNeg (r9).toInt64))))) : hX10_findWays_6 G l P x1 x2 μ := by
  refine go_iload_n dX10_findWays_6 rfl 2 rfl ?_
  refine go_if_lt 104 dX10_findWays_7 (by decide) (fun c3 => ?_) (fun c3 => ?_)
  · have h := h.1 c3
    exact go_vret dX10_findWays_104 rfl (Nat.le_refl _) (Nat.le_refl _) ⟨rfl, h⟩
  · have h := h.2 c3
    refine go_aload_n dX10_findWays_10 rfl 0 rfl ?_
    refine go_get (.ref (ga G 88)) dX10_findWays_11 fX10_41 (g_lt rfl) (gs_78 G _ _) rfl ?_
    refine go_iload_n dX10_findWays_14 rfl 2 rfl ?_
    refine go_iload_n dX10_findWays_15 rfl 2 rfl ?_
    refine go_iload_n dX10_findWays_16 rfl 1 rfl ?_
    refine go_icmp_ne 24 dX10_findWays_17 (by decide) (fun c4 => ?_) (fun c4 => ?_)
    · have h := h.1 c4
      refine go_iconst (v := 0) dX10_findWays_24 (by decide) ?_
      refine go_callS (As := [.int (0 : Int32)]) (rest := [.int x2, .ref (ga G 88)]) dX10_findWays_25 lX10_154 kX10_one rfl (by decide) (Nat.le_of_ble_eq_true rfl) (by decide) rfl (gI_go (fun r6 μ5 h => ?_)) h
      refine go_i2l dX10_findWays_28 ?_
      obtain ⟨b7, h⟩ := h
      refine go_last dX10_findWays_29 b7 ?_
      refine go_iconst (v := 0) dX10_findWays_30 (by decide) ?_
      refine go_istore_n [(0, .ref (ga G 78)), (1, .int x1), (2, .int x2), (3, .int (0 : Int32))] [1, 2, 3, 0] dX10_findWays_31 rfl (by decide) rfl ?_
      exact h
    · have h := h.2 c4
      refine go_iconst (v := 1) dX10_findWays_20 (by decide) ?_
      refine go_goto 25 dX10_findWays_21 (by decide) ?_
      refine go_callS (As := [.int (1 : Int32)]) (rest := [.int x2, .ref (ga G 88)]) dX10_findWays_25 lX10_154 kX10_one rfl (by decide) (Nat.le_of_ble_eq_true rfl) (by decide) rfl (gI_go (fun r9 μ8 h => ?_)) h
      refine go_i2l dX10_findWays_28 ?_
      obtain ⟨b10, h⟩ := h
      refine go_last dX10_findWays_29 b10 ?_
      refine go_iconst (v := 0) dX10_findWays_30 (by decide) ?_
      refine go_istore_n [(0, .ref (ga G 78)), (1, .int x1), (2, .int x2), (3, .int (0 : Int32))] [1, 2, 3, 0] dX10_findWays_31 rfl (by decide) rfl ?_
      exact h
set_option maxRecDepth 100000 in
theorem eX10_findWays_32 {G : gC} {l : Launch} {P : Mem → Prop} {x1 : Int32} {x2 : Int32} {x3 : Int32} {μ : Mem} (h : (((gm_r μ 78 0) ≤ x3) → hX10_findWays_6 G l P x1 (x2 + (-1 : Int32)) μ) ∧ ((¬ (gm_r μ 78 0) ≤ x3) → ((¬ (x2 &&& (x1 ^^^ (-1 : Int32))) = 0) → hX10_findWays_6 G l P x1 (x2 + (-1 : Int32)) μ) ∧ (((x2 &&& (x1 ^^^ (-1 : Int32))) = 0) → vp_in x2 1024 ∧ qX10_has G l (gm_r μ 90 x2.toNatClampNeg) x3 μ (fun (r15 : Int32) (μ14 : Mem) => ((r15 = 0) → hX10_findWays_32 G l P x1 x2 (x3 + (1 : Int32)) (gm_wl μ14 x2.toNatClampNeg ((gm_l μ x2.toNatClampNeg) + (0 : Int64)))) ∧ ((¬ r15 = 0) → qX10_has G l x1 x3 μ14 (fun (r18 : Int32) (μ17 : Mem) => ((r18 = 0) → hX10_findWays_32 G l P x1 x2 (x3 + (1 : Int32)) (gm_wl μ17 x2.toNatClampNeg ((gm_l μ x2.toNatClampNeg) + (0 : Int64)))) ∧ ((¬ r18 = 0) → vp_in (x2 ||| ((1 : Int32) <<< (x3 &&& 31))) 1024 ∧ hX10_findWays_32 G l P x1 x2 (x3 + (1 : Int32)) (gm_wl μ17 x2.toNatClampNeg ((gm_l μ x2.toNatClampNeg) + (gm_l μ17 (x2 ||| ((1 : Int32) <<< (x3 &&& 31))).toNatClampNeg)))))))))) : hX10_findWays_32 G l P x1 x2 x3 μ := by
  refine go_iload_n dX10_findWays_32 rfl 3 rfl ?_
  refine go_aload_n dX10_findWays_33 rfl 0 rfl ?_
  refine go_get (.int (gm_r μ 78 0)) dX10_findWays_34 fX10_174 (g_lt rfl) (gs_78 G _ _) rfl ?_
  refine go_icmp_ge 98 dX10_findWays_37 (by decide) (fun c11 => ?_) (fun c11 => ?_)
  · have h := h.1 c11
    refine go_iinc (v := (x2 + (-1 : Int32))) [(0, .ref (ga G 78)), (1, .int x1), (2, .int (x2 + (-1 : Int32))), (3, .int x3)] [1, 2, 0, 3] 2 dX10_findWays_98 rfl rfl (by decide) rfl ?_
    refine go_goto 6 dX10_findWays_101 (by decide) ?_
    exact go_sub [0, 1, 2] rfl h
  · have h := h.2 c11
    refine go_iload_n dX10_findWays_40 rfl 2 rfl ?_
    refine go_iload_n dX10_findWays_41 rfl 1 rfl ?_
    refine go_iconst (v := -1) dX10_findWays_42 (by decide) ?_
    refine go_ixor dX10_findWays_43 ?_
    refine go_iand dX10_findWays_44 ?_
    refine go_if_ne 98 dX10_findWays_45 (by decide) (fun c12 => ?_) (fun c12 => ?_)
    · have h := h.1 c12
      refine go_iinc (v := (x2 + (-1 : Int32))) [(0, .ref (ga G 78)), (1, .int x1), (2, .int (x2 + (-1 : Int32))), (3, .int x3)] [1, 2, 0, 3] 2 dX10_findWays_98 rfl rfl (by decide) rfl ?_
      refine go_goto 6 dX10_findWays_101 (by decide) ?_
      exact go_sub [0, 1, 2] rfl h
    · have h := h.2 c12
      refine go_aload_n dX10_findWays_48 rfl 0 rfl ?_
      refine go_get (.ref (ga G 88)) dX10_findWays_49 fX10_41 (g_lt rfl) (gs_78 G _ _) rfl ?_
      refine go_iload_n dX10_findWays_52 rfl 2 rfl ?_
      refine go_dup2 dX10_findWays_53 rfl rfl ?_
      obtain ⟨b13, h⟩ := h
      refine go_lald dX10_findWays_54 b13 ?_
      refine go_aload_n dX10_findWays_55 rfl 0 rfl ?_
      refine go_get (.ref (ga G 90)) dX10_findWays_56 fX10_49 (g_lt rfl) (gs_78 G _ _) rfl ?_
      refine go_iload_n dX10_findWays_59 rfl 2 rfl ?_
      refine go_ialdv ((gm_r μ 90 x2.toNatClampNeg)) dX10_findWays_60 (g_lt rfl) (gs_90 G) b13 rfl ?_
      refine go_iload_n dX10_findWays_61 rfl 3 rfl ?_
      refine go_callS (As := [.int (gm_r μ 90 x2.toNatClampNeg), .int x3]) (rest := [.long (gm_l μ x2.toNatClampNeg), .int x2, .ref (ga G 88)]) dX10_findWays_62 lX10_143 kX10_has rfl (by decide) (Nat.le_of_ble_eq_true rfl) (by decide) rfl (gI_go (fun r15 μ14 h => ?_)) h
      refine go_if_eq 89 dX10_findWays_65 (by decide) (fun c16 => ?_) (fun c16 => ?_)
      · have h := h.1 c16
        refine go_lconst (v := 0) dX10_findWays_89 (by decide) ?_
        refine go_ladd dX10_findWays_90 ?_
        refine go_last dX10_findWays_91 b13 ?_
        refine go_iinc (v := (x3 + (1 : Int32))) [(0, .ref (ga G 78)), (1, .int x1), (2, .int x2), (3, .int (x3 + (1 : Int32)))] [1, 2, 3, 0] 3 dX10_findWays_92 rfl rfl (by decide) rfl ?_
        refine go_goto 32 dX10_findWays_95 (by decide) ?_
        exact h
      · have h := h.2 c16
        refine go_iload_n dX10_findWays_68 rfl 1 rfl ?_
        refine go_iload_n dX10_findWays_69 rfl 3 rfl ?_
        refine go_callS (As := [.int x1, .int x3]) (rest := [.long (gm_l μ x2.toNatClampNeg), .int x2, .ref (ga G 88)]) dX10_findWays_70 lX10_143 kX10_has rfl (by decide) (Nat.le_of_ble_eq_true rfl) (by decide) rfl (gI_go (fun r18 μ17 h => ?_)) h
        refine go_if_eq 89 dX10_findWays_73 (by decide) (fun c19 => ?_) (fun c19 => ?_)
        · have h := h.1 c19
          refine go_lconst (v := 0) dX10_findWays_89 (by decide) ?_
          refine go_ladd dX10_findWays_90 ?_
          refine go_last dX10_findWays_91 b13 ?_
          refine go_iinc (v := (x3 + (1 : Int32))) [(0, .ref (ga G 78)), (1, .int x1), (2, .int x2), (3, .int (x3 + (1 : Int32)))] [1, 2, 3, 0] 3 dX10_findWays_92 rfl rfl (by decide) rfl ?_
          refine go_goto 32 dX10_findWays_95 (by decide) ?_
          exact h
        · have h := h.2 c19
          refine go_aload_n dX10_findWays_76 rfl 0 rfl ?_
          refine go_get (.ref (ga G 88)) dX10_findWays_77 fX10_41 (g_lt rfl) (gs_78 G _ _) rfl ?_
          refine go_iload_n dX10_findWays_80 rfl 2 rfl ?_
          refine go_iconst (v := 1) dX10_findWays_81 (by decide) ?_
          refine go_iload_n dX10_findWays_82 rfl 3 rfl ?_
          refine go_ishl dX10_findWays_83 ?_
          refine go_ior dX10_findWays_84 ?_
          obtain ⟨b20, h⟩ := h
          refine go_lald dX10_findWays_85 b20 ?_
          refine go_goto 90 dX10_findWays_86 (by decide) ?_
          refine go_ladd dX10_findWays_90 ?_
          refine go_last dX10_findWays_91 b13 ?_
          refine go_iinc (v := (x3 + (1 : Int32))) [(0, .ref (ga G 78)), (1, .int x1), (2, .int x2), (3, .int (x3 + (1 : Int32)))] [1, 2, 3, 0] 3 dX10_findWays_92 rfl rfl (by decide) rfl ?_
          refine go_goto 32 dX10_findWays_95 (by decide) ?_
          exact h
set_option maxRecDepth 100000 in
theorem eX10_findGood {G : gC} {l : Launch}  {μ : Mem} {P : Mem → Prop} (h : qX10_findComing G l  μ (fun (μ1 : Mem) => hX10_findGood_6 G l P (0 : Int32) μ1)) : qX10_findGood G l  μ P := by
  refine Sp.of (by decide) (Nat.le_of_ble_eq_true rfl) (lv := [(0, .ref (ga G 78))]) rfl ?_
  refine go_aload_n dX10_findGood_0 rfl 0 rfl ?_
  refine go_callV (As := []) (rest := []) dX10_findGood_1 lX10_226 kX10_findComing rfl (by decide) (Nat.le_of_ble_eq_true rfl) (g_lt rfl) (gs_78 G _ _) rfl (by decide) rfl (gV_go (fun μ1 h => ?_)) h
  refine go_iconst (v := 0) dX10_findGood_4 (by decide) ?_
  refine go_istore_n [(0, .ref (ga G 78)), (1, .int (0 : Int32))] [1, 0] dX10_findGood_5 rfl (by decide) rfl ?_
  exact h
set_option maxRecDepth 100000 in
theorem eX10_findGood_6 {G : gC} {l : Launch} {P : Mem → Prop} {x1 : Int32} {μ : Mem} (h : qX10_all G l  μ (fun (r4 : Int32) (μ3 : Mem) => ((r4 < x1) → P μ3) ∧ ((¬ r4 < x1) → ((¬ x1 = 0) → vp_in x1 1024 ∧ hX10_findGood_31 G l P x1 (0 : Int32) (gm_w μ3 89 x1.toNatClampNeg (0 : Int32))) ∧ ((x1 = 0) → vp_in x1 1024 ∧ hX10_findGood_31 G l P x1 (0 : Int32) (gm_w μ3 89 x1.toNatClampNeg (1 : Int32)))))) : hX10_findGood_6 G l P x1 μ := by
  refine go_iload_n dX10_findGood_6 rfl 1 rfl ?_
  refine go_aload_n dX10_findGood_7 rfl 0 rfl ?_
  refine go_callV (As := []) (rest := [.int x1]) dX10_findGood_8 lX10_192 kX10_all rfl (by decide) (Nat.le_of_ble_eq_true rfl) (g_lt rfl) (gs_78 G _ _) rfl (by decide) rfl (gI_go (fun r4 μ3 h => ?_)) h
  refine go_icmp_gt 109 dX10_findGood_11 (by decide) (fun c5 => ?_) (fun c5 => ?_)
  · have h := h.1 c5
    exact go_vret dX10_findGood_109 rfl (Nat.le_refl _) (Nat.le_refl _) ⟨rfl, h⟩
  · have h := h.2 c5
    refine go_aload_n dX10_findGood_14 rfl 0 rfl ?_
    refine go_get (.ref (ga G 89)) dX10_findGood_15 fX10_45 (g_lt rfl) (gs_78 G _ _) rfl ?_
    refine go_iload_n dX10_findGood_18 rfl 1 rfl ?_
    refine go_iload_n dX10_findGood_19 rfl 1 rfl ?_
    refine go_if_ne 27 dX10_findGood_20 (by decide) (fun c6 => ?_) (fun c6 => ?_)
    · have h := h.1 c6
      refine go_iconst (v := 0) dX10_findGood_27 (by decide) ?_
      obtain ⟨b7, h⟩ := h
      refine go_zast dX10_findGood_28 (g_lt rfl) (gs_89 G) b7 ?_
      refine go_iconst (v := 0) dX10_findGood_29 (by decide) ?_
      refine go_istore_n [(0, .ref (ga G 78)), (1, .int x1), (2, .int (0 : Int32))] [1, 2, 0] dX10_findGood_30 rfl (by decide) rfl ?_
      exact h
    · have h := h.2 c6
      refine go_iconst (v := 1) dX10_findGood_23 (by decide) ?_
      refine go_goto 28 dX10_findGood_24 (by decide) ?_
      obtain ⟨b8, h⟩ := h
      refine go_zast dX10_findGood_28 (g_lt rfl) (gs_89 G) b8 ?_
      refine go_iconst (v := 0) dX10_findGood_29 (by decide) ?_
      refine go_istore_n [(0, .ref (ga G 78)), (1, .int x1), (2, .int (0 : Int32))] [1, 2, 0] dX10_findGood_30 rfl (by decide) rfl ?_
      exact h
set_option maxRecDepth 100000 in
theorem eX10_findGood_31 {G : gC} {l : Launch} {P : Mem → Prop} {x1 : Int32} {x2 : Int32} {μ : Mem} (h : (((gm_r μ 78 0) ≤ x2) → hX10_findGood_6 G l P (x1 + (1 : Int32)) μ) ∧ ((¬ (gm_r μ 78 0) ≤ x2) → ∀ v10 : Int32, v10 = (x1 &&& (((1 : Int32) <<< (x2 &&& 31)) ^^^ (-1 : Int32))) → vp_in x1 1024 ∧ ((¬ (gm_r μ 89 x1.toNatClampNeg) = 0) → hX10_findGood_31 G l P x1 (x2 + (1 : Int32)) (gm_w μ 89 x1.toNatClampNeg (1 : Int32))) ∧ (((gm_r μ 89 x1.toNatClampNeg) = 0) → qX10_has G l x1 x2 μ (fun (r14 : Int32) (μ13 : Mem) => ((r14 = 0) → hX10_findGood_31 G l P x1 (x2 + (1 : Int32)) (gm_w μ13 89 x1.toNatClampNeg (0 : Int32))) ∧ ((¬ r14 = 0) → vp_in v10 1024 ∧ (((gm_r μ13 89 v10.toNatClampNeg) = 0) → hX10_findGood_31 G l P x1 (x2 + (1 : Int32)) (gm_w μ13 89 x1.toNatClampNeg (0 : Int32))) ∧ ((¬ (gm_r μ13 89 v10.toNatClampNeg) = 0) → qX10_has G l (gm_r μ13 90 v10.toNatClampNeg) x2 μ13 (fun (r19 : Int32) (μ18 : Mem) => ((r19 = 0) → hX10_findGood_31 G l P x1 (x2 + (1 : Int32)) (gm_w μ18 89 x1.toNatClampNeg (0 : Int32))) ∧ ((¬ r19 = 0) → hX10_findGood_31 G l P x1 (x2 + (1 : Int32)) (gm_w μ18 89 x1.toNatClampNeg (1 : Int32)))))))))) : hX10_findGood_31 G l P x1 x2 μ := by
  refine go_iload_n dX10_findGood_31 rfl 2 rfl ?_
  refine go_aload_n dX10_findGood_32 rfl 0 rfl ?_
  refine go_get (.int (gm_r μ 78 0)) dX10_findGood_33 fX10_174 (g_lt rfl) (gs_78 G _ _) rfl ?_
  refine go_icmp_ge 103 dX10_findGood_36 (by decide) (fun c9 => ?_) (fun c9 => ?_)
  · have h := h.1 c9
    refine go_iinc (v := (x1 + (1 : Int32))) [(0, .ref (ga G 78)), (1, .int (x1 + (1 : Int32))), (2, .int x2)] [1, 0, 2] 1 dX10_findGood_103 rfl rfl (by decide) rfl ?_
    refine go_goto 6 dX10_findGood_106 (by decide) ?_
    exact go_sub [0, 1] rfl h
  · have h := h.2 c9
    refine go_iload_n dX10_findGood_39 rfl 1 rfl ?_
    refine go_iconst (v := 1) dX10_findGood_40 (by decide) ?_
    refine go_iload_n dX10_findGood_41 rfl 2 rfl ?_
    refine go_ishl dX10_findGood_42 ?_
    refine go_iconst (v := -1) dX10_findGood_43 (by decide) ?_
    refine go_ixor dX10_findGood_44 ?_
    refine go_iand dX10_findGood_45 ?_
    refine go_topi (fun v10 e_v10 => ?_)
    have h := h v10 e_v10
    refine go_istore_n [(0, .ref (ga G 78)), (1, .int x1), (2, .int x2), (3, .int v10)] [1, 2, 3, 0] dX10_findGood_46 rfl (by decide) rfl ?_
    refine go_aload_n dX10_findGood_47 rfl 0 rfl ?_
    refine go_get (.ref (ga G 89)) dX10_findGood_48 fX10_45 (g_lt rfl) (gs_78 G _ _) rfl ?_
    refine go_iload_n dX10_findGood_51 rfl 1 rfl ?_
    refine go_aload_n dX10_findGood_52 rfl 0 rfl ?_
    refine go_get (.ref (ga G 89)) dX10_findGood_53 fX10_45 (g_lt rfl) (gs_78 G _ _) rfl ?_
    refine go_iload_n dX10_findGood_56 rfl 1 rfl ?_
    obtain ⟨b11, h⟩ := h
    refine go_zaldv ((gm_r μ 89 x1.toNatClampNeg)) dX10_findGood_57 (g_lt rfl) (gs_89 G) b11 rfl ?_
    refine go_if_ne 91 dX10_findGood_58 (by decide) (fun c12 => ?_) (fun c12 => ?_)
    · have h := h.1 c12
      refine go_iconst (v := 1) dX10_findGood_91 (by decide) ?_
      refine go_goto 96 dX10_findGood_92 (by decide) ?_
      refine go_zast dX10_findGood_96 (g_lt rfl) (gs_89 G) b11 ?_
      refine go_iinc (v := (x2 + (1 : Int32))) [(0, .ref (ga G 78)), (1, .int x1), (2, .int (x2 + (1 : Int32))), (3, .int v10)] [1, 2, 0, 3] 2 dX10_findGood_97 rfl rfl (by decide) rfl ?_
      refine go_goto 31 dX10_findGood_100 (by decide) ?_
      exact go_sub [0, 1, 2] rfl h
    · have h := h.2 c12
      refine go_iload_n dX10_findGood_61 rfl 1 rfl ?_
      refine go_iload_n dX10_findGood_62 rfl 2 rfl ?_
      refine go_callS (As := [.int x1, .int x2]) (rest := [.int x1, .ref (ga G 89)]) dX10_findGood_63 lX10_143 kX10_has rfl (by decide) (Nat.le_of_ble_eq_true rfl) (by decide) rfl (gI_go (fun r14 μ13 h => ?_)) h
      refine go_if_eq 95 dX10_findGood_66 (by decide) (fun c15 => ?_) (fun c15 => ?_)
      · have h := h.1 c15
        refine go_iconst (v := 0) dX10_findGood_95 (by decide) ?_
        refine go_zast dX10_findGood_96 (g_lt rfl) (gs_89 G) b11 ?_
        refine go_iinc (v := (x2 + (1 : Int32))) [(0, .ref (ga G 78)), (1, .int x1), (2, .int (x2 + (1 : Int32))), (3, .int v10)] [1, 2, 0, 3] 2 dX10_findGood_97 rfl rfl (by decide) rfl ?_
        refine go_goto 31 dX10_findGood_100 (by decide) ?_
        exact go_sub [0, 1, 2] rfl h
      · have h := h.2 c15
        refine go_aload_n dX10_findGood_69 rfl 0 rfl ?_
        refine go_get (.ref (ga G 89)) dX10_findGood_70 fX10_45 (g_lt rfl) (gs_78 G _ _) rfl ?_
        refine go_iload_n dX10_findGood_73 rfl 3 rfl ?_
        obtain ⟨b16, h⟩ := h
        refine go_zaldv ((gm_r μ13 89 v10.toNatClampNeg)) dX10_findGood_74 (g_lt rfl) (gs_89 G) b16 rfl ?_
        refine go_if_eq 95 dX10_findGood_75 (by decide) (fun c17 => ?_) (fun c17 => ?_)
        · have h := h.1 c17
          refine go_iconst (v := 0) dX10_findGood_95 (by decide) ?_
          refine go_zast dX10_findGood_96 (g_lt rfl) (gs_89 G) b11 ?_
          refine go_iinc (v := (x2 + (1 : Int32))) [(0, .ref (ga G 78)), (1, .int x1), (2, .int (x2 + (1 : Int32))), (3, .int v10)] [1, 2, 0, 3] 2 dX10_findGood_97 rfl rfl (by decide) rfl ?_
          refine go_goto 31 dX10_findGood_100 (by decide) ?_
          exact go_sub [0, 1, 2] rfl h
        · have h := h.2 c17
          refine go_aload_n dX10_findGood_78 rfl 0 rfl ?_
          refine go_get (.ref (ga G 90)) dX10_findGood_79 fX10_49 (g_lt rfl) (gs_78 G _ _) rfl ?_
          refine go_iload_n dX10_findGood_82 rfl 3 rfl ?_
          refine go_ialdv ((gm_r μ13 90 v10.toNatClampNeg)) dX10_findGood_83 (g_lt rfl) (gs_90 G) b16 rfl ?_
          refine go_iload_n dX10_findGood_84 rfl 2 rfl ?_
          refine go_callS (As := [.int (gm_r μ13 90 v10.toNatClampNeg), .int x2]) (rest := [.int x1, .ref (ga G 89)]) dX10_findGood_85 lX10_143 kX10_has rfl (by decide) (Nat.le_of_ble_eq_true rfl) (by decide) rfl (gI_go (fun r19 μ18 h => ?_)) h
          refine go_if_eq 95 dX10_findGood_88 (by decide) (fun c20 => ?_) (fun c20 => ?_)
          · have h := h.1 c20
            refine go_iconst (v := 0) dX10_findGood_95 (by decide) ?_
            refine go_zast dX10_findGood_96 (g_lt rfl) (gs_89 G) b11 ?_
            refine go_iinc (v := (x2 + (1 : Int32))) [(0, .ref (ga G 78)), (1, .int x1), (2, .int (x2 + (1 : Int32))), (3, .int v10)] [1, 2, 0, 3] 2 dX10_findGood_97 rfl rfl (by decide) rfl ?_
            refine go_goto 31 dX10_findGood_100 (by decide) ?_
            exact go_sub [0, 1, 2] rfl h
          · have h := h.2 c20
            refine go_iconst (v := 1) dX10_findGood_91 (by decide) ?_
            refine go_goto 96 dX10_findGood_92 (by decide) ?_
            refine go_zast dX10_findGood_96 (g_lt rfl) (gs_89 G) b11 ?_
            refine go_iinc (v := (x2 + (1 : Int32))) [(0, .ref (ga G 78)), (1, .int x1), (2, .int (x2 + (1 : Int32))), (3, .int v10)] [1, 2, 0, 3] 2 dX10_findGood_97 rfl rfl (by decide) rfl ?_
            refine go_goto 31 dX10_findGood_100 (by decide) ?_
            exact go_sub [0, 1, 2] rfl h
set_option maxRecDepth 100000 in
theorem eX10_orders {G : gC} {l : Launch} {a1 : Int32} {μ : Mem} {P : Int64 → Mem → Prop} (h : qX10_noSet G l a1 μ (fun (r2 : Int32) (μ1 : Mem) => ((r2 = 0) → qX10_findWays G l a1 μ1 (fun (μ4 : Mem) => P (gm_l μ4 0) μ4)) ∧ ((¬ r2 = 0) → P (-1001 : Int64) μ1))) : qX10_orders G l a1 μ P := by
  refine Sp.of (by decide) (Nat.le_of_ble_eq_true rfl) (lv := [(0, .ref (ga G 78)), (1, .int a1)]) rfl ?_
  refine go_aload_n dX10_orders_0 rfl 0 rfl ?_
  refine go_iload_n dX10_orders_1 rfl 1 rfl ?_
  refine go_callV (As := [.int a1]) (rest := []) dX10_orders_2 lX10_220 kX10_noSet rfl (by decide) (Nat.le_of_ble_eq_true rfl) (g_lt rfl) (gs_78 G _ _) rfl (by decide) rfl (gI_go (fun r2 μ1 h => ?_)) h
  refine go_if_eq 12 dX10_orders_5 (by decide) (fun c3 => ?_) (fun c3 => ?_)
  · have h := h.1 c3
    refine go_aload_n dX10_orders_12 rfl 0 rfl ?_
    refine go_iload_n dX10_orders_13 rfl 1 rfl ?_
    refine go_callV (As := [.int a1]) (rest := []) dX10_orders_14 lX10_231 kX10_findWays rfl (by decide) (Nat.le_of_ble_eq_true rfl) (g_lt rfl) (gs_78 G _ _) rfl (by decide) rfl (gV_go (fun μ4 h => ?_)) h
    refine go_aload_n dX10_orders_17 rfl 0 rfl ?_
    refine go_get (.ref (ga G 88)) dX10_orders_18 fX10_41 (g_lt rfl) (gs_78 G _ _) rfl ?_
    refine go_iconst (v := 0) dX10_orders_21 (by decide) ?_
    refine go_lald dX10_orders_22 (by unfold vp_in; decide) ?_
    exact go_lret dX10_orders_23 rfl (Nat.le_refl _) (Nat.le_refl _) ⟨_, rfl, h⟩
  · have h := h.2 c3
    refine go_ldc2_w (v := -1001) (g_in 1209 (by decide +kernel) rfl) dX10_orders_8 ?_
    exact go_lret dX10_orders_11 rfl (Nat.le_refl _) (Nat.le_refl _) ⟨_, rfl, h⟩
set_option maxRecDepth 100000 in
theorem eX10_order {G : gC} {l : Launch} {a1 : Int32} {a2 : Int64} {a3 : Int32} {μ : Mem} {P : Int32 → Mem → Prop} (h : qX10_noSet G l a1 μ (fun (r2 : Int32) (μ1 : Mem) => ((r2 = 0) → ((0 ≤ (lg_cmp a2 (0 : Int64))) → qX10_findWays G l a1 μ1 (fun (μ5 : Mem) => (((lg_cmp (gm_l μ5 0) a2) ≤ 0) → P (-1 : Int32) μ5) ∧ ((¬ (lg_cmp (gm_l μ5 0) a2) ≤ 0) → ((0 ≤ a3) → hX10_order_54 G l P a1 a3 a2 (0 : Int32) (0 : Int32) μ5) ∧ ((¬ 0 ≤ a3) → P (-1 : Int32) μ5)))) ∧ ((¬ 0 ≤ (lg_cmp a2 (0 : Int64))) → P (-1002 : Int32) μ1)) ∧ ((¬ r2 = 0) → P (-1001 : Int32) μ1))) : qX10_order G l a1 a2 a3 μ P := by
  refine Sp.of (by decide) (Nat.le_of_ble_eq_true rfl) (lv := [(0, .ref (ga G 78)), (1, .int a1), (2, .long a2), (4, .int a3)]) rfl ?_
  refine go_aload_n dX10_order_0 rfl 0 rfl ?_
  refine go_iload_n dX10_order_1 rfl 1 rfl ?_
  refine go_callV (As := [.int a1]) (rest := []) dX10_order_2 lX10_220 kX10_noSet rfl (by decide) (Nat.le_of_ble_eq_true rfl) (g_lt rfl) (gs_78 G _ _) rfl (by decide) rfl (gI_go (fun r2 μ1 h => ?_)) h
  refine go_if_eq 12 dX10_order_5 (by decide) (fun c3 => ?_) (fun c3 => ?_)
  · have h := h.1 c3
    refine go_lload_n dX10_order_12 rfl 2 rfl ?_
    refine go_lconst (v := 0) dX10_order_13 (by decide) ?_
    refine go_lcmp dX10_order_14 ?_
    refine go_if_ge 22 dX10_order_15 (by decide) (fun c4 => ?_) (fun c4 => ?_)
    · have h := h.1 c4
      refine go_aload_n dX10_order_22 rfl 0 rfl ?_
      refine go_iload_n dX10_order_23 rfl 1 rfl ?_
      refine go_callV (As := [.int a1]) (rest := []) dX10_order_24 lX10_231 kX10_findWays rfl (by decide) (Nat.le_of_ble_eq_true rfl) (g_lt rfl) (gs_78 G _ _) rfl (by decide) rfl (gV_go (fun μ5 h => ?_)) h
      refine go_aload_n dX10_order_27 rfl 0 rfl ?_
      refine go_get (.ref (ga G 88)) dX10_order_28 fX10_41 (g_lt rfl) (gs_78 G _ _) rfl ?_
      refine go_iconst (v := 0) dX10_order_31 (by decide) ?_
      refine go_lald dX10_order_32 (by unfold vp_in; decide) ?_
      refine go_lload_n dX10_order_33 rfl 2 rfl ?_
      refine go_lcmp dX10_order_34 ?_
      refine go_if_le 43 dX10_order_35 (by decide) (fun c7 => ?_) (fun c7 => ?_)
      · have h := h.1 c7
        refine go_iconst (v := -1) dX10_order_43 (by decide) ?_
        exact go_iret dX10_order_44 rfl (Nat.le_refl _) (Nat.le_refl _) ⟨_, rfl, h⟩
      · have h := h.2 c7
        refine go_iload dX10_order_38 3 rfl ?_
        refine go_if_ge 45 dX10_order_40 (by decide) (fun c8 => ?_) (fun c8 => ?_)
        · have h := h.1 c8
          refine go_lload_n dX10_order_45 rfl 2 rfl ?_
          refine go_lstore [(0, .ref (ga G 78)), (1, .int a1), (2, .long a2), (4, .int a3), (5, .long a2)] [1, 2, 3, 4, 0] dX10_order_46 (by decide) rfl ?_
          refine go_iconst (v := 0) dX10_order_48 (by decide) ?_
          refine go_istore [(0, .ref (ga G 78)), (1, .int a1), (2, .long a2), (4, .int a3), (5, .long a2), (7, .int (0 : Int32))] [1, 2, 3, 4, 5, 0] dX10_order_49 (by decide) rfl ?_
          refine go_iconst (v := 0) dX10_order_51 (by decide) ?_
          refine go_istore [(0, .ref (ga G 78)), (1, .int a1), (2, .long a2), (4, .int a3), (5, .long a2), (7, .int (0 : Int32)), (8, .int (0 : Int32))] [1, 2, 3, 4, 5, 6, 0] dX10_order_52 (by decide) rfl ?_
          exact go_sub [0, 1, 3, 4, 5, 6] rfl h
        · have h := h.2 c8
          refine go_iconst (v := -1) dX10_order_43 (by decide) ?_
          exact go_iret dX10_order_44 rfl (Nat.le_refl _) (Nat.le_refl _) ⟨_, rfl, h⟩
    · have h := h.2 c4
      refine go_sipush (v := -1002) dX10_order_18 (by decide) ?_
      exact go_iret dX10_order_21 rfl (Nat.le_refl _) (Nat.le_refl _) ⟨_, rfl, h⟩
  · have h := h.2 c3
    refine go_sipush (v := -1001) dX10_order_8 (by decide) ?_
    exact go_iret dX10_order_11 rfl (Nat.le_refl _) (Nat.le_refl _) ⟨_, rfl, h⟩
set_option maxRecDepth 100000 in
theorem eX10_order_54 {G : gC} {l : Launch} {P : Int32 → Mem → Prop} {x1 : Int32} {x4 : Int32} {x5 : Int64} {x7 : Int32} {x8 : Int32} {μ : Mem} (h : ((x7 = x1) → P (-1 : Int32) μ) ∧ ((¬ x7 = x1) → hX10_order_66 G l P x1 x4 x5 x7 x8 (-1 : Int32) (0 : Int32) μ)) : hX10_order_54 G l P x1 x4 x5 x7 x8 μ := by
  refine go_iload dX10_order_54 4 rfl ?_
  refine go_iload_n dX10_order_56 rfl 1 rfl ?_
  refine go_icmp_eq 171 dX10_order_57 (by decide) (fun c9 => ?_) (fun c9 => ?_)
  · have h := h.1 c9
    refine go_iconst (v := -1) dX10_order_171 (by decide) ?_
    exact go_iret dX10_order_172 rfl (Nat.le_refl _) (Nat.le_refl _) ⟨_, rfl, h⟩
  · have h := h.2 c9
    refine go_iconst (v := -1) dX10_order_60 (by decide) ?_
    refine go_istore [(0, .ref (ga G 78)), (1, .int x1), (4, .int x4), (5, .long x5), (7, .int x7), (8, .int x8), (9, .int (-1 : Int32))] [1, 2, 3, 4, 5, 6, 0] dX10_order_61 (by decide) rfl ?_
    refine go_iconst (v := 0) dX10_order_63 (by decide) ?_
    refine go_istore [(0, .ref (ga G 78)), (1, .int x1), (4, .int x4), (5, .long x5), (7, .int x7), (8, .int x8), (9, .int (-1 : Int32)), (10, .int (0 : Int32))] [1, 2, 3, 4, 5, 6, 7, 0] dX10_order_64 (by decide) rfl ?_
    exact h
set_option maxRecDepth 100000 in
theorem eX10_order_66 {G : gC} {l : Launch} {P : Int32 → Mem → Prop} {x1 : Int32} {x4 : Int32} {x5 : Int64} {x7 : Int32} {x8 : Int32} {x9 : Int32} {x10 : Int32} {μ : Mem} (h : (((gm_r μ 78 0) ≤ x10) → ((¬ x8 = x4) → ∀ v12 : Int32, v12 = (x7 ||| ((1 : Int32) <<< (x9 &&& 31))) → hX10_order_54 G l P x1 x4 x5 v12 (x8 + (1 : Int32)) μ) ∧ ((x8 = x4) → P x9 μ)) ∧ ((¬ (gm_r μ 78 0) ≤ x10) → ((0 ≤ x9) → ((¬ x8 = x4) → ∀ v15 : Int32, v15 = (x7 ||| ((1 : Int32) <<< (x9 &&& 31))) → hX10_order_54 G l P x1 x4 x5 v15 (x8 + (1 : Int32)) μ) ∧ ((x8 = x4) → P x9 μ)) ∧ ((¬ 0 ≤ x9) → qX10_has G l x1 x10 μ (fun (r17 : Int32) (μ16 : Mem) => ((r17 = 0) → hX10_order_66 G l P x1 x4 x5 x7 x8 x9 (x10 + (1 : Int32)) μ16) ∧ ((¬ r17 = 0) → vp_in x7 1024 ∧ qX10_has G l (gm_r μ16 90 x7.toNatClampNeg) x10 μ16 (fun (r21 : Int32) (μ20 : Mem) => ((r21 = 0) → hX10_order_66 G l P x1 x4 x5 x7 x8 x9 (x10 + (1 : Int32)) μ20) ∧ ((¬ r21 = 0) → vp_in (x7 ||| ((1 : Int32) <<< (x10 &&& 31))) 1024 ∧ ∀ v24 : Int64, v24 = (gm_l μ20 (x7 ||| ((1 : Int32) <<< (x10 &&& 31))).toNatClampNeg) → ((0 ≤ (lg_cmp x5 v24)) → hX10_order_66 G l P x1 x4 (x5 - v24) x7 x8 x9 (x10 + (1 : Int32)) μ20) ∧ ((¬ 0 ≤ (lg_cmp x5 v24)) → hX10_order_66 G l P x1 x4 x5 x7 x8 x10 (x10 + (1 : Int32)) μ20)))))))) : hX10_order_66 G l P x1 x4 x5 x7 x8 x9 x10 μ := by
  refine go_iload dX10_order_66 7 rfl ?_
  refine go_aload_n dX10_order_68 rfl 0 rfl ?_
  refine go_get (.int (gm_r μ 78 0)) dX10_order_69 fX10_174 (g_lt rfl) (gs_78 G _ _) rfl ?_
  refine go_icmp_ge 146 dX10_order_72 (by decide) (fun c10 => ?_) (fun c10 => ?_)
  · have h := h.1 c10
    refine go_iload dX10_order_146 5 rfl ?_
    refine go_iload dX10_order_148 2 rfl ?_
    refine go_icmp_ne 156 dX10_order_150 (by decide) (fun c11 => ?_) (fun c11 => ?_)
    · have h := h.1 c11
      refine go_iload dX10_order_156 4 rfl ?_
      refine go_iconst (v := 1) dX10_order_158 (by decide) ?_
      refine go_iload dX10_order_159 6 rfl ?_
      refine go_ishl dX10_order_161 ?_
      refine go_ior dX10_order_162 ?_
      refine go_topi (fun v12 e_v12 => ?_)
      have h := h v12 e_v12
      refine go_istore [(0, .ref (ga G 78)), (1, .int x1), (4, .int x4), (5, .long x5), (7, .int v12), (8, .int x8), (9, .int x9), (10, .int x10)] [1, 2, 3, 4, 0, 5, 6, 7] dX10_order_163 (by decide) rfl ?_
      refine go_iinc (v := (x8 + (1 : Int32))) [(0, .ref (ga G 78)), (1, .int x1), (4, .int x4), (5, .long x5), (7, .int v12), (8, .int (x8 + (1 : Int32))), (9, .int x9), (10, .int x10)] [1, 2, 3, 4, 5, 0, 6, 7] 5 dX10_order_165 rfl rfl (by decide) rfl ?_
      refine go_goto 54 dX10_order_168 (by decide) ?_
      exact go_sub [0, 1, 2, 3, 4, 5] rfl h
    · have h := h.2 c11
      refine go_iload dX10_order_153 6 rfl ?_
      exact go_iret dX10_order_155 rfl (Nat.le_refl _) (Nat.le_refl _) ⟨_, rfl, h⟩
  · have h := h.2 c10
    refine go_iload dX10_order_75 6 rfl ?_
    refine go_if_ge 146 dX10_order_77 (by decide) (fun c13 => ?_) (fun c13 => ?_)
    · have h := h.1 c13
      refine go_iload dX10_order_146 5 rfl ?_
      refine go_iload dX10_order_148 2 rfl ?_
      refine go_icmp_ne 156 dX10_order_150 (by decide) (fun c14 => ?_) (fun c14 => ?_)
      · have h := h.1 c14
        refine go_iload dX10_order_156 4 rfl ?_
        refine go_iconst (v := 1) dX10_order_158 (by decide) ?_
        refine go_iload dX10_order_159 6 rfl ?_
        refine go_ishl dX10_order_161 ?_
        refine go_ior dX10_order_162 ?_
        refine go_topi (fun v15 e_v15 => ?_)
        have h := h v15 e_v15
        refine go_istore [(0, .ref (ga G 78)), (1, .int x1), (4, .int x4), (5, .long x5), (7, .int v15), (8, .int x8), (9, .int x9), (10, .int x10)] [1, 2, 3, 4, 0, 5, 6, 7] dX10_order_163 (by decide) rfl ?_
        refine go_iinc (v := (x8 + (1 : Int32))) [(0, .ref (ga G 78)), (1, .int x1), (4, .int x4), (5, .long x5), (7, .int v15), (8, .int (x8 + (1 : Int32))), (9, .int x9), (10, .int x10)] [1, 2, 3, 4, 5, 0, 6, 7] 5 dX10_order_165 rfl rfl (by decide) rfl ?_
        refine go_goto 54 dX10_order_168 (by decide) ?_
        exact go_sub [0, 1, 2, 3, 4, 5] rfl h
      · have h := h.2 c14
        refine go_iload dX10_order_153 6 rfl ?_
        exact go_iret dX10_order_155 rfl (Nat.le_refl _) (Nat.le_refl _) ⟨_, rfl, h⟩
    · have h := h.2 c13
      refine go_iload_n dX10_order_80 rfl 1 rfl ?_
      refine go_iload dX10_order_81 7 rfl ?_
      refine go_callS (As := [.int x1, .int x10]) (rest := []) dX10_order_83 lX10_143 kX10_has rfl (by decide) (Nat.le_of_ble_eq_true rfl) (by decide) rfl (gI_go (fun r17 μ16 h => ?_)) h
      refine go_if_eq 140 dX10_order_86 (by decide) (fun c18 => ?_) (fun c18 => ?_)
      · have h := h.1 c18
        refine go_iinc (v := (x10 + (1 : Int32))) [(0, .ref (ga G 78)), (1, .int x1), (4, .int x4), (5, .long x5), (7, .int x7), (8, .int x8), (9, .int x9), (10, .int (x10 + (1 : Int32)))] [1, 2, 3, 4, 5, 6, 7, 0] 7 dX10_order_140 rfl rfl (by decide) rfl ?_
        refine go_goto 66 dX10_order_143 (by decide) ?_
        exact h
      · have h := h.2 c18
        refine go_aload_n dX10_order_89 rfl 0 rfl ?_
        refine go_get (.ref (ga G 90)) dX10_order_90 fX10_49 (g_lt rfl) (gs_78 G _ _) rfl ?_
        refine go_iload dX10_order_93 4 rfl ?_
        obtain ⟨b19, h⟩ := h
        refine go_ialdv ((gm_r μ16 90 x7.toNatClampNeg)) dX10_order_95 (g_lt rfl) (gs_90 G) b19 rfl ?_
        refine go_iload dX10_order_96 7 rfl ?_
        refine go_callS (As := [.int (gm_r μ16 90 x7.toNatClampNeg), .int x10]) (rest := []) dX10_order_98 lX10_143 kX10_has rfl (by decide) (Nat.le_of_ble_eq_true rfl) (by decide) rfl (gI_go (fun r21 μ20 h => ?_)) h
        refine go_if_eq 140 dX10_order_101 (by decide) (fun c22 => ?_) (fun c22 => ?_)
        · have h := h.1 c22
          refine go_iinc (v := (x10 + (1 : Int32))) [(0, .ref (ga G 78)), (1, .int x1), (4, .int x4), (5, .long x5), (7, .int x7), (8, .int x8), (9, .int x9), (10, .int (x10 + (1 : Int32)))] [1, 2, 3, 4, 5, 6, 7, 0] 7 dX10_order_140 rfl rfl (by decide) rfl ?_
          refine go_goto 66 dX10_order_143 (by decide) ?_
          exact h
        · have h := h.2 c22
          refine go_aload_n dX10_order_104 rfl 0 rfl ?_
          refine go_get (.ref (ga G 88)) dX10_order_105 fX10_41 (g_lt rfl) (gs_78 G _ _) rfl ?_
          refine go_iload dX10_order_108 4 rfl ?_
          refine go_iconst (v := 1) dX10_order_110 (by decide) ?_
          refine go_iload dX10_order_111 7 rfl ?_
          refine go_ishl dX10_order_113 ?_
          refine go_ior dX10_order_114 ?_
          obtain ⟨b23, h⟩ := h
          refine go_lald dX10_order_115 b23 ?_
          refine go_topl (fun v24 e_v24 => ?_)
          have h := h v24 e_v24
          refine go_lstore [(0, .ref (ga G 78)), (1, .int x1), (4, .int x4), (5, .long x5), (7, .int x7), (8, .int x8), (9, .int x9), (10, .int x10), (11, .long v24)] [1, 2, 3, 4, 5, 6, 7, 8, 0] dX10_order_116 (by decide) rfl ?_
          refine go_lload dX10_order_118 3 rfl ?_
          refine go_lload dX10_order_120 8 rfl ?_
          refine go_lcmp dX10_order_122 ?_
          refine go_if_ge 133 dX10_order_123 (by decide) (fun c25 => ?_) (fun c25 => ?_)
          · have h := h.1 c25
            refine go_lload dX10_order_133 3 rfl ?_
            refine go_lload dX10_order_135 8 rfl ?_
            refine go_lsub dX10_order_137 ?_
            refine go_lstore [(0, .ref (ga G 78)), (1, .int x1), (4, .int x4), (5, .long (x5 - v24)), (7, .int x7), (8, .int x8), (9, .int x9), (10, .int x10), (11, .long v24)] [1, 2, 3, 0, 4, 5, 6, 7, 8] dX10_order_138 (by decide) rfl ?_
            refine go_iinc (v := (x10 + (1 : Int32))) [(0, .ref (ga G 78)), (1, .int x1), (4, .int x4), (5, .long (x5 - v24)), (7, .int x7), (8, .int x8), (9, .int x9), (10, .int (x10 + (1 : Int32))), (11, .long v24)] [1, 2, 3, 4, 5, 6, 7, 0, 8] 7 dX10_order_140 rfl rfl (by decide) rfl ?_
            refine go_goto 66 dX10_order_143 (by decide) ?_
            exact go_sub [0, 1, 2, 3, 4, 5, 6, 7] rfl h
          · have h := h.2 c25
            refine go_iload dX10_order_126 7 rfl ?_
            refine go_istore [(0, .ref (ga G 78)), (1, .int x1), (4, .int x4), (5, .long x5), (7, .int x7), (8, .int x8), (9, .int x10), (10, .int x10), (11, .long v24)] [1, 2, 3, 4, 5, 6, 0, 7, 8] dX10_order_128 (by decide) rfl ?_
            refine go_goto 140 dX10_order_130 (by decide) ?_
            refine go_iinc (v := (x10 + (1 : Int32))) [(0, .ref (ga G 78)), (1, .int x1), (4, .int x4), (5, .long x5), (7, .int x7), (8, .int x8), (9, .int x10), (10, .int (x10 + (1 : Int32))), (11, .long v24)] [1, 2, 3, 4, 5, 6, 7, 0, 8] 7 dX10_order_140 rfl rfl (by decide) rfl ?_
            refine go_goto 66 dX10_order_143 (by decide) ?_
            exact go_sub [0, 1, 2, 3, 4, 5, 6, 7] rfl h
set_option maxRecDepth 100000 in
theorem eX10_good {G : gC} {l : Launch}  {μ : Mem} {P : Int32 → Mem → Prop} (h : qX10_findGood G l  μ (fun (μ1 : Mem) => hX10_good_8 G l P (0 : Int32) (0 : Int32) μ1)) : qX10_good G l  μ P := by
  refine Sp.of (by decide) (Nat.le_of_ble_eq_true rfl) (lv := [(0, .ref (ga G 78))]) rfl ?_
  refine go_aload_n dX10_good_0 rfl 0 rfl ?_
  refine go_callV (As := []) (rest := []) dX10_good_1 lX10_234 kX10_findGood rfl (by decide) (Nat.le_of_ble_eq_true rfl) (g_lt rfl) (gs_78 G _ _) rfl (by decide) rfl (gV_go (fun μ1 h => ?_)) h
  refine go_iconst (v := 0) dX10_good_4 (by decide) ?_
  refine go_istore_n [(0, .ref (ga G 78)), (1, .int (0 : Int32))] [1, 0] dX10_good_5 rfl (by decide) rfl ?_
  refine go_iconst (v := 0) dX10_good_6 (by decide) ?_
  refine go_istore_n [(0, .ref (ga G 78)), (1, .int (0 : Int32)), (2, .int (0 : Int32))] [1, 2, 0] dX10_good_7 rfl (by decide) rfl ?_
  exact h
set_option maxRecDepth 100000 in
theorem eX10_good_8 {G : gC} {l : Launch} {P : Int32 → Mem → Prop} {x1 : Int32} {x2 : Int32} {μ : Mem} (h : qX10_all G l  μ (fun (r4 : Int32) (μ3 : Mem) => ((r4 < x2) → P x1 μ3) ∧ ((¬ r4 < x2) → vp_in x2 1024 ∧ qX10_one G l (gm_r μ3 89 x2.toNatClampNeg) μ3 (fun (r8 : Int32) (μ7 : Mem) => hX10_good_8 G l P (x1 + r8) (x2 + (1 : Int32)) μ7)))) : hX10_good_8 G l P x1 x2 μ := by
  refine go_iload_n dX10_good_8 rfl 2 rfl ?_
  refine go_aload_n dX10_good_9 rfl 0 rfl ?_
  refine go_callV (As := []) (rest := [.int x2]) dX10_good_10 lX10_192 kX10_all rfl (by decide) (Nat.le_of_ble_eq_true rfl) (g_lt rfl) (gs_78 G _ _) rfl (by decide) rfl (gI_go (fun r4 μ3 h => ?_)) h
  refine go_icmp_gt 34 dX10_good_13 (by decide) (fun c5 => ?_) (fun c5 => ?_)
  · have h := h.1 c5
    refine go_iload_n dX10_good_34 rfl 1 rfl ?_
    exact go_iret dX10_good_35 rfl (Nat.le_refl _) (Nat.le_refl _) ⟨_, rfl, h⟩
  · have h := h.2 c5
    refine go_iload_n dX10_good_16 rfl 1 rfl ?_
    refine go_aload_n dX10_good_17 rfl 0 rfl ?_
    refine go_get (.ref (ga G 89)) dX10_good_18 fX10_45 (g_lt rfl) (gs_78 G _ _) rfl ?_
    refine go_iload_n dX10_good_21 rfl 2 rfl ?_
    obtain ⟨b6, h⟩ := h
    refine go_zaldv ((gm_r μ3 89 x2.toNatClampNeg)) dX10_good_22 (g_lt rfl) (gs_89 G) b6 rfl ?_
    refine go_callS (As := [.int (gm_r μ3 89 x2.toNatClampNeg)]) (rest := [.int x1]) dX10_good_23 lX10_154 kX10_one rfl (by decide) (Nat.le_of_ble_eq_true rfl) (by decide) rfl (gI_go (fun r8 μ7 h => ?_)) h
    refine go_iadd dX10_good_26 ?_
    refine go_istore_n [(0, .ref (ga G 78)), (1, .int (x1 + r8)), (2, .int x2)] [1, 0, 2] dX10_good_27 rfl (by decide) rfl ?_
    refine go_iinc (v := (x2 + (1 : Int32))) [(0, .ref (ga G 78)), (1, .int (x1 + r8)), (2, .int (x2 + (1 : Int32)))] [1, 2, 0] 2 dX10_good_28 rfl rfl (by decide) rfl ?_
    refine go_goto 8 dX10_good_31 (by decide) ?_
    exact h
set_option maxRecDepth 100000 in
theorem eX10_place {G : gC} {l : Launch} {a1 : Int32} {a2 : Int32} {μ : Mem} {P : Int32 → Mem → Prop} (h : qX10_noScene G l a1 μ (fun (r2 : Int32) (μ1 : Mem) => ((r2 = 0) → qX10_in G l (a2).toInt64 (0 : Int64) (1 : Int64) μ1 (fun (r5 : Int32) (μ4 : Mem) => ((¬ r5 = 0) → qX10_all G l  μ4 (fun (r8 : Int32) (μ7 : Mem) => qX10_findWays G l r8 μ7 (fun (μ9 : Mem) => qX10_findGood G l  μ9 (fun (μ11 : Mem) => hX10_place_43 G l P a1 a2 (-1 : Int32) (0 : Int32) μ11)))) ∧ ((r5 = 0) → P (-1002 : Int32) μ4))) ∧ ((¬ r2 = 0) → P (-1001 : Int32) μ1))) : qX10_place G l a1 a2 μ P := by
  refine Sp.of (by decide) (Nat.le_of_ble_eq_true rfl) (lv := [(0, .ref (ga G 78)), (1, .int a1), (2, .int a2)]) rfl ?_
  refine go_aload_n dX10_place_0 rfl 0 rfl ?_
  refine go_iload_n dX10_place_1 rfl 1 rfl ?_
  refine go_callV (As := [.int a1]) (rest := []) dX10_place_2 lX10_195 kX10_noScene rfl (by decide) (Nat.le_of_ble_eq_true rfl) (g_lt rfl) (gs_78 G _ _) rfl (by decide) rfl (gI_go (fun r2 μ1 h => ?_)) h
  refine go_if_eq 12 dX10_place_5 (by decide) (fun c3 => ?_) (fun c3 => ?_)
  · have h := h.1 c3
    refine go_iload_n dX10_place_12 rfl 2 rfl ?_
    refine go_i2l dX10_place_13 ?_
    refine go_lconst (v := 0) dX10_place_14 (by decide) ?_
    refine go_lconst (v := 1) dX10_place_15 (by decide) ?_
    refine go_callS (As := [.long (a2).toInt64, .long (0 : Int64), .long (1 : Int64)]) (rest := []) dX10_place_16 lX10_99 kX10_in rfl (by decide) (Nat.le_of_ble_eq_true rfl) (by decide) rfl (gI_go (fun r5 μ4 h => ?_)) h
    refine go_if_ne 26 dX10_place_19 (by decide) (fun c6 => ?_) (fun c6 => ?_)
    · have h := h.1 c6
      refine go_aload_n dX10_place_26 rfl 0 rfl ?_
      refine go_aload_n dX10_place_27 rfl 0 rfl ?_
      refine go_callV (As := []) (rest := [.ref (ga G 78)]) dX10_place_28 lX10_192 kX10_all rfl (by decide) (Nat.le_of_ble_eq_true rfl) (g_lt rfl) (gs_78 G _ _) rfl (by decide) rfl (gI_go (fun r8 μ7 h => ?_)) h
      refine go_callV (As := [.int r8]) (rest := []) dX10_place_31 lX10_231 kX10_findWays rfl (by decide) (Nat.le_of_ble_eq_true rfl) (g_lt rfl) (gs_78 G _ _) rfl (by decide) rfl (gV_go (fun μ9 h => ?_)) h
      refine go_aload_n dX10_place_34 rfl 0 rfl ?_
      refine go_callV (As := []) (rest := []) dX10_place_35 lX10_234 kX10_findGood rfl (by decide) (Nat.le_of_ble_eq_true rfl) (g_lt rfl) (gs_78 G _ _) rfl (by decide) rfl (gV_go (fun μ11 h => ?_)) h
      refine go_iconst (v := -1) dX10_place_38 (by decide) ?_
      refine go_istore_n [(0, .ref (ga G 78)), (1, .int a1), (2, .int a2), (3, .int (-1 : Int32))] [1, 2, 3, 0] dX10_place_39 rfl (by decide) rfl ?_
      refine go_iconst (v := 0) dX10_place_40 (by decide) ?_
      refine go_istore [(0, .ref (ga G 78)), (1, .int a1), (2, .int a2), (3, .int (-1 : Int32)), (4, .int (0 : Int32))] [1, 2, 3, 4, 0] dX10_place_41 (by decide) rfl ?_
      exact h
    · have h := h.2 c6
      refine go_sipush (v := -1002) dX10_place_22 (by decide) ?_
      exact go_iret dX10_place_25 rfl (Nat.le_refl _) (Nat.le_refl _) ⟨_, rfl, h⟩
  · have h := h.2 c3
    refine go_sipush (v := -1001) dX10_place_8 (by decide) ?_
    exact go_iret dX10_place_11 rfl (Nat.le_refl _) (Nat.le_refl _) ⟨_, rfl, h⟩
set_option maxRecDepth 100000 in
theorem eX10_place_43 {G : gC} {l : Launch} {P : Int32 → Mem → Prop} {x1 : Int32} {x2 : Int32} {x3 : Int32} {x4 : Int32} {μ : Mem} (h : qX10_all G l  μ (fun (r14 : Int32) (μ13 : Mem) => ((r14 < x4) → P x3 μ13) ∧ ((¬ r14 < x4) → vp_in x4 1024 ∧ (((gm_r μ13 89 x4.toNatClampNeg) = 0) → hX10_place_43 G l P x1 x2 x3 (x4 + (1 : Int32)) μ13) ∧ ((¬ (gm_r μ13 89 x4.toNatClampNeg) = 0) → qX10_has G l (gm_r μ13 90 x4.toNatClampNeg) x1 μ13 (fun (r19 : Int32) (μ18 : Mem) => ((r19 = 0) → hX10_place_43 G l P x1 x2 x3 (x4 + (1 : Int32)) μ18) ∧ ((¬ r19 = 0) → vp_in (x4 ||| ((1 : Int32) <<< (x1 &&& 31))) 1024 ∧ (((lg_cmp (gm_l μ18 (x4 ||| ((1 : Int32) <<< (x1 &&& 31))).toNatClampNeg) (0 : Int64)) ≤ 0) → hX10_place_43 G l P x1 x2 x3 (x4 + (1 : Int32)) μ18) ∧ ((¬ (lg_cmp (gm_l μ18 (x4 ||| ((1 : Int32) <<< (x1 &&& 31))).toNatClampNeg) (0 : Int64)) ≤ 0) → qX10_ones G l x4 μ18 (fun (r24 : Int32) (μ23 : Mem) => ((x3 < 0) → hX10_place_43 G l P x1 x2 r24 (x4 + (1 : Int32)) μ23) ∧ ((¬ x3 < 0) → ((¬ x2 = 0) → ((r24 ≤ x3) → hX10_place_43 G l P x1 x2 x3 (x4 + (1 : Int32)) μ23) ∧ ((¬ r24 ≤ x3) → hX10_place_43 G l P x1 x2 r24 (x4 + (1 : Int32)) μ23)) ∧ ((x2 = 0) → ((x3 ≤ r24) → hX10_place_43 G l P x1 x2 x3 (x4 + (1 : Int32)) μ23) ∧ ((¬ x3 ≤ r24) → hX10_place_43 G l P x1 x2 r24 (x4 + (1 : Int32)) μ23))))))))))) : hX10_place_43 G l P x1 x2 x3 x4 μ := by
  refine go_iload dX10_place_43 4 rfl ?_
  refine go_aload_n dX10_place_45 rfl 0 rfl ?_
  refine go_callV (As := []) (rest := [.int x4]) dX10_place_46 lX10_192 kX10_all rfl (by decide) (Nat.le_of_ble_eq_true rfl) (g_lt rfl) (gs_78 G _ _) rfl (by decide) rfl (gI_go (fun r14 μ13 h => ?_)) h
  refine go_icmp_gt 135 dX10_place_49 (by decide) (fun c15 => ?_) (fun c15 => ?_)
  · have h := h.1 c15
    refine go_iload_n dX10_place_135 rfl 3 rfl ?_
    exact go_iret dX10_place_136 rfl (Nat.le_refl _) (Nat.le_refl _) ⟨_, rfl, h⟩
  · have h := h.2 c15
    refine go_aload_n dX10_place_52 rfl 0 rfl ?_
    refine go_get (.ref (ga G 89)) dX10_place_53 fX10_45 (g_lt rfl) (gs_78 G _ _) rfl ?_
    refine go_iload dX10_place_56 4 rfl ?_
    obtain ⟨b16, h⟩ := h
    refine go_zaldv ((gm_r μ13 89 x4.toNatClampNeg)) dX10_place_58 (g_lt rfl) (gs_89 G) b16 rfl ?_
    refine go_if_eq 129 dX10_place_59 (by decide) (fun c17 => ?_) (fun c17 => ?_)
    · have h := h.1 c17
      refine go_iinc (v := (x4 + (1 : Int32))) [(0, .ref (ga G 78)), (1, .int x1), (2, .int x2), (3, .int x3), (4, .int (x4 + (1 : Int32)))] [1, 2, 3, 4, 0] 4 dX10_place_129 rfl rfl (by decide) rfl ?_
      refine go_goto 43 dX10_place_132 (by decide) ?_
      exact h
    · have h := h.2 c17
      refine go_aload_n dX10_place_62 rfl 0 rfl ?_
      refine go_get (.ref (ga G 90)) dX10_place_63 fX10_49 (g_lt rfl) (gs_78 G _ _) rfl ?_
      refine go_iload dX10_place_66 4 rfl ?_
      refine go_ialdv ((gm_r μ13 90 x4.toNatClampNeg)) dX10_place_68 (g_lt rfl) (gs_90 G) b16 rfl ?_
      refine go_iload_n dX10_place_69 rfl 1 rfl ?_
      refine go_callS (As := [.int (gm_r μ13 90 x4.toNatClampNeg), .int x1]) (rest := []) dX10_place_70 lX10_143 kX10_has rfl (by decide) (Nat.le_of_ble_eq_true rfl) (by decide) rfl (gI_go (fun r19 μ18 h => ?_)) h
      refine go_if_eq 129 dX10_place_73 (by decide) (fun c20 => ?_) (fun c20 => ?_)
      · have h := h.1 c20
        refine go_iinc (v := (x4 + (1 : Int32))) [(0, .ref (ga G 78)), (1, .int x1), (2, .int x2), (3, .int x3), (4, .int (x4 + (1 : Int32)))] [1, 2, 3, 4, 0] 4 dX10_place_129 rfl rfl (by decide) rfl ?_
        refine go_goto 43 dX10_place_132 (by decide) ?_
        exact h
      · have h := h.2 c20
        refine go_aload_n dX10_place_76 rfl 0 rfl ?_
        refine go_get (.ref (ga G 88)) dX10_place_77 fX10_41 (g_lt rfl) (gs_78 G _ _) rfl ?_
        refine go_iload dX10_place_80 4 rfl ?_
        refine go_iconst (v := 1) dX10_place_82 (by decide) ?_
        refine go_iload_n dX10_place_83 rfl 1 rfl ?_
        refine go_ishl dX10_place_84 ?_
        refine go_ior dX10_place_85 ?_
        obtain ⟨b21, h⟩ := h
        refine go_lald dX10_place_86 b21 ?_
        refine go_lconst (v := 0) dX10_place_87 (by decide) ?_
        refine go_lcmp dX10_place_88 ?_
        refine go_if_le 129 dX10_place_89 (by decide) (fun c22 => ?_) (fun c22 => ?_)
        · have h := h.1 c22
          refine go_iinc (v := (x4 + (1 : Int32))) [(0, .ref (ga G 78)), (1, .int x1), (2, .int x2), (3, .int x3), (4, .int (x4 + (1 : Int32)))] [1, 2, 3, 4, 0] 4 dX10_place_129 rfl rfl (by decide) rfl ?_
          refine go_goto 43 dX10_place_132 (by decide) ?_
          exact h
        · have h := h.2 c22
          refine go_iload dX10_place_92 4 rfl ?_
          refine go_callS (As := [.int x4]) (rest := []) dX10_place_94 lX10_208 kX10_ones rfl (by decide) (Nat.le_of_ble_eq_true rfl) (by decide) rfl (gI_go (fun r24 μ23 h => ?_)) h
          refine go_istore [(0, .ref (ga G 78)), (1, .int x1), (2, .int x2), (3, .int x3), (4, .int x4), (5, .int r24)] [1, 2, 3, 4, 5, 0] dX10_place_97 (by decide) rfl ?_
          refine go_iload_n dX10_place_99 rfl 3 rfl ?_
          refine go_if_lt 122 dX10_place_100 (by decide) (fun c25 => ?_) (fun c25 => ?_)
          · have h := h.1 c25
            refine go_iload dX10_place_122 5 rfl ?_
            refine go_goto 128 dX10_place_124 (by decide) ?_
            refine go_istore_n [(0, .ref (ga G 78)), (1, .int x1), (2, .int x2), (3, .int r24), (4, .int x4), (5, .int r24)] [1, 2, 3, 0, 4, 5] dX10_place_128 rfl (by decide) rfl ?_
            refine go_iinc (v := (x4 + (1 : Int32))) [(0, .ref (ga G 78)), (1, .int x1), (2, .int x2), (3, .int r24), (4, .int (x4 + (1 : Int32))), (5, .int r24)] [1, 2, 3, 4, 0, 5] 4 dX10_place_129 rfl rfl (by decide) rfl ?_
            refine go_goto 43 dX10_place_132 (by decide) ?_
            exact go_sub [0, 1, 2, 3, 4] rfl h
          · have h := h.2 c25
            refine go_iload_n dX10_place_103 rfl 2 rfl ?_
            refine go_if_ne 116 dX10_place_104 (by decide) (fun c26 => ?_) (fun c26 => ?_)
            · have h := h.1 c26
              refine go_iload dX10_place_116 5 rfl ?_
              refine go_iload_n dX10_place_118 rfl 3 rfl ?_
              refine go_icmp_le 127 dX10_place_119 (by decide) (fun c27 => ?_) (fun c27 => ?_)
              · have h := h.1 c27
                refine go_iload_n dX10_place_127 rfl 3 rfl ?_
                refine go_istore_n [(0, .ref (ga G 78)), (1, .int x1), (2, .int x2), (3, .int x3), (4, .int x4), (5, .int r24)] [1, 2, 3, 0, 4, 5] dX10_place_128 rfl (by decide) rfl ?_
                refine go_iinc (v := (x4 + (1 : Int32))) [(0, .ref (ga G 78)), (1, .int x1), (2, .int x2), (3, .int x3), (4, .int (x4 + (1 : Int32))), (5, .int r24)] [1, 2, 3, 4, 0, 5] 4 dX10_place_129 rfl rfl (by decide) rfl ?_
                refine go_goto 43 dX10_place_132 (by decide) ?_
                exact go_sub [0, 1, 2, 3, 4] rfl h
              · have h := h.2 c27
                refine go_iload dX10_place_122 5 rfl ?_
                refine go_goto 128 dX10_place_124 (by decide) ?_
                refine go_istore_n [(0, .ref (ga G 78)), (1, .int x1), (2, .int x2), (3, .int r24), (4, .int x4), (5, .int r24)] [1, 2, 3, 0, 4, 5] dX10_place_128 rfl (by decide) rfl ?_
                refine go_iinc (v := (x4 + (1 : Int32))) [(0, .ref (ga G 78)), (1, .int x1), (2, .int x2), (3, .int r24), (4, .int (x4 + (1 : Int32))), (5, .int r24)] [1, 2, 3, 4, 0, 5] 4 dX10_place_129 rfl rfl (by decide) rfl ?_
                refine go_goto 43 dX10_place_132 (by decide) ?_
                exact go_sub [0, 1, 2, 3, 4] rfl h
            · have h := h.2 c26
              refine go_iload dX10_place_107 5 rfl ?_
              refine go_iload_n dX10_place_109 rfl 3 rfl ?_
              refine go_icmp_ge 127 dX10_place_110 (by decide) (fun c28 => ?_) (fun c28 => ?_)
              · have h := h.1 c28
                refine go_iload_n dX10_place_127 rfl 3 rfl ?_
                refine go_istore_n [(0, .ref (ga G 78)), (1, .int x1), (2, .int x2), (3, .int x3), (4, .int x4), (5, .int r24)] [1, 2, 3, 0, 4, 5] dX10_place_128 rfl (by decide) rfl ?_
                refine go_iinc (v := (x4 + (1 : Int32))) [(0, .ref (ga G 78)), (1, .int x1), (2, .int x2), (3, .int x3), (4, .int (x4 + (1 : Int32))), (5, .int r24)] [1, 2, 3, 4, 0, 5] 4 dX10_place_129 rfl rfl (by decide) rfl ?_
                refine go_goto 43 dX10_place_132 (by decide) ?_
                exact go_sub [0, 1, 2, 3, 4] rfl h
              · have h := h.2 c28
                refine go_goto 122 dX10_place_113 (by decide) ?_
                refine go_iload dX10_place_122 5 rfl ?_
                refine go_goto 128 dX10_place_124 (by decide) ?_
                refine go_istore_n [(0, .ref (ga G 78)), (1, .int x1), (2, .int x2), (3, .int r24), (4, .int x4), (5, .int r24)] [1, 2, 3, 0, 4, 5] dX10_place_128 rfl (by decide) rfl ?_
                refine go_iinc (v := (x4 + (1 : Int32))) [(0, .ref (ga G 78)), (1, .int x1), (2, .int x2), (3, .int r24), (4, .int (x4 + (1 : Int32))), (5, .int r24)] [1, 2, 3, 4, 0, 5] 4 dX10_place_129 rfl rfl (by decide) rfl ?_
                refine go_goto 43 dX10_place_132 (by decide) ?_
                exact go_sub [0, 1, 2, 3, 4] rfl h
set_option maxRecDepth 100000 in
theorem eX10_openOf {G : gC} {l : Launch} {a1 : Int32} {μ : Mem} {P : Int32 → Mem → Prop} (h : qX10_union G l a1 (3 : Int32) μ (fun (r2 : Int32) (μ1 : Mem) => qX10_union G l a1 (4 : Int32) μ1 (fun (r4 : Int32) (μ3 : Mem) => P (r2 &&& (r4 ^^^ (-1 : Int32))) μ3))) : qX10_openOf G l a1 μ P := by
  refine Sp.of (by decide) (Nat.le_of_ble_eq_true rfl) (lv := [(0, .ref (ga G 78)), (1, .int a1)]) rfl ?_
  refine go_aload_n dX10_openOf_0 rfl 0 rfl ?_
  refine go_iload_n dX10_openOf_1 rfl 1 rfl ?_
  refine go_iconst (v := 3) dX10_openOf_2 (by decide) ?_
  refine go_callV (As := [.int a1, .int (3 : Int32)]) (rest := []) dX10_openOf_3 lX10_217 kX10_union rfl (by decide) (Nat.le_of_ble_eq_true rfl) (g_lt rfl) (gs_78 G _ _) rfl (by decide) rfl (gI_go (fun r2 μ1 h => ?_)) h
  refine go_aload_n dX10_openOf_6 rfl 0 rfl ?_
  refine go_iload_n dX10_openOf_7 rfl 1 rfl ?_
  refine go_iconst (v := 4) dX10_openOf_8 (by decide) ?_
  refine go_callV (As := [.int a1, .int (4 : Int32)]) (rest := [.int r2]) dX10_openOf_9 lX10_217 kX10_union rfl (by decide) (Nat.le_of_ble_eq_true rfl) (g_lt rfl) (gs_78 G _ _) rfl (by decide) rfl (gI_go (fun r4 μ3 h => ?_)) h
  refine go_iconst (v := -1) dX10_openOf_12 (by decide) ?_
  refine go_ixor dX10_openOf_13 ?_
  refine go_iand dX10_openOf_14 ?_
  exact go_iret dX10_openOf_15 rfl (Nat.le_refl _) (Nat.le_refl _) ⟨_, rfl, h⟩
set_option maxRecDepth 100000 in
theorem eX10_open {G : gC} {l : Launch} {a1 : Int32} {μ : Mem} {P : Int32 → Mem → Prop} (h : qX10_noSet G l a1 μ (fun (r2 : Int32) (μ1 : Mem) => ((r2 = 0) → qX10_openOf G l a1 μ1 (fun (r5 : Int32) (μ4 : Mem) => P r5 μ4)) ∧ ((¬ r2 = 0) → P (-1001 : Int32) μ1))) : qX10_open G l a1 μ P := by
  refine Sp.of (by decide) (Nat.le_of_ble_eq_true rfl) (lv := [(0, .ref (ga G 78)), (1, .int a1)]) rfl ?_
  refine go_aload_n dX10_open_0 rfl 0 rfl ?_
  refine go_iload_n dX10_open_1 rfl 1 rfl ?_
  refine go_callV (As := [.int a1]) (rest := []) dX10_open_2 lX10_220 kX10_noSet rfl (by decide) (Nat.le_of_ble_eq_true rfl) (g_lt rfl) (gs_78 G _ _) rfl (by decide) rfl (gI_go (fun r2 μ1 h => ?_)) h
  refine go_if_eq 14 dX10_open_5 (by decide) (fun c3 => ?_) (fun c3 => ?_)
  · have h := h.1 c3
    refine go_aload_n dX10_open_14 rfl 0 rfl ?_
    refine go_iload_n dX10_open_15 rfl 1 rfl ?_
    refine go_callV (As := [.int a1]) (rest := []) dX10_open_16 lX10_237 kX10_openOf rfl (by decide) (Nat.le_of_ble_eq_true rfl) (g_lt rfl) (gs_78 G _ _) rfl (by decide) rfl (gI_go (fun r5 μ4 h => ?_)) h
    exact go_iret dX10_open_19 rfl (Nat.le_refl _) (Nat.le_refl _) ⟨_, rfl, h⟩
  · have h := h.2 c3
    refine go_sipush (v := -1001) dX10_open_8 (by decide) ?_
    refine go_goto 19 dX10_open_11 (by decide) ?_
    exact go_iret dX10_open_19 rfl (Nat.le_refl _) (Nat.le_refl _) ⟨_, rfl, h⟩
set_option maxRecDepth 100000 in
theorem eX10_atOnce {G : gC} {l : Launch} {a1 : Int32} {μ : Mem} {P : Int32 → Mem → Prop} (h : qX10_noSet G l a1 μ (fun (r2 : Int32) (μ1 : Mem) => ((r2 = 0) → qX10_findGood G l  μ1 (fun (μ4 : Mem) => hX10_atOnce_18 G l P a1 (0 : Int32) μ4)) ∧ ((¬ r2 = 0) → P (-1001 : Int32) μ1))) : qX10_atOnce G l a1 μ P := by
  refine Sp.of (by decide) (Nat.le_of_ble_eq_true rfl) (lv := [(0, .ref (ga G 78)), (1, .int a1)]) rfl ?_
  refine go_aload_n dX10_atOnce_0 rfl 0 rfl ?_
  refine go_iload_n dX10_atOnce_1 rfl 1 rfl ?_
  refine go_callV (As := [.int a1]) (rest := []) dX10_atOnce_2 lX10_220 kX10_noSet rfl (by decide) (Nat.le_of_ble_eq_true rfl) (g_lt rfl) (gs_78 G _ _) rfl (by decide) rfl (gI_go (fun r2 μ1 h => ?_)) h
  refine go_if_eq 12 dX10_atOnce_5 (by decide) (fun c3 => ?_) (fun c3 => ?_)
  · have h := h.1 c3
    refine go_aload_n dX10_atOnce_12 rfl 0 rfl ?_
    refine go_callV (As := []) (rest := []) dX10_atOnce_13 lX10_234 kX10_findGood rfl (by decide) (Nat.le_of_ble_eq_true rfl) (g_lt rfl) (gs_78 G _ _) rfl (by decide) rfl (gV_go (fun μ4 h => ?_)) h
    refine go_iconst (v := 0) dX10_atOnce_16 (by decide) ?_
    refine go_istore_n [(0, .ref (ga G 78)), (1, .int a1), (2, .int (0 : Int32))] [1, 2, 0] dX10_atOnce_17 rfl (by decide) rfl ?_
    exact h
  · have h := h.2 c3
    refine go_sipush (v := -1001) dX10_atOnce_8 (by decide) ?_
    exact go_iret dX10_atOnce_11 rfl (Nat.le_refl _) (Nat.le_refl _) ⟨_, rfl, h⟩
set_option maxRecDepth 100000 in
theorem eX10_atOnce_18 {G : gC} {l : Launch} {P : Int32 → Mem → Prop} {x1 : Int32} {x2 : Int32} {μ : Mem} (h : ((x1 < x2) → vp_in x1 1024 ∧ (((gm_r μ 89 x1.toNatClampNeg) = 0) → P (-1 : Int32) μ) ∧ ((¬ (gm_r μ 89 x1.toNatClampNeg) = 0) → P (gm_r μ 91 x1.toNatClampNeg) μ)) ∧ ((¬ x1 < x2) → ((¬ x2 = 0) → hX10_atOnce_37 G l P x1 x2 (1000000 : Int32) (0 : Int32) μ) ∧ ((x2 = 0) → hX10_atOnce_37 G l P x1 x2 (0 : Int32) (0 : Int32) μ))) : hX10_atOnce_18 G l P x1 x2 μ := by
  refine go_iload_n dX10_atOnce_18 rfl 2 rfl ?_
  refine go_iload_n dX10_atOnce_19 rfl 1 rfl ?_
  refine go_icmp_gt 165 dX10_atOnce_20 (by decide) (fun c6 => ?_) (fun c6 => ?_)
  · have h := h.1 c6
    refine go_aload_n dX10_atOnce_165 rfl 0 rfl ?_
    refine go_get (.ref (ga G 89)) dX10_atOnce_166 fX10_45 (g_lt rfl) (gs_78 G _ _) rfl ?_
    refine go_iload_n dX10_atOnce_169 rfl 1 rfl ?_
    obtain ⟨b7, h⟩ := h
    refine go_zaldv ((gm_r μ 89 x1.toNatClampNeg)) dX10_atOnce_170 (g_lt rfl) (gs_89 G) b7 rfl ?_
    refine go_if_eq 183 dX10_atOnce_171 (by decide) (fun c8 => ?_) (fun c8 => ?_)
    · have h := h.1 c8
      refine go_iconst (v := -1) dX10_atOnce_183 (by decide) ?_
      exact go_iret dX10_atOnce_184 rfl (Nat.le_refl _) (Nat.le_refl _) ⟨_, rfl, h⟩
    · have h := h.2 c8
      refine go_aload_n dX10_atOnce_174 rfl 0 rfl ?_
      refine go_get (.ref (ga G 91)) dX10_atOnce_175 fX10_52 (g_lt rfl) (gs_78 G _ _) rfl ?_
      refine go_iload_n dX10_atOnce_178 rfl 1 rfl ?_
      refine go_ialdv ((gm_r μ 91 x1.toNatClampNeg)) dX10_atOnce_179 (g_lt rfl) (gs_91 G) b7 rfl ?_
      refine go_goto 184 dX10_atOnce_180 (by decide) ?_
      exact go_iret dX10_atOnce_184 rfl (Nat.le_refl _) (Nat.le_refl _) ⟨_, rfl, h⟩
  · have h := h.2 c6
    refine go_iload_n dX10_atOnce_23 rfl 2 rfl ?_
    refine go_if_ne 31 dX10_atOnce_24 (by decide) (fun c9 => ?_) (fun c9 => ?_)
    · have h := h.1 c9
      refine go_ldc (v := 1000000) (g_in 1246 (by decide +kernel) rfl) dX10_atOnce_31 ?_
      refine go_istore_n [(0, .ref (ga G 78)), (1, .int x1), (2, .int x2), (3, .int (1000000 : Int32))] [1, 2, 3, 0] dX10_atOnce_33 rfl (by decide) rfl ?_
      refine go_iconst (v := 0) dX10_atOnce_34 (by decide) ?_
      refine go_istore [(0, .ref (ga G 78)), (1, .int x1), (2, .int x2), (3, .int (1000000 : Int32)), (4, .int (0 : Int32))] [1, 2, 3, 4, 0] dX10_atOnce_35 (by decide) rfl ?_
      exact h
    · have h := h.2 c9
      refine go_iconst (v := 0) dX10_atOnce_27 (by decide) ?_
      refine go_goto 33 dX10_atOnce_28 (by decide) ?_
      refine go_istore_n [(0, .ref (ga G 78)), (1, .int x1), (2, .int x2), (3, .int (0 : Int32))] [1, 2, 3, 0] dX10_atOnce_33 rfl (by decide) rfl ?_
      refine go_iconst (v := 0) dX10_atOnce_34 (by decide) ?_
      refine go_istore [(0, .ref (ga G 78)), (1, .int x1), (2, .int x2), (3, .int (0 : Int32)), (4, .int (0 : Int32))] [1, 2, 3, 4, 0] dX10_atOnce_35 (by decide) rfl ?_
      exact h
set_option maxRecDepth 100000 in
theorem eX10_atOnce_37 {G : gC} {l : Launch} {P : Int32 → Mem → Prop} {x1 : Int32} {x2 : Int32} {x3 : Int32} {x4 : Int32} {μ : Mem} (h : (((gm_r μ 78 0) ≤ x4) → qX10_openOf G l x2 μ (fun (r12 : Int32) (μ11 : Mem) => qX10_ones G l r12 μ11 (fun (r14 : Int32) (μ13 : Mem) => ((x3 ≤ r14) → vp_in x2 1024 ∧ hX10_atOnce_18 G l P x1 (x2 + (1 : Int32)) (gm_w μ13 91 x2.toNatClampNeg r14)) ∧ ((¬ x3 ≤ r14) → vp_in x2 1024 ∧ hX10_atOnce_18 G l P x1 (x2 + (1 : Int32)) (gm_w μ13 91 x2.toNatClampNeg x3))))) ∧ ((¬ (gm_r μ 78 0) ≤ x4) → ∀ v18 : Int32, v18 = (x2 &&& (((1 : Int32) <<< (x4 &&& 31)) ^^^ (-1 : Int32))) → qX10_has G l x2 x4 μ (fun (r20 : Int32) (μ19 : Mem) => ((r20 = 0) → hX10_atOnce_95 G l P x1 x2 x3 x4 v18 (0 : Int32) μ19) ∧ ((¬ r20 = 0) → vp_in v18 1024 ∧ (((gm_r μ19 89 v18.toNatClampNeg) = 0) → hX10_atOnce_95 G l P x1 x2 x3 x4 v18 (0 : Int32) μ19) ∧ ((¬ (gm_r μ19 89 v18.toNatClampNeg) = 0) → qX10_has G l (gm_r μ19 90 v18.toNatClampNeg) x4 μ19 (fun (r25 : Int32) (μ24 : Mem) => ((r25 = 0) → hX10_atOnce_95 G l P x1 x2 x3 x4 v18 (0 : Int32) μ24) ∧ ((¬ r25 = 0) → hX10_atOnce_95 G l P x1 x2 x3 x4 v18 (1 : Int32) μ24))))))) : hX10_atOnce_37 G l P x1 x2 x3 x4 μ := by
  refine go_iload dX10_atOnce_37 4 rfl ?_
  refine go_aload_n dX10_atOnce_39 rfl 0 rfl ?_
  refine go_get (.int (gm_r μ 78 0)) dX10_atOnce_40 fX10_174 (g_lt rfl) (gs_78 G _ _) rfl ?_
  refine go_icmp_ge 131 dX10_atOnce_43 (by decide) (fun c10 => ?_) (fun c10 => ?_)
  · have h := h.1 c10
    refine go_aload_n dX10_atOnce_131 rfl 0 rfl ?_
    refine go_iload_n dX10_atOnce_132 rfl 2 rfl ?_
    refine go_callV (As := [.int x2]) (rest := []) dX10_atOnce_133 lX10_237 kX10_openOf rfl (by decide) (Nat.le_of_ble_eq_true rfl) (g_lt rfl) (gs_78 G _ _) rfl (by decide) rfl (gI_go (fun r12 μ11 h => ?_)) h
    refine go_callS (As := [.int r12]) (rest := []) dX10_atOnce_136 lX10_208 kX10_ones rfl (by decide) (Nat.le_of_ble_eq_true rfl) (by decide) rfl (gI_go (fun r14 μ13 h => ?_)) h
    refine go_istore [(0, .ref (ga G 78)), (1, .int x1), (2, .int x2), (3, .int x3), (4, .int r14)] [1, 2, 3, 4, 0] dX10_atOnce_139 (by decide) rfl ?_
    refine go_aload_n dX10_atOnce_141 rfl 0 rfl ?_
    refine go_get (.ref (ga G 91)) dX10_atOnce_142 fX10_52 (g_lt rfl) (gs_78 G _ _) rfl ?_
    refine go_iload_n dX10_atOnce_145 rfl 2 rfl ?_
    refine go_iload_n dX10_atOnce_146 rfl 3 rfl ?_
    refine go_iload dX10_atOnce_147 4 rfl ?_
    refine go_icmp_le 156 dX10_atOnce_149 (by decide) (fun c15 => ?_) (fun c15 => ?_)
    · have h := h.1 c15
      refine go_iload dX10_atOnce_156 4 rfl ?_
      obtain ⟨b16, h⟩ := h
      refine go_iast dX10_atOnce_158 (g_lt rfl) (gs_91 G) b16 ?_
      refine go_iinc (v := (x2 + (1 : Int32))) [(0, .ref (ga G 78)), (1, .int x1), (2, .int (x2 + (1 : Int32))), (3, .int x3), (4, .int r14)] [1, 2, 0, 3, 4] 2 dX10_atOnce_159 rfl rfl (by decide) rfl ?_
      refine go_goto 18 dX10_atOnce_162 (by decide) ?_
      exact go_sub [0, 1, 2] rfl h
    · have h := h.2 c15
      refine go_iload_n dX10_atOnce_152 rfl 3 rfl ?_
      refine go_goto 158 dX10_atOnce_153 (by decide) ?_
      obtain ⟨b17, h⟩ := h
      refine go_iast dX10_atOnce_158 (g_lt rfl) (gs_91 G) b17 ?_
      refine go_iinc (v := (x2 + (1 : Int32))) [(0, .ref (ga G 78)), (1, .int x1), (2, .int (x2 + (1 : Int32))), (3, .int x3), (4, .int r14)] [1, 2, 0, 3, 4] 2 dX10_atOnce_159 rfl rfl (by decide) rfl ?_
      refine go_goto 18 dX10_atOnce_162 (by decide) ?_
      exact go_sub [0, 1, 2] rfl h
  · have h := h.2 c10
    refine go_iload_n dX10_atOnce_46 rfl 2 rfl ?_
    refine go_iconst (v := 1) dX10_atOnce_47 (by decide) ?_
    refine go_iload dX10_atOnce_48 4 rfl ?_
    refine go_ishl dX10_atOnce_50 ?_
    refine go_iconst (v := -1) dX10_atOnce_51 (by decide) ?_
    refine go_ixor dX10_atOnce_52 ?_
    refine go_iand dX10_atOnce_53 ?_
    refine go_topi (fun v18 e_v18 => ?_)
    have h := h v18 e_v18
    refine go_istore [(0, .ref (ga G 78)), (1, .int x1), (2, .int x2), (3, .int x3), (4, .int x4), (5, .int v18)] [1, 2, 3, 4, 5, 0] dX10_atOnce_54 (by decide) rfl ?_
    refine go_iload_n dX10_atOnce_56 rfl 2 rfl ?_
    refine go_iload dX10_atOnce_57 4 rfl ?_
    refine go_callS (As := [.int x2, .int x4]) (rest := []) dX10_atOnce_59 lX10_143 kX10_has rfl (by decide) (Nat.le_of_ble_eq_true rfl) (by decide) rfl (gI_go (fun r20 μ19 h => ?_)) h
    refine go_if_eq 94 dX10_atOnce_62 (by decide) (fun c21 => ?_) (fun c21 => ?_)
    · have h := h.1 c21
      refine go_iconst (v := 0) dX10_atOnce_94 (by decide) ?_
      exact h
    · have h := h.2 c21
      refine go_aload_n dX10_atOnce_65 rfl 0 rfl ?_
      refine go_get (.ref (ga G 89)) dX10_atOnce_66 fX10_45 (g_lt rfl) (gs_78 G _ _) rfl ?_
      refine go_iload dX10_atOnce_69 5 rfl ?_
      obtain ⟨b22, h⟩ := h
      refine go_zaldv ((gm_r μ19 89 v18.toNatClampNeg)) dX10_atOnce_71 (g_lt rfl) (gs_89 G) b22 rfl ?_
      refine go_if_eq 94 dX10_atOnce_72 (by decide) (fun c23 => ?_) (fun c23 => ?_)
      · have h := h.1 c23
        refine go_iconst (v := 0) dX10_atOnce_94 (by decide) ?_
        exact h
      · have h := h.2 c23
        refine go_aload_n dX10_atOnce_75 rfl 0 rfl ?_
        refine go_get (.ref (ga G 90)) dX10_atOnce_76 fX10_49 (g_lt rfl) (gs_78 G _ _) rfl ?_
        refine go_iload dX10_atOnce_79 5 rfl ?_
        refine go_ialdv ((gm_r μ19 90 v18.toNatClampNeg)) dX10_atOnce_81 (g_lt rfl) (gs_90 G) b22 rfl ?_
        refine go_iload dX10_atOnce_82 4 rfl ?_
        refine go_callS (As := [.int (gm_r μ19 90 v18.toNatClampNeg), .int x4]) (rest := []) dX10_atOnce_84 lX10_143 kX10_has rfl (by decide) (Nat.le_of_ble_eq_true rfl) (by decide) rfl (gI_go (fun r25 μ24 h => ?_)) h
        refine go_if_eq 94 dX10_atOnce_87 (by decide) (fun c26 => ?_) (fun c26 => ?_)
        · have h := h.1 c26
          refine go_iconst (v := 0) dX10_atOnce_94 (by decide) ?_
          exact h
        · have h := h.2 c26
          refine go_iconst (v := 1) dX10_atOnce_90 (by decide) ?_
          refine go_goto 95 dX10_atOnce_91 (by decide) ?_
          exact h
set_option maxRecDepth 100000 in
theorem eX10_atOnce_95 {G : gC} {l : Launch} {P : Int32 → Mem → Prop} {x1 : Int32} {x2 : Int32} {x3 : Int32} {x4 : Int32} {x5 : Int32} {y0 : Int32} {μ : Mem} (h : ((y0 = 0) → hX10_atOnce_37 G l P x1 x2 x3 (x4 + (1 : Int32)) μ) ∧ ((¬ y0 = 0) → vp_in x5 1024 ∧ ((x3 ≤ (gm_r μ 91 x5.toNatClampNeg)) → hX10_atOnce_37 G l P x1 x2 x3 (x4 + (1 : Int32)) μ) ∧ ((¬ x3 ≤ (gm_r μ 91 x5.toNatClampNeg)) → hX10_atOnce_37 G l P x1 x2 (gm_r μ 91 x5.toNatClampNeg) (x4 + (1 : Int32)) μ))) : hX10_atOnce_95 G l P x1 x2 x3 x4 x5 y0 μ := by
  refine go_istore [(0, .ref (ga G 78)), (1, .int x1), (2, .int x2), (3, .int x3), (4, .int x4), (5, .int x5), (6, .int y0)] [1, 2, 3, 4, 5, 6, 0] dX10_atOnce_95 (by decide) rfl ?_
  refine go_iload dX10_atOnce_97 6 rfl ?_
  refine go_if_eq 123 dX10_atOnce_99 (by decide) (fun c27 => ?_) (fun c27 => ?_)
  · have h := h.1 c27
    refine go_iload_n dX10_atOnce_123 rfl 3 rfl ?_
    refine go_istore_n [(0, .ref (ga G 78)), (1, .int x1), (2, .int x2), (3, .int x3), (4, .int x4), (5, .int x5), (6, .int y0)] [1, 2, 3, 0, 4, 5, 6] dX10_atOnce_124 rfl (by decide) rfl ?_
    refine go_iinc (v := (x4 + (1 : Int32))) [(0, .ref (ga G 78)), (1, .int x1), (2, .int x2), (3, .int x3), (4, .int (x4 + (1 : Int32))), (5, .int x5), (6, .int y0)] [1, 2, 3, 4, 0, 5, 6] 4 dX10_atOnce_125 rfl rfl (by decide) rfl ?_
    refine go_goto 37 dX10_atOnce_128 (by decide) ?_
    exact go_sub [0, 1, 2, 3, 4] rfl h
  · have h := h.2 c27
    refine go_aload_n dX10_atOnce_102 rfl 0 rfl ?_
    refine go_get (.ref (ga G 91)) dX10_atOnce_103 fX10_52 (g_lt rfl) (gs_78 G _ _) rfl ?_
    refine go_iload dX10_atOnce_106 5 rfl ?_
    obtain ⟨b28, h⟩ := h
    refine go_ialdv ((gm_r μ 91 x5.toNatClampNeg)) dX10_atOnce_108 (g_lt rfl) (gs_91 G) b28 rfl ?_
    refine go_iload_n dX10_atOnce_109 rfl 3 rfl ?_
    refine go_icmp_ge 123 dX10_atOnce_110 (by decide) (fun c29 => ?_) (fun c29 => ?_)
    · have h := h.1 c29
      refine go_iload_n dX10_atOnce_123 rfl 3 rfl ?_
      refine go_istore_n [(0, .ref (ga G 78)), (1, .int x1), (2, .int x2), (3, .int x3), (4, .int x4), (5, .int x5), (6, .int y0)] [1, 2, 3, 0, 4, 5, 6] dX10_atOnce_124 rfl (by decide) rfl ?_
      refine go_iinc (v := (x4 + (1 : Int32))) [(0, .ref (ga G 78)), (1, .int x1), (2, .int x2), (3, .int x3), (4, .int (x4 + (1 : Int32))), (5, .int x5), (6, .int y0)] [1, 2, 3, 4, 0, 5, 6] 4 dX10_atOnce_125 rfl rfl (by decide) rfl ?_
      refine go_goto 37 dX10_atOnce_128 (by decide) ?_
      exact go_sub [0, 1, 2, 3, 4] rfl h
    · have h := h.2 c29
      refine go_aload_n dX10_atOnce_113 rfl 0 rfl ?_
      refine go_get (.ref (ga G 91)) dX10_atOnce_114 fX10_52 (g_lt rfl) (gs_78 G _ _) rfl ?_
      refine go_iload dX10_atOnce_117 5 rfl ?_
      refine go_ialdv ((gm_r μ 91 x5.toNatClampNeg)) dX10_atOnce_119 (g_lt rfl) (gs_91 G) b28 rfl ?_
      refine go_goto 124 dX10_atOnce_120 (by decide) ?_
      refine go_istore_n [(0, .ref (ga G 78)), (1, .int x1), (2, .int x2), (3, .int (gm_r μ 91 x5.toNatClampNeg)), (4, .int x4), (5, .int x5), (6, .int y0)] [1, 2, 3, 0, 4, 5, 6] dX10_atOnce_124 rfl (by decide) rfl ?_
      refine go_iinc (v := (x4 + (1 : Int32))) [(0, .ref (ga G 78)), (1, .int x1), (2, .int x2), (3, .int (gm_r μ 91 x5.toNatClampNeg)), (4, .int (x4 + (1 : Int32))), (5, .int x5), (6, .int y0)] [1, 2, 3, 4, 0, 5, 6] 4 dX10_atOnce_125 rfl rfl (by decide) rfl ?_
      refine go_goto 37 dX10_atOnce_128 (by decide) ?_
      exact go_sub [0, 1, 2, 3, 4] rfl h
set_option maxRecDepth 100000 in
theorem eX10_along {G : gC} {l : Launch} {a1 : Int32} {μ : Mem} {P : Int32 → Mem → Prop} (h : qX10_noScene G l a1 μ (fun (r2 : Int32) (μ1 : Mem) => ((r2 = 0) → qX10_findGood G l  μ1 (fun (μ4 : Mem) => hX10_along_20 G l P a1 (0 : Int32) (0 : Int32) μ4)) ∧ ((¬ r2 = 0) → P (-1001 : Int32) μ1))) : qX10_along G l a1 μ P := by
  refine Sp.of (by decide) (Nat.le_of_ble_eq_true rfl) (lv := [(0, .ref (ga G 78)), (1, .int a1)]) rfl ?_
  refine go_aload_n dX10_along_0 rfl 0 rfl ?_
  refine go_iload_n dX10_along_1 rfl 1 rfl ?_
  refine go_callV (As := [.int a1]) (rest := []) dX10_along_2 lX10_195 kX10_noScene rfl (by decide) (Nat.le_of_ble_eq_true rfl) (g_lt rfl) (gs_78 G _ _) rfl (by decide) rfl (gI_go (fun r2 μ1 h => ?_)) h
  refine go_if_eq 12 dX10_along_5 (by decide) (fun c3 => ?_) (fun c3 => ?_)
  · have h := h.1 c3
    refine go_aload_n dX10_along_12 rfl 0 rfl ?_
    refine go_callV (As := []) (rest := []) dX10_along_13 lX10_234 kX10_findGood rfl (by decide) (Nat.le_of_ble_eq_true rfl) (g_lt rfl) (gs_78 G _ _) rfl (by decide) rfl (gV_go (fun μ4 h => ?_)) h
    refine go_iconst (v := 0) dX10_along_16 (by decide) ?_
    refine go_istore_n [(0, .ref (ga G 78)), (1, .int a1), (2, .int (0 : Int32))] [1, 2, 0] dX10_along_17 rfl (by decide) rfl ?_
    refine go_iconst (v := 0) dX10_along_18 (by decide) ?_
    refine go_istore_n [(0, .ref (ga G 78)), (1, .int a1), (2, .int (0 : Int32)), (3, .int (0 : Int32))] [1, 2, 3, 0] dX10_along_19 rfl (by decide) rfl ?_
    exact h
  · have h := h.2 c3
    refine go_sipush (v := -1001) dX10_along_8 (by decide) ?_
    exact go_iret dX10_along_11 rfl (Nat.le_refl _) (Nat.le_refl _) ⟨_, rfl, h⟩
set_option maxRecDepth 100000 in
theorem eX10_along_20 {G : gC} {l : Launch} {P : Int32 → Mem → Prop} {x1 : Int32} {x2 : Int32} {x3 : Int32} {μ : Mem} (h : qX10_all G l  μ (fun (r7 : Int32) (μ6 : Mem) => ((r7 < x3) → qX10_all G l  μ6 (fun (r10 : Int32) (μ9 : Mem) => P (r10 &&& (x2 ^^^ (-1 : Int32))) μ9)) ∧ ((¬ r7 < x3) → vp_in x3 1024 ∧ (((gm_r μ6 89 x3.toNatClampNeg) = 0) → hX10_along_20 G l P x1 (x2 ||| (0 : Int32)) (x3 + (1 : Int32)) μ6) ∧ ((¬ (gm_r μ6 89 x3.toNatClampNeg) = 0) → qX10_has G l x3 x1 μ6 (fun (r14 : Int32) (μ13 : Mem) => ((¬ r14 = 0) → hX10_along_20 G l P x1 (x2 ||| (0 : Int32)) (x3 + (1 : Int32)) μ13) ∧ ((r14 = 0) → hX10_along_20 G l P x1 (x2 ||| x3) (x3 + (1 : Int32)) μ13)))))) : hX10_along_20 G l P x1 x2 x3 μ := by
  refine go_iload_n dX10_along_20 rfl 3 rfl ?_
  refine go_aload_n dX10_along_21 rfl 0 rfl ?_
  refine go_callV (As := []) (rest := [.int x3]) dX10_along_22 lX10_192 kX10_all rfl (by decide) (Nat.le_of_ble_eq_true rfl) (g_lt rfl) (gs_78 G _ _) rfl (by decide) rfl (gI_go (fun r7 μ6 h => ?_)) h
  refine go_icmp_gt 59 dX10_along_25 (by decide) (fun c8 => ?_) (fun c8 => ?_)
  · have h := h.1 c8
    refine go_aload_n dX10_along_59 rfl 0 rfl ?_
    refine go_callV (As := []) (rest := []) dX10_along_60 lX10_192 kX10_all rfl (by decide) (Nat.le_of_ble_eq_true rfl) (g_lt rfl) (gs_78 G _ _) rfl (by decide) rfl (gI_go (fun r10 μ9 h => ?_)) h
    refine go_iload_n dX10_along_63 rfl 2 rfl ?_
    refine go_iconst (v := -1) dX10_along_64 (by decide) ?_
    refine go_ixor dX10_along_65 ?_
    refine go_iand dX10_along_66 ?_
    exact go_iret dX10_along_67 rfl (Nat.le_refl _) (Nat.le_refl _) ⟨_, rfl, h⟩
  · have h := h.2 c8
    refine go_iload_n dX10_along_28 rfl 2 rfl ?_
    refine go_aload_n dX10_along_29 rfl 0 rfl ?_
    refine go_get (.ref (ga G 89)) dX10_along_30 fX10_45 (g_lt rfl) (gs_78 G _ _) rfl ?_
    refine go_iload_n dX10_along_33 rfl 3 rfl ?_
    obtain ⟨b11, h⟩ := h
    refine go_zaldv ((gm_r μ6 89 x3.toNatClampNeg)) dX10_along_34 (g_lt rfl) (gs_89 G) b11 rfl ?_
    refine go_if_eq 50 dX10_along_35 (by decide) (fun c12 => ?_) (fun c12 => ?_)
    · have h := h.1 c12
      refine go_iconst (v := 0) dX10_along_50 (by decide) ?_
      refine go_ior dX10_along_51 ?_
      refine go_istore_n [(0, .ref (ga G 78)), (1, .int x1), (2, .int (x2 ||| (0 : Int32))), (3, .int x3)] [1, 2, 0, 3] dX10_along_52 rfl (by decide) rfl ?_
      refine go_iinc (v := (x3 + (1 : Int32))) [(0, .ref (ga G 78)), (1, .int x1), (2, .int (x2 ||| (0 : Int32))), (3, .int (x3 + (1 : Int32)))] [1, 2, 3, 0] 3 dX10_along_53 rfl rfl (by decide) rfl ?_
      refine go_goto 20 dX10_along_56 (by decide) ?_
      exact h
    · have h := h.2 c12
      refine go_iload_n dX10_along_38 rfl 3 rfl ?_
      refine go_iload_n dX10_along_39 rfl 1 rfl ?_
      refine go_callS (As := [.int x3, .int x1]) (rest := [.int x2]) dX10_along_40 lX10_143 kX10_has rfl (by decide) (Nat.le_of_ble_eq_true rfl) (by decide) rfl (gI_go (fun r14 μ13 h => ?_)) h
      refine go_if_ne 50 dX10_along_43 (by decide) (fun c15 => ?_) (fun c15 => ?_)
      · have h := h.1 c15
        refine go_iconst (v := 0) dX10_along_50 (by decide) ?_
        refine go_ior dX10_along_51 ?_
        refine go_istore_n [(0, .ref (ga G 78)), (1, .int x1), (2, .int (x2 ||| (0 : Int32))), (3, .int x3)] [1, 2, 0, 3] dX10_along_52 rfl (by decide) rfl ?_
        refine go_iinc (v := (x3 + (1 : Int32))) [(0, .ref (ga G 78)), (1, .int x1), (2, .int (x2 ||| (0 : Int32))), (3, .int (x3 + (1 : Int32)))] [1, 2, 3, 0] 3 dX10_along_53 rfl rfl (by decide) rfl ?_
        refine go_goto 20 dX10_along_56 (by decide) ?_
        exact h
      · have h := h.2 c15
        refine go_iload_n dX10_along_46 rfl 3 rfl ?_
        refine go_goto 51 dX10_along_47 (by decide) ?_
        refine go_ior dX10_along_51 ?_
        refine go_istore_n [(0, .ref (ga G 78)), (1, .int x1), (2, .int (x2 ||| x3)), (3, .int x3)] [1, 2, 0, 3] dX10_along_52 rfl (by decide) rfl ?_
        refine go_iinc (v := (x3 + (1 : Int32))) [(0, .ref (ga G 78)), (1, .int x1), (2, .int (x2 ||| x3)), (3, .int (x3 + (1 : Int32)))] [1, 2, 3, 0] 3 dX10_along_53 rfl rfl (by decide) rfl ?_
        refine go_goto 20 dX10_along_56 (by decide) ?_
        exact h
set_option maxRecDepth 100000 in
theorem eX10_shortest {G : gC} {l : Launch} {a1 : Int32} {a2 : Int32} {μ : Mem} {P : Int32 → Mem → Prop} (h : qX10_noScene G l a1 μ (fun (r2 : Int32) (μ1 : Mem) => ((r2 = 0) → qX10_in G l (a2).toInt64 (0 : Int64) (1 : Int64) μ1 (fun (r5 : Int32) (μ4 : Mem) => ((¬ r5 = 0) → qX10_findGood G l  μ4 (fun (μ7 : Mem) => hX10_shortest_35 G l P a1 a2 (-1 : Int32) (0 : Int32) μ7)) ∧ ((r5 = 0) → P (-1002 : Int32) μ4))) ∧ ((¬ r2 = 0) → P (-1001 : Int32) μ1))) : qX10_shortest G l a1 a2 μ P := by
  refine Sp.of (by decide) (Nat.le_of_ble_eq_true rfl) (lv := [(0, .ref (ga G 78)), (1, .int a1), (2, .int a2)]) rfl ?_
  refine go_aload_n dX10_shortest_0 rfl 0 rfl ?_
  refine go_iload_n dX10_shortest_1 rfl 1 rfl ?_
  refine go_callV (As := [.int a1]) (rest := []) dX10_shortest_2 lX10_195 kX10_noScene rfl (by decide) (Nat.le_of_ble_eq_true rfl) (g_lt rfl) (gs_78 G _ _) rfl (by decide) rfl (gI_go (fun r2 μ1 h => ?_)) h
  refine go_if_eq 12 dX10_shortest_5 (by decide) (fun c3 => ?_) (fun c3 => ?_)
  · have h := h.1 c3
    refine go_iload_n dX10_shortest_12 rfl 2 rfl ?_
    refine go_i2l dX10_shortest_13 ?_
    refine go_lconst (v := 0) dX10_shortest_14 (by decide) ?_
    refine go_lconst (v := 1) dX10_shortest_15 (by decide) ?_
    refine go_callS (As := [.long (a2).toInt64, .long (0 : Int64), .long (1 : Int64)]) (rest := []) dX10_shortest_16 lX10_99 kX10_in rfl (by decide) (Nat.le_of_ble_eq_true rfl) (by decide) rfl (gI_go (fun r5 μ4 h => ?_)) h
    refine go_if_ne 26 dX10_shortest_19 (by decide) (fun c6 => ?_) (fun c6 => ?_)
    · have h := h.1 c6
      refine go_aload_n dX10_shortest_26 rfl 0 rfl ?_
      refine go_callV (As := []) (rest := []) dX10_shortest_27 lX10_234 kX10_findGood rfl (by decide) (Nat.le_of_ble_eq_true rfl) (g_lt rfl) (gs_78 G _ _) rfl (by decide) rfl (gV_go (fun μ7 h => ?_)) h
      refine go_iconst (v := -1) dX10_shortest_30 (by decide) ?_
      refine go_istore_n [(0, .ref (ga G 78)), (1, .int a1), (2, .int a2), (3, .int (-1 : Int32))] [1, 2, 3, 0] dX10_shortest_31 rfl (by decide) rfl ?_
      refine go_iconst (v := 0) dX10_shortest_32 (by decide) ?_
      refine go_istore [(0, .ref (ga G 78)), (1, .int a1), (2, .int a2), (3, .int (-1 : Int32)), (4, .int (0 : Int32))] [1, 2, 3, 4, 0] dX10_shortest_33 (by decide) rfl ?_
      exact h
    · have h := h.2 c6
      refine go_sipush (v := -1002) dX10_shortest_22 (by decide) ?_
      exact go_iret dX10_shortest_25 rfl (Nat.le_refl _) (Nat.le_refl _) ⟨_, rfl, h⟩
  · have h := h.2 c3
    refine go_sipush (v := -1001) dX10_shortest_8 (by decide) ?_
    exact go_iret dX10_shortest_11 rfl (Nat.le_refl _) (Nat.le_refl _) ⟨_, rfl, h⟩
set_option maxRecDepth 100000 in
theorem eX10_shortest_35 {G : gC} {l : Launch} {P : Int32 → Mem → Prop} {x1 : Int32} {x2 : Int32} {x3 : Int32} {x4 : Int32} {μ : Mem} (h : qX10_all G l  μ (fun (r10 : Int32) (μ9 : Mem) => ((r10 < x4) → ((x3 < 0) → P x3 μ9) ∧ ((¬ x3 < 0) → ((¬ x2 = 0) → qX10_linesOf G l x3 μ9 (fun (r15 : Int32) (μ14 : Mem) => P r15 μ14)) ∧ ((x2 = 0) → P x3 μ9))) ∧ ((¬ r10 < x4) → vp_in x4 1024 ∧ (((gm_r μ9 89 x4.toNatClampNeg) = 0) → hX10_shortest_35 G l P x1 x2 x3 (x4 + (1 : Int32)) μ9) ∧ ((¬ (gm_r μ9 89 x4.toNatClampNeg) = 0) → qX10_has G l x4 x1 μ9 (fun (r19 : Int32) (μ18 : Mem) => ((r19 = 0) → hX10_shortest_35 G l P x1 x2 x3 (x4 + (1 : Int32)) μ18) ∧ ((¬ r19 = 0) → ((x3 < 0) → hX10_shortest_35 G l P x1 x2 x4 (x4 + (1 : Int32)) μ18) ∧ ((¬ x3 < 0) → qX10_linesOf G l x4 μ18 (fun (r23 : Int32) (μ22 : Mem) => qX10_linesOf G l x3 μ22 (fun (r25 : Int32) (μ24 : Mem) => ((r25 ≤ r23) → hX10_shortest_35 G l P x1 x2 x3 (x4 + (1 : Int32)) μ24) ∧ ((¬ r25 ≤ r23) → hX10_shortest_35 G l P x1 x2 x4 (x4 + (1 : Int32)) μ24)))))))))) : hX10_shortest_35 G l P x1 x2 x3 x4 μ := by
  refine go_iload dX10_shortest_35 4 rfl ?_
  refine go_aload_n dX10_shortest_37 rfl 0 rfl ?_
  refine go_callV (As := []) (rest := [.int x4]) dX10_shortest_38 lX10_192 kX10_all rfl (by decide) (Nat.le_of_ble_eq_true rfl) (g_lt rfl) (gs_78 G _ _) rfl (by decide) rfl (gI_go (fun r10 μ9 h => ?_)) h
  refine go_icmp_gt 90 dX10_shortest_41 (by decide) (fun c11 => ?_) (fun c11 => ?_)
  · have h := h.1 c11
    refine go_iload_n dX10_shortest_90 rfl 3 rfl ?_
    refine go_if_lt 98 dX10_shortest_91 (by decide) (fun c12 => ?_) (fun c12 => ?_)
    · have h := h.1 c12
      refine go_iload_n dX10_shortest_98 rfl 3 rfl ?_
      refine go_goto 107 dX10_shortest_99 (by decide) ?_
      exact go_iret dX10_shortest_107 rfl (Nat.le_refl _) (Nat.le_refl _) ⟨_, rfl, h⟩
    · have h := h.2 c12
      refine go_iload_n dX10_shortest_94 rfl 2 rfl ?_
      refine go_if_ne 102 dX10_shortest_95 (by decide) (fun c13 => ?_) (fun c13 => ?_)
      · have h := h.1 c13
        refine go_aload_n dX10_shortest_102 rfl 0 rfl ?_
        refine go_iload_n dX10_shortest_103 rfl 3 rfl ?_
        refine go_callV (As := [.int x3]) (rest := []) dX10_shortest_104 lX10_211 kX10_linesOf rfl (by decide) (Nat.le_of_ble_eq_true rfl) (g_lt rfl) (gs_78 G _ _) rfl (by decide) rfl (gI_go (fun r15 μ14 h => ?_)) h
        exact go_iret dX10_shortest_107 rfl (Nat.le_refl _) (Nat.le_refl _) ⟨_, rfl, h⟩
      · have h := h.2 c13
        refine go_iload_n dX10_shortest_98 rfl 3 rfl ?_
        refine go_goto 107 dX10_shortest_99 (by decide) ?_
        exact go_iret dX10_shortest_107 rfl (Nat.le_refl _) (Nat.le_refl _) ⟨_, rfl, h⟩
  · have h := h.2 c11
    refine go_aload_n dX10_shortest_44 rfl 0 rfl ?_
    refine go_get (.ref (ga G 89)) dX10_shortest_45 fX10_45 (g_lt rfl) (gs_78 G _ _) rfl ?_
    refine go_iload dX10_shortest_48 4 rfl ?_
    obtain ⟨b16, h⟩ := h
    refine go_zaldv ((gm_r μ9 89 x4.toNatClampNeg)) dX10_shortest_50 (g_lt rfl) (gs_89 G) b16 rfl ?_
    refine go_if_eq 84 dX10_shortest_51 (by decide) (fun c17 => ?_) (fun c17 => ?_)
    · have h := h.1 c17
      refine go_iinc (v := (x4 + (1 : Int32))) [(0, .ref (ga G 78)), (1, .int x1), (2, .int x2), (3, .int x3), (4, .int (x4 + (1 : Int32)))] [1, 2, 3, 4, 0] 4 dX10_shortest_84 rfl rfl (by decide) rfl ?_
      refine go_goto 35 dX10_shortest_87 (by decide) ?_
      exact h
    · have h := h.2 c17
      refine go_iload dX10_shortest_54 4 rfl ?_
      refine go_iload_n dX10_shortest_56 rfl 1 rfl ?_
      refine go_callS (As := [.int x4, .int x1]) (rest := []) dX10_shortest_57 lX10_143 kX10_has rfl (by decide) (Nat.le_of_ble_eq_true rfl) (by decide) rfl (gI_go (fun r19 μ18 h => ?_)) h
      refine go_if_eq 84 dX10_shortest_60 (by decide) (fun c20 => ?_) (fun c20 => ?_)
      · have h := h.1 c20
        refine go_iinc (v := (x4 + (1 : Int32))) [(0, .ref (ga G 78)), (1, .int x1), (2, .int x2), (3, .int x3), (4, .int (x4 + (1 : Int32)))] [1, 2, 3, 4, 0] 4 dX10_shortest_84 rfl rfl (by decide) rfl ?_
        refine go_goto 35 dX10_shortest_87 (by decide) ?_
        exact h
      · have h := h.2 c20
        refine go_iload_n dX10_shortest_63 rfl 3 rfl ?_
        refine go_if_lt 81 dX10_shortest_64 (by decide) (fun c21 => ?_) (fun c21 => ?_)
        · have h := h.1 c21
          refine go_iload dX10_shortest_81 4 rfl ?_
          refine go_istore_n [(0, .ref (ga G 78)), (1, .int x1), (2, .int x2), (3, .int x4), (4, .int x4)] [1, 2, 3, 0, 4] dX10_shortest_83 rfl (by decide) rfl ?_
          refine go_iinc (v := (x4 + (1 : Int32))) [(0, .ref (ga G 78)), (1, .int x1), (2, .int x2), (3, .int x4), (4, .int (x4 + (1 : Int32)))] [1, 2, 3, 4, 0] 4 dX10_shortest_84 rfl rfl (by decide) rfl ?_
          refine go_goto 35 dX10_shortest_87 (by decide) ?_
          exact h
        · have h := h.2 c21
          refine go_aload_n dX10_shortest_67 rfl 0 rfl ?_
          refine go_iload dX10_shortest_68 4 rfl ?_
          refine go_callV (As := [.int x4]) (rest := []) dX10_shortest_70 lX10_211 kX10_linesOf rfl (by decide) (Nat.le_of_ble_eq_true rfl) (g_lt rfl) (gs_78 G _ _) rfl (by decide) rfl (gI_go (fun r23 μ22 h => ?_)) h
          refine go_aload_n dX10_shortest_73 rfl 0 rfl ?_
          refine go_iload_n dX10_shortest_74 rfl 3 rfl ?_
          refine go_callV (As := [.int x3]) (rest := [.int r23]) dX10_shortest_75 lX10_211 kX10_linesOf rfl (by decide) (Nat.le_of_ble_eq_true rfl) (g_lt rfl) (gs_78 G _ _) rfl (by decide) rfl (gI_go (fun r25 μ24 h => ?_)) h
          refine go_icmp_ge 84 dX10_shortest_78 (by decide) (fun c26 => ?_) (fun c26 => ?_)
          · have h := h.1 c26
            refine go_iinc (v := (x4 + (1 : Int32))) [(0, .ref (ga G 78)), (1, .int x1), (2, .int x2), (3, .int x3), (4, .int (x4 + (1 : Int32)))] [1, 2, 3, 4, 0] 4 dX10_shortest_84 rfl rfl (by decide) rfl ?_
            refine go_goto 35 dX10_shortest_87 (by decide) ?_
            exact h
          · have h := h.2 c26
            refine go_iload dX10_shortest_81 4 rfl ?_
            refine go_istore_n [(0, .ref (ga G 78)), (1, .int x1), (2, .int x2), (3, .int x4), (4, .int x4)] [1, 2, 3, 0, 4] dX10_shortest_83 rfl (by decide) rfl ?_
            refine go_iinc (v := (x4 + (1 : Int32))) [(0, .ref (ga G 78)), (1, .int x1), (2, .int x2), (3, .int x4), (4, .int (x4 + (1 : Int32)))] [1, 2, 3, 4, 0] 4 dX10_shortest_84 rfl rfl (by decide) rfl ?_
            refine go_goto 35 dX10_shortest_87 (by decide) ?_
            exact h
set_option maxRecDepth 100000 in
theorem eX10_law {G : gC} {l : Launch} {a1 : Int32} {a2 : Int32} {μ : Mem} {P : Int32 → Mem → Prop} (h : qX10_in G l (a1).toInt64 (0 : Int64) (7 : Int64) μ (fun (r2 : Int32) (μ1 : Mem) => ((¬ r2 = 0) → (((3 : Int32) ≤ a1) → hX10_law_26 G l P a1 a2 (0 : Int32) μ1) ∧ ((¬ (3 : Int32) ≤ a1) → hX10_law_26 G l P a1 a2 (1 : Int32) μ1)) ∧ ((r2 = 0) → P (-1002 : Int32) μ1))) : qX10_law G l a1 a2 μ P := by
  refine Sp.of (by decide) (Nat.le_of_ble_eq_true rfl) (lv := [(0, .ref (ga G 78)), (1, .int a1), (2, .int a2)]) rfl ?_
  refine go_iload_n dX10_law_0 rfl 1 rfl ?_
  refine go_i2l dX10_law_1 ?_
  refine go_lconst (v := 0) dX10_law_2 (by decide) ?_
  refine go_ldc2_w (v := 7) (g_in 1165 (by decide +kernel) rfl) dX10_law_3 ?_
  refine go_callS (As := [.long (a1).toInt64, .long (0 : Int64), .long (7 : Int64)]) (rest := []) dX10_law_6 lX10_99 kX10_in rfl (by decide) (Nat.le_of_ble_eq_true rfl) (by decide) rfl (gI_go (fun r2 μ1 h => ?_)) h
  refine go_if_ne 16 dX10_law_9 (by decide) (fun c3 => ?_) (fun c3 => ?_)
  · have h := h.1 c3
    refine go_iload_n dX10_law_16 rfl 1 rfl ?_
    refine go_iconst (v := 3) dX10_law_17 (by decide) ?_
    refine go_icmp_ge 25 dX10_law_18 (by decide) (fun c4 => ?_) (fun c4 => ?_)
    · have h := h.1 c4
      refine go_iconst (v := 0) dX10_law_25 (by decide) ?_
      exact h
    · have h := h.2 c4
      refine go_iconst (v := 1) dX10_law_21 (by decide) ?_
      refine go_goto 26 dX10_law_22 (by decide) ?_
      exact h
  · have h := h.2 c3
    refine go_sipush (v := -1002) dX10_law_12 (by decide) ?_
    exact go_iret dX10_law_15 rfl (Nat.le_refl _) (Nat.le_refl _) ⟨_, rfl, h⟩
set_option maxRecDepth 100000 in
theorem eX10_law_26 {G : gC} {l : Launch} {P : Int32 → Mem → Prop} {x1 : Int32} {x2 : Int32} {y0 : Int32} {μ : Mem} (h : ((x1 = 0) → hX10_law_65 G l P x1 x2 y0 (99 : Int32) μ) ∧ ((¬ x1 = 0) → ((¬ x1 = (7 : Int32)) → ((¬ x1 = (1 : Int32)) → ((¬ x1 = (2 : Int32)) → hX10_law_65 G l P x1 x2 y0 (20 : Int32) μ) ∧ ((x1 = (2 : Int32)) → hX10_law_65 G l P x1 x2 y0 (9 : Int32) μ)) ∧ ((x1 = (1 : Int32)) → hX10_law_65 G l P x1 x2 y0 (200 : Int32) μ)) ∧ ((x1 = (7 : Int32)) → hX10_law_65 G l P x1 x2 y0 (99 : Int32) μ))) : hX10_law_26 G l P x1 x2 y0 μ := by
  refine go_istore_n [(0, .ref (ga G 78)), (1, .int x1), (2, .int x2), (3, .int y0)] [1, 2, 3, 0] dX10_law_26 rfl (by decide) rfl ?_
  refine go_iload_n dX10_law_27 rfl 1 rfl ?_
  refine go_if_eq 37 dX10_law_28 (by decide) (fun c5 => ?_) (fun c5 => ?_)
  · have h := h.1 c5
    refine go_bipush (v := 99) dX10_law_37 (by decide) ?_
    refine go_goto 65 dX10_law_39 (by decide) ?_
    exact h
  · have h := h.2 c5
    refine go_iload_n dX10_law_31 rfl 1 rfl ?_
    refine go_bipush (v := 7) dX10_law_32 (by decide) ?_
    refine go_icmp_ne 42 dX10_law_34 (by decide) (fun c6 => ?_) (fun c6 => ?_)
    · have h := h.1 c6
      refine go_iload_n dX10_law_42 rfl 1 rfl ?_
      refine go_iconst (v := 1) dX10_law_43 (by decide) ?_
      refine go_icmp_ne 53 dX10_law_44 (by decide) (fun c7 => ?_) (fun c7 => ?_)
      · have h := h.1 c7
        refine go_iload_n dX10_law_53 rfl 1 rfl ?_
        refine go_iconst (v := 2) dX10_law_54 (by decide) ?_
        refine go_icmp_ne 63 dX10_law_55 (by decide) (fun c8 => ?_) (fun c8 => ?_)
        · have h := h.1 c8
          refine go_bipush (v := 20) dX10_law_63 (by decide) ?_
          exact h
        · have h := h.2 c8
          refine go_bipush (v := 9) dX10_law_58 (by decide) ?_
          refine go_goto 65 dX10_law_60 (by decide) ?_
          exact h
      · have h := h.2 c7
        refine go_sipush (v := 200) dX10_law_47 (by decide) ?_
        refine go_goto 65 dX10_law_50 (by decide) ?_
        exact h
    · have h := h.2 c6
      refine go_bipush (v := 99) dX10_law_37 (by decide) ?_
      refine go_goto 65 dX10_law_39 (by decide) ?_
      exact h
set_option maxRecDepth 100000 in
theorem eX10_law_65 {G : gC} {l : Launch} {P : Int32 → Mem → Prop} {x1 : Int32} {x2 : Int32} {x3 : Int32} {y0 : Int32} {μ : Mem} (h : qX10_in G l (x2).toInt64 (x3).toInt64 (y0).toInt64 μ (fun (r10 : Int32) (μ9 : Mem) => ((r10 = 0) → P (-1002 : Int32) μ9) ∧ ((¬ r10 = 0) → ((¬ x1 = 0) → hX10_law_94 G l P x1 x2 μ9) ∧ ((x1 = 0) → (((gm_r μ9 83 1) < x2) → P (-1002 : Int32) μ9) ∧ ((¬ (gm_r μ9 83 1) < x2) → hX10_law_94 G l P x1 x2 μ9))))) : hX10_law_65 G l P x1 x2 x3 y0 μ := by
  refine go_istore [(0, .ref (ga G 78)), (1, .int x1), (2, .int x2), (3, .int x3), (4, .int y0)] [1, 2, 3, 4, 0] dX10_law_65 (by decide) rfl ?_
  refine go_iload_n dX10_law_67 rfl 2 rfl ?_
  refine go_i2l dX10_law_68 ?_
  refine go_iload_n dX10_law_69 rfl 3 rfl ?_
  refine go_i2l dX10_law_70 ?_
  refine go_iload dX10_law_71 4 rfl ?_
  refine go_i2l dX10_law_73 ?_
  refine go_callS (As := [.long (x2).toInt64, .long (x3).toInt64, .long (y0).toInt64]) (rest := []) dX10_law_74 lX10_99 kX10_in rfl (by decide) (Nat.le_of_ble_eq_true rfl) (by decide) rfl (gI_go (fun r10 μ9 h => ?_)) h
  refine go_if_eq 109 dX10_law_77 (by decide) (fun c11 => ?_) (fun c11 => ?_)
  · have h := h.1 c11
    refine go_sipush (v := -1002) dX10_law_109 (by decide) ?_
    exact go_iret dX10_law_112 rfl (Nat.le_refl _) (Nat.le_refl _) ⟨_, rfl, h⟩
  · have h := h.2 c11
    refine go_iload_n dX10_law_80 rfl 1 rfl ?_
    refine go_if_ne 94 dX10_law_81 (by decide) (fun c12 => ?_) (fun c12 => ?_)
    · have h := h.1 c12
      exact go_sub [0, 1, 2] rfl h
    · have h := h.2 c12
      refine go_iload_n dX10_law_84 rfl 2 rfl ?_
      refine go_aload_n dX10_law_85 rfl 0 rfl ?_
      refine go_get (.ref (ga G 83)) dX10_law_86 fX10_22 (g_lt rfl) (gs_78 G _ _) rfl ?_
      refine go_iconst (v := 1) dX10_law_89 (by decide) ?_
      refine go_ialdv ((gm_r μ9 83 1)) dX10_law_90 (g_lt rfl) (gs_83 G) (by unfold vp_in; decide) rfl ?_
      refine go_icmp_gt 109 dX10_law_91 (by decide) (fun c13 => ?_) (fun c13 => ?_)
      · have h := h.1 c13
        refine go_sipush (v := -1002) dX10_law_109 (by decide) ?_
        exact go_iret dX10_law_112 rfl (Nat.le_refl _) (Nat.le_refl _) ⟨_, rfl, h⟩
      · have h := h.2 c13
        exact go_sub [0, 1, 2] rfl h
set_option maxRecDepth 100000 in
theorem eX10_law_94 {G : gC} {l : Launch} {P : Int32 → Mem → Prop} {x1 : Int32} {x2 : Int32} {μ : Mem} (h : ((¬ x1 = (1 : Int32)) → vp_in x1 8 ∧ P (gm_r μ 83 x1.toNatClampNeg) (gm_w μ 83 x1.toNatClampNeg x2)) ∧ ((x1 = (1 : Int32)) → (((gm_r μ 83 0) ≤ x2) → vp_in x1 8 ∧ P (gm_r μ 83 x1.toNatClampNeg) (gm_w μ 83 x1.toNatClampNeg x2)) ∧ ((¬ (gm_r μ 83 0) ≤ x2) → P (-1002 : Int32) μ))) : hX10_law_94 G l P x1 x2 μ := by
  refine go_iload_n dX10_law_94 rfl 1 rfl ?_
  refine go_iconst (v := 1) dX10_law_95 (by decide) ?_
  refine go_icmp_ne 113 dX10_law_96 (by decide) (fun c14 => ?_) (fun c14 => ?_)
  · have h := h.1 c14
    refine go_aload_n dX10_law_113 rfl 0 rfl ?_
    refine go_get (.ref (ga G 83)) dX10_law_114 fX10_22 (g_lt rfl) (gs_78 G _ _) rfl ?_
    refine go_iload_n dX10_law_117 rfl 1 rfl ?_
    obtain ⟨b15, h⟩ := h
    refine go_ialdv ((gm_r μ 83 x1.toNatClampNeg)) dX10_law_118 (g_lt rfl) (gs_83 G) b15 rfl ?_
    refine go_istore [(0, .ref (ga G 78)), (1, .int x1), (2, .int x2), (5, .int (gm_r μ 83 x1.toNatClampNeg))] [1, 2, 3, 0] dX10_law_119 (by decide) rfl ?_
    refine go_aload_n dX10_law_121 rfl 0 rfl ?_
    refine go_get (.ref (ga G 83)) dX10_law_122 fX10_22 (g_lt rfl) (gs_78 G _ _) rfl ?_
    refine go_iload_n dX10_law_125 rfl 1 rfl ?_
    refine go_iload_n dX10_law_126 rfl 2 rfl ?_
    refine go_iast dX10_law_127 (g_lt rfl) (gs_83 G) b15 ?_
    refine go_iload dX10_law_128 3 rfl ?_
    exact go_iret dX10_law_130 rfl (Nat.le_refl _) (Nat.le_refl _) ⟨_, rfl, h⟩
  · have h := h.2 c14
    refine go_iload_n dX10_law_99 rfl 2 rfl ?_
    refine go_aload_n dX10_law_100 rfl 0 rfl ?_
    refine go_get (.ref (ga G 83)) dX10_law_101 fX10_22 (g_lt rfl) (gs_78 G _ _) rfl ?_
    refine go_iconst (v := 0) dX10_law_104 (by decide) ?_
    refine go_ialdv ((gm_r μ 83 0)) dX10_law_105 (g_lt rfl) (gs_83 G) (by unfold vp_in; decide) rfl ?_
    refine go_icmp_ge 113 dX10_law_106 (by decide) (fun c16 => ?_) (fun c16 => ?_)
    · have h := h.1 c16
      refine go_aload_n dX10_law_113 rfl 0 rfl ?_
      refine go_get (.ref (ga G 83)) dX10_law_114 fX10_22 (g_lt rfl) (gs_78 G _ _) rfl ?_
      refine go_iload_n dX10_law_117 rfl 1 rfl ?_
      obtain ⟨b17, h⟩ := h
      refine go_ialdv ((gm_r μ 83 x1.toNatClampNeg)) dX10_law_118 (g_lt rfl) (gs_83 G) b17 rfl ?_
      refine go_istore [(0, .ref (ga G 78)), (1, .int x1), (2, .int x2), (5, .int (gm_r μ 83 x1.toNatClampNeg))] [1, 2, 3, 0] dX10_law_119 (by decide) rfl ?_
      refine go_aload_n dX10_law_121 rfl 0 rfl ?_
      refine go_get (.ref (ga G 83)) dX10_law_122 fX10_22 (g_lt rfl) (gs_78 G _ _) rfl ?_
      refine go_iload_n dX10_law_125 rfl 1 rfl ?_
      refine go_iload_n dX10_law_126 rfl 2 rfl ?_
      refine go_iast dX10_law_127 (g_lt rfl) (gs_83 G) b17 ?_
      refine go_iload dX10_law_128 3 rfl ?_
      exact go_iret dX10_law_130 rfl (Nat.le_refl _) (Nat.le_refl _) ⟨_, rfl, h⟩
    · have h := h.2 c16
      refine go_sipush (v := -1002) dX10_law_109 (by decide) ?_
      exact go_iret dX10_law_112 rfl (Nat.le_refl _) (Nat.le_refl _) ⟨_, rfl, h⟩
set_option maxRecDepth 100000 in
theorem eX10_add {G : gC} {l : Launch} {a1 : Int32} {μ : Mem} {P : Int32 → Mem → Prop} (h : qX10_noScene G l a1 μ (fun (r2 : Int32) (μ1 : Mem) => ((r2 = 0) → qX10_mayCome G l a1 ((gm_r μ1 78 23) ||| (gm_r μ1 78 27)) μ1 (fun (r5 : Int32) (μ4 : Mem) => ((¬ r5 = 0) → ((¬ (gm_r μ4 78 26) = (6 : Int32)) → vp_in (gm_r μ4 78 26) 6 ∧ P ((gm_r μ4 78 26) + (1 : Int32)) (gm_w (gm_w (gm_w μ4 94 (gm_r μ4 78 26).toNatClampNeg a1) 78 27 ((gm_r μ4 78 27) ||| ((1 : Int32) <<< (a1 &&& 31)))) 78 26 ((gm_r μ4 78 26) + (1 : Int32)))) ∧ (((gm_r μ4 78 26) = (6 : Int32)) → P (-1004 : Int32) μ4)) ∧ ((r5 = 0) → P (-1003 : Int32) μ4))) ∧ ((¬ r2 = 0) → P (-1001 : Int32) μ1))) : qX10_add G l a1 μ P := by
  refine Sp.of (by decide) (Nat.le_of_ble_eq_true rfl) (lv := [(0, .ref (ga G 78)), (1, .int a1)]) rfl ?_
  refine go_aload_n dX10_add_0 rfl 0 rfl ?_
  refine go_iload_n dX10_add_1 rfl 1 rfl ?_
  refine go_callV (As := [.int a1]) (rest := []) dX10_add_2 lX10_195 kX10_noScene rfl (by decide) (Nat.le_of_ble_eq_true rfl) (g_lt rfl) (gs_78 G _ _) rfl (by decide) rfl (gI_go (fun r2 μ1 h => ?_)) h
  refine go_if_eq 12 dX10_add_5 (by decide) (fun c3 => ?_) (fun c3 => ?_)
  · have h := h.1 c3
    refine go_aload_n dX10_add_12 rfl 0 rfl ?_
    refine go_iload_n dX10_add_13 rfl 1 rfl ?_
    refine go_aload_n dX10_add_14 rfl 0 rfl ?_
    refine go_get (.int (gm_r μ1 78 23)) dX10_add_15 fX10_180 (g_lt rfl) (gs_78 G _ _) rfl ?_
    refine go_aload_n dX10_add_18 rfl 0 rfl ?_
    refine go_get (.int (gm_r μ1 78 27)) dX10_add_19 fX10_186 (g_lt rfl) (gs_78 G _ _) rfl ?_
    refine go_ior dX10_add_22 ?_
    refine go_callV (As := [.int a1, .int ((gm_r μ1 78 23) ||| (gm_r μ1 78 27))]) (rest := []) dX10_add_23 lX10_223 kX10_mayCome rfl (by decide) (Nat.le_of_ble_eq_true rfl) (g_lt rfl) (gs_78 G _ _) rfl (by decide) rfl (gI_go (fun r5 μ4 h => ?_)) h
    refine go_if_ne 33 dX10_add_26 (by decide) (fun c6 => ?_) (fun c6 => ?_)
    · have h := h.1 c6
      refine go_aload_n dX10_add_33 rfl 0 rfl ?_
      refine go_get (.int (gm_r μ4 78 26)) dX10_add_34 fX10_183 (g_lt rfl) (gs_78 G _ _) rfl ?_
      refine go_bipush (v := 6) dX10_add_37 (by decide) ?_
      refine go_icmp_ne 46 dX10_add_39 (by decide) (fun c7 => ?_) (fun c7 => ?_)
      · have h := h.1 c7
        refine go_aload_n dX10_add_46 rfl 0 rfl ?_
        refine go_get (.ref (ga G 94)) dX10_add_47 fX10_61 (g_lt rfl) (gs_78 G _ _) rfl ?_
        refine go_aload_n dX10_add_50 rfl 0 rfl ?_
        refine go_get (.int (gm_r μ4 78 26)) dX10_add_51 fX10_183 (g_lt rfl) (gs_78 G _ _) rfl ?_
        refine go_iload_n dX10_add_54 rfl 1 rfl ?_
        obtain ⟨b8, h⟩ := h
        refine go_iast dX10_add_55 (g_lt rfl) (gs_94 G) b8 ?_
        refine go_aload_n dX10_add_56 rfl 0 rfl ?_
        refine go_dup dX10_add_57 rfl ?_
        refine go_get (.int (gm_r μ4 78 27)) dX10_add_58 fX10_186 (g_lt rfl) (gs_78 G _ _) rfl ?_
        refine go_iconst (v := 1) dX10_add_61 (by decide) ?_
        refine go_iload_n dX10_add_62 rfl 1 rfl ?_
        refine go_ishl dX10_add_63 ?_
        refine go_ior dX10_add_64 ?_
        refine go_puti dX10_add_65 pX10_186 (g_lt rfl) (gs_78 G _ _) (Nat.le_of_ble_eq_true rfl) rfl ?_
        refine go_aload_n dX10_add_68 rfl 0 rfl ?_
        refine go_dup dX10_add_69 rfl ?_
        refine go_get (.int (gm_r μ4 78 26)) dX10_add_70 fX10_183 (g_lt rfl) (gs_78 G _ _) rfl ?_
        refine go_iconst (v := 1) dX10_add_73 (by decide) ?_
        refine go_iadd dX10_add_74 ?_
        refine go_puti dX10_add_75 pX10_183 (g_lt rfl) (gs_78 G _ _) (Nat.le_of_ble_eq_true rfl) rfl ?_
        refine go_aload_n dX10_add_78 rfl 0 rfl ?_
        refine go_get (.int ((gm_r μ4 78 26) + (1 : Int32))) dX10_add_79 fX10_183 (g_lt rfl) (gs_78 G _ _) rfl ?_
        exact go_iret dX10_add_82 rfl (Nat.le_refl _) (Nat.le_refl _) ⟨_, rfl, h⟩
      · have h := h.2 c7
        refine go_sipush (v := -1004) dX10_add_42 (by decide) ?_
        exact go_iret dX10_add_45 rfl (Nat.le_refl _) (Nat.le_refl _) ⟨_, rfl, h⟩
    · have h := h.2 c6
      refine go_sipush (v := -1003) dX10_add_29 (by decide) ?_
      exact go_iret dX10_add_32 rfl (Nat.le_refl _) (Nat.le_refl _) ⟨_, rfl, h⟩
  · have h := h.2 c3
    refine go_sipush (v := -1001) dX10_add_8 (by decide) ?_
    exact go_iret dX10_add_11 rfl (Nat.le_refl _) (Nat.le_refl _) ⟨_, rfl, h⟩
set_option maxRecDepth 100000 in
theorem eX10_drop {G : gC} {l : Launch}  {μ : Mem} {P : Int32 → Mem → Prop} (h : ((¬ (gm_r μ 78 26) = 0) → vp_in ((gm_r μ 78 26) - (1 : Int32)) 6 ∧ ∀ v3 : Int32, v3 = (gm_r μ 94 ((gm_r μ 78 26) - (1 : Int32)).toNatClampNeg) → P v3 (gm_w (gm_w μ 78 26 ((gm_r μ 78 26) - (1 : Int32))) 78 27 ((gm_r μ 78 27) &&& (((1 : Int32) <<< (v3 &&& 31)) ^^^ (-1 : Int32))))) ∧ (((gm_r μ 78 26) = 0) → P (-1 : Int32) μ)) : qX10_drop G l  μ P := by
  refine Sp.of (by decide) (Nat.le_of_ble_eq_true rfl) (lv := [(0, .ref (ga G 78))]) rfl ?_
  refine go_aload_n dX10_drop_0 rfl 0 rfl ?_
  refine go_get (.int (gm_r μ 78 26)) dX10_drop_1 fX10_183 (g_lt rfl) (gs_78 G _ _) rfl ?_
  refine go_if_ne 9 dX10_drop_4 (by decide) (fun c1 => ?_) (fun c1 => ?_)
  · have h := h.1 c1
    refine go_aload_n dX10_drop_9 rfl 0 rfl ?_
    refine go_dup dX10_drop_10 rfl ?_
    refine go_get (.int (gm_r μ 78 26)) dX10_drop_11 fX10_183 (g_lt rfl) (gs_78 G _ _) rfl ?_
    refine go_iconst (v := 1) dX10_drop_14 (by decide) ?_
    refine go_isub dX10_drop_15 ?_
    refine go_puti dX10_drop_16 pX10_183 (g_lt rfl) (gs_78 G _ _) (Nat.le_of_ble_eq_true rfl) rfl ?_
    refine go_aload_n dX10_drop_19 rfl 0 rfl ?_
    refine go_get (.ref (ga G 94)) dX10_drop_20 fX10_61 (g_lt rfl) (gs_78 G _ _) rfl ?_
    refine go_aload_n dX10_drop_23 rfl 0 rfl ?_
    refine go_get (.int ((gm_r μ 78 26) - (1 : Int32))) dX10_drop_24 fX10_183 (g_lt rfl) (gs_78 G _ _) rfl ?_
    obtain ⟨b2, h⟩ := h
    refine go_ialdv ((gm_r μ 94 ((gm_r μ 78 26) - (1 : Int32)).toNatClampNeg)) dX10_drop_27 (g_lt rfl) (gs_94 G) b2 rfl ?_
    refine go_topi (fun v3 e_v3 => ?_)
    have h := h v3 e_v3
    refine go_istore_n [(0, .ref (ga G 78)), (1, .int v3)] [1, 0] dX10_drop_28 rfl (by decide) rfl ?_
    refine go_aload_n dX10_drop_29 rfl 0 rfl ?_
    refine go_dup dX10_drop_30 rfl ?_
    refine go_get (.int (gm_r μ 78 27)) dX10_drop_31 fX10_186 (g_lt rfl) (gs_78 G _ _) rfl ?_
    refine go_iconst (v := 1) dX10_drop_34 (by decide) ?_
    refine go_iload_n dX10_drop_35 rfl 1 rfl ?_
    refine go_ishl dX10_drop_36 ?_
    refine go_iconst (v := -1) dX10_drop_37 (by decide) ?_
    refine go_ixor dX10_drop_38 ?_
    refine go_iand dX10_drop_39 ?_
    refine go_puti dX10_drop_40 pX10_186 (g_lt rfl) (gs_78 G _ _) (Nat.le_of_ble_eq_true rfl) rfl ?_
    refine go_iload_n dX10_drop_43 rfl 1 rfl ?_
    exact go_iret dX10_drop_44 rfl (Nat.le_refl _) (Nat.le_refl _) ⟨_, rfl, h⟩
  · have h := h.2 c1
    refine go_iconst (v := -1) dX10_drop_7 (by decide) ?_
    exact go_iret dX10_drop_8 rfl (Nat.le_refl _) (Nat.le_refl _) ⟨_, rfl, h⟩
set_option maxRecDepth 100000 in
theorem eX10_remindedOf {G : gC} {l : Launch} {a1 : Int32} {a2 : Int32} {μ : Mem} {P : Int32 → Mem → Prop} (h : hX10_remindedOf_8 G l P a1 a2 (0 : Int32) (0 : Int32) (0 : Int32) μ) : qX10_remindedOf G l a1 a2 μ P := by
  refine Sp.of (by decide) (Nat.le_of_ble_eq_true rfl) (lv := [(0, .ref (ga G 78)), (1, .int a1), (2, .int a2)]) rfl ?_
  refine go_iconst (v := 0) dX10_remindedOf_0 (by decide) ?_
  refine go_istore_n [(0, .ref (ga G 78)), (1, .int a1), (2, .int a2), (3, .int (0 : Int32))] [1, 2, 3, 0] dX10_remindedOf_1 rfl (by decide) rfl ?_
  refine go_iconst (v := 0) dX10_remindedOf_2 (by decide) ?_
  refine go_istore [(0, .ref (ga G 78)), (1, .int a1), (2, .int a2), (3, .int (0 : Int32)), (4, .int (0 : Int32))] [1, 2, 3, 4, 0] dX10_remindedOf_3 (by decide) rfl ?_
  refine go_iconst (v := 0) dX10_remindedOf_5 (by decide) ?_
  refine go_istore [(0, .ref (ga G 78)), (1, .int a1), (2, .int a2), (3, .int (0 : Int32)), (4, .int (0 : Int32)), (5, .int (0 : Int32))] [1, 2, 3, 4, 5, 0] dX10_remindedOf_6 (by decide) rfl ?_
  exact h
set_option maxRecDepth 100000 in
theorem eX10_remindedOf_8 {G : gC} {l : Launch} {P : Int32 → Mem → Prop} {x1 : Int32} {x2 : Int32} {x3 : Int32} {x4 : Int32} {x5 : Int32} {μ : Mem} (h : ((x2 ≤ x5) → qX10_union G l x1 (1 : Int32) μ (fun (r3 : Int32) (μ2 : Mem) => P ((r3 &&& x3) &&& (x4 ^^^ (-1 : Int32))) μ2)) ∧ ((¬ x2 ≤ x5) → qX10_setIn G l x5 μ (fun (r5 : Int32) (μ4 : Mem) => qX10_union G l r5 (1 : Int32) μ4 (fun (r7 : Int32) (μ6 : Mem) => (((gm_r μ6 83 2) < (x2 - x5)) → hX10_remindedOf_8 G l P x1 x2 (x3 ||| r7) (x4 ||| (0 : Int32)) (x5 + (1 : Int32)) μ6) ∧ ((¬ (gm_r μ6 83 2) < (x2 - x5)) → hX10_remindedOf_8 G l P x1 x2 (x3 ||| r7) (x4 ||| r7) (x5 + (1 : Int32)) μ6))))) : hX10_remindedOf_8 G l P x1 x2 x3 x4 x5 μ := by
  refine go_iload dX10_remindedOf_8 5 rfl ?_
  refine go_iload_n dX10_remindedOf_10 rfl 2 rfl ?_
  refine go_icmp_ge 62 dX10_remindedOf_11 (by decide) (fun c1 => ?_) (fun c1 => ?_)
  · have h := h.1 c1
    refine go_aload_n dX10_remindedOf_62 rfl 0 rfl ?_
    refine go_iload_n dX10_remindedOf_63 rfl 1 rfl ?_
    refine go_iconst (v := 1) dX10_remindedOf_64 (by decide) ?_
    refine go_callV (As := [.int x1, .int (1 : Int32)]) (rest := []) dX10_remindedOf_65 lX10_217 kX10_union rfl (by decide) (Nat.le_of_ble_eq_true rfl) (g_lt rfl) (gs_78 G _ _) rfl (by decide) rfl (gI_go (fun r3 μ2 h => ?_)) h
    refine go_iload_n dX10_remindedOf_68 rfl 3 rfl ?_
    refine go_iand dX10_remindedOf_69 ?_
    refine go_iload dX10_remindedOf_70 4 rfl ?_
    refine go_iconst (v := -1) dX10_remindedOf_72 (by decide) ?_
    refine go_ixor dX10_remindedOf_73 ?_
    refine go_iand dX10_remindedOf_74 ?_
    exact go_iret dX10_remindedOf_75 rfl (Nat.le_refl _) (Nat.le_refl _) ⟨_, rfl, h⟩
  · have h := h.2 c1
    refine go_aload_n dX10_remindedOf_14 rfl 0 rfl ?_
    refine go_aload_n dX10_remindedOf_15 rfl 0 rfl ?_
    refine go_iload dX10_remindedOf_16 5 rfl ?_
    refine go_callV (As := [.int x5]) (rest := [.ref (ga G 78)]) dX10_remindedOf_18 lX10_241 kX10_setIn rfl (by decide) (Nat.le_of_ble_eq_true rfl) (g_lt rfl) (gs_78 G _ _) rfl (by decide) rfl (gI_go (fun r5 μ4 h => ?_)) h
    refine go_iconst (v := 1) dX10_remindedOf_21 (by decide) ?_
    refine go_callV (As := [.int r5, .int (1 : Int32)]) (rest := []) dX10_remindedOf_22 lX10_217 kX10_union rfl (by decide) (Nat.le_of_ble_eq_true rfl) (g_lt rfl) (gs_78 G _ _) rfl (by decide) rfl (gI_go (fun r7 μ6 h => ?_)) h
    refine go_istore [(0, .ref (ga G 78)), (1, .int x1), (2, .int x2), (3, .int x3), (4, .int x4), (5, .int x5), (6, .int r7)] [1, 2, 3, 4, 5, 6, 0] dX10_remindedOf_25 (by decide) rfl ?_
    refine go_iload_n dX10_remindedOf_27 rfl 3 rfl ?_
    refine go_iload dX10_remindedOf_28 6 rfl ?_
    refine go_ior dX10_remindedOf_30 ?_
    refine go_istore_n [(0, .ref (ga G 78)), (1, .int x1), (2, .int x2), (3, .int (x3 ||| r7)), (4, .int x4), (5, .int x5), (6, .int r7)] [1, 2, 3, 0, 4, 5, 6] dX10_remindedOf_31 rfl (by decide) rfl ?_
    refine go_iload dX10_remindedOf_32 4 rfl ?_
    refine go_iload_n dX10_remindedOf_34 rfl 2 rfl ?_
    refine go_iload dX10_remindedOf_35 5 rfl ?_
    refine go_isub dX10_remindedOf_37 ?_
    refine go_aload_n dX10_remindedOf_38 rfl 0 rfl ?_
    refine go_get (.ref (ga G 83)) dX10_remindedOf_39 fX10_22 (g_lt rfl) (gs_78 G _ _) rfl ?_
    refine go_iconst (v := 2) dX10_remindedOf_42 (by decide) ?_
    refine go_ialdv ((gm_r μ6 83 2)) dX10_remindedOf_43 (g_lt rfl) (gs_83 G) (by unfold vp_in; decide) rfl ?_
    refine go_icmp_gt 52 dX10_remindedOf_44 (by decide) (fun c8 => ?_) (fun c8 => ?_)
    · have h := h.1 c8
      refine go_iconst (v := 0) dX10_remindedOf_52 (by decide) ?_
      refine go_ior dX10_remindedOf_53 ?_
      refine go_istore [(0, .ref (ga G 78)), (1, .int x1), (2, .int x2), (3, .int (x3 ||| r7)), (4, .int (x4 ||| (0 : Int32))), (5, .int x5), (6, .int r7)] [1, 2, 3, 4, 0, 5, 6] dX10_remindedOf_54 (by decide) rfl ?_
      refine go_iinc (v := (x5 + (1 : Int32))) [(0, .ref (ga G 78)), (1, .int x1), (2, .int x2), (3, .int (x3 ||| r7)), (4, .int (x4 ||| (0 : Int32))), (5, .int (x5 + (1 : Int32))), (6, .int r7)] [1, 2, 3, 4, 5, 0, 6] 5 dX10_remindedOf_56 rfl rfl (by decide) rfl ?_
      refine go_goto 8 dX10_remindedOf_59 (by decide) ?_
      exact go_sub [0, 1, 2, 3, 4, 5] rfl h
    · have h := h.2 c8
      refine go_iload dX10_remindedOf_47 6 rfl ?_
      refine go_goto 53 dX10_remindedOf_49 (by decide) ?_
      refine go_ior dX10_remindedOf_53 ?_
      refine go_istore [(0, .ref (ga G 78)), (1, .int x1), (2, .int x2), (3, .int (x3 ||| r7)), (4, .int (x4 ||| r7)), (5, .int x5), (6, .int r7)] [1, 2, 3, 4, 0, 5, 6] dX10_remindedOf_54 (by decide) rfl ?_
      refine go_iinc (v := (x5 + (1 : Int32))) [(0, .ref (ga G 78)), (1, .int x1), (2, .int x2), (3, .int (x3 ||| r7)), (4, .int (x4 ||| r7)), (5, .int (x5 + (1 : Int32))), (6, .int r7)] [1, 2, 3, 4, 5, 0, 6] 5 dX10_remindedOf_56 rfl rfl (by decide) rfl ?_
      refine go_goto 8 dX10_remindedOf_59 (by decide) ?_
      exact go_sub [0, 1, 2, 3, 4, 5] rfl h
set_option maxRecDepth 100000 in
theorem eX10_linesAs {G : gC} {l : Launch} {a1 : Int32} {a2 : Int32} {μ : Mem} {P : Int32 → Mem → Prop} (h : qX10_linesOf G l a1 μ (fun (r2 : Int32) (μ1 : Mem) => qX10_remindedOf G l a1 a2 μ1 (fun (r4 : Int32) (μ3 : Mem) => qX10_ones G l r4 μ3 (fun (r6 : Int32) (μ5 : Mem) => P (r2 + ((gm_r μ1 83 3) * r6)) μ5)))) : qX10_linesAs G l a1 a2 μ P := by
  refine Sp.of (by decide) (Nat.le_of_ble_eq_true rfl) (lv := [(0, .ref (ga G 78)), (1, .int a1), (2, .int a2)]) rfl ?_
  refine go_aload_n dX10_linesAs_0 rfl 0 rfl ?_
  refine go_iload_n dX10_linesAs_1 rfl 1 rfl ?_
  refine go_callV (As := [.int a1]) (rest := []) dX10_linesAs_2 lX10_211 kX10_linesOf rfl (by decide) (Nat.le_of_ble_eq_true rfl) (g_lt rfl) (gs_78 G _ _) rfl (by decide) rfl (gI_go (fun r2 μ1 h => ?_)) h
  refine go_aload_n dX10_linesAs_5 rfl 0 rfl ?_
  refine go_get (.ref (ga G 83)) dX10_linesAs_6 fX10_22 (g_lt rfl) (gs_78 G _ _) rfl ?_
  refine go_iconst (v := 3) dX10_linesAs_9 (by decide) ?_
  refine go_ialdv ((gm_r μ1 83 3)) dX10_linesAs_10 (g_lt rfl) (gs_83 G) (by unfold vp_in; decide) rfl ?_
  refine go_aload_n dX10_linesAs_11 rfl 0 rfl ?_
  refine go_iload_n dX10_linesAs_12 rfl 1 rfl ?_
  refine go_iload_n dX10_linesAs_13 rfl 2 rfl ?_
  refine go_callV (As := [.int a1, .int a2]) (rest := [.int (gm_r μ1 83 3), .int r2]) dX10_linesAs_14 lX10_244 kX10_remindedOf rfl (by decide) (Nat.le_of_ble_eq_true rfl) (g_lt rfl) (gs_78 G _ _) rfl (by decide) rfl (gI_go (fun r4 μ3 h => ?_)) h
  refine go_callS (As := [.int r4]) (rest := [.int (gm_r μ1 83 3), .int r2]) dX10_linesAs_17 lX10_208 kX10_ones rfl (by decide) (Nat.le_of_ble_eq_true rfl) (by decide) rfl (gI_go (fun r6 μ5 h => ?_)) h
  refine go_imul dX10_linesAs_20 ?_
  refine go_iadd dX10_linesAs_21 ?_
  exact go_iret dX10_linesAs_22 rfl (Nat.le_refl _) (Nat.le_refl _) ⟨_, rfl, h⟩
set_option maxRecDepth 100000 in
theorem eX10_lines {G : gC} {l : Launch}  {μ : Mem} {P : Int32 → Mem → Prop} (h : qX10_linesAs G l (gm_r μ 78 27) (gm_r μ 78 22) μ (fun (r2 : Int32) (μ1 : Mem) => P r2 μ1)) : qX10_lines G l  μ P := by
  refine Sp.of (by decide) (Nat.le_of_ble_eq_true rfl) (lv := [(0, .ref (ga G 78))]) rfl ?_
  refine go_aload_n dX10_lines_0 rfl 0 rfl ?_
  refine go_aload_n dX10_lines_1 rfl 0 rfl ?_
  refine go_get (.int (gm_r μ 78 27)) dX10_lines_2 fX10_186 (g_lt rfl) (gs_78 G _ _) rfl ?_
  refine go_aload_n dX10_lines_5 rfl 0 rfl ?_
  refine go_get (.int (gm_r μ 78 22)) dX10_lines_6 fX10_177 (g_lt rfl) (gs_78 G _ _) rfl ?_
  refine go_callV (As := [.int (gm_r μ 78 27), .int (gm_r μ 78 22)]) (rest := []) dX10_lines_9 lX10_247 kX10_linesAs rfl (by decide) (Nat.le_of_ble_eq_true rfl) (g_lt rfl) (gs_78 G _ _) rfl (by decide) rfl (gI_go (fun r2 μ1 h => ?_)) h
  exact go_iret dX10_lines_12 rfl (Nat.le_refl _) (Nat.le_refl _) ⟨_, rfl, h⟩
set_option maxRecDepth 100000 in
theorem eX10_print {G : gC} {l : Launch}  {μ : Mem} {P : Int32 → Mem → Prop} (h : (((gm_r μ 78 26) = 0) → P (-1003 : Int32) μ) ∧ ((¬ (gm_r μ 78 26) = 0) → qX10_linesAs G l (gm_r μ 78 27) (gm_r μ 78 22) μ (fun (r3 : Int32) (μ2 : Mem) => qX10_in G l (r3).toInt64 ((gm_r μ2 83 0)).toInt64 ((gm_r μ2 83 1)).toInt64 μ2 (fun (r5 : Int32) (μ4 : Mem) => ((¬ r5 = 0) → ((¬ (gm_r μ4 78 22) = (12 : Int32)) → vp_in (gm_r μ4 78 22) 12 ∧ hX10_print_72 G l P (0 : Int32) (gm_w μ4 92 (gm_r μ4 78 22).toNatClampNeg (gm_r μ4 78 26))) ∧ (((gm_r μ4 78 22) = (12 : Int32)) → P (-1004 : Int32) μ4)) ∧ ((r5 = 0) → P (-1003 : Int32) μ4))))) : qX10_print G l  μ P := by
  refine Sp.of (by decide) (Nat.le_of_ble_eq_true rfl) (lv := [(0, .ref (ga G 78))]) rfl ?_
  refine go_aload_n dX10_print_0 rfl 0 rfl ?_
  refine go_get (.int (gm_r μ 78 26)) dX10_print_1 fX10_183 (g_lt rfl) (gs_78 G _ _) rfl ?_
  refine go_if_eq 40 dX10_print_4 (by decide) (fun c1 => ?_) (fun c1 => ?_)
  · have h := h.1 c1
    refine go_sipush (v := -1003) dX10_print_40 (by decide) ?_
    exact go_iret dX10_print_43 rfl (Nat.le_refl _) (Nat.le_refl _) ⟨_, rfl, h⟩
  · have h := h.2 c1
    refine go_aload_n dX10_print_7 rfl 0 rfl ?_
    refine go_aload_n dX10_print_8 rfl 0 rfl ?_
    refine go_get (.int (gm_r μ 78 27)) dX10_print_9 fX10_186 (g_lt rfl) (gs_78 G _ _) rfl ?_
    refine go_aload_n dX10_print_12 rfl 0 rfl ?_
    refine go_get (.int (gm_r μ 78 22)) dX10_print_13 fX10_177 (g_lt rfl) (gs_78 G _ _) rfl ?_
    refine go_callV (As := [.int (gm_r μ 78 27), .int (gm_r μ 78 22)]) (rest := []) dX10_print_16 lX10_247 kX10_linesAs rfl (by decide) (Nat.le_of_ble_eq_true rfl) (g_lt rfl) (gs_78 G _ _) rfl (by decide) rfl (gI_go (fun r3 μ2 h => ?_)) h
    refine go_i2l dX10_print_19 ?_
    refine go_aload_n dX10_print_20 rfl 0 rfl ?_
    refine go_get (.ref (ga G 83)) dX10_print_21 fX10_22 (g_lt rfl) (gs_78 G _ _) rfl ?_
    refine go_iconst (v := 0) dX10_print_24 (by decide) ?_
    refine go_ialdv ((gm_r μ2 83 0)) dX10_print_25 (g_lt rfl) (gs_83 G) (by unfold vp_in; decide) rfl ?_
    refine go_i2l dX10_print_26 ?_
    refine go_aload_n dX10_print_27 rfl 0 rfl ?_
    refine go_get (.ref (ga G 83)) dX10_print_28 fX10_22 (g_lt rfl) (gs_78 G _ _) rfl ?_
    refine go_iconst (v := 1) dX10_print_31 (by decide) ?_
    refine go_ialdv ((gm_r μ2 83 1)) dX10_print_32 (g_lt rfl) (gs_83 G) (by unfold vp_in; decide) rfl ?_
    refine go_i2l dX10_print_33 ?_
    refine go_callS (As := [.long (r3).toInt64, .long ((gm_r μ2 83 0)).toInt64, .long ((gm_r μ2 83 1)).toInt64]) (rest := []) dX10_print_34 lX10_99 kX10_in rfl (by decide) (Nat.le_of_ble_eq_true rfl) (by decide) rfl (gI_go (fun r5 μ4 h => ?_)) h
    refine go_if_ne 44 dX10_print_37 (by decide) (fun c6 => ?_) (fun c6 => ?_)
    · have h := h.1 c6
      refine go_aload_n dX10_print_44 rfl 0 rfl ?_
      refine go_get (.int (gm_r μ4 78 22)) dX10_print_45 fX10_177 (g_lt rfl) (gs_78 G _ _) rfl ?_
      refine go_bipush (v := 12) dX10_print_48 (by decide) ?_
      refine go_icmp_ne 57 dX10_print_50 (by decide) (fun c7 => ?_) (fun c7 => ?_)
      · have h := h.1 c7
        refine go_aload_n dX10_print_57 rfl 0 rfl ?_
        refine go_get (.ref (ga G 92)) dX10_print_58 fX10_55 (g_lt rfl) (gs_78 G _ _) rfl ?_
        refine go_aload_n dX10_print_61 rfl 0 rfl ?_
        refine go_get (.int (gm_r μ4 78 22)) dX10_print_62 fX10_177 (g_lt rfl) (gs_78 G _ _) rfl ?_
        refine go_aload_n dX10_print_65 rfl 0 rfl ?_
        refine go_get (.int (gm_r μ4 78 26)) dX10_print_66 fX10_183 (g_lt rfl) (gs_78 G _ _) rfl ?_
        obtain ⟨b8, h⟩ := h
        refine go_iast dX10_print_69 (g_lt rfl) (gs_92 G) b8 ?_
        refine go_iconst (v := 0) dX10_print_70 (by decide) ?_
        refine go_istore_n [(0, .ref (ga G 78)), (1, .int (0 : Int32))] [1, 0] dX10_print_71 rfl (by decide) rfl ?_
        exact h
      · have h := h.2 c7
        refine go_sipush (v := -1004) dX10_print_53 (by decide) ?_
        exact go_iret dX10_print_56 rfl (Nat.le_refl _) (Nat.le_refl _) ⟨_, rfl, h⟩
    · have h := h.2 c6
      refine go_sipush (v := -1003) dX10_print_40 (by decide) ?_
      exact go_iret dX10_print_43 rfl (Nat.le_refl _) (Nat.le_refl _) ⟨_, rfl, h⟩
set_option maxRecDepth 100000 in
theorem eX10_print_72 {G : gC} {l : Launch} {P : Int32 → Mem → Prop} {x1 : Int32} {μ : Mem} (h : (((gm_r μ 78 26) ≤ x1) → P (((gm_r μ 78 22) + (1 : Int32)) - (1 : Int32)) (gm_w (gm_w (gm_w (gm_w μ 78 23 ((gm_r μ 78 23) ||| (gm_r μ 78 27))) 78 26 (0 : Int32)) 78 27 (0 : Int32)) 78 22 ((gm_r μ 78 22) + (1 : Int32)))) ∧ ((¬ (gm_r μ 78 26) ≤ x1) → vp_in x1 6 ∧ vp_in (((6 : Int32) * (gm_r μ 78 22)) + x1) 72 ∧ hX10_print_72 G l P (x1 + (1 : Int32)) (gm_w μ 93 (((6 : Int32) * (gm_r μ 78 22)) + x1).toNatClampNeg (gm_r μ 94 x1.toNatClampNeg)))) : hX10_print_72 G l P x1 μ := by
  refine go_iload_n dX10_print_72 rfl 1 rfl ?_
  refine go_aload_n dX10_print_73 rfl 0 rfl ?_
  refine go_get (.int (gm_r μ 78 26)) dX10_print_74 fX10_183 (g_lt rfl) (gs_78 G _ _) rfl ?_
  refine go_icmp_ge 106 dX10_print_77 (by decide) (fun c9 => ?_) (fun c9 => ?_)
  · have h := h.1 c9
    refine go_aload_n dX10_print_106 rfl 0 rfl ?_
    refine go_dup dX10_print_107 rfl ?_
    refine go_get (.int (gm_r μ 78 23)) dX10_print_108 fX10_180 (g_lt rfl) (gs_78 G _ _) rfl ?_
    refine go_aload_n dX10_print_111 rfl 0 rfl ?_
    refine go_get (.int (gm_r μ 78 27)) dX10_print_112 fX10_186 (g_lt rfl) (gs_78 G _ _) rfl ?_
    refine go_ior dX10_print_115 ?_
    refine go_puti dX10_print_116 pX10_180 (g_lt rfl) (gs_78 G _ _) (Nat.le_of_ble_eq_true rfl) rfl ?_
    refine go_aload_n dX10_print_119 rfl 0 rfl ?_
    refine go_iconst (v := 0) dX10_print_120 (by decide) ?_
    refine go_puti dX10_print_121 pX10_183 (g_lt rfl) (gs_78 G _ _) (Nat.le_of_ble_eq_true rfl) rfl ?_
    refine go_aload_n dX10_print_124 rfl 0 rfl ?_
    refine go_iconst (v := 0) dX10_print_125 (by decide) ?_
    refine go_puti dX10_print_126 pX10_186 (g_lt rfl) (gs_78 G _ _) (Nat.le_of_ble_eq_true rfl) rfl ?_
    refine go_aload_n dX10_print_129 rfl 0 rfl ?_
    refine go_dup dX10_print_130 rfl ?_
    refine go_get (.int (gm_r μ 78 22)) dX10_print_131 fX10_177 (g_lt rfl) (gs_78 G _ _) rfl ?_
    refine go_iconst (v := 1) dX10_print_134 (by decide) ?_
    refine go_iadd dX10_print_135 ?_
    refine go_puti dX10_print_136 pX10_177 (g_lt rfl) (gs_78 G _ _) (Nat.le_of_ble_eq_true rfl) rfl ?_
    refine go_aload_n dX10_print_139 rfl 0 rfl ?_
    refine go_get (.int ((gm_r μ 78 22) + (1 : Int32))) dX10_print_140 fX10_177 (g_lt rfl) (gs_78 G _ _) rfl ?_
    refine go_iconst (v := 1) dX10_print_143 (by decide) ?_
    refine go_isub dX10_print_144 ?_
    exact go_iret dX10_print_145 rfl (Nat.le_refl _) (Nat.le_refl _) ⟨_, rfl, h⟩
  · have h := h.2 c9
    refine go_aload_n dX10_print_80 rfl 0 rfl ?_
    refine go_get (.ref (ga G 93)) dX10_print_81 fX10_58 (g_lt rfl) (gs_78 G _ _) rfl ?_
    refine go_bipush (v := 6) dX10_print_84 (by decide) ?_
    refine go_aload_n dX10_print_86 rfl 0 rfl ?_
    refine go_get (.int (gm_r μ 78 22)) dX10_print_87 fX10_177 (g_lt rfl) (gs_78 G _ _) rfl ?_
    refine go_imul dX10_print_90 ?_
    refine go_iload_n dX10_print_91 rfl 1 rfl ?_
    refine go_iadd dX10_print_92 ?_
    refine go_aload_n dX10_print_93 rfl 0 rfl ?_
    refine go_get (.ref (ga G 94)) dX10_print_94 fX10_61 (g_lt rfl) (gs_78 G _ _) rfl ?_
    refine go_iload_n dX10_print_97 rfl 1 rfl ?_
    obtain ⟨b10, h⟩ := h
    refine go_ialdv ((gm_r μ 94 x1.toNatClampNeg)) dX10_print_98 (g_lt rfl) (gs_94 G) b10 rfl ?_
    obtain ⟨b11, h⟩ := h
    refine go_iast dX10_print_99 (g_lt rfl) (gs_93 G) b11 ?_
    refine go_iinc (v := (x1 + (1 : Int32))) [(0, .ref (ga G 78)), (1, .int (x1 + (1 : Int32)))] [1, 0] 1 dX10_print_100 rfl rfl (by decide) rfl ?_
    refine go_goto 72 dX10_print_103 (by decide) ?_
    exact h
set_option maxRecDepth 100000 in
theorem eX10_upTo {G : gC} {l : Launch} {a1 : Int32} {μ : Mem} {P : Int32 → Mem → Prop} (h : hX10_upTo_4 G l P a1 (0 : Int32) (0 : Int32) μ) : qX10_upTo G l a1 μ P := by
  refine Sp.of (by decide) (Nat.le_of_ble_eq_true rfl) (lv := [(0, .ref (ga G 78)), (1, .int a1)]) rfl ?_
  refine go_iconst (v := 0) dX10_upTo_0 (by decide) ?_
  refine go_istore_n [(0, .ref (ga G 78)), (1, .int a1), (2, .int (0 : Int32))] [1, 2, 0] dX10_upTo_1 rfl (by decide) rfl ?_
  refine go_iconst (v := 0) dX10_upTo_2 (by decide) ?_
  refine go_istore_n [(0, .ref (ga G 78)), (1, .int a1), (2, .int (0 : Int32)), (3, .int (0 : Int32))] [1, 2, 3, 0] dX10_upTo_3 rfl (by decide) rfl ?_
  exact h
set_option maxRecDepth 100000 in
theorem eX10_upTo_4 {G : gC} {l : Launch} {P : Int32 → Mem → Prop} {x1 : Int32} {x2 : Int32} {x3 : Int32} {μ : Mem} (h : ((x1 < x3) → P x2 μ) ∧ ((¬ x1 < x3) → qX10_setIn G l x3 μ (fun (r3 : Int32) (μ2 : Mem) => hX10_upTo_4 G l P x1 (x2 ||| r3) (x3 + (1 : Int32)) μ2))) : hX10_upTo_4 G l P x1 x2 x3 μ := by
  refine go_iload_n dX10_upTo_4 rfl 3 rfl ?_
  refine go_iload_n dX10_upTo_5 rfl 1 rfl ?_
  refine go_icmp_gt 23 dX10_upTo_6 (by decide) (fun c1 => ?_) (fun c1 => ?_)
  · have h := h.1 c1
    refine go_iload_n dX10_upTo_23 rfl 2 rfl ?_
    exact go_iret dX10_upTo_24 rfl (Nat.le_refl _) (Nat.le_refl _) ⟨_, rfl, h⟩
  · have h := h.2 c1
    refine go_iload_n dX10_upTo_9 rfl 2 rfl ?_
    refine go_aload_n dX10_upTo_10 rfl 0 rfl ?_
    refine go_iload_n dX10_upTo_11 rfl 3 rfl ?_
    refine go_callV (As := [.int x3]) (rest := [.int x2]) dX10_upTo_12 lX10_241 kX10_setIn rfl (by decide) (Nat.le_of_ble_eq_true rfl) (g_lt rfl) (gs_78 G _ _) rfl (by decide) rfl (gI_go (fun r3 μ2 h => ?_)) h
    refine go_ior dX10_upTo_15 ?_
    refine go_istore_n [(0, .ref (ga G 78)), (1, .int x1), (2, .int (x2 ||| r3)), (3, .int x3)] [1, 2, 0, 3] dX10_upTo_16 rfl (by decide) rfl ?_
    refine go_iinc (v := (x3 + (1 : Int32))) [(0, .ref (ga G 78)), (1, .int x1), (2, .int (x2 ||| r3)), (3, .int (x3 + (1 : Int32)))] [1, 2, 3, 0] 3 dX10_upTo_17 rfl rfl (by decide) rfl ?_
    refine go_goto 4 dX10_upTo_20 (by decide) ?_
    exact h
set_option maxRecDepth 100000 in
theorem eX10_joyOf {G : gC} {l : Launch} {a1 : Int32} {μ : Mem} {P : Int32 → Mem → Prop} (h : hX10_joyOf_4 G l P a1 (0 : Int32) (0 : Int32) μ) : qX10_joyOf G l a1 μ P := by
  refine Sp.of (by decide) (Nat.le_of_ble_eq_true rfl) (lv := [(0, .ref (ga G 78)), (1, .int a1)]) rfl ?_
  refine go_iconst (v := 0) dX10_joyOf_0 (by decide) ?_
  refine go_istore_n [(0, .ref (ga G 78)), (1, .int a1), (2, .int (0 : Int32))] [1, 2, 0] dX10_joyOf_1 rfl (by decide) rfl ?_
  refine go_iconst (v := 0) dX10_joyOf_2 (by decide) ?_
  refine go_istore_n [(0, .ref (ga G 78)), (1, .int a1), (2, .int (0 : Int32)), (3, .int (0 : Int32))] [1, 2, 3, 0] dX10_joyOf_3 rfl (by decide) rfl ?_
  exact h
set_option maxRecDepth 100000 in
theorem eX10_joyOf_4 {G : gC} {l : Launch} {P : Int32 → Mem → Prop} {x1 : Int32} {x2 : Int32} {x3 : Int32} {μ : Mem} (h : (((gm_r μ 78 0) ≤ x3) → P x2 μ) ∧ ((¬ (gm_r μ 78 0) ≤ x3) → qX10_has G l x1 x3 μ (fun (r3 : Int32) (μ2 : Mem) => ((r3 = 0) → hX10_joyOf_4 G l P x1 (x2 + (0 : Int32)) (x3 + (1 : Int32)) μ2) ∧ ((¬ r3 = 0) → qX10_setOf G l x3 (0 : Int32) μ2 (fun (r6 : Int32) (μ5 : Mem) => hX10_joyOf_4 G l P x1 (x2 + r6) (x3 + (1 : Int32)) μ5))))) : hX10_joyOf_4 G l P x1 x2 x3 μ := by
  refine go_iload_n dX10_joyOf_4 rfl 3 rfl ?_
  refine go_aload_n dX10_joyOf_5 rfl 0 rfl ?_
  refine go_get (.int (gm_r μ 78 0)) dX10_joyOf_6 fX10_174 (g_lt rfl) (gs_78 G _ _) rfl ?_
  refine go_icmp_ge 39 dX10_joyOf_9 (by decide) (fun c1 => ?_) (fun c1 => ?_)
  · have h := h.1 c1
    refine go_iload_n dX10_joyOf_39 rfl 2 rfl ?_
    exact go_iret dX10_joyOf_40 rfl (Nat.le_refl _) (Nat.le_refl _) ⟨_, rfl, h⟩
  · have h := h.2 c1
    refine go_iload_n dX10_joyOf_12 rfl 2 rfl ?_
    refine go_iload_n dX10_joyOf_13 rfl 1 rfl ?_
    refine go_iload_n dX10_joyOf_14 rfl 3 rfl ?_
    refine go_callS (As := [.int x1, .int x3]) (rest := [.int x2]) dX10_joyOf_15 lX10_143 kX10_has rfl (by decide) (Nat.le_of_ble_eq_true rfl) (by decide) rfl (gI_go (fun r3 μ2 h => ?_)) h
    refine go_if_eq 30 dX10_joyOf_18 (by decide) (fun c4 => ?_) (fun c4 => ?_)
    · have h := h.1 c4
      refine go_iconst (v := 0) dX10_joyOf_30 (by decide) ?_
      refine go_iadd dX10_joyOf_31 ?_
      refine go_istore_n [(0, .ref (ga G 78)), (1, .int x1), (2, .int (x2 + (0 : Int32))), (3, .int x3)] [1, 2, 0, 3] dX10_joyOf_32 rfl (by decide) rfl ?_
      refine go_iinc (v := (x3 + (1 : Int32))) [(0, .ref (ga G 78)), (1, .int x1), (2, .int (x2 + (0 : Int32))), (3, .int (x3 + (1 : Int32)))] [1, 2, 3, 0] 3 dX10_joyOf_33 rfl rfl (by decide) rfl ?_
      refine go_goto 4 dX10_joyOf_36 (by decide) ?_
      exact h
    · have h := h.2 c4
      refine go_aload_n dX10_joyOf_21 rfl 0 rfl ?_
      refine go_iload_n dX10_joyOf_22 rfl 3 rfl ?_
      refine go_iconst (v := 0) dX10_joyOf_23 (by decide) ?_
      refine go_callV (As := [.int x3, .int (0 : Int32)]) (rest := [.int x2]) dX10_joyOf_24 lX10_199 kX10_setOf rfl (by decide) (Nat.le_of_ble_eq_true rfl) (g_lt rfl) (gs_78 G _ _) rfl (by decide) rfl (gI_go (fun r6 μ5 h => ?_)) h
      refine go_goto 31 dX10_joyOf_27 (by decide) ?_
      refine go_iadd dX10_joyOf_31 ?_
      refine go_istore_n [(0, .ref (ga G 78)), (1, .int x1), (2, .int (x2 + r6)), (3, .int x3)] [1, 2, 0, 3] dX10_joyOf_32 rfl (by decide) rfl ?_
      refine go_iinc (v := (x3 + (1 : Int32))) [(0, .ref (ga G 78)), (1, .int x1), (2, .int (x2 + r6)), (3, .int (x3 + (1 : Int32)))] [1, 2, 3, 0] 3 dX10_joyOf_33 rfl rfl (by decide) rfl ?_
      refine go_goto 4 dX10_joyOf_36 (by decide) ?_
      exact h
set_option maxRecDepth 100000 in
theorem eX10_pullOf {G : gC} {l : Launch} {a1 : Int32} {μ : Mem} {P : Int32 → Mem → Prop} (h : qX10_upTo G l a1 μ (fun (r2 : Int32) (μ1 : Mem) => qX10_openOf G l r2 μ1 (fun (r4 : Int32) (μ3 : Mem) => vp_in a1 12 ∧ vp_in ((((6 : Int32) * a1) + (gm_r μ3 92 a1.toNatClampNeg)) - (1 : Int32)) 72 ∧ ∀ v7 : Int32, v7 = (gm_r μ3 93 ((((6 : Int32) * a1) + (gm_r μ3 92 a1.toNatClampNeg)) - (1 : Int32)).toNatClampNeg) → qX10_setIn G l a1 μ3 (fun (r9 : Int32) (μ8 : Mem) => qX10_joyOf G l r9 μ8 (fun (r11 : Int32) (μ10 : Mem) => qX10_ones G l r4 μ10 (fun (r13 : Int32) (μ12 : Mem) => qX10_setOf G l v7 (3 : Int32) μ12 (fun (r15 : Int32) (μ14 : Mem) => (((r15 &&& r4) = 0) → hX10_pullOf_71 G l P a1 r4 (0 : Int32) (r11 + ((gm_r μ10 83 5) * r13)) μ14) ∧ ((¬ (r15 &&& r4) = 0) → hX10_pullOf_71 G l P a1 r4 (gm_r μ14 83 4) (r11 + ((gm_r μ10 83 5) * r13)) μ14)))))))) : qX10_pullOf G l a1 μ P := by
  refine Sp.of (by decide) (Nat.le_of_ble_eq_true rfl) (lv := [(0, .ref (ga G 78)), (1, .int a1)]) rfl ?_
  refine go_aload_n dX10_pullOf_0 rfl 0 rfl ?_
  refine go_aload_n dX10_pullOf_1 rfl 0 rfl ?_
  refine go_iload_n dX10_pullOf_2 rfl 1 rfl ?_
  refine go_callV (As := [.int a1]) (rest := [.ref (ga G 78)]) dX10_pullOf_3 lX10_250 kX10_upTo rfl (by decide) (Nat.le_of_ble_eq_true rfl) (g_lt rfl) (gs_78 G _ _) rfl (by decide) rfl (gI_go (fun r2 μ1 h => ?_)) h
  refine go_callV (As := [.int r2]) (rest := []) dX10_pullOf_6 lX10_237 kX10_openOf rfl (by decide) (Nat.le_of_ble_eq_true rfl) (g_lt rfl) (gs_78 G _ _) rfl (by decide) rfl (gI_go (fun r4 μ3 h => ?_)) h
  refine go_istore_n [(0, .ref (ga G 78)), (1, .int a1), (2, .int r4)] [1, 2, 0] dX10_pullOf_9 rfl (by decide) rfl ?_
  refine go_aload_n dX10_pullOf_10 rfl 0 rfl ?_
  refine go_get (.ref (ga G 93)) dX10_pullOf_11 fX10_58 (g_lt rfl) (gs_78 G _ _) rfl ?_
  refine go_bipush (v := 6) dX10_pullOf_14 (by decide) ?_
  refine go_iload_n dX10_pullOf_16 rfl 1 rfl ?_
  refine go_imul dX10_pullOf_17 ?_
  refine go_aload_n dX10_pullOf_18 rfl 0 rfl ?_
  refine go_get (.ref (ga G 92)) dX10_pullOf_19 fX10_55 (g_lt rfl) (gs_78 G _ _) rfl ?_
  refine go_iload_n dX10_pullOf_22 rfl 1 rfl ?_
  obtain ⟨b5, h⟩ := h
  refine go_ialdv ((gm_r μ3 92 a1.toNatClampNeg)) dX10_pullOf_23 (g_lt rfl) (gs_92 G) b5 rfl ?_
  refine go_iadd dX10_pullOf_24 ?_
  refine go_iconst (v := 1) dX10_pullOf_25 (by decide) ?_
  refine go_isub dX10_pullOf_26 ?_
  obtain ⟨b6, h⟩ := h
  refine go_ialdv ((gm_r μ3 93 ((((6 : Int32) * a1) + (gm_r μ3 92 a1.toNatClampNeg)) - (1 : Int32)).toNatClampNeg)) dX10_pullOf_27 (g_lt rfl) (gs_93 G) b6 rfl ?_
  refine go_topi (fun v7 e_v7 => ?_)
  have h := h v7 e_v7
  refine go_istore_n [(0, .ref (ga G 78)), (1, .int a1), (2, .int r4), (3, .int v7)] [1, 2, 3, 0] dX10_pullOf_28 rfl (by decide) rfl ?_
  refine go_aload_n dX10_pullOf_29 rfl 0 rfl ?_
  refine go_aload_n dX10_pullOf_30 rfl 0 rfl ?_
  refine go_iload_n dX10_pullOf_31 rfl 1 rfl ?_
  refine go_callV (As := [.int a1]) (rest := [.ref (ga G 78)]) dX10_pullOf_32 lX10_241 kX10_setIn rfl (by decide) (Nat.le_of_ble_eq_true rfl) (g_lt rfl) (gs_78 G _ _) rfl (by decide) rfl (gI_go (fun r9 μ8 h => ?_)) h
  refine go_callV (As := [.int r9]) (rest := []) dX10_pullOf_35 lX10_253 kX10_joyOf rfl (by decide) (Nat.le_of_ble_eq_true rfl) (g_lt rfl) (gs_78 G _ _) rfl (by decide) rfl (gI_go (fun r11 μ10 h => ?_)) h
  refine go_aload_n dX10_pullOf_38 rfl 0 rfl ?_
  refine go_get (.ref (ga G 83)) dX10_pullOf_39 fX10_22 (g_lt rfl) (gs_78 G _ _) rfl ?_
  refine go_iconst (v := 5) dX10_pullOf_42 (by decide) ?_
  refine go_ialdv ((gm_r μ10 83 5)) dX10_pullOf_43 (g_lt rfl) (gs_83 G) (by unfold vp_in; decide) rfl ?_
  refine go_iload_n dX10_pullOf_44 rfl 2 rfl ?_
  refine go_callS (As := [.int r4]) (rest := [.int (gm_r μ10 83 5), .int r11]) dX10_pullOf_45 lX10_208 kX10_ones rfl (by decide) (Nat.le_of_ble_eq_true rfl) (by decide) rfl (gI_go (fun r13 μ12 h => ?_)) h
  refine go_imul dX10_pullOf_48 ?_
  refine go_iadd dX10_pullOf_49 ?_
  refine go_aload_n dX10_pullOf_50 rfl 0 rfl ?_
  refine go_iload_n dX10_pullOf_51 rfl 3 rfl ?_
  refine go_iconst (v := 3) dX10_pullOf_52 (by decide) ?_
  refine go_callV (As := [.int v7, .int (3 : Int32)]) (rest := [.int (r11 + ((gm_r μ10 83 5) * r13))]) dX10_pullOf_53 lX10_199 kX10_setOf rfl (by decide) (Nat.le_of_ble_eq_true rfl) (g_lt rfl) (gs_78 G _ _) rfl (by decide) rfl (gI_go (fun r15 μ14 h => ?_)) h
  refine go_iload_n dX10_pullOf_56 rfl 2 rfl ?_
  refine go_iand dX10_pullOf_57 ?_
  refine go_if_eq 70 dX10_pullOf_58 (by decide) (fun c16 => ?_) (fun c16 => ?_)
  · have h := h.1 c16
    refine go_iconst (v := 0) dX10_pullOf_70 (by decide) ?_
    exact go_sub [0, 1, 2] rfl h
  · have h := h.2 c16
    refine go_aload_n dX10_pullOf_61 rfl 0 rfl ?_
    refine go_get (.ref (ga G 83)) dX10_pullOf_62 fX10_22 (g_lt rfl) (gs_78 G _ _) rfl ?_
    refine go_iconst (v := 4) dX10_pullOf_65 (by decide) ?_
    refine go_ialdv ((gm_r μ14 83 4)) dX10_pullOf_66 (g_lt rfl) (gs_83 G) (by unfold vp_in; decide) rfl ?_
    refine go_goto 71 dX10_pullOf_67 (by decide) ?_
    exact go_sub [0, 1, 2] rfl h
set_option maxRecDepth 100000 in
theorem eX10_pullOf_71 {G : gC} {l : Launch} {P : Int32 → Mem → Prop} {x1 : Int32} {x2 : Int32} {y0 : Int32} {y1 : Int32} {μ : Mem} (h : ((x1 ≤ (3 : Int32)) → qX10_ones G l (0 : Int32) μ (fun (r19 : Int32) (μ18 : Mem) => P ((y1 + y0) - ((gm_r μ 83 6) * r19)) μ18)) ∧ ((¬ x1 ≤ (3 : Int32)) → qX10_upTo G l (x1 - (4 : Int32)) μ (fun (r21 : Int32) (μ20 : Mem) => qX10_union G l r21 (3 : Int32) μ20 (fun (r23 : Int32) (μ22 : Mem) => qX10_ones G l (r23 &&& x2) μ22 (fun (r25 : Int32) (μ24 : Mem) => P ((y1 + y0) - ((gm_r μ22 83 6) * r25)) μ24))))) : hX10_pullOf_71 G l P x1 x2 y0 y1 μ := by
  refine go_iadd dX10_pullOf_71 ?_
  refine go_istore [(0, .ref (ga G 78)), (1, .int x1), (2, .int x2), (4, .int (y1 + y0))] [1, 2, 3, 0] dX10_pullOf_72 (by decide) rfl ?_
  refine go_iload_n dX10_pullOf_74 rfl 1 rfl ?_
  refine go_iconst (v := 3) dX10_pullOf_75 (by decide) ?_
  refine go_icmp_le 96 dX10_pullOf_76 (by decide) (fun c17 => ?_) (fun c17 => ?_)
  · have h := h.1 c17
    refine go_iconst (v := 0) dX10_pullOf_96 (by decide) ?_
    refine go_istore [(0, .ref (ga G 78)), (1, .int x1), (2, .int x2), (4, .int (y1 + y0)), (5, .int (0 : Int32))] [1, 2, 3, 4, 0] dX10_pullOf_97 (by decide) rfl ?_
    refine go_iload dX10_pullOf_99 3 rfl ?_
    refine go_aload_n dX10_pullOf_101 rfl 0 rfl ?_
    refine go_get (.ref (ga G 83)) dX10_pullOf_102 fX10_22 (g_lt rfl) (gs_78 G _ _) rfl ?_
    refine go_bipush (v := 6) dX10_pullOf_105 (by decide) ?_
    refine go_ialdv ((gm_r μ 83 6)) dX10_pullOf_107 (g_lt rfl) (gs_83 G) (by unfold vp_in; decide) rfl ?_
    refine go_iload dX10_pullOf_108 4 rfl ?_
    refine go_callS (As := [.int (0 : Int32)]) (rest := [.int (gm_r μ 83 6), .int (y1 + y0)]) dX10_pullOf_110 lX10_208 kX10_ones rfl (by decide) (Nat.le_of_ble_eq_true rfl) (by decide) rfl (gI_go (fun r19 μ18 h => ?_)) h
    refine go_imul dX10_pullOf_113 ?_
    refine go_isub dX10_pullOf_114 ?_
    exact go_iret dX10_pullOf_115 rfl (Nat.le_refl _) (Nat.le_refl _) ⟨_, rfl, h⟩
  · have h := h.2 c17
    refine go_aload_n dX10_pullOf_79 rfl 0 rfl ?_
    refine go_aload_n dX10_pullOf_80 rfl 0 rfl ?_
    refine go_iload_n dX10_pullOf_81 rfl 1 rfl ?_
    refine go_iconst (v := 4) dX10_pullOf_82 (by decide) ?_
    refine go_isub dX10_pullOf_83 ?_
    refine go_callV (As := [.int (x1 - (4 : Int32))]) (rest := [.ref (ga G 78)]) dX10_pullOf_84 lX10_250 kX10_upTo rfl (by decide) (Nat.le_of_ble_eq_true rfl) (g_lt rfl) (gs_78 G _ _) rfl (by decide) rfl (gI_go (fun r21 μ20 h => ?_)) h
    refine go_iconst (v := 3) dX10_pullOf_87 (by decide) ?_
    refine go_callV (As := [.int r21, .int (3 : Int32)]) (rest := []) dX10_pullOf_88 lX10_217 kX10_union rfl (by decide) (Nat.le_of_ble_eq_true rfl) (g_lt rfl) (gs_78 G _ _) rfl (by decide) rfl (gI_go (fun r23 μ22 h => ?_)) h
    refine go_iload_n dX10_pullOf_91 rfl 2 rfl ?_
    refine go_iand dX10_pullOf_92 ?_
    refine go_goto 97 dX10_pullOf_93 (by decide) ?_
    refine go_istore [(0, .ref (ga G 78)), (1, .int x1), (2, .int x2), (4, .int (y1 + y0)), (5, .int (r23 &&& x2))] [1, 2, 3, 4, 0] dX10_pullOf_97 (by decide) rfl ?_
    refine go_iload dX10_pullOf_99 3 rfl ?_
    refine go_aload_n dX10_pullOf_101 rfl 0 rfl ?_
    refine go_get (.ref (ga G 83)) dX10_pullOf_102 fX10_22 (g_lt rfl) (gs_78 G _ _) rfl ?_
    refine go_bipush (v := 6) dX10_pullOf_105 (by decide) ?_
    refine go_ialdv ((gm_r μ22 83 6)) dX10_pullOf_107 (g_lt rfl) (gs_83 G) (by unfold vp_in; decide) rfl ?_
    refine go_iload dX10_pullOf_108 4 rfl ?_
    refine go_callS (As := [.int (r23 &&& x2)]) (rest := [.int (gm_r μ22 83 6), .int (y1 + y0)]) dX10_pullOf_110 lX10_208 kX10_ones rfl (by decide) (Nat.le_of_ble_eq_true rfl) (by decide) rfl (gI_go (fun r25 μ24 h => ?_)) h
    refine go_imul dX10_pullOf_113 ?_
    refine go_isub dX10_pullOf_114 ?_
    exact go_iret dX10_pullOf_115 rfl (Nat.le_refl _) (Nat.le_refl _) ⟨_, rfl, h⟩
set_option maxRecDepth 100000 in
theorem eX10_readersBehind {G : gC} {l : Launch} {a1 : Int32} {μ : Mem} {P : Int32 → Mem → Prop} (h : hX10_readersBehind_7 G l P a1 (1000 : Int64) (0 : Int32) μ) : qX10_readersBehind G l a1 μ P := by
  refine Sp.of (by decide) (Nat.le_of_ble_eq_true rfl) (lv := [(0, .ref (ga G 78)), (1, .int a1)]) rfl ?_
  refine go_ldc2_w (v := 1000) (g_in 1303 (by decide +kernel) rfl) dX10_readersBehind_0 ?_
  refine go_lstore_n [(0, .ref (ga G 78)), (1, .int a1), (2, .long (1000 : Int64))] [1, 2, 0] dX10_readersBehind_3 rfl (by decide) rfl ?_
  refine go_iconst (v := 0) dX10_readersBehind_4 (by decide) ?_
  refine go_istore [(0, .ref (ga G 78)), (1, .int a1), (2, .long (1000 : Int64)), (4, .int (0 : Int32))] [1, 2, 3, 0] dX10_readersBehind_5 (by decide) rfl ?_
  exact h
set_option maxRecDepth 100000 in
theorem eX10_readersBehind_7 {G : gC} {l : Launch} {P : Int32 → Mem → Prop} {x1 : Int32} {x2 : Int64} {x4 : Int32} {μ : Mem} (h : ((x1 < x4) → P (x2).toInt32 μ) ∧ ((¬ x1 < x4) → qX10_pullOf G l x4 μ (fun (r3 : Int32) (μ2 : Mem) => ∀ v4 : Int64, v4 = ((x2 * ((((100 : Int32) - (gm_r μ 83 7)) + r3)).toInt64) / (100 : Int64)) → ((0 ≤ (lg_cmp v4 (0 : Int64))) → (((lg_cmp v4 (1000000000 : Int64)) ≤ 0) → hX10_readersBehind_7 G l P x1 v4 (x4 + (1 : Int32)) μ2) ∧ ((¬ (lg_cmp v4 (1000000000 : Int64)) ≤ 0) → hX10_readersBehind_7 G l P x1 (1000000000 : Int64) (x4 + (1 : Int32)) μ2)) ∧ ((¬ 0 ≤ (lg_cmp v4 (0 : Int64))) → hX10_readersBehind_7 G l P x1 (0 : Int64) (x4 + (1 : Int32)) μ2)))) : hX10_readersBehind_7 G l P x1 x2 x4 μ := by
  refine go_iload dX10_readersBehind_7 3 rfl ?_
  refine go_iload_n dX10_readersBehind_9 rfl 1 rfl ?_
  refine go_icmp_gt 70 dX10_readersBehind_10 (by decide) (fun c1 => ?_) (fun c1 => ?_)
  · have h := h.1 c1
    refine go_lload_n dX10_readersBehind_70 rfl 2 rfl ?_
    refine go_l2i dX10_readersBehind_71 ?_
    exact go_iret dX10_readersBehind_72 rfl (Nat.le_refl _) (Nat.le_refl _) ⟨_, rfl, h⟩
  · have h := h.2 c1
    refine go_lload_n dX10_readersBehind_13 rfl 2 rfl ?_
    refine go_bipush (v := 100) dX10_readersBehind_14 (by decide) ?_
    refine go_aload_n dX10_readersBehind_16 rfl 0 rfl ?_
    refine go_get (.ref (ga G 83)) dX10_readersBehind_17 fX10_22 (g_lt rfl) (gs_78 G _ _) rfl ?_
    refine go_bipush (v := 7) dX10_readersBehind_20 (by decide) ?_
    refine go_ialdv ((gm_r μ 83 7)) dX10_readersBehind_22 (g_lt rfl) (gs_83 G) (by unfold vp_in; decide) rfl ?_
    refine go_isub dX10_readersBehind_23 ?_
    refine go_aload_n dX10_readersBehind_24 rfl 0 rfl ?_
    refine go_iload dX10_readersBehind_25 3 rfl ?_
    refine go_callV (As := [.int x4]) (rest := [.int ((100 : Int32) - (gm_r μ 83 7)), .long x2]) dX10_readersBehind_27 lX10_258 kX10_pullOf rfl (by decide) (Nat.le_of_ble_eq_true rfl) (g_lt rfl) (gs_78 G _ _) rfl (by decide) rfl (gI_go (fun r3 μ2 h => ?_)) h
    refine go_iadd dX10_readersBehind_30 ?_
    refine go_i2l dX10_readersBehind_31 ?_
    refine go_lmul dX10_readersBehind_32 ?_
    refine go_ldc2_w (v := 100) (g_in 1304 (by decide +kernel) rfl) dX10_readersBehind_33 ?_
    refine go_ldiv dX10_readersBehind_36 (by decide) ?_
    refine go_topl (fun v4 e_v4 => ?_)
    have h := h v4 e_v4
    refine go_lstore_n [(0, .ref (ga G 78)), (1, .int x1), (2, .long v4), (4, .int x4)] [1, 2, 0, 3] dX10_readersBehind_37 rfl (by decide) rfl ?_
    refine go_lload_n dX10_readersBehind_38 rfl 2 rfl ?_
    refine go_lconst (v := 0) dX10_readersBehind_39 (by decide) ?_
    refine go_lcmp dX10_readersBehind_40 ?_
    refine go_if_ge 48 dX10_readersBehind_41 (by decide) (fun c5 => ?_) (fun c5 => ?_)
    · have h := h.1 c5
      refine go_lload_n dX10_readersBehind_48 rfl 2 rfl ?_
      refine go_ldc2_w (v := 1000000000) (g_in 1305 (by decide +kernel) rfl) dX10_readersBehind_49 ?_
      refine go_lcmp dX10_readersBehind_52 ?_
      refine go_if_le 62 dX10_readersBehind_53 (by decide) (fun c6 => ?_) (fun c6 => ?_)
      · have h := h.1 c6
        refine go_lload_n dX10_readersBehind_62 rfl 2 rfl ?_
        refine go_lstore_n [(0, .ref (ga G 78)), (1, .int x1), (2, .long v4), (4, .int x4)] [1, 2, 0, 3] dX10_readersBehind_63 rfl (by decide) rfl ?_
        refine go_iinc (v := (x4 + (1 : Int32))) [(0, .ref (ga G 78)), (1, .int x1), (2, .long v4), (4, .int (x4 + (1 : Int32)))] [1, 2, 3, 0] 3 dX10_readersBehind_64 rfl rfl (by decide) rfl ?_
        refine go_goto 7 dX10_readersBehind_67 (by decide) ?_
        exact h
      · have h := h.2 c6
        refine go_ldc2_w (v := 1000000000) (g_in 1305 (by decide +kernel) rfl) dX10_readersBehind_56 ?_
        refine go_goto 63 dX10_readersBehind_59 (by decide) ?_
        refine go_lstore_n [(0, .ref (ga G 78)), (1, .int x1), (2, .long (1000000000 : Int64)), (4, .int x4)] [1, 2, 0, 3] dX10_readersBehind_63 rfl (by decide) rfl ?_
        refine go_iinc (v := (x4 + (1 : Int32))) [(0, .ref (ga G 78)), (1, .int x1), (2, .long (1000000000 : Int64)), (4, .int (x4 + (1 : Int32)))] [1, 2, 3, 0] 3 dX10_readersBehind_64 rfl rfl (by decide) rfl ?_
        refine go_goto 7 dX10_readersBehind_67 (by decide) ?_
        exact h
    · have h := h.2 c5
      refine go_lconst (v := 0) dX10_readersBehind_44 (by decide) ?_
      refine go_goto 63 dX10_readersBehind_45 (by decide) ?_
      refine go_lstore_n [(0, .ref (ga G 78)), (1, .int x1), (2, .long (0 : Int64)), (4, .int x4)] [1, 2, 0, 3] dX10_readersBehind_63 rfl (by decide) rfl ?_
      refine go_iinc (v := (x4 + (1 : Int32))) [(0, .ref (ga G 78)), (1, .int x1), (2, .long (0 : Int64)), (4, .int (x4 + (1 : Int32)))] [1, 2, 3, 0] 3 dX10_readersBehind_64 rfl rfl (by decide) rfl ?_
      refine go_goto 7 dX10_readersBehind_67 (by decide) ?_
      exact h
set_option maxRecDepth 100000 in
theorem eX10_number {G : gC} {l : Launch} {a1 : Int32} {a2 : Int32} {μ : Mem} {P : Int32 → Mem → Prop} (h : qX10_in G l (a1).toInt64 (0 : Int64) (((gm_r μ 78 22) - (1 : Int32))).toInt64 μ (fun (r2 : Int32) (μ1 : Mem) => ((¬ r2 = 0) → ((a2.toInt < 0 ∨ 5 < a2.toInt) → qX10_in G l (a2).toInt64 (6 : Int64) (11 : Int64) μ1 (fun (r5 : Int32) (μ4 : Mem) => ((¬ r5 = 0) → vp_in a1 12 ∧ (((gm_r μ4 92 a1.toNatClampNeg) ≤ (a2 - (6 : Int32))) → P (-1 : Int32) μ4) ∧ ((¬ (gm_r μ4 92 a1.toNatClampNeg) ≤ (a2 - (6 : Int32))) → vp_in ((((6 : Int32) * a1) + a2) - (6 : Int32)) 72 ∧ P (gm_r μ4 93 ((((6 : Int32) * a1) + a2) - (6 : Int32)).toNatClampNeg) μ4)) ∧ ((r5 = 0) → P (-1002 : Int32) μ4))) ∧ ((a2 = (0 : Int32)) → vp_in a1 12 ∧ P (gm_r μ1 92 a1.toNatClampNeg) μ1) ∧ ((a2 = (1 : Int32)) → qX10_setIn G l a1 μ1 (fun (r12 : Int32) (μ11 : Mem) => qX10_linesAs G l r12 a1 μ11 (fun (r14 : Int32) (μ13 : Mem) => P r14 μ13))) ∧ ((a2 = (2 : Int32)) → qX10_pullOf G l a1 μ1 (fun (r16 : Int32) (μ15 : Mem) => P r16 μ15)) ∧ ((a2 = (3 : Int32)) → qX10_readersBehind G l a1 μ1 (fun (r18 : Int32) (μ17 : Mem) => P r18 μ17)) ∧ ((a2 = (4 : Int32)) → qX10_upTo G l a1 μ1 (fun (r20 : Int32) (μ19 : Mem) => qX10_openOf G l r20 μ19 (fun (r22 : Int32) (μ21 : Mem) => P r22 μ21))) ∧ ((a2 = (5 : Int32)) → qX10_setIn G l a1 μ1 (fun (r24 : Int32) (μ23 : Mem) => qX10_remindedOf G l r24 a1 μ23 (fun (r26 : Int32) (μ25 : Mem) => P r26 μ25)))) ∧ ((r2 = 0) → P (-1001 : Int32) μ1))) : qX10_number G l a1 a2 μ P := by
  refine Sp.of (by decide) (Nat.le_of_ble_eq_true rfl) (lv := [(0, .ref (ga G 78)), (1, .int a1), (2, .int a2)]) rfl ?_
  refine go_iload_n dX10_number_0 rfl 1 rfl ?_
  refine go_i2l dX10_number_1 ?_
  refine go_lconst (v := 0) dX10_number_2 (by decide) ?_
  refine go_aload_n dX10_number_3 rfl 0 rfl ?_
  refine go_get (.int (gm_r μ 78 22)) dX10_number_4 fX10_177 (g_lt rfl) (gs_78 G _ _) rfl ?_
  refine go_iconst (v := 1) dX10_number_7 (by decide) ?_
  refine go_isub dX10_number_8 ?_
  refine go_i2l dX10_number_9 ?_
  refine go_callS (As := [.long (a1).toInt64, .long (0 : Int64), .long (((gm_r μ 78 22) - (1 : Int32))).toInt64]) (rest := []) dX10_number_10 lX10_99 kX10_in rfl (by decide) (Nat.le_of_ble_eq_true rfl) (by decide) rfl (gI_go (fun r2 μ1 h => ?_)) h
  refine go_if_ne 20 dX10_number_13 (by decide) (fun c3 => ?_) (fun c3 => ?_)
  · have h := h.1 c3
    refine go_iload_n dX10_number_20 rfl 2 rfl ?_
    by_cases c27 : a2.toInt < 0 ∨ 5 < a2.toInt
    · have h := h.1 c27
      refine go_tableOut 111 dX10_number_21 c27 (by decide) ?_
      refine go_iload_n dX10_number_111 rfl 2 rfl ?_
      refine go_i2l dX10_number_112 ?_
      refine go_ldc2_w (v := 6) (g_in 1306 (by decide +kernel) rfl) dX10_number_113 ?_
      refine go_ldc2_w (v := 11) (g_in 1307 (by decide +kernel) rfl) dX10_number_116 ?_
      refine go_callS (As := [.long (a2).toInt64, .long (6 : Int64), .long (11 : Int64)]) (rest := []) dX10_number_119 lX10_99 kX10_in rfl (by decide) (Nat.le_of_ble_eq_true rfl) (by decide) rfl (gI_go (fun r5 μ4 h => ?_)) h
      refine go_if_ne 131 dX10_number_122 (by decide) (fun c6 => ?_) (fun c6 => ?_)
      · have h := h.1 c6
        refine go_iload_n dX10_number_131 rfl 2 rfl ?_
        refine go_bipush (v := 6) dX10_number_132 (by decide) ?_
        refine go_isub dX10_number_134 ?_
        refine go_aload_n dX10_number_135 rfl 0 rfl ?_
        refine go_get (.ref (ga G 92)) dX10_number_136 fX10_55 (g_lt rfl) (gs_78 G _ _) rfl ?_
        refine go_iload_n dX10_number_139 rfl 1 rfl ?_
        obtain ⟨b7, h⟩ := h
        refine go_ialdv ((gm_r μ4 92 a1.toNatClampNeg)) dX10_number_140 (g_lt rfl) (gs_92 G) b7 rfl ?_
        refine go_icmp_ge 161 dX10_number_141 (by decide) (fun c8 => ?_) (fun c8 => ?_)
        · have h := h.1 c8
          refine go_iconst (v := -1) dX10_number_161 (by decide) ?_
          exact go_iret dX10_number_162 rfl (Nat.le_refl _) (Nat.le_refl _) ⟨_, rfl, h⟩
        · have h := h.2 c8
          refine go_aload_n dX10_number_144 rfl 0 rfl ?_
          refine go_get (.ref (ga G 93)) dX10_number_145 fX10_58 (g_lt rfl) (gs_78 G _ _) rfl ?_
          refine go_bipush (v := 6) dX10_number_148 (by decide) ?_
          refine go_iload_n dX10_number_150 rfl 1 rfl ?_
          refine go_imul dX10_number_151 ?_
          refine go_iload_n dX10_number_152 rfl 2 rfl ?_
          refine go_iadd dX10_number_153 ?_
          refine go_bipush (v := 6) dX10_number_154 (by decide) ?_
          refine go_isub dX10_number_156 ?_
          obtain ⟨b9, h⟩ := h
          refine go_ialdv ((gm_r μ4 93 ((((6 : Int32) * a1) + a2) - (6 : Int32)).toNatClampNeg)) dX10_number_157 (g_lt rfl) (gs_93 G) b9 rfl ?_
          refine go_goto 162 dX10_number_158 (by decide) ?_
          exact go_iret dX10_number_162 rfl (Nat.le_refl _) (Nat.le_refl _) ⟨_, rfl, h⟩
      · have h := h.2 c6
        refine go_sipush (v := -1002) dX10_number_125 (by decide) ?_
        refine go_goto 162 dX10_number_128 (by decide) ?_
        exact go_iret dX10_number_162 rfl (Nat.le_refl _) (Nat.le_refl _) ⟨_, rfl, h⟩
    · rcases (show a2.toInt = 0 ∨ a2.toInt = 1 ∨ a2.toInt = 2 ∨ a2.toInt = 3 ∨ a2.toInt = 4 ∨ a2.toInt = 5 by omega) with c27e | c27e | c27e | c27e | c27e | c27e
      · have h := h.2.1 (sw_eq (0 : Int32) rfl c27e)
        refine go_tableIn 60 dX10_number_21 (by omega) (by omega) (by rw [c27e]; rfl) (by decide) ?_
        refine go_aload_n dX10_number_60 rfl 0 rfl ?_
        refine go_get (.ref (ga G 92)) dX10_number_61 fX10_55 (g_lt rfl) (gs_78 G _ _) rfl ?_
        refine go_iload_n dX10_number_64 rfl 1 rfl ?_
        obtain ⟨b10, h⟩ := h
        refine go_ialdv ((gm_r μ1 92 a1.toNatClampNeg)) dX10_number_65 (g_lt rfl) (gs_92 G) b10 rfl ?_
        exact go_iret dX10_number_66 rfl (Nat.le_refl _) (Nat.le_refl _) ⟨_, rfl, h⟩
      · have h := h.2.2.1 (sw_eq (1 : Int32) rfl c27e)
        refine go_tableIn 67 dX10_number_21 (by omega) (by omega) (by rw [c27e]; rfl) (by decide) ?_
        refine go_aload_n dX10_number_67 rfl 0 rfl ?_
        refine go_aload_n dX10_number_68 rfl 0 rfl ?_
        refine go_iload_n dX10_number_69 rfl 1 rfl ?_
        refine go_callV (As := [.int a1]) (rest := [.ref (ga G 78)]) dX10_number_70 lX10_241 kX10_setIn rfl (by decide) (Nat.le_of_ble_eq_true rfl) (g_lt rfl) (gs_78 G _ _) rfl (by decide) rfl (gI_go (fun r12 μ11 h => ?_)) h
        refine go_iload_n dX10_number_73 rfl 1 rfl ?_
        refine go_callV (As := [.int r12, .int a1]) (rest := []) dX10_number_74 lX10_247 kX10_linesAs rfl (by decide) (Nat.le_of_ble_eq_true rfl) (g_lt rfl) (gs_78 G _ _) rfl (by decide) rfl (gI_go (fun r14 μ13 h => ?_)) h
        exact go_iret dX10_number_77 rfl (Nat.le_refl _) (Nat.le_refl _) ⟨_, rfl, h⟩
      · have h := h.2.2.2.1 (sw_eq (2 : Int32) rfl c27e)
        refine go_tableIn 78 dX10_number_21 (by omega) (by omega) (by rw [c27e]; rfl) (by decide) ?_
        refine go_aload_n dX10_number_78 rfl 0 rfl ?_
        refine go_iload_n dX10_number_79 rfl 1 rfl ?_
        refine go_callV (As := [.int a1]) (rest := []) dX10_number_80 lX10_258 kX10_pullOf rfl (by decide) (Nat.le_of_ble_eq_true rfl) (g_lt rfl) (gs_78 G _ _) rfl (by decide) rfl (gI_go (fun r16 μ15 h => ?_)) h
        exact go_iret dX10_number_83 rfl (Nat.le_refl _) (Nat.le_refl _) ⟨_, rfl, h⟩
      · have h := h.2.2.2.2.1 (sw_eq (3 : Int32) rfl c27e)
        refine go_tableIn 84 dX10_number_21 (by omega) (by omega) (by rw [c27e]; rfl) (by decide) ?_
        refine go_aload_n dX10_number_84 rfl 0 rfl ?_
        refine go_iload_n dX10_number_85 rfl 1 rfl ?_
        refine go_callV (As := [.int a1]) (rest := []) dX10_number_86 lX10_265 kX10_readersBehind rfl (by decide) (Nat.le_of_ble_eq_true rfl) (g_lt rfl) (gs_78 G _ _) rfl (by decide) rfl (gI_go (fun r18 μ17 h => ?_)) h
        exact go_iret dX10_number_89 rfl (Nat.le_refl _) (Nat.le_refl _) ⟨_, rfl, h⟩
      · have h := h.2.2.2.2.2.1 (sw_eq (4 : Int32) rfl c27e)
        refine go_tableIn 90 dX10_number_21 (by omega) (by omega) (by rw [c27e]; rfl) (by decide) ?_
        refine go_aload_n dX10_number_90 rfl 0 rfl ?_
        refine go_aload_n dX10_number_91 rfl 0 rfl ?_
        refine go_iload_n dX10_number_92 rfl 1 rfl ?_
        refine go_callV (As := [.int a1]) (rest := [.ref (ga G 78)]) dX10_number_93 lX10_250 kX10_upTo rfl (by decide) (Nat.le_of_ble_eq_true rfl) (g_lt rfl) (gs_78 G _ _) rfl (by decide) rfl (gI_go (fun r20 μ19 h => ?_)) h
        refine go_callV (As := [.int r20]) (rest := []) dX10_number_96 lX10_237 kX10_openOf rfl (by decide) (Nat.le_of_ble_eq_true rfl) (g_lt rfl) (gs_78 G _ _) rfl (by decide) rfl (gI_go (fun r22 μ21 h => ?_)) h
        exact go_iret dX10_number_99 rfl (Nat.le_refl _) (Nat.le_refl _) ⟨_, rfl, h⟩
      · have h := h.2.2.2.2.2.2 (sw_eq (5 : Int32) rfl c27e)
        refine go_tableIn 100 dX10_number_21 (by omega) (by omega) (by rw [c27e]; rfl) (by decide) ?_
        refine go_aload_n dX10_number_100 rfl 0 rfl ?_
        refine go_aload_n dX10_number_101 rfl 0 rfl ?_
        refine go_iload_n dX10_number_102 rfl 1 rfl ?_
        refine go_callV (As := [.int a1]) (rest := [.ref (ga G 78)]) dX10_number_103 lX10_241 kX10_setIn rfl (by decide) (Nat.le_of_ble_eq_true rfl) (g_lt rfl) (gs_78 G _ _) rfl (by decide) rfl (gI_go (fun r24 μ23 h => ?_)) h
        refine go_iload_n dX10_number_106 rfl 1 rfl ?_
        refine go_callV (As := [.int r24, .int a1]) (rest := []) dX10_number_107 lX10_244 kX10_remindedOf rfl (by decide) (Nat.le_of_ble_eq_true rfl) (g_lt rfl) (gs_78 G _ _) rfl (by decide) rfl (gI_go (fun r26 μ25 h => ?_)) h
        exact go_iret dX10_number_110 rfl (Nat.le_refl _) (Nat.le_refl _) ⟨_, rfl, h⟩
  · have h := h.2 c3
    refine go_sipush (v := -1001) dX10_number_16 (by decide) ?_
    exact go_iret dX10_number_19 rfl (Nat.le_refl _) (Nat.le_refl _) ⟨_, rfl, h⟩
set_option maxRecDepth 100000 in
theorem eX10_readers {G : gC} {l : Launch}  {μ : Mem} {P : Int32 → Mem → Prop} (h : qX10_readersBehind G l ((gm_r μ 78 22) - (1 : Int32)) μ (fun (r2 : Int32) (μ1 : Mem) => P r2 μ1)) : qX10_readers G l  μ P := by
  refine Sp.of (by decide) (Nat.le_of_ble_eq_true rfl) (lv := [(0, .ref (ga G 78))]) rfl ?_
  refine go_aload_n dX10_readers_0 rfl 0 rfl ?_
  refine go_aload_n dX10_readers_1 rfl 0 rfl ?_
  refine go_get (.int (gm_r μ 78 22)) dX10_readers_2 fX10_177 (g_lt rfl) (gs_78 G _ _) rfl ?_
  refine go_iconst (v := 1) dX10_readers_5 (by decide) ?_
  refine go_isub dX10_readers_6 ?_
  refine go_callV (As := [.int ((gm_r μ 78 22) - (1 : Int32))]) (rest := []) dX10_readers_7 lX10_265 kX10_readersBehind rfl (by decide) (Nat.le_of_ble_eq_true rfl) (g_lt rfl) (gs_78 G _ _) rfl (by decide) rfl (gI_go (fun r2 μ1 h => ?_)) h
  exact go_iret dX10_readers_10 rfl (Nat.le_refl _) (Nat.le_refl _) ⟨_, rfl, h⟩
set_option maxRecDepth 100000 in
theorem eX10_findReach {G : gC} {l : Launch} {a1 : Int32} {a2 : Int32} {μ : Mem} {P : Mem → Prop} (h : hX10_findReach_5 G l P a1 a2 (0 : Int32) (1 : Int32) μ) : qX10_findReach G l a1 a2 μ P := by
  refine Sp.of (by decide) (Nat.le_of_ble_eq_true rfl) (lv := [(0, .ref (ga G 78)), (1, .int a1), (2, .int a2)]) rfl ?_
  refine go_iconst (v := 0) dX10_findReach_0 (by decide) ?_
  refine go_istore_n [(0, .ref (ga G 78)), (1, .int a1), (2, .int a2), (3, .int (0 : Int32))] [1, 2, 3, 0] dX10_findReach_1 rfl (by decide) rfl ?_
  refine go_iconst (v := 1) dX10_findReach_2 (by decide) ?_
  refine go_istore [(0, .ref (ga G 78)), (1, .int a1), (2, .int a2), (3, .int (0 : Int32)), (4, .int (1 : Int32))] [1, 2, 3, 4, 0] dX10_findReach_3 (by decide) rfl ?_
  exact h
set_option maxRecDepth 100000 in
theorem eX10_findReach_5 {G : gC} {l : Launch} {P : Mem → Prop} {x1 : Int32} {x2 : Int32} {x3 : Int32} {x4 : Int32} {μ : Mem} (h : ((x4 = 0) → P μ) ∧ ((¬ x4 = 0) → ((¬ x3 = 0) → vp_in (x1 ||| x3) 1024 ∧ hX10_findReach_34 G l P x1 x2 x3 (x1 ||| x3) (0 : Int32) (gm_w μ 95 (x1 ||| x3).toNatClampNeg (0 : Int32))) ∧ ((x3 = 0) → vp_in (x1 ||| x3) 1024 ∧ hX10_findReach_34 G l P x1 x2 x3 (x1 ||| x3) (0 : Int32) (gm_w μ 95 (x1 ||| x3).toNatClampNeg (1 : Int32))))) : hX10_findReach_5 G l P x1 x2 x3 x4 μ := by
  refine go_iload dX10_findReach_5 4 rfl ?_
  refine go_if_eq 136 dX10_findReach_7 (by decide) (fun c1 => ?_) (fun c1 => ?_)
  · have h := h.1 c1
    exact go_vret dX10_findReach_136 rfl (Nat.le_refl _) (Nat.le_refl _) ⟨rfl, h⟩
  · have h := h.2 c1
    refine go_iload_n dX10_findReach_10 rfl 1 rfl ?_
    refine go_iload_n dX10_findReach_11 rfl 3 rfl ?_
    refine go_ior dX10_findReach_12 ?_
    refine go_istore [(0, .ref (ga G 78)), (1, .int x1), (2, .int x2), (3, .int x3), (4, .int x4), (5, .int (x1 ||| x3))] [1, 2, 3, 4, 5, 0] dX10_findReach_13 (by decide) rfl ?_
    refine go_aload_n dX10_findReach_15 rfl 0 rfl ?_
    refine go_get (.ref (ga G 95)) dX10_findReach_16 fX10_64 (g_lt rfl) (gs_78 G _ _) rfl ?_
    refine go_iload dX10_findReach_19 5 rfl ?_
    refine go_iload_n dX10_findReach_21 rfl 3 rfl ?_
    refine go_if_ne 29 dX10_findReach_22 (by decide) (fun c2 => ?_) (fun c2 => ?_)
    · have h := h.1 c2
      refine go_iconst (v := 0) dX10_findReach_29 (by decide) ?_
      obtain ⟨b3, h⟩ := h
      refine go_zast dX10_findReach_30 (g_lt rfl) (gs_95 G) b3 ?_
      refine go_iconst (v := 0) dX10_findReach_31 (by decide) ?_
      refine go_istore [(0, .ref (ga G 78)), (1, .int x1), (2, .int x2), (3, .int x3), (4, .int x4), (5, .int (x1 ||| x3)), (6, .int (0 : Int32))] [1, 2, 3, 4, 5, 6, 0] dX10_findReach_32 (by decide) rfl ?_
      exact go_sub [0, 1, 2, 3, 5, 6] rfl h
    · have h := h.2 c2
      refine go_iconst (v := 1) dX10_findReach_25 (by decide) ?_
      refine go_goto 30 dX10_findReach_26 (by decide) ?_
      obtain ⟨b4, h⟩ := h
      refine go_zast dX10_findReach_30 (g_lt rfl) (gs_95 G) b4 ?_
      refine go_iconst (v := 0) dX10_findReach_31 (by decide) ?_
      refine go_istore [(0, .ref (ga G 78)), (1, .int x1), (2, .int x2), (3, .int x3), (4, .int x4), (5, .int (x1 ||| x3)), (6, .int (0 : Int32))] [1, 2, 3, 4, 5, 6, 0] dX10_findReach_32 (by decide) rfl ?_
      exact go_sub [0, 1, 2, 3, 5, 6] rfl h
set_option maxRecDepth 100000 in
theorem eX10_findReach_34 {G : gC} {l : Launch} {P : Mem → Prop} {x1 : Int32} {x2 : Int32} {x3 : Int32} {x5 : Int32} {x6 : Int32} {μ : Mem} (h : (((gm_r μ 78 0) ≤ x6) → ((((x3 - x2) &&& x2) = 0) → hX10_findReach_5 G l P x1 x2 ((x3 - x2) &&& x2) (0 : Int32) μ) ∧ ((¬ ((x3 - x2) &&& x2) = 0) → hX10_findReach_5 G l P x1 x2 ((x3 - x2) &&& x2) (1 : Int32) μ)) ∧ ((¬ (gm_r μ 78 0) ≤ x6) → ∀ v7 : Int32, v7 = (x5 &&& (((1 : Int32) <<< (x6 &&& 31)) ^^^ (-1 : Int32))) → vp_in x5 1024 ∧ ((¬ (gm_r μ 95 x5.toNatClampNeg) = 0) → hX10_findReach_34 G l P x1 x2 x3 x5 (x6 + (1 : Int32)) (gm_w μ 95 x5.toNatClampNeg (1 : Int32))) ∧ (((gm_r μ 95 x5.toNatClampNeg) = 0) → qX10_has G l x3 x6 μ (fun (r11 : Int32) (μ10 : Mem) => ((r11 = 0) → hX10_findReach_34 G l P x1 x2 x3 x5 (x6 + (1 : Int32)) (gm_w μ10 95 x5.toNatClampNeg (0 : Int32))) ∧ ((¬ r11 = 0) → vp_in v7 1024 ∧ (((gm_r μ10 95 v7.toNatClampNeg) = 0) → hX10_findReach_34 G l P x1 x2 x3 x5 (x6 + (1 : Int32)) (gm_w μ10 95 x5.toNatClampNeg (0 : Int32))) ∧ ((¬ (gm_r μ10 95 v7.toNatClampNeg) = 0) → qX10_has G l (gm_r μ10 90 v7.toNatClampNeg) x6 μ10 (fun (r16 : Int32) (μ15 : Mem) => ((r16 = 0) → hX10_findReach_34 G l P x1 x2 x3 x5 (x6 + (1 : Int32)) (gm_w μ15 95 x5.toNatClampNeg (0 : Int32))) ∧ ((¬ r16 = 0) → hX10_findReach_34 G l P x1 x2 x3 x5 (x6 + (1 : Int32)) (gm_w μ15 95 x5.toNatClampNeg (1 : Int32)))))))))) : hX10_findReach_34 G l P x1 x2 x3 x5 x6 μ := by
  refine go_iload dX10_findReach_34 5 rfl ?_
  refine go_aload_n dX10_findReach_36 rfl 0 rfl ?_
  refine go_get (.int (gm_r μ 78 0)) dX10_findReach_37 fX10_174 (g_lt rfl) (gs_78 G _ _) rfl ?_
  refine go_icmp_ge 116 dX10_findReach_40 (by decide) (fun c5 => ?_) (fun c5 => ?_)
  · have h := h.1 c5
    refine go_iload_n dX10_findReach_116 rfl 3 rfl ?_
    refine go_iload_n dX10_findReach_117 rfl 2 rfl ?_
    refine go_isub dX10_findReach_118 ?_
    refine go_iload_n dX10_findReach_119 rfl 2 rfl ?_
    refine go_iand dX10_findReach_120 ?_
    refine go_istore_n [(0, .ref (ga G 78)), (1, .int x1), (2, .int x2), (3, .int ((x3 - x2) &&& x2)), (5, .int x5), (6, .int x6)] [1, 2, 3, 0, 4, 5] dX10_findReach_121 rfl (by decide) rfl ?_
    refine go_iload_n dX10_findReach_122 rfl 3 rfl ?_
    refine go_if_eq 130 dX10_findReach_123 (by decide) (fun c6 => ?_) (fun c6 => ?_)
    · have h := h.1 c6
      refine go_iconst (v := 0) dX10_findReach_130 (by decide) ?_
      refine go_istore [(0, .ref (ga G 78)), (1, .int x1), (2, .int x2), (3, .int ((x3 - x2) &&& x2)), (4, .int (0 : Int32)), (5, .int x5), (6, .int x6)] [1, 2, 3, 4, 0, 5, 6] dX10_findReach_131 (by decide) rfl ?_
      refine go_goto 5 dX10_findReach_133 (by decide) ?_
      exact go_sub [0, 1, 2, 3, 4] rfl h
    · have h := h.2 c6
      refine go_iconst (v := 1) dX10_findReach_126 (by decide) ?_
      refine go_goto 131 dX10_findReach_127 (by decide) ?_
      refine go_istore [(0, .ref (ga G 78)), (1, .int x1), (2, .int x2), (3, .int ((x3 - x2) &&& x2)), (4, .int (1 : Int32)), (5, .int x5), (6, .int x6)] [1, 2, 3, 4, 0, 5, 6] dX10_findReach_131 (by decide) rfl ?_
      refine go_goto 5 dX10_findReach_133 (by decide) ?_
      exact go_sub [0, 1, 2, 3, 4] rfl h
  · have h := h.2 c5
    refine go_iload dX10_findReach_43 4 rfl ?_
    refine go_iconst (v := 1) dX10_findReach_45 (by decide) ?_
    refine go_iload dX10_findReach_46 5 rfl ?_
    refine go_ishl dX10_findReach_48 ?_
    refine go_iconst (v := -1) dX10_findReach_49 (by decide) ?_
    refine go_ixor dX10_findReach_50 ?_
    refine go_iand dX10_findReach_51 ?_
    refine go_topi (fun v7 e_v7 => ?_)
    have h := h v7 e_v7
    refine go_istore [(0, .ref (ga G 78)), (1, .int x1), (2, .int x2), (3, .int x3), (5, .int x5), (6, .int x6), (7, .int v7)] [1, 2, 3, 4, 5, 6, 0] dX10_findReach_52 (by decide) rfl ?_
    refine go_aload_n dX10_findReach_54 rfl 0 rfl ?_
    refine go_get (.ref (ga G 95)) dX10_findReach_55 fX10_64 (g_lt rfl) (gs_78 G _ _) rfl ?_
    refine go_iload dX10_findReach_58 4 rfl ?_
    refine go_aload_n dX10_findReach_60 rfl 0 rfl ?_
    refine go_get (.ref (ga G 95)) dX10_findReach_61 fX10_64 (g_lt rfl) (gs_78 G _ _) rfl ?_
    refine go_iload dX10_findReach_64 4 rfl ?_
    obtain ⟨b8, h⟩ := h
    refine go_zaldv ((gm_r μ 95 x5.toNatClampNeg)) dX10_findReach_66 (g_lt rfl) (gs_95 G) b8 rfl ?_
    refine go_if_ne 104 dX10_findReach_67 (by decide) (fun c9 => ?_) (fun c9 => ?_)
    · have h := h.1 c9
      refine go_iconst (v := 1) dX10_findReach_104 (by decide) ?_
      refine go_goto 109 dX10_findReach_105 (by decide) ?_
      refine go_zast dX10_findReach_109 (g_lt rfl) (gs_95 G) b8 ?_
      refine go_iinc (v := (x6 + (1 : Int32))) [(0, .ref (ga G 78)), (1, .int x1), (2, .int x2), (3, .int x3), (5, .int x5), (6, .int (x6 + (1 : Int32))), (7, .int v7)] [1, 2, 3, 4, 5, 0, 6] 5 dX10_findReach_110 rfl rfl (by decide) rfl ?_
      refine go_goto 34 dX10_findReach_113 (by decide) ?_
      exact go_sub [0, 1, 2, 3, 4, 5] rfl h
    · have h := h.2 c9
      refine go_iload_n dX10_findReach_70 rfl 3 rfl ?_
      refine go_iload dX10_findReach_71 5 rfl ?_
      refine go_callS (As := [.int x3, .int x6]) (rest := [.int x5, .ref (ga G 95)]) dX10_findReach_73 lX10_143 kX10_has rfl (by decide) (Nat.le_of_ble_eq_true rfl) (by decide) rfl (gI_go (fun r11 μ10 h => ?_)) h
      refine go_if_eq 108 dX10_findReach_76 (by decide) (fun c12 => ?_) (fun c12 => ?_)
      · have h := h.1 c12
        refine go_iconst (v := 0) dX10_findReach_108 (by decide) ?_
        refine go_zast dX10_findReach_109 (g_lt rfl) (gs_95 G) b8 ?_
        refine go_iinc (v := (x6 + (1 : Int32))) [(0, .ref (ga G 78)), (1, .int x1), (2, .int x2), (3, .int x3), (5, .int x5), (6, .int (x6 + (1 : Int32))), (7, .int v7)] [1, 2, 3, 4, 5, 0, 6] 5 dX10_findReach_110 rfl rfl (by decide) rfl ?_
        refine go_goto 34 dX10_findReach_113 (by decide) ?_
        exact go_sub [0, 1, 2, 3, 4, 5] rfl h
      · have h := h.2 c12
        refine go_aload_n dX10_findReach_79 rfl 0 rfl ?_
        refine go_get (.ref (ga G 95)) dX10_findReach_80 fX10_64 (g_lt rfl) (gs_78 G _ _) rfl ?_
        refine go_iload dX10_findReach_83 6 rfl ?_
        obtain ⟨b13, h⟩ := h
        refine go_zaldv ((gm_r μ10 95 v7.toNatClampNeg)) dX10_findReach_85 (g_lt rfl) (gs_95 G) b13 rfl ?_
        refine go_if_eq 108 dX10_findReach_86 (by decide) (fun c14 => ?_) (fun c14 => ?_)
        · have h := h.1 c14
          refine go_iconst (v := 0) dX10_findReach_108 (by decide) ?_
          refine go_zast dX10_findReach_109 (g_lt rfl) (gs_95 G) b8 ?_
          refine go_iinc (v := (x6 + (1 : Int32))) [(0, .ref (ga G 78)), (1, .int x1), (2, .int x2), (3, .int x3), (5, .int x5), (6, .int (x6 + (1 : Int32))), (7, .int v7)] [1, 2, 3, 4, 5, 0, 6] 5 dX10_findReach_110 rfl rfl (by decide) rfl ?_
          refine go_goto 34 dX10_findReach_113 (by decide) ?_
          exact go_sub [0, 1, 2, 3, 4, 5] rfl h
        · have h := h.2 c14
          refine go_aload_n dX10_findReach_89 rfl 0 rfl ?_
          refine go_get (.ref (ga G 90)) dX10_findReach_90 fX10_49 (g_lt rfl) (gs_78 G _ _) rfl ?_
          refine go_iload dX10_findReach_93 6 rfl ?_
          refine go_ialdv ((gm_r μ10 90 v7.toNatClampNeg)) dX10_findReach_95 (g_lt rfl) (gs_90 G) b13 rfl ?_
          refine go_iload dX10_findReach_96 5 rfl ?_
          refine go_callS (As := [.int (gm_r μ10 90 v7.toNatClampNeg), .int x6]) (rest := [.int x5, .ref (ga G 95)]) dX10_findReach_98 lX10_143 kX10_has rfl (by decide) (Nat.le_of_ble_eq_true rfl) (by decide) rfl (gI_go (fun r16 μ15 h => ?_)) h
          refine go_if_eq 108 dX10_findReach_101 (by decide) (fun c17 => ?_) (fun c17 => ?_)
          · have h := h.1 c17
            refine go_iconst (v := 0) dX10_findReach_108 (by decide) ?_
            refine go_zast dX10_findReach_109 (g_lt rfl) (gs_95 G) b8 ?_
            refine go_iinc (v := (x6 + (1 : Int32))) [(0, .ref (ga G 78)), (1, .int x1), (2, .int x2), (3, .int x3), (5, .int x5), (6, .int (x6 + (1 : Int32))), (7, .int v7)] [1, 2, 3, 4, 5, 0, 6] 5 dX10_findReach_110 rfl rfl (by decide) rfl ?_
            refine go_goto 34 dX10_findReach_113 (by decide) ?_
            exact go_sub [0, 1, 2, 3, 4, 5] rfl h
          · have h := h.2 c17
            refine go_iconst (v := 1) dX10_findReach_104 (by decide) ?_
            refine go_goto 109 dX10_findReach_105 (by decide) ?_
            refine go_zast dX10_findReach_109 (g_lt rfl) (gs_95 G) b8 ?_
            refine go_iinc (v := (x6 + (1 : Int32))) [(0, .ref (ga G 78)), (1, .int x1), (2, .int x2), (3, .int x3), (5, .int x5), (6, .int (x6 + (1 : Int32))), (7, .int v7)] [1, 2, 3, 4, 5, 0, 6] 5 dX10_findReach_110 rfl rfl (by decide) rfl ?_
            refine go_goto 34 dX10_findReach_113 (by decide) ?_
            exact go_sub [0, 1, 2, 3, 4, 5] rfl h
set_option maxRecDepth 100000 in
theorem eX10_hooks {G : gC} {l : Launch} {a1 : Int32} {a2 : Int32} {μ : Mem} {P : Int32 → Mem → Prop} (h : qX10_openOf G l (a1 ||| a2) μ (fun (r2 : Int32) (μ1 : Mem) => hX10_hooks_17 G l P a2 (a1 ||| a2) r2 (0 : Int32) (0 : Int32) μ1)) : qX10_hooks G l a1 a2 μ P := by
  refine Sp.of (by decide) (Nat.le_of_ble_eq_true rfl) (lv := [(0, .ref (ga G 78)), (1, .int a1), (2, .int a2)]) rfl ?_
  refine go_iload_n dX10_hooks_0 rfl 1 rfl ?_
  refine go_iload_n dX10_hooks_1 rfl 2 rfl ?_
  refine go_ior dX10_hooks_2 ?_
  refine go_istore_n [(0, .ref (ga G 78)), (1, .int a1), (2, .int a2), (3, .int (a1 ||| a2))] [1, 2, 3, 0] dX10_hooks_3 rfl (by decide) rfl ?_
  refine go_aload_n dX10_hooks_4 rfl 0 rfl ?_
  refine go_iload_n dX10_hooks_5 rfl 3 rfl ?_
  refine go_callV (As := [.int (a1 ||| a2)]) (rest := []) dX10_hooks_6 lX10_237 kX10_openOf rfl (by decide) (Nat.le_of_ble_eq_true rfl) (g_lt rfl) (gs_78 G _ _) rfl (by decide) rfl (gI_go (fun r2 μ1 h => ?_)) h
  refine go_istore [(0, .ref (ga G 78)), (1, .int a1), (2, .int a2), (3, .int (a1 ||| a2)), (4, .int r2)] [1, 2, 3, 4, 0] dX10_hooks_9 (by decide) rfl ?_
  refine go_iconst (v := 0) dX10_hooks_11 (by decide) ?_
  refine go_istore [(0, .ref (ga G 78)), (1, .int a1), (2, .int a2), (3, .int (a1 ||| a2)), (4, .int r2), (5, .int (0 : Int32))] [1, 2, 3, 4, 5, 0] dX10_hooks_12 (by decide) rfl ?_
  refine go_iconst (v := 0) dX10_hooks_14 (by decide) ?_
  refine go_istore [(0, .ref (ga G 78)), (1, .int a1), (2, .int a2), (3, .int (a1 ||| a2)), (4, .int r2), (5, .int (0 : Int32)), (6, .int (0 : Int32))] [1, 2, 3, 4, 5, 6, 0] dX10_hooks_15 (by decide) rfl ?_
  exact go_sub [0, 2, 3, 4, 5, 6] rfl h
set_option maxRecDepth 100000 in
theorem eX10_hooks_17 {G : gC} {l : Launch} {P : Int32 → Mem → Prop} {x2 : Int32} {x3 : Int32} {x4 : Int32} {x5 : Int32} {x6 : Int32} {μ : Mem} (h : (((gm_r μ 78 0) ≤ x6) → (narrow .boolean (.int x5) = .int x5) ∧ P x5 μ) ∧ ((¬ (gm_r μ 78 0) ≤ x6) → ∀ v4 : Int32, v4 = (x3 &&& (((1 : Int32) <<< (x6 &&& 31)) ^^^ (-1 : Int32))) → ((¬ x5 = 0) → hX10_hooks_17 G l P x2 x3 x4 (1 : Int32) (x6 + (1 : Int32)) μ) ∧ ((x5 = 0) → qX10_has G l x2 x6 μ (fun (r7 : Int32) (μ6 : Mem) => ((r7 = 0) → hX10_hooks_17 G l P x2 x3 x4 (0 : Int32) (x6 + (1 : Int32)) μ6) ∧ ((¬ r7 = 0) → qX10_setOf G l x6 (3 : Int32) μ6 (fun (r10 : Int32) (μ9 : Mem) => (((r10 &&& x4) = 0) → hX10_hooks_17 G l P x2 x3 x4 (0 : Int32) (x6 + (1 : Int32)) μ9) ∧ ((¬ (r10 &&& x4) = 0) → vp_in v4 1024 ∧ (((gm_r μ9 95 v4.toNatClampNeg) = 0) → hX10_hooks_17 G l P x2 x3 x4 (0 : Int32) (x6 + (1 : Int32)) μ9) ∧ ((¬ (gm_r μ9 95 v4.toNatClampNeg) = 0) → qX10_has G l (gm_r μ9 90 v4.toNatClampNeg) x6 μ9 (fun (r15 : Int32) (μ14 : Mem) => ((r15 = 0) → hX10_hooks_17 G l P x2 x3 x4 (0 : Int32) (x6 + (1 : Int32)) μ14) ∧ ((¬ r15 = 0) → hX10_hooks_17 G l P x2 x3 x4 (1 : Int32) (x6 + (1 : Int32)) μ14)))))))))) : hX10_hooks_17 G l P x2 x3 x4 x5 x6 μ := by
  refine go_iload dX10_hooks_17 5 rfl ?_
  refine go_aload_n dX10_hooks_19 rfl 0 rfl ?_
  refine go_get (.int (gm_r μ 78 0)) dX10_hooks_20 fX10_174 (g_lt rfl) (gs_78 G _ _) rfl ?_
  refine go_icmp_ge 101 dX10_hooks_23 (by decide) (fun c3 => ?_) (fun c3 => ?_)
  · have h := h.1 c3
    refine go_iload dX10_hooks_101 4 rfl ?_
    exact go_zret dX10_hooks_103 rfl (Nat.le_refl _) (Nat.le_refl _) h.1 ⟨_, rfl, h.2⟩
  · have h := h.2 c3
    refine go_iload_n dX10_hooks_26 rfl 2 rfl ?_
    refine go_iconst (v := 1) dX10_hooks_27 (by decide) ?_
    refine go_iload dX10_hooks_28 5 rfl ?_
    refine go_ishl dX10_hooks_30 ?_
    refine go_iconst (v := -1) dX10_hooks_31 (by decide) ?_
    refine go_ixor dX10_hooks_32 ?_
    refine go_iand dX10_hooks_33 ?_
    refine go_topi (fun v4 e_v4 => ?_)
    have h := h v4 e_v4
    refine go_istore [(0, .ref (ga G 78)), (2, .int x2), (3, .int x3), (4, .int x4), (5, .int x5), (6, .int x6), (7, .int v4)] [1, 2, 3, 4, 5, 6, 0] dX10_hooks_34 (by decide) rfl ?_
    refine go_iload dX10_hooks_36 4 rfl ?_
    refine go_if_ne 88 dX10_hooks_38 (by decide) (fun c5 => ?_) (fun c5 => ?_)
    · have h := h.1 c5
      refine go_iconst (v := 1) dX10_hooks_88 (by decide) ?_
      refine go_goto 93 dX10_hooks_89 (by decide) ?_
      refine go_istore [(0, .ref (ga G 78)), (2, .int x2), (3, .int x3), (4, .int x4), (5, .int (1 : Int32)), (6, .int x6), (7, .int v4)] [1, 2, 3, 4, 0, 5, 6] dX10_hooks_93 (by decide) rfl ?_
      refine go_iinc (v := (x6 + (1 : Int32))) [(0, .ref (ga G 78)), (2, .int x2), (3, .int x3), (4, .int x4), (5, .int (1 : Int32)), (6, .int (x6 + (1 : Int32))), (7, .int v4)] [1, 2, 3, 4, 5, 0, 6] 5 dX10_hooks_95 rfl rfl (by decide) rfl ?_
      refine go_goto 17 dX10_hooks_98 (by decide) ?_
      exact go_sub [0, 1, 2, 3, 4, 5] rfl h
    · have h := h.2 c5
      refine go_iload_n dX10_hooks_41 rfl 1 rfl ?_
      refine go_iload dX10_hooks_42 5 rfl ?_
      refine go_callS (As := [.int x2, .int x6]) (rest := []) dX10_hooks_44 lX10_143 kX10_has rfl (by decide) (Nat.le_of_ble_eq_true rfl) (by decide) rfl (gI_go (fun r7 μ6 h => ?_)) h
      refine go_if_eq 92 dX10_hooks_47 (by decide) (fun c8 => ?_) (fun c8 => ?_)
      · have h := h.1 c8
        refine go_iconst (v := 0) dX10_hooks_92 (by decide) ?_
        refine go_istore [(0, .ref (ga G 78)), (2, .int x2), (3, .int x3), (4, .int x4), (5, .int (0 : Int32)), (6, .int x6), (7, .int v4)] [1, 2, 3, 4, 0, 5, 6] dX10_hooks_93 (by decide) rfl ?_
        refine go_iinc (v := (x6 + (1 : Int32))) [(0, .ref (ga G 78)), (2, .int x2), (3, .int x3), (4, .int x4), (5, .int (0 : Int32)), (6, .int (x6 + (1 : Int32))), (7, .int v4)] [1, 2, 3, 4, 5, 0, 6] 5 dX10_hooks_95 rfl rfl (by decide) rfl ?_
        refine go_goto 17 dX10_hooks_98 (by decide) ?_
        exact go_sub [0, 1, 2, 3, 4, 5] rfl h
      · have h := h.2 c8
        refine go_aload_n dX10_hooks_50 rfl 0 rfl ?_
        refine go_iload dX10_hooks_51 5 rfl ?_
        refine go_iconst (v := 3) dX10_hooks_53 (by decide) ?_
        refine go_callV (As := [.int x6, .int (3 : Int32)]) (rest := []) dX10_hooks_54 lX10_199 kX10_setOf rfl (by decide) (Nat.le_of_ble_eq_true rfl) (g_lt rfl) (gs_78 G _ _) rfl (by decide) rfl (gI_go (fun r10 μ9 h => ?_)) h
        refine go_iload dX10_hooks_57 3 rfl ?_
        refine go_iand dX10_hooks_59 ?_
        refine go_if_eq 92 dX10_hooks_60 (by decide) (fun c11 => ?_) (fun c11 => ?_)
        · have h := h.1 c11
          refine go_iconst (v := 0) dX10_hooks_92 (by decide) ?_
          refine go_istore [(0, .ref (ga G 78)), (2, .int x2), (3, .int x3), (4, .int x4), (5, .int (0 : Int32)), (6, .int x6), (7, .int v4)] [1, 2, 3, 4, 0, 5, 6] dX10_hooks_93 (by decide) rfl ?_
          refine go_iinc (v := (x6 + (1 : Int32))) [(0, .ref (ga G 78)), (2, .int x2), (3, .int x3), (4, .int x4), (5, .int (0 : Int32)), (6, .int (x6 + (1 : Int32))), (7, .int v4)] [1, 2, 3, 4, 5, 0, 6] 5 dX10_hooks_95 rfl rfl (by decide) rfl ?_
          refine go_goto 17 dX10_hooks_98 (by decide) ?_
          exact go_sub [0, 1, 2, 3, 4, 5] rfl h
        · have h := h.2 c11
          refine go_aload_n dX10_hooks_63 rfl 0 rfl ?_
          refine go_get (.ref (ga G 95)) dX10_hooks_64 fX10_64 (g_lt rfl) (gs_78 G _ _) rfl ?_
          refine go_iload dX10_hooks_67 6 rfl ?_
          obtain ⟨b12, h⟩ := h
          refine go_zaldv ((gm_r μ9 95 v4.toNatClampNeg)) dX10_hooks_69 (g_lt rfl) (gs_95 G) b12 rfl ?_
          refine go_if_eq 92 dX10_hooks_70 (by decide) (fun c13 => ?_) (fun c13 => ?_)
          · have h := h.1 c13
            refine go_iconst (v := 0) dX10_hooks_92 (by decide) ?_
            refine go_istore [(0, .ref (ga G 78)), (2, .int x2), (3, .int x3), (4, .int x4), (5, .int (0 : Int32)), (6, .int x6), (7, .int v4)] [1, 2, 3, 4, 0, 5, 6] dX10_hooks_93 (by decide) rfl ?_
            refine go_iinc (v := (x6 + (1 : Int32))) [(0, .ref (ga G 78)), (2, .int x2), (3, .int x3), (4, .int x4), (5, .int (0 : Int32)), (6, .int (x6 + (1 : Int32))), (7, .int v4)] [1, 2, 3, 4, 5, 0, 6] 5 dX10_hooks_95 rfl rfl (by decide) rfl ?_
            refine go_goto 17 dX10_hooks_98 (by decide) ?_
            exact go_sub [0, 1, 2, 3, 4, 5] rfl h
          · have h := h.2 c13
            refine go_aload_n dX10_hooks_73 rfl 0 rfl ?_
            refine go_get (.ref (ga G 90)) dX10_hooks_74 fX10_49 (g_lt rfl) (gs_78 G _ _) rfl ?_
            refine go_iload dX10_hooks_77 6 rfl ?_
            refine go_ialdv ((gm_r μ9 90 v4.toNatClampNeg)) dX10_hooks_79 (g_lt rfl) (gs_90 G) b12 rfl ?_
            refine go_iload dX10_hooks_80 5 rfl ?_
            refine go_callS (As := [.int (gm_r μ9 90 v4.toNatClampNeg), .int x6]) (rest := []) dX10_hooks_82 lX10_143 kX10_has rfl (by decide) (Nat.le_of_ble_eq_true rfl) (by decide) rfl (gI_go (fun r15 μ14 h => ?_)) h
            refine go_if_eq 92 dX10_hooks_85 (by decide) (fun c16 => ?_) (fun c16 => ?_)
            · have h := h.1 c16
              refine go_iconst (v := 0) dX10_hooks_92 (by decide) ?_
              refine go_istore [(0, .ref (ga G 78)), (2, .int x2), (3, .int x3), (4, .int x4), (5, .int (0 : Int32)), (6, .int x6), (7, .int v4)] [1, 2, 3, 4, 0, 5, 6] dX10_hooks_93 (by decide) rfl ?_
              refine go_iinc (v := (x6 + (1 : Int32))) [(0, .ref (ga G 78)), (2, .int x2), (3, .int x3), (4, .int x4), (5, .int (0 : Int32)), (6, .int (x6 + (1 : Int32))), (7, .int v4)] [1, 2, 3, 4, 5, 0, 6] 5 dX10_hooks_95 rfl rfl (by decide) rfl ?_
              refine go_goto 17 dX10_hooks_98 (by decide) ?_
              exact go_sub [0, 1, 2, 3, 4, 5] rfl h
            · have h := h.2 c16
              refine go_iconst (v := 1) dX10_hooks_88 (by decide) ?_
              refine go_goto 93 dX10_hooks_89 (by decide) ?_
              refine go_istore [(0, .ref (ga G 78)), (2, .int x2), (3, .int x3), (4, .int x4), (5, .int (1 : Int32)), (6, .int x6), (7, .int v4)] [1, 2, 3, 4, 0, 5, 6] dX10_hooks_93 (by decide) rfl ?_
              refine go_iinc (v := (x6 + (1 : Int32))) [(0, .ref (ga G 78)), (2, .int x2), (3, .int x3), (4, .int x4), (5, .int (1 : Int32)), (6, .int (x6 + (1 : Int32))), (7, .int v4)] [1, 2, 3, 4, 5, 0, 6] 5 dX10_hooks_95 rfl rfl (by decide) rfl ?_
              refine go_goto 17 dX10_hooks_98 (by decide) ?_
              exact go_sub [0, 1, 2, 3, 4, 5] rfl h
