set_option maxRecDepth 100000 in
theorem eX9_freshSets {G : gC} {l : Launch}  {μ : Mem} {P : Mem → Prop} (h : ((¬ (gm_r μ 30 2) = 0) → P μ) ∧ (((gm_r μ 30 2) = 0) → qX6_build G l  μ (fun (μ2 : Mem) => P μ2))) : qX9_freshSets G l  μ P := by
  refine Sp.of (by decide) (Nat.le_of_ble_eq_true rfl) (lv := [(0, .ref (ga G 0))]) rfl ?_
  refine go_aload_n dX9_freshSets_0 rfl 0 rfl ?_
  refine go_get (.ref (ga G 30)) dX9_freshSets_1 fX9_49 (g_lt rfl) (gs_0 G _ _) rfl ?_
  refine go_get (.int (gm_r μ 30 2)) dX9_freshSets_4 fX9_102 (g_lt rfl) (gs_30 G _ _) rfl ?_
  refine go_if_ne 17 dX9_freshSets_7 (by decide) (fun c1 => ?_) (fun c1 => ?_)
  · have h := h.1 c1
    refine go_aload_n dX9_freshSets_17 rfl 0 rfl ?_
    refine go_get (.ref (ga G 30)) dX9_freshSets_18 fX9_49 (g_lt rfl) (gs_0 G _ _) rfl ?_
    exact go_aret dX9_freshSets_21 rfl (Nat.le_refl _) (Nat.le_refl _) ⟨rfl, h⟩
  · have h := h.2 c1
    refine go_aload_n dX9_freshSets_10 rfl 0 rfl ?_
    refine go_get (.ref (ga G 30)) dX9_freshSets_11 fX9_49 (g_lt rfl) (gs_0 G _ _) rfl ?_
    refine go_callV (As := []) (rest := []) dX9_freshSets_14 lX9_285 kX6_build rfl (by decide) (Nat.le_of_ble_eq_true rfl) (g_lt rfl) (gs_30 G _ _) rfl (by decide) rfl (gV_go (fun μ2 h => ?_)) h
    refine go_aload_n dX9_freshSets_17 rfl 0 rfl ?_
    refine go_get (.ref (ga G 30)) dX9_freshSets_18 fX9_49 (g_lt rfl) (gs_0 G _ _) rfl ?_
    exact go_aret dX9_freshSets_21 rfl (Nat.le_refl _) (Nat.le_refl _) ⟨rfl, h⟩
set_option maxRecDepth 100000 in
theorem eX9_orders {G : gC} {l : Launch} {a1 : Int32} {μ : Mem} {P : Int64 → Mem → Prop} (h : qX9_areScenes G l a1 μ (fun (r2 : Int32) (μ1 : Mem) => ((r2 = 0) → P (-1001 : Int64) μ1) ∧ ((¬ r2 = 0) → qX9_freshSets G l  μ1 (fun (μ4 : Mem) => vp_in a1 1024 ∧ P ((gm_r μ4 39 a1.toNatClampNeg)).toInt64 μ4)))) : qX9_orders G l a1 μ P := by
  refine Sp.of (by decide) (Nat.le_of_ble_eq_true rfl) (lv := [(0, .ref (ga G 0)), (1, .int a1)]) rfl ?_
  refine go_aload_n dX9_orders_0 rfl 0 rfl ?_
  refine go_iload_n dX9_orders_1 rfl 1 rfl ?_
  refine go_callV (As := [.int a1]) (rest := []) dX9_orders_2 lX9_162 kX9_areScenes rfl (by decide) (Nat.le_of_ble_eq_true rfl) (g_lt rfl) (gs_0 G _ _) rfl (by decide) rfl (gI_go (fun r2 μ1 h => ?_)) h
  refine go_if_eq 21 dX9_orders_5 (by decide) (fun c3 => ?_) (fun c3 => ?_)
  · have h := h.1 c3
    refine go_ldc2_w (v := -1001) (g_in 630 (by decide +kernel) rfl) dX9_orders_21 ?_
    exact go_lret dX9_orders_24 rfl (Nat.le_refl _) (Nat.le_refl _) ⟨_, rfl, h⟩
  · have h := h.2 c3
    refine go_aload_n dX9_orders_8 rfl 0 rfl ?_
    refine go_callV (As := []) (rest := []) dX9_orders_9 lX9_168 kX9_freshSets rfl (by decide) (Nat.le_of_ble_eq_true rfl) (g_lt rfl) (gs_0 G _ _) rfl (by decide) rfl (gR_go (fun μ4 h => ?_)) h
    refine go_get (.ref (ga G 39)) dX9_orders_12 fX9_172 (g_lt rfl) (gs_30 G _ _) rfl ?_
    refine go_iload_n dX9_orders_15 rfl 1 rfl ?_
    obtain ⟨b6, h⟩ := h
    refine go_ialdv ((gm_r μ4 39 a1.toNatClampNeg)) dX9_orders_16 (g_lt rfl) (gs_39 G) b6 rfl ?_
    refine go_i2l dX9_orders_17 ?_
    refine go_goto 24 dX9_orders_18 (by decide) ?_
    exact go_lret dX9_orders_24 rfl (Nat.le_refl _) (Nat.le_refl _) ⟨_, rfl, h⟩
set_option maxRecDepth 100000 in
theorem eX6_findEndings {G : gC} {l : Launch} {a1 : Int32} {μ : Mem} {P : Mem → Prop} (h : ((¬ (gm_r μ 30 15) = a1) → hX6_findEndings_11 G l P a1 a1 μ) ∧ (((gm_r μ 30 15) = a1) → P μ)) : qX6_findEndings G l a1 μ P := by
  refine Sp.of (by decide) (Nat.le_of_ble_eq_true rfl) (lv := [(0, .ref (ga G 30)), (1, .int a1)]) rfl ?_
  refine go_aload_n dX6_findEndings_0 rfl 0 rfl ?_
  refine go_get (.int (gm_r μ 30 15)) dX6_findEndings_1 fX6_92 (g_lt rfl) (gs_30 G _ _) rfl ?_
  refine go_iload_n dX6_findEndings_4 rfl 1 rfl ?_
  refine go_icmp_ne 9 dX6_findEndings_5 (by decide) (fun c1 => ?_) (fun c1 => ?_)
  · have h := h.1 c1
    refine go_iload_n dX6_findEndings_9 rfl 1 rfl ?_
    refine go_istore_n [(0, .ref (ga G 30)), (1, .int a1), (2, .int a1)] [1, 2, 0] dX6_findEndings_10 rfl (by decide) rfl ?_
    exact h
  · have h := h.2 c1
    exact go_vret dX6_findEndings_8 rfl (Nat.le_refl _) (Nat.le_refl _) ⟨rfl, h⟩
set_option maxRecDepth 100000 in
theorem eX6_findEndings_11 {G : gC} {l : Launch} {P : Mem → Prop} {x1 : Int32} {x2 : Int32} {μ : Mem} (h : ((x2 < 0) → P (gm_w μ 30 15 x1)) ∧ ((¬ x2 < 0) → ((¬ x2 = x1) → hX6_findEndings_30 G l P x1 x2 (0 : Int32) x2 μ) ∧ ((x2 = x1) → hX6_findEndings_30 G l P x1 x2 (1 : Int32) x2 μ))) : hX6_findEndings_11 G l P x1 x2 μ := by
  refine go_iload_n dX6_findEndings_11 rfl 2 rfl ?_
  refine go_if_lt 109 dX6_findEndings_12 (by decide) (fun c2 => ?_) (fun c2 => ?_)
  · have h := h.1 c2
    refine go_aload_n dX6_findEndings_109 rfl 0 rfl ?_
    refine go_iload_n dX6_findEndings_110 rfl 1 rfl ?_
    refine go_puti dX6_findEndings_111 pX6_92 (g_lt rfl) (gs_30 G _ _) (Nat.le_of_ble_eq_true rfl) rfl ?_
    exact go_vret dX6_findEndings_114 rfl (Nat.le_refl _) (Nat.le_refl _) ⟨rfl, h⟩
  · have h := h.2 c2
    refine go_aload_n dX6_findEndings_15 rfl 0 rfl ?_
    refine go_get (.ref (ga G 41)) dX6_findEndings_16 fX6_46 (g_lt rfl) (gs_30 G _ _) rfl ?_
    refine go_iload_n dX6_findEndings_19 rfl 2 rfl ?_
    refine go_iload_n dX6_findEndings_20 rfl 2 rfl ?_
    refine go_iload_n dX6_findEndings_21 rfl 1 rfl ?_
    refine go_icmp_ne 29 dX6_findEndings_22 (by decide) (fun c3 => ?_) (fun c3 => ?_)
    · have h := h.1 c3
      refine go_iconst (v := 0) dX6_findEndings_29 (by decide) ?_
      exact h
    · have h := h.2 c3
      refine go_iconst (v := 1) dX6_findEndings_25 (by decide) ?_
      refine go_goto 30 dX6_findEndings_26 (by decide) ?_
      exact h
set_option maxRecDepth 100000 in
theorem eX6_findEndings_30 {G : gC} {l : Launch} {P : Mem → Prop} {x1 : Int32} {x2 : Int32} {y0 : Int32} {y1 : Int32} {μ : Mem} (h : vp_in y1 1024 ∧ ((¬ (x2 &&& (x1 ^^^ (-1 : Int32))) = 0) → hX6_findEndings_55 G l P x1 x2 (0 : Int32) (0 : Int32) (gm_w μ 41 y1.toNatClampNeg y0)) ∧ (((x2 &&& (x1 ^^^ (-1 : Int32))) = 0) → vp_in x2 1024 ∧ ∀ v7 : Int32, v7 = ((gm_r μ 38 x2.toNatClampNeg) &&& x1) → hX6_findEndings_55 G l P x1 x2 v7 (0 : Int32) (gm_w μ 41 y1.toNatClampNeg y0))) : hX6_findEndings_30 G l P x1 x2 y0 y1 μ := by
  obtain ⟨b4, h⟩ := h
  refine go_iast dX6_findEndings_30 (g_lt rfl) (gs_41 G) b4 ?_
  refine go_iload_n dX6_findEndings_31 rfl 2 rfl ?_
  refine go_iload_n dX6_findEndings_32 rfl 1 rfl ?_
  refine go_iconst (v := -1) dX6_findEndings_33 (by decide) ?_
  refine go_ixor dX6_findEndings_34 ?_
  refine go_iand dX6_findEndings_35 ?_
  refine go_if_ne 50 dX6_findEndings_36 (by decide) (fun c5 => ?_) (fun c5 => ?_)
  · have h := h.1 c5
    refine go_iconst (v := 0) dX6_findEndings_50 (by decide) ?_
    refine go_istore_n [(0, .ref (ga G 30)), (1, .int x1), (2, .int x2), (3, .int (0 : Int32))] [1, 2, 3, 0] dX6_findEndings_51 rfl (by decide) rfl ?_
    refine go_iconst (v := 0) dX6_findEndings_52 (by decide) ?_
    refine go_istore [(0, .ref (ga G 30)), (1, .int x1), (2, .int x2), (3, .int (0 : Int32)), (4, .int (0 : Int32))] [1, 2, 3, 4, 0] dX6_findEndings_53 (by decide) rfl ?_
    exact h
  · have h := h.2 c5
    refine go_aload_n dX6_findEndings_39 rfl 0 rfl ?_
    refine go_get (.ref (ga G 38)) dX6_findEndings_40 fX6_37 (g_lt rfl) (gs_30 G _ _) rfl ?_
    refine go_iload_n dX6_findEndings_43 rfl 2 rfl ?_
    obtain ⟨b6, h⟩ := h
    refine go_ialdv ((gm_r μ 38 x2.toNatClampNeg)) dX6_findEndings_44 (g_lt rfl) (gs_38 G) b6 rfl ?_
    refine go_iload_n dX6_findEndings_45 rfl 1 rfl ?_
    refine go_iand dX6_findEndings_46 ?_
    refine go_goto 51 dX6_findEndings_47 (by decide) ?_
    refine go_topi (fun v7 e_v7 => ?_)
    have h := h v7 e_v7
    refine go_istore_n [(0, .ref (ga G 30)), (1, .int x1), (2, .int x2), (3, .int v7)] [1, 2, 3, 0] dX6_findEndings_51 rfl (by decide) rfl ?_
    refine go_iconst (v := 0) dX6_findEndings_52 (by decide) ?_
    refine go_istore [(0, .ref (ga G 30)), (1, .int x1), (2, .int x2), (3, .int v7), (4, .int (0 : Int32))] [1, 2, 3, 4, 0] dX6_findEndings_53 (by decide) rfl ?_
    exact h
set_option maxRecDepth 100000 in
theorem eX6_findEndings_55 {G : gC} {l : Launch} {P : Mem → Prop} {x1 : Int32} {x2 : Int32} {x3 : Int32} {x4 : Int32} {μ : Mem} (h : (((gm_r μ 4 1) ≤ x4) → hX6_findEndings_11 G l P x1 (x2 + (-1 : Int32)) μ) ∧ ((¬ (gm_r μ 4 1) ≤ x4) → ((¬ ((x3 >>> (x4 &&& 31)) &&& (1 : Int32)) = (1 : Int32)) → hX6_findEndings_55 G l P x1 x2 x3 (x4 + (1 : Int32)) μ) ∧ ((((x3 >>> (x4 &&& 31)) &&& (1 : Int32)) = (1 : Int32)) → vp_in x2 1024 ∧ vp_in (x2 ||| ((1 : Int32) <<< (x4 &&& 31))) 1024 ∧ hX6_findEndings_55 G l P x1 x2 x3 (x4 + (1 : Int32)) (gm_w μ 41 x2.toNatClampNeg ((gm_r μ 41 x2.toNatClampNeg) + (gm_r μ 41 (x2 ||| ((1 : Int32) <<< (x4 &&& 31))).toNatClampNeg)))))) : hX6_findEndings_55 G l P x1 x2 x3 x4 μ := by
  refine go_iload dX6_findEndings_55 4 rfl ?_
  refine go_aload_n dX6_findEndings_57 rfl 0 rfl ?_
  refine go_get (.ref (ga G 4)) dX6_findEndings_58 fX6_49 (g_lt rfl) (gs_30 G _ _) rfl ?_
  refine go_get (.int (gm_r μ 4 1)) dX6_findEndings_61 fX6_57 (g_lt rfl) (gs_4 G _ _) rfl ?_
  refine go_icmp_ge 103 dX6_findEndings_64 (by decide) (fun c8 => ?_) (fun c8 => ?_)
  · have h := h.1 c8
    refine go_iinc (v := (x2 + (-1 : Int32))) [(0, .ref (ga G 30)), (1, .int x1), (2, .int (x2 + (-1 : Int32))), (3, .int x3), (4, .int x4)] [1, 2, 0, 3, 4] 2 dX6_findEndings_103 rfl rfl (by decide) rfl ?_
    refine go_goto 11 dX6_findEndings_106 (by decide) ?_
    exact go_sub [0, 1, 2] rfl h
  · have h := h.2 c8
    refine go_iload_n dX6_findEndings_67 rfl 3 rfl ?_
    refine go_iload dX6_findEndings_68 4 rfl ?_
    refine go_ishr dX6_findEndings_70 ?_
    refine go_iconst (v := 1) dX6_findEndings_71 (by decide) ?_
    refine go_iand dX6_findEndings_72 ?_
    refine go_iconst (v := 1) dX6_findEndings_73 (by decide) ?_
    refine go_icmp_ne 97 dX6_findEndings_74 (by decide) (fun c9 => ?_) (fun c9 => ?_)
    · have h := h.1 c9
      refine go_iinc (v := (x4 + (1 : Int32))) [(0, .ref (ga G 30)), (1, .int x1), (2, .int x2), (3, .int x3), (4, .int (x4 + (1 : Int32)))] [1, 2, 3, 4, 0] 4 dX6_findEndings_97 rfl rfl (by decide) rfl ?_
      refine go_goto 55 dX6_findEndings_100 (by decide) ?_
      exact h
    · have h := h.2 c9
      refine go_aload_n dX6_findEndings_77 rfl 0 rfl ?_
      refine go_get (.ref (ga G 41)) dX6_findEndings_78 fX6_46 (g_lt rfl) (gs_30 G _ _) rfl ?_
      refine go_iload_n dX6_findEndings_81 rfl 2 rfl ?_
      refine go_dup2 dX6_findEndings_82 rfl rfl ?_
      obtain ⟨b10, h⟩ := h
      refine go_ialdv ((gm_r μ 41 x2.toNatClampNeg)) dX6_findEndings_83 (g_lt rfl) (gs_41 G) b10 rfl ?_
      refine go_aload_n dX6_findEndings_84 rfl 0 rfl ?_
      refine go_get (.ref (ga G 41)) dX6_findEndings_85 fX6_46 (g_lt rfl) (gs_30 G _ _) rfl ?_
      refine go_iload_n dX6_findEndings_88 rfl 2 rfl ?_
      refine go_iconst (v := 1) dX6_findEndings_89 (by decide) ?_
      refine go_iload dX6_findEndings_90 4 rfl ?_
      refine go_ishl dX6_findEndings_92 ?_
      refine go_ior dX6_findEndings_93 ?_
      obtain ⟨b11, h⟩ := h
      refine go_ialdv ((gm_r μ 41 (x2 ||| ((1 : Int32) <<< (x4 &&& 31))).toNatClampNeg)) dX6_findEndings_94 (g_lt rfl) (gs_41 G) b11 rfl ?_
      refine go_iadd dX6_findEndings_95 ?_
      refine go_iast dX6_findEndings_96 (g_lt rfl) (gs_41 G) b10 ?_
      refine go_iinc (v := (x4 + (1 : Int32))) [(0, .ref (ga G 30)), (1, .int x1), (2, .int x2), (3, .int x3), (4, .int (x4 + (1 : Int32)))] [1, 2, 3, 4, 0] 4 dX6_findEndings_97 rfl rfl (by decide) rfl ?_
      refine go_goto 55 dX6_findEndings_100 (by decide) ?_
      exact h
set_option maxRecDepth 100000 in
theorem eX6_sceneOfOrder {G : gC} {l : Launch} {a1 : Int32} {a2 : Int64} {a3 : Int32} {μ : Mem} {P : Int32 → Mem → Prop} (h : vp_in a1 1024 ∧ ((0 ≤ (lg_cmp a2 ((gm_r μ 39 a1.toNatClampNeg)).toInt64)) → P (-1 : Int32) μ) ∧ ((¬ 0 ≤ (lg_cmp a2 ((gm_r μ 39 a1.toNatClampNeg)).toInt64)) → ((a3 < 0) → P (-1 : Int32) μ) ∧ ((¬ a3 < 0) → qJ6_bitCount_0f7a4 G l a1 μ (fun (r5 : Int32) (μ4 : Mem) => ((a3 < r5) → qX6_findEndings G l a1 μ4 (fun (μ7 : Mem) => hX6_sceneOfOrder_45 G l P a1 a3 a2 (0 : Int32) (-1 : Int32) (0 : Int32) μ7)) ∧ ((¬ a3 < r5) → P (-1 : Int32) μ4))))) : qX6_sceneOfOrder G l a1 a2 a3 μ P := by
  refine Sp.of (by decide) (Nat.le_of_ble_eq_true rfl) (lv := [(0, .ref (ga G 30)), (1, .int a1), (2, .long a2), (4, .int a3)]) rfl ?_
  refine go_lload_n dX6_sceneOfOrder_0 rfl 2 rfl ?_
  refine go_aload_n dX6_sceneOfOrder_1 rfl 0 rfl ?_
  refine go_get (.ref (ga G 39)) dX6_sceneOfOrder_2 fX6_40 (g_lt rfl) (gs_30 G _ _) rfl ?_
  refine go_iload_n dX6_sceneOfOrder_5 rfl 1 rfl ?_
  obtain ⟨b1, h⟩ := h
  refine go_ialdv ((gm_r μ 39 a1.toNatClampNeg)) dX6_sceneOfOrder_6 (g_lt rfl) (gs_39 G) b1 rfl ?_
  refine go_i2l dX6_sceneOfOrder_7 ?_
  refine go_lcmp dX6_sceneOfOrder_8 ?_
  refine go_if_ge 26 dX6_sceneOfOrder_9 (by decide) (fun c2 => ?_) (fun c2 => ?_)
  · have h := h.1 c2
    refine go_iconst (v := -1) dX6_sceneOfOrder_26 (by decide) ?_
    exact go_iret dX6_sceneOfOrder_27 rfl (Nat.le_refl _) (Nat.le_refl _) ⟨_, rfl, h⟩
  · have h := h.2 c2
    refine go_iload dX6_sceneOfOrder_12 3 rfl ?_
    refine go_if_lt 26 dX6_sceneOfOrder_14 (by decide) (fun c3 => ?_) (fun c3 => ?_)
    · have h := h.1 c3
      refine go_iconst (v := -1) dX6_sceneOfOrder_26 (by decide) ?_
      exact go_iret dX6_sceneOfOrder_27 rfl (Nat.le_refl _) (Nat.le_refl _) ⟨_, rfl, h⟩
    · have h := h.2 c3
      refine go_iload dX6_sceneOfOrder_17 3 rfl ?_
      refine go_iload_n dX6_sceneOfOrder_19 rfl 1 rfl ?_
      refine go_callS (As := [.int a1]) (rest := [.int a3]) dX6_sceneOfOrder_20 lX6_76 kJ6_bitCount_0f7a4 rfl (by decide) (Nat.le_of_ble_eq_true rfl) (by decide) rfl (gI_go (fun r5 μ4 h => ?_)) h
      refine go_icmp_lt 28 dX6_sceneOfOrder_23 (by decide) (fun c6 => ?_) (fun c6 => ?_)
      · have h := h.1 c6
        refine go_aload_n dX6_sceneOfOrder_28 rfl 0 rfl ?_
        refine go_iload_n dX6_sceneOfOrder_29 rfl 1 rfl ?_
        refine go_callV (As := [.int a1]) (rest := []) dX6_sceneOfOrder_30 lX6_105 kX6_findEndings rfl (by decide) (Nat.le_of_ble_eq_true rfl) (g_lt rfl) (gs_30 G _ _) rfl (by decide) rfl (gV_go (fun μ7 h => ?_)) h
        refine go_lload_n dX6_sceneOfOrder_33 rfl 2 rfl ?_
        refine go_lstore [(0, .ref (ga G 30)), (1, .int a1), (2, .long a2), (4, .int a3), (5, .long a2)] [1, 2, 3, 4, 0] dX6_sceneOfOrder_34 (by decide) rfl ?_
        refine go_iconst (v := 0) dX6_sceneOfOrder_36 (by decide) ?_
        refine go_istore [(0, .ref (ga G 30)), (1, .int a1), (2, .long a2), (4, .int a3), (5, .long a2), (7, .int (0 : Int32))] [1, 2, 3, 4, 5, 0] dX6_sceneOfOrder_37 (by decide) rfl ?_
        refine go_iconst (v := -1) dX6_sceneOfOrder_39 (by decide) ?_
        refine go_istore [(0, .ref (ga G 30)), (1, .int a1), (2, .long a2), (4, .int a3), (5, .long a2), (7, .int (0 : Int32)), (8, .int (-1 : Int32))] [1, 2, 3, 4, 5, 6, 0] dX6_sceneOfOrder_40 (by decide) rfl ?_
        refine go_iconst (v := 0) dX6_sceneOfOrder_42 (by decide) ?_
        refine go_istore [(0, .ref (ga G 30)), (1, .int a1), (2, .long a2), (4, .int a3), (5, .long a2), (7, .int (0 : Int32)), (8, .int (-1 : Int32)), (9, .int (0 : Int32))] [1, 2, 3, 4, 5, 6, 7, 0] dX6_sceneOfOrder_43 (by decide) rfl ?_
        exact go_sub [0, 1, 3, 4, 5, 6, 7] rfl h
      · have h := h.2 c6
        refine go_iconst (v := -1) dX6_sceneOfOrder_26 (by decide) ?_
        exact go_iret dX6_sceneOfOrder_27 rfl (Nat.le_refl _) (Nat.le_refl _) ⟨_, rfl, h⟩
set_option maxRecDepth 100000 in
theorem eX6_sceneOfOrder_45 {G : gC} {l : Launch} {P : Int32 → Mem → Prop} {x1 : Int32} {x4 : Int32} {x5 : Int64} {x7 : Int32} {x8 : Int32} {x9 : Int32} {μ : Mem} (h : ((x4 < x9) → P x8 μ) ∧ ((¬ x4 < x9) → vp_in x7 1024 ∧ ∀ v11 : Int32, v11 = ((gm_r μ 38 x7.toNatClampNeg) &&& x1) → hX6_sceneOfOrder_69 G l P x1 x4 x5 x7 (-1 : Int32) x9 v11 (0 : Int32) μ)) : hX6_sceneOfOrder_45 G l P x1 x4 x5 x7 x8 x9 μ := by
  refine go_iload dX6_sceneOfOrder_45 6 rfl ?_
  refine go_iload dX6_sceneOfOrder_47 2 rfl ?_
  refine go_icmp_gt 169 dX6_sceneOfOrder_49 (by decide) (fun c9 => ?_) (fun c9 => ?_)
  · have h := h.1 c9
    refine go_iload dX6_sceneOfOrder_169 5 rfl ?_
    exact go_iret dX6_sceneOfOrder_171 rfl (Nat.le_refl _) (Nat.le_refl _) ⟨_, rfl, h⟩
  · have h := h.2 c9
    refine go_aload_n dX6_sceneOfOrder_52 rfl 0 rfl ?_
    refine go_get (.ref (ga G 38)) dX6_sceneOfOrder_53 fX6_37 (g_lt rfl) (gs_30 G _ _) rfl ?_
    refine go_iload dX6_sceneOfOrder_56 4 rfl ?_
    obtain ⟨b10, h⟩ := h
    refine go_ialdv ((gm_r μ 38 x7.toNatClampNeg)) dX6_sceneOfOrder_58 (g_lt rfl) (gs_38 G) b10 rfl ?_
    refine go_iload_n dX6_sceneOfOrder_59 rfl 1 rfl ?_
    refine go_iand dX6_sceneOfOrder_60 ?_
    refine go_topi (fun v11 e_v11 => ?_)
    have h := h v11 e_v11
    refine go_istore [(0, .ref (ga G 30)), (1, .int x1), (4, .int x4), (5, .long x5), (7, .int x7), (8, .int x8), (9, .int x9), (10, .int v11)] [1, 2, 3, 4, 5, 6, 7, 0] dX6_sceneOfOrder_61 (by decide) rfl ?_
    refine go_iconst (v := -1) dX6_sceneOfOrder_63 (by decide) ?_
    refine go_istore [(0, .ref (ga G 30)), (1, .int x1), (4, .int x4), (5, .long x5), (7, .int x7), (8, .int (-1 : Int32)), (9, .int x9), (10, .int v11)] [1, 2, 3, 4, 5, 0, 6, 7] dX6_sceneOfOrder_64 (by decide) rfl ?_
    refine go_iconst (v := 0) dX6_sceneOfOrder_66 (by decide) ?_
    refine go_istore [(0, .ref (ga G 30)), (1, .int x1), (4, .int x4), (5, .long x5), (7, .int x7), (8, .int (-1 : Int32)), (9, .int x9), (10, .int v11), (11, .int (0 : Int32))] [1, 2, 3, 4, 5, 6, 7, 8, 0] dX6_sceneOfOrder_67 (by decide) rfl ?_
    exact h
set_option maxRecDepth 100000 in
theorem eX6_sceneOfOrder_69 {G : gC} {l : Launch} {P : Int32 → Mem → Prop} {x1 : Int32} {x4 : Int32} {x5 : Int64} {x7 : Int32} {x8 : Int32} {x9 : Int32} {x10 : Int32} {x11 : Int32} {μ : Mem} (h : (((gm_r μ 4 1) ≤ x11) → ((¬ x8 = (-1 : Int32)) → ∀ v14 : Int32, v14 = (x7 ||| ((1 : Int32) <<< (x8 &&& 31))) → hX6_sceneOfOrder_45 G l P x1 x4 x5 v14 x8 (x9 + (1 : Int32)) μ) ∧ ((x8 = (-1 : Int32)) → P (-1 : Int32) μ)) ∧ ((¬ (gm_r μ 4 1) ≤ x11) → ((¬ x8 = (-1 : Int32)) → ((¬ x8 = (-1 : Int32)) → ∀ v17 : Int32, v17 = (x7 ||| ((1 : Int32) <<< (x8 &&& 31))) → hX6_sceneOfOrder_45 G l P x1 x4 x5 v17 x8 (x9 + (1 : Int32)) μ) ∧ ((x8 = (-1 : Int32)) → P (-1 : Int32) μ)) ∧ ((x8 = (-1 : Int32)) → ((¬ ((x10 >>> (x11 &&& 31)) &&& (1 : Int32)) = (1 : Int32)) → hX6_sceneOfOrder_114 G l P x1 x4 x5 x7 x8 x9 x10 x11 (0 : Int32) μ) ∧ ((((x10 >>> (x11 &&& 31)) &&& (1 : Int32)) = (1 : Int32)) → vp_in (x7 ||| ((1 : Int32) <<< (x11 &&& 31))) 1024 ∧ hX6_sceneOfOrder_114 G l P x1 x4 x5 x7 x8 x9 x10 x11 (gm_r μ 41 (x7 ||| ((1 : Int32) <<< (x11 &&& 31))).toNatClampNeg) μ)))) : hX6_sceneOfOrder_69 G l P x1 x4 x5 x7 x8 x9 x10 x11 μ := by
  refine go_iload dX6_sceneOfOrder_69 8 rfl ?_
  refine go_aload_n dX6_sceneOfOrder_71 rfl 0 rfl ?_
  refine go_get (.ref (ga G 4)) dX6_sceneOfOrder_72 fX6_49 (g_lt rfl) (gs_30 G _ _) rfl ?_
  refine go_get (.int (gm_r μ 4 1)) dX6_sceneOfOrder_75 fX6_57 (g_lt rfl) (gs_4 G _ _) rfl ?_
  refine go_icmp_ge 146 dX6_sceneOfOrder_78 (by decide) (fun c12 => ?_) (fun c12 => ?_)
  · have h := h.1 c12
    refine go_iload dX6_sceneOfOrder_146 5 rfl ?_
    refine go_iconst (v := -1) dX6_sceneOfOrder_148 (by decide) ?_
    refine go_icmp_ne 154 dX6_sceneOfOrder_149 (by decide) (fun c13 => ?_) (fun c13 => ?_)
    · have h := h.1 c13
      refine go_iload dX6_sceneOfOrder_154 4 rfl ?_
      refine go_iconst (v := 1) dX6_sceneOfOrder_156 (by decide) ?_
      refine go_iload dX6_sceneOfOrder_157 5 rfl ?_
      refine go_ishl dX6_sceneOfOrder_159 ?_
      refine go_ior dX6_sceneOfOrder_160 ?_
      refine go_topi (fun v14 e_v14 => ?_)
      have h := h v14 e_v14
      refine go_istore [(0, .ref (ga G 30)), (1, .int x1), (4, .int x4), (5, .long x5), (7, .int v14), (8, .int x8), (9, .int x9), (10, .int x10), (11, .int x11)] [1, 2, 3, 4, 0, 5, 6, 7, 8] dX6_sceneOfOrder_161 (by decide) rfl ?_
      refine go_iinc (v := (x9 + (1 : Int32))) [(0, .ref (ga G 30)), (1, .int x1), (4, .int x4), (5, .long x5), (7, .int v14), (8, .int x8), (9, .int (x9 + (1 : Int32))), (10, .int x10), (11, .int x11)] [1, 2, 3, 4, 5, 6, 0, 7, 8] 6 dX6_sceneOfOrder_163 rfl rfl (by decide) rfl ?_
      refine go_goto 45 dX6_sceneOfOrder_166 (by decide) ?_
      exact go_sub [0, 1, 2, 3, 4, 5, 6] rfl h
    · have h := h.2 c13
      refine go_iconst (v := -1) dX6_sceneOfOrder_152 (by decide) ?_
      exact go_iret dX6_sceneOfOrder_153 rfl (Nat.le_refl _) (Nat.le_refl _) ⟨_, rfl, h⟩
  · have h := h.2 c12
    refine go_iload dX6_sceneOfOrder_81 5 rfl ?_
    refine go_iconst (v := -1) dX6_sceneOfOrder_83 (by decide) ?_
    refine go_icmp_ne 146 dX6_sceneOfOrder_84 (by decide) (fun c15 => ?_) (fun c15 => ?_)
    · have h := h.1 c15
      refine go_iload dX6_sceneOfOrder_146 5 rfl ?_
      refine go_iconst (v := -1) dX6_sceneOfOrder_148 (by decide) ?_
      refine go_icmp_ne 154 dX6_sceneOfOrder_149 (by decide) (fun c16 => ?_) (fun c16 => ?_)
      · have h := h.1 c16
        refine go_iload dX6_sceneOfOrder_154 4 rfl ?_
        refine go_iconst (v := 1) dX6_sceneOfOrder_156 (by decide) ?_
        refine go_iload dX6_sceneOfOrder_157 5 rfl ?_
        refine go_ishl dX6_sceneOfOrder_159 ?_
        refine go_ior dX6_sceneOfOrder_160 ?_
        refine go_topi (fun v17 e_v17 => ?_)
        have h := h v17 e_v17
        refine go_istore [(0, .ref (ga G 30)), (1, .int x1), (4, .int x4), (5, .long x5), (7, .int v17), (8, .int x8), (9, .int x9), (10, .int x10), (11, .int x11)] [1, 2, 3, 4, 0, 5, 6, 7, 8] dX6_sceneOfOrder_161 (by decide) rfl ?_
        refine go_iinc (v := (x9 + (1 : Int32))) [(0, .ref (ga G 30)), (1, .int x1), (4, .int x4), (5, .long x5), (7, .int v17), (8, .int x8), (9, .int (x9 + (1 : Int32))), (10, .int x10), (11, .int x11)] [1, 2, 3, 4, 5, 6, 0, 7, 8] 6 dX6_sceneOfOrder_163 rfl rfl (by decide) rfl ?_
        refine go_goto 45 dX6_sceneOfOrder_166 (by decide) ?_
        exact go_sub [0, 1, 2, 3, 4, 5, 6] rfl h
      · have h := h.2 c16
        refine go_iconst (v := -1) dX6_sceneOfOrder_152 (by decide) ?_
        exact go_iret dX6_sceneOfOrder_153 rfl (Nat.le_refl _) (Nat.le_refl _) ⟨_, rfl, h⟩
    · have h := h.2 c15
      refine go_iload dX6_sceneOfOrder_87 7 rfl ?_
      refine go_iload dX6_sceneOfOrder_89 8 rfl ?_
      refine go_ishr dX6_sceneOfOrder_91 ?_
      refine go_iconst (v := 1) dX6_sceneOfOrder_92 (by decide) ?_
      refine go_iand dX6_sceneOfOrder_93 ?_
      refine go_iconst (v := 1) dX6_sceneOfOrder_94 (by decide) ?_
      refine go_icmp_ne 113 dX6_sceneOfOrder_95 (by decide) (fun c18 => ?_) (fun c18 => ?_)
      · have h := h.1 c18
        refine go_iconst (v := 0) dX6_sceneOfOrder_113 (by decide) ?_
        exact h
      · have h := h.2 c18
        refine go_aload_n dX6_sceneOfOrder_98 rfl 0 rfl ?_
        refine go_get (.ref (ga G 41)) dX6_sceneOfOrder_99 fX6_46 (g_lt rfl) (gs_30 G _ _) rfl ?_
        refine go_iload dX6_sceneOfOrder_102 4 rfl ?_
        refine go_iconst (v := 1) dX6_sceneOfOrder_104 (by decide) ?_
        refine go_iload dX6_sceneOfOrder_105 8 rfl ?_
        refine go_ishl dX6_sceneOfOrder_107 ?_
        refine go_ior dX6_sceneOfOrder_108 ?_
        obtain ⟨b19, h⟩ := h
        refine go_ialdv ((gm_r μ 41 (x7 ||| ((1 : Int32) <<< (x11 &&& 31))).toNatClampNeg)) dX6_sceneOfOrder_109 (g_lt rfl) (gs_41 G) b19 rfl ?_
        refine go_goto 114 dX6_sceneOfOrder_110 (by decide) ?_
        exact h
set_option maxRecDepth 100000 in
theorem eX6_sceneOfOrder_114 {G : gC} {l : Launch} {P : Int32 → Mem → Prop} {x1 : Int32} {x4 : Int32} {x5 : Int64} {x7 : Int32} {x8 : Int32} {x9 : Int32} {x10 : Int32} {x11 : Int32} {y0 : Int32} {μ : Mem} (h : ((0 ≤ (lg_cmp x5 (y0).toInt64)) → hX6_sceneOfOrder_69 G l P x1 x4 (x5 - (y0).toInt64) x7 x8 x9 x10 (x11 + (1 : Int32)) μ) ∧ ((¬ 0 ≤ (lg_cmp x5 (y0).toInt64)) → hX6_sceneOfOrder_69 G l P x1 x4 x5 x7 x11 x9 x10 (x11 + (1 : Int32)) μ)) : hX6_sceneOfOrder_114 G l P x1 x4 x5 x7 x8 x9 x10 x11 y0 μ := by
  refine go_istore [(0, .ref (ga G 30)), (1, .int x1), (4, .int x4), (5, .long x5), (7, .int x7), (8, .int x8), (9, .int x9), (10, .int x10), (11, .int x11), (12, .int y0)] [1, 2, 3, 4, 5, 6, 7, 8, 9, 0] dX6_sceneOfOrder_114 (by decide) rfl ?_
  refine go_lload dX6_sceneOfOrder_116 3 rfl ?_
  refine go_iload dX6_sceneOfOrder_118 9 rfl ?_
  refine go_i2l dX6_sceneOfOrder_120 ?_
  refine go_lcmp dX6_sceneOfOrder_121 ?_
  refine go_if_ge 132 dX6_sceneOfOrder_122 (by decide) (fun c20 => ?_) (fun c20 => ?_)
  · have h := h.1 c20
    refine go_lload dX6_sceneOfOrder_132 3 rfl ?_
    refine go_iload dX6_sceneOfOrder_134 9 rfl ?_
    refine go_i2l dX6_sceneOfOrder_136 ?_
    refine go_lsub dX6_sceneOfOrder_137 ?_
    refine go_lstore [(0, .ref (ga G 30)), (1, .int x1), (4, .int x4), (5, .long (x5 - (y0).toInt64)), (7, .int x7), (8, .int x8), (9, .int x9), (10, .int x10), (11, .int x11), (12, .int y0)] [1, 2, 3, 0, 4, 5, 6, 7, 8, 9] dX6_sceneOfOrder_138 (by decide) rfl ?_
    refine go_iinc (v := (x11 + (1 : Int32))) [(0, .ref (ga G 30)), (1, .int x1), (4, .int x4), (5, .long (x5 - (y0).toInt64)), (7, .int x7), (8, .int x8), (9, .int x9), (10, .int x10), (11, .int (x11 + (1 : Int32))), (12, .int y0)] [1, 2, 3, 4, 5, 6, 7, 8, 0, 9] 8 dX6_sceneOfOrder_140 rfl rfl (by decide) rfl ?_
    refine go_goto 69 dX6_sceneOfOrder_143 (by decide) ?_
    exact go_sub [0, 1, 2, 3, 4, 5, 6, 7, 8] rfl h
  · have h := h.2 c20
    refine go_iload dX6_sceneOfOrder_125 8 rfl ?_
    refine go_istore [(0, .ref (ga G 30)), (1, .int x1), (4, .int x4), (5, .long x5), (7, .int x7), (8, .int x11), (9, .int x9), (10, .int x10), (11, .int x11), (12, .int y0)] [1, 2, 3, 4, 5, 0, 6, 7, 8, 9] dX6_sceneOfOrder_127 (by decide) rfl ?_
    refine go_goto 140 dX6_sceneOfOrder_129 (by decide) ?_
    refine go_iinc (v := (x11 + (1 : Int32))) [(0, .ref (ga G 30)), (1, .int x1), (4, .int x4), (5, .long x5), (7, .int x7), (8, .int x11), (9, .int x9), (10, .int x10), (11, .int (x11 + (1 : Int32))), (12, .int y0)] [1, 2, 3, 4, 5, 6, 7, 8, 0, 9] 8 dX6_sceneOfOrder_140 rfl rfl (by decide) rfl ?_
    refine go_goto 69 dX6_sceneOfOrder_143 (by decide) ?_
    exact go_sub [0, 1, 2, 3, 4, 5, 6, 7, 8] rfl h
set_option maxRecDepth 100000 in
theorem eX9_order {G : gC} {l : Launch} {a1 : Int32} {a2 : Int64} {a3 : Int32} {μ : Mem} {P : Int32 → Mem → Prop} (h : qX9_areScenes G l a1 μ (fun (r2 : Int32) (μ1 : Mem) => ((¬ r2 = 0) → ((0 ≤ (lg_cmp a2 (0 : Int64))) → qX9_freshSets G l  μ1 (fun (μ5 : Mem) => qX6_sceneOfOrder G l a1 a2 a3 μ5 (fun (r8 : Int32) (μ7 : Mem) => P r8 μ7))) ∧ ((¬ 0 ≤ (lg_cmp a2 (0 : Int64))) → P (-1002 : Int32) μ1)) ∧ ((r2 = 0) → P (-1001 : Int32) μ1))) : qX9_order G l a1 a2 a3 μ P := by
  refine Sp.of (by decide) (Nat.le_of_ble_eq_true rfl) (lv := [(0, .ref (ga G 0)), (1, .int a1), (2, .long a2), (4, .int a3)]) rfl ?_
  refine go_aload_n dX9_order_0 rfl 0 rfl ?_
  refine go_iload_n dX9_order_1 rfl 1 rfl ?_
  refine go_callV (As := [.int a1]) (rest := []) dX9_order_2 lX9_162 kX9_areScenes rfl (by decide) (Nat.le_of_ble_eq_true rfl) (g_lt rfl) (gs_0 G _ _) rfl (by decide) rfl (gI_go (fun r2 μ1 h => ?_)) h
  refine go_if_ne 12 dX9_order_5 (by decide) (fun c3 => ?_) (fun c3 => ?_)
  · have h := h.1 c3
    refine go_lload_n dX9_order_12 rfl 2 rfl ?_
    refine go_lconst (v := 0) dX9_order_13 (by decide) ?_
    refine go_lcmp dX9_order_14 ?_
    refine go_if_ge 22 dX9_order_15 (by decide) (fun c4 => ?_) (fun c4 => ?_)
    · have h := h.1 c4
      refine go_aload_n dX9_order_22 rfl 0 rfl ?_
      refine go_callV (As := []) (rest := []) dX9_order_23 lX9_168 kX9_freshSets rfl (by decide) (Nat.le_of_ble_eq_true rfl) (g_lt rfl) (gs_0 G _ _) rfl (by decide) rfl (gR_go (fun μ5 h => ?_)) h
      refine go_iload_n dX9_order_26 rfl 1 rfl ?_
      refine go_lload_n dX9_order_27 rfl 2 rfl ?_
      refine go_iload dX9_order_28 3 rfl ?_
      refine go_callV (As := [.int a1, .long a2, .int a3]) (rest := []) dX9_order_30 lX9_178 kX6_sceneOfOrder rfl (by decide) (Nat.le_of_ble_eq_true rfl) (g_lt rfl) (gs_30 G _ _) rfl (by decide) rfl (gI_go (fun r8 μ7 h => ?_)) h
      exact go_iret dX9_order_33 rfl (Nat.le_refl _) (Nat.le_refl _) ⟨_, rfl, h⟩
    · have h := h.2 c4
      refine go_sipush (v := -1002) dX9_order_18 (by decide) ?_
      exact go_iret dX9_order_21 rfl (Nat.le_refl _) (Nat.le_refl _) ⟨_, rfl, h⟩
  · have h := h.2 c3
    refine go_sipush (v := -1001) dX9_order_8 (by decide) ?_
    exact go_iret dX9_order_11 rfl (Nat.le_refl _) (Nat.le_refl _) ⟨_, rfl, h⟩
set_option maxRecDepth 100000 in
theorem eX6_countGood {G : gC} {l : Launch}  {μ : Mem} {P : Int32 → Mem → Prop} (h : hX6_countGood_4 G l P (0 : Int32) (0 : Int32) μ) : qX6_countGood G l  μ P := by
  refine Sp.of (by decide) (Nat.le_of_ble_eq_true rfl) (lv := [(0, .ref (ga G 30))]) rfl ?_
  refine go_iconst (v := 0) dX6_countGood_0 (by decide) ?_
  refine go_istore_n [(0, .ref (ga G 30)), (1, .int (0 : Int32))] [1, 0] dX6_countGood_1 rfl (by decide) rfl ?_
  refine go_iconst (v := 0) dX6_countGood_2 (by decide) ?_
  refine go_istore_n [(0, .ref (ga G 30)), (1, .int (0 : Int32)), (2, .int (0 : Int32))] [1, 2, 0] dX6_countGood_3 rfl (by decide) rfl ?_
  exact h
set_option maxRecDepth 100000 in
theorem eX6_countGood_4 {G : gC} {l : Launch} {P : Int32 → Mem → Prop} {x1 : Int32} {x2 : Int32} {μ : Mem} (h : (((gm_r μ 30 3) ≤ x2) → P x1 μ) ∧ ((¬ (gm_r μ 30 3) ≤ x2) → vp_in x2 1024 ∧ (((gm_r μ 39 x2.toNatClampNeg) ≤ 0) → hX6_countGood_4 G l P x1 (x2 + (1 : Int32)) μ) ∧ ((¬ (gm_r μ 39 x2.toNatClampNeg) ≤ 0) → hX6_countGood_4 G l P (x1 + (1 : Int32)) (x2 + (1 : Int32)) μ))) : hX6_countGood_4 G l P x1 x2 μ := by
  refine go_iload_n dX6_countGood_4 rfl 2 rfl ?_
  refine go_aload_n dX6_countGood_5 rfl 0 rfl ?_
  refine go_get (.int (gm_r μ 30 3)) dX6_countGood_6 fX6_63 (g_lt rfl) (gs_30 G _ _) rfl ?_
  refine go_icmp_ge 30 dX6_countGood_9 (by decide) (fun c1 => ?_) (fun c1 => ?_)
  · have h := h.1 c1
    refine go_iload_n dX6_countGood_30 rfl 1 rfl ?_
    exact go_iret dX6_countGood_31 rfl (Nat.le_refl _) (Nat.le_refl _) ⟨_, rfl, h⟩
  · have h := h.2 c1
    refine go_aload_n dX6_countGood_12 rfl 0 rfl ?_
    refine go_get (.ref (ga G 39)) dX6_countGood_13 fX6_40 (g_lt rfl) (gs_30 G _ _) rfl ?_
    refine go_iload_n dX6_countGood_16 rfl 2 rfl ?_
    obtain ⟨b2, h⟩ := h
    refine go_ialdv ((gm_r μ 39 x2.toNatClampNeg)) dX6_countGood_17 (g_lt rfl) (gs_39 G) b2 rfl ?_
    refine go_if_le 24 dX6_countGood_18 (by decide) (fun c3 => ?_) (fun c3 => ?_)
    · have h := h.1 c3
      refine go_iinc (v := (x2 + (1 : Int32))) [(0, .ref (ga G 30)), (1, .int x1), (2, .int (x2 + (1 : Int32)))] [1, 2, 0] 2 dX6_countGood_24 rfl rfl (by decide) rfl ?_
      refine go_goto 4 dX6_countGood_27 (by decide) ?_
      exact h
    · have h := h.2 c3
      refine go_iinc (v := (x1 + (1 : Int32))) [(0, .ref (ga G 30)), (1, .int (x1 + (1 : Int32))), (2, .int x2)] [1, 0, 2] 1 dX6_countGood_21 rfl rfl (by decide) rfl ?_
      refine go_iinc (v := (x2 + (1 : Int32))) [(0, .ref (ga G 30)), (1, .int (x1 + (1 : Int32))), (2, .int (x2 + (1 : Int32)))] [1, 2, 0] 2 dX6_countGood_24 rfl rfl (by decide) rfl ?_
      refine go_goto 4 dX6_countGood_27 (by decide) ?_
      exact h
set_option maxRecDepth 100000 in
theorem eX9_good {G : gC} {l : Launch}  {μ : Mem} {P : Int32 → Mem → Prop} (h : qX9_freshSets G l  μ (fun (μ1 : Mem) => qX6_countGood G l  μ1 (fun (r4 : Int32) (μ3 : Mem) => P r4 μ3))) : qX9_good G l  μ P := by
  refine Sp.of (by decide) (Nat.le_of_ble_eq_true rfl) (lv := [(0, .ref (ga G 0))]) rfl ?_
  refine go_aload_n dX9_good_0 rfl 0 rfl ?_
  refine go_callV (As := []) (rest := []) dX9_good_1 lX9_168 kX9_freshSets rfl (by decide) (Nat.le_of_ble_eq_true rfl) (g_lt rfl) (gs_0 G _ _) rfl (by decide) rfl (gR_go (fun μ1 h => ?_)) h
  refine go_callV (As := []) (rest := []) dX9_good_4 lX9_182 kX6_countGood rfl (by decide) (Nat.le_of_ble_eq_true rfl) (g_lt rfl) (gs_30 G _ _) rfl (by decide) rfl (gI_go (fun r4 μ3 h => ?_)) h
  exact go_iret dX9_good_7 rfl (Nat.le_refl _) (Nat.le_refl _) ⟨_, rfl, h⟩
set_option maxRecDepth 100000 in
theorem eX6_isPlace {G : gC} {l : Launch} {a1 : Int32} {a2 : Int32} {μ : Mem} {P : Int32 → Mem → Prop} (h : vp_in a1 1024 ∧ (((gm_r μ 39 a1.toNatClampNeg) ≤ 0) → P (0 : Int32) μ) ∧ ((¬ (gm_r μ 39 a1.toNatClampNeg) ≤ 0) → ((¬ (((gm_r μ 38 a1.toNatClampNeg) >>> (a2 &&& 31)) &&& (1 : Int32)) = (1 : Int32)) → P (0 : Int32) μ) ∧ (((((gm_r μ 38 a1.toNatClampNeg) >>> (a2 &&& 31)) &&& (1 : Int32)) = (1 : Int32)) → vp_in (a1 ||| ((1 : Int32) <<< (a2 &&& 31))) 1024 ∧ (((gm_r μ 41 (a1 ||| ((1 : Int32) <<< (a2 &&& 31))).toNatClampNeg) ≤ 0) → P (0 : Int32) μ) ∧ ((¬ (gm_r μ 41 (a1 ||| ((1 : Int32) <<< (a2 &&& 31))).toNatClampNeg) ≤ 0) → P (1 : Int32) μ)))) : qX6_isPlace G l a1 a2 μ P := by
  refine Sp.of (by decide) (Nat.le_of_ble_eq_true rfl) (lv := [(0, .ref (ga G 30)), (1, .int a1), (2, .int a2)]) rfl ?_
  refine go_aload_n dX6_isPlace_0 rfl 0 rfl ?_
  refine go_get (.ref (ga G 39)) dX6_isPlace_1 fX6_40 (g_lt rfl) (gs_30 G _ _) rfl ?_
  refine go_iload_n dX6_isPlace_4 rfl 1 rfl ?_
  obtain ⟨b1, h⟩ := h
  refine go_ialdv ((gm_r μ 39 a1.toNatClampNeg)) dX6_isPlace_5 (g_lt rfl) (gs_39 G) b1 rfl ?_
  refine go_if_le 40 dX6_isPlace_6 (by decide) (fun c2 => ?_) (fun c2 => ?_)
  · have h := h.1 c2
    refine go_iconst (v := 0) dX6_isPlace_40 (by decide) ?_
    exact go_zret dX6_isPlace_41 rfl (Nat.le_refl _) (Nat.le_refl _) rfl ⟨_, rfl, h⟩
  · have h := h.2 c2
    refine go_aload_n dX6_isPlace_9 rfl 0 rfl ?_
    refine go_get (.ref (ga G 38)) dX6_isPlace_10 fX6_37 (g_lt rfl) (gs_30 G _ _) rfl ?_
    refine go_iload_n dX6_isPlace_13 rfl 1 rfl ?_
    refine go_ialdv ((gm_r μ 38 a1.toNatClampNeg)) dX6_isPlace_14 (g_lt rfl) (gs_38 G) b1 rfl ?_
    refine go_iload_n dX6_isPlace_15 rfl 2 rfl ?_
    refine go_ishr dX6_isPlace_16 ?_
    refine go_iconst (v := 1) dX6_isPlace_17 (by decide) ?_
    refine go_iand dX6_isPlace_18 ?_
    refine go_iconst (v := 1) dX6_isPlace_19 (by decide) ?_
    refine go_icmp_ne 40 dX6_isPlace_20 (by decide) (fun c3 => ?_) (fun c3 => ?_)
    · have h := h.1 c3
      refine go_iconst (v := 0) dX6_isPlace_40 (by decide) ?_
      exact go_zret dX6_isPlace_41 rfl (Nat.le_refl _) (Nat.le_refl _) rfl ⟨_, rfl, h⟩
    · have h := h.2 c3
      refine go_aload_n dX6_isPlace_23 rfl 0 rfl ?_
      refine go_get (.ref (ga G 41)) dX6_isPlace_24 fX6_46 (g_lt rfl) (gs_30 G _ _) rfl ?_
      refine go_iload_n dX6_isPlace_27 rfl 1 rfl ?_
      refine go_iconst (v := 1) dX6_isPlace_28 (by decide) ?_
      refine go_iload_n dX6_isPlace_29 rfl 2 rfl ?_
      refine go_ishl dX6_isPlace_30 ?_
      refine go_ior dX6_isPlace_31 ?_
      obtain ⟨b4, h⟩ := h
      refine go_ialdv ((gm_r μ 41 (a1 ||| ((1 : Int32) <<< (a2 &&& 31))).toNatClampNeg)) dX6_isPlace_32 (g_lt rfl) (gs_41 G) b4 rfl ?_
      refine go_if_le 40 dX6_isPlace_33 (by decide) (fun c5 => ?_) (fun c5 => ?_)
      · have h := h.1 c5
        refine go_iconst (v := 0) dX6_isPlace_40 (by decide) ?_
        exact go_zret dX6_isPlace_41 rfl (Nat.le_refl _) (Nat.le_refl _) rfl ⟨_, rfl, h⟩
      · have h := h.2 c5
        refine go_iconst (v := 1) dX6_isPlace_36 (by decide) ?_
        refine go_goto 41 dX6_isPlace_37 (by decide) ?_
        exact go_zret dX6_isPlace_41 rfl (Nat.le_refl _) (Nat.le_refl _) rfl ⟨_, rfl, h⟩
set_option maxRecDepth 100000 in
theorem eX6_greatestPlace {G : gC} {l : Launch} {a1 : Int32} {μ : Mem} {P : Int32 → Mem → Prop} (h : qX6_findEndings G l ((gm_r μ 30 3) - (1 : Int32)) μ (fun (μ1 : Mem) => hX6_greatestPlace_14 G l P a1 (-1 : Int32) (0 : Int32) μ1)) : qX6_greatestPlace G l a1 μ P := by
  refine Sp.of (by decide) (Nat.le_of_ble_eq_true rfl) (lv := [(0, .ref (ga G 30)), (1, .int a1)]) rfl ?_
  refine go_aload_n dX6_greatestPlace_0 rfl 0 rfl ?_
  refine go_aload_n dX6_greatestPlace_1 rfl 0 rfl ?_
  refine go_get (.int (gm_r μ 30 3)) dX6_greatestPlace_2 fX6_63 (g_lt rfl) (gs_30 G _ _) rfl ?_
  refine go_iconst (v := 1) dX6_greatestPlace_5 (by decide) ?_
  refine go_isub dX6_greatestPlace_6 ?_
  refine go_callV (As := [.int ((gm_r μ 30 3) - (1 : Int32))]) (rest := []) dX6_greatestPlace_7 lX6_105 kX6_findEndings rfl (by decide) (Nat.le_of_ble_eq_true rfl) (g_lt rfl) (gs_30 G _ _) rfl (by decide) rfl (gV_go (fun μ1 h => ?_)) h
  refine go_iconst (v := -1) dX6_greatestPlace_10 (by decide) ?_
  refine go_istore_n [(0, .ref (ga G 30)), (1, .int a1), (2, .int (-1 : Int32))] [1, 2, 0] dX6_greatestPlace_11 rfl (by decide) rfl ?_
  refine go_iconst (v := 0) dX6_greatestPlace_12 (by decide) ?_
  refine go_istore_n [(0, .ref (ga G 30)), (1, .int a1), (2, .int (-1 : Int32)), (3, .int (0 : Int32))] [1, 2, 3, 0] dX6_greatestPlace_13 rfl (by decide) rfl ?_
  exact h
set_option maxRecDepth 100000 in
theorem eX6_greatestPlace_14 {G : gC} {l : Launch} {P : Int32 → Mem → Prop} {x1 : Int32} {x2 : Int32} {x3 : Int32} {μ : Mem} (h : (((gm_r μ 30 3) ≤ x3) → P x2 μ) ∧ ((¬ (gm_r μ 30 3) ≤ x3) → qX6_isPlace G l x3 x1 μ (fun (r5 : Int32) (μ4 : Mem) => ((r5 = 0) → hX6_greatestPlace_14 G l P x1 x2 (x3 + (1 : Int32)) μ4) ∧ ((¬ r5 = 0) → qJ6_bitCount_0f7a4 G l x3 μ4 (fun (r8 : Int32) (μ7 : Mem) => hX6_greatestPlace_14 G l P x1 (if x2 < r8 then r8 else x2) (x3 + (1 : Int32)) μ7))))) : hX6_greatestPlace_14 G l P x1 x2 x3 μ := by
  refine go_iload_n dX6_greatestPlace_14 rfl 3 rfl ?_
  refine go_aload_n dX6_greatestPlace_15 rfl 0 rfl ?_
  refine go_get (.int (gm_r μ 30 3)) dX6_greatestPlace_16 fX6_63 (g_lt rfl) (gs_30 G _ _) rfl ?_
  refine go_icmp_ge 46 dX6_greatestPlace_19 (by decide) (fun c3 => ?_) (fun c3 => ?_)
  · have h := h.1 c3
    refine go_iload_n dX6_greatestPlace_46 rfl 2 rfl ?_
    exact go_iret dX6_greatestPlace_47 rfl (Nat.le_refl _) (Nat.le_refl _) ⟨_, rfl, h⟩
  · have h := h.2 c3
    refine go_aload_n dX6_greatestPlace_22 rfl 0 rfl ?_
    refine go_iload_n dX6_greatestPlace_23 rfl 3 rfl ?_
    refine go_iload_n dX6_greatestPlace_24 rfl 1 rfl ?_
    refine go_callV (As := [.int x3, .int x1]) (rest := []) dX6_greatestPlace_25 lX6_108 kX6_isPlace rfl (by decide) (Nat.le_of_ble_eq_true rfl) (g_lt rfl) (gs_30 G _ _) rfl (by decide) rfl (gI_go (fun r5 μ4 h => ?_)) h
    refine go_if_eq 40 dX6_greatestPlace_28 (by decide) (fun c6 => ?_) (fun c6 => ?_)
    · have h := h.1 c6
      refine go_iinc (v := (x3 + (1 : Int32))) [(0, .ref (ga G 30)), (1, .int x1), (2, .int x2), (3, .int (x3 + (1 : Int32)))] [1, 2, 3, 0] 3 dX6_greatestPlace_40 rfl rfl (by decide) rfl ?_
      refine go_goto 14 dX6_greatestPlace_43 (by decide) ?_
      exact h
    · have h := h.2 c6
      refine go_iload_n dX6_greatestPlace_31 rfl 2 rfl ?_
      refine go_iload_n dX6_greatestPlace_32 rfl 3 rfl ?_
      refine go_callS (As := [.int x3]) (rest := [.int x2]) dX6_greatestPlace_33 lX6_76 kJ6_bitCount_0f7a4 rfl (by decide) (Nat.le_of_ble_eq_true rfl) (by decide) rfl (gI_go (fun r8 μ7 h => ?_)) h
      refine go_mmax dX6_greatestPlace_36 (g_in 620 (by decide +kernel) rfl) (g_in 621 (by decide +kernel) rfl) (g_in 81 (by decide +kernel) rfl) (g_in 622 (by decide +kernel) rfl) (by decide) (by decide) (Nat.le_of_ble_eq_true rfl) (Nat.le_refl _) (Nat.le_refl _) ?_
      refine go_istore_n [(0, .ref (ga G 30)), (1, .int x1), (2, .int (if x2 < r8 then r8 else x2)), (3, .int x3)] [1, 2, 0, 3] dX6_greatestPlace_39 rfl (by decide) rfl ?_
      refine go_iinc (v := (x3 + (1 : Int32))) [(0, .ref (ga G 30)), (1, .int x1), (2, .int (if x2 < r8 then r8 else x2)), (3, .int (x3 + (1 : Int32)))] [1, 2, 3, 0] 3 dX6_greatestPlace_40 rfl rfl (by decide) rfl ?_
      refine go_goto 14 dX6_greatestPlace_43 (by decide) ?_
      exact h
set_option maxRecDepth 100000 in
theorem eX6_leastPlace {G : gC} {l : Launch} {a1 : Int32} {μ : Mem} {P : Int32 → Mem → Prop} (h : qX6_findEndings G l ((gm_r μ 30 3) - (1 : Int32)) μ (fun (μ1 : Mem) => hX6_leastPlace_14 G l P a1 (-1 : Int32) (0 : Int32) μ1)) : qX6_leastPlace G l a1 μ P := by
  refine Sp.of (by decide) (Nat.le_of_ble_eq_true rfl) (lv := [(0, .ref (ga G 30)), (1, .int a1)]) rfl ?_
  refine go_aload_n dX6_leastPlace_0 rfl 0 rfl ?_
  refine go_aload_n dX6_leastPlace_1 rfl 0 rfl ?_
  refine go_get (.int (gm_r μ 30 3)) dX6_leastPlace_2 fX6_63 (g_lt rfl) (gs_30 G _ _) rfl ?_
  refine go_iconst (v := 1) dX6_leastPlace_5 (by decide) ?_
  refine go_isub dX6_leastPlace_6 ?_
  refine go_callV (As := [.int ((gm_r μ 30 3) - (1 : Int32))]) (rest := []) dX6_leastPlace_7 lX6_105 kX6_findEndings rfl (by decide) (Nat.le_of_ble_eq_true rfl) (g_lt rfl) (gs_30 G _ _) rfl (by decide) rfl (gV_go (fun μ1 h => ?_)) h
  refine go_iconst (v := -1) dX6_leastPlace_10 (by decide) ?_
  refine go_istore_n [(0, .ref (ga G 30)), (1, .int a1), (2, .int (-1 : Int32))] [1, 2, 0] dX6_leastPlace_11 rfl (by decide) rfl ?_
  refine go_iconst (v := 0) dX6_leastPlace_12 (by decide) ?_
  refine go_istore_n [(0, .ref (ga G 30)), (1, .int a1), (2, .int (-1 : Int32)), (3, .int (0 : Int32))] [1, 2, 3, 0] dX6_leastPlace_13 rfl (by decide) rfl ?_
  exact h
set_option maxRecDepth 100000 in
theorem eX6_leastPlace_14 {G : gC} {l : Launch} {P : Int32 → Mem → Prop} {x1 : Int32} {x2 : Int32} {x3 : Int32} {μ : Mem} (h : (((gm_r μ 30 3) ≤ x3) → P x2 μ) ∧ ((¬ (gm_r μ 30 3) ≤ x3) → qJ6_bitCount_0f7a4 G l x3 μ (fun (r5 : Int32) (μ4 : Mem) => qX6_isPlace G l x3 x1 μ4 (fun (r7 : Int32) (μ6 : Mem) => ((r7 = 0) → hX6_leastPlace_14 G l P x1 x2 (x3 + (1 : Int32)) μ6) ∧ ((¬ r7 = 0) → ((x2 = (-1 : Int32)) → hX6_leastPlace_14 G l P x1 r5 (x3 + (1 : Int32)) μ6) ∧ ((¬ x2 = (-1 : Int32)) → ((x2 ≤ r5) → hX6_leastPlace_14 G l P x1 x2 (x3 + (1 : Int32)) μ6) ∧ ((¬ x2 ≤ r5) → hX6_leastPlace_14 G l P x1 r5 (x3 + (1 : Int32)) μ6))))))) : hX6_leastPlace_14 G l P x1 x2 x3 μ := by
  refine go_iload_n dX6_leastPlace_14 rfl 3 rfl ?_
  refine go_aload_n dX6_leastPlace_15 rfl 0 rfl ?_
  refine go_get (.int (gm_r μ 30 3)) dX6_leastPlace_16 fX6_63 (g_lt rfl) (gs_30 G _ _) rfl ?_
  refine go_icmp_ge 57 dX6_leastPlace_19 (by decide) (fun c3 => ?_) (fun c3 => ?_)
  · have h := h.1 c3
    refine go_iload_n dX6_leastPlace_57 rfl 2 rfl ?_
    exact go_iret dX6_leastPlace_58 rfl (Nat.le_refl _) (Nat.le_refl _) ⟨_, rfl, h⟩
  · have h := h.2 c3
    refine go_iload_n dX6_leastPlace_22 rfl 3 rfl ?_
    refine go_callS (As := [.int x3]) (rest := []) dX6_leastPlace_23 lX6_76 kJ6_bitCount_0f7a4 rfl (by decide) (Nat.le_of_ble_eq_true rfl) (by decide) rfl (gI_go (fun r5 μ4 h => ?_)) h
    refine go_istore [(0, .ref (ga G 30)), (1, .int x1), (2, .int x2), (3, .int x3), (4, .int r5)] [1, 2, 3, 4, 0] dX6_leastPlace_26 (by decide) rfl ?_
    refine go_aload_n dX6_leastPlace_28 rfl 0 rfl ?_
    refine go_iload_n dX6_leastPlace_29 rfl 3 rfl ?_
    refine go_iload_n dX6_leastPlace_30 rfl 1 rfl ?_
    refine go_callV (As := [.int x3, .int x1]) (rest := []) dX6_leastPlace_31 lX6_108 kX6_isPlace rfl (by decide) (Nat.le_of_ble_eq_true rfl) (g_lt rfl) (gs_30 G _ _) rfl (by decide) rfl (gI_go (fun r7 μ6 h => ?_)) h
    refine go_if_eq 51 dX6_leastPlace_34 (by decide) (fun c8 => ?_) (fun c8 => ?_)
    · have h := h.1 c8
      refine go_iinc (v := (x3 + (1 : Int32))) [(0, .ref (ga G 30)), (1, .int x1), (2, .int x2), (3, .int (x3 + (1 : Int32))), (4, .int r5)] [1, 2, 3, 0, 4] 3 dX6_leastPlace_51 rfl rfl (by decide) rfl ?_
      refine go_goto 14 dX6_leastPlace_54 (by decide) ?_
      exact go_sub [0, 1, 2, 3] rfl h
    · have h := h.2 c8
      refine go_iload_n dX6_leastPlace_37 rfl 2 rfl ?_
      refine go_iconst (v := -1) dX6_leastPlace_38 (by decide) ?_
      refine go_icmp_eq 48 dX6_leastPlace_39 (by decide) (fun c9 => ?_) (fun c9 => ?_)
      · have h := h.1 c9
        refine go_iload dX6_leastPlace_48 4 rfl ?_
        refine go_istore_n [(0, .ref (ga G 30)), (1, .int x1), (2, .int r5), (3, .int x3), (4, .int r5)] [1, 2, 0, 3, 4] dX6_leastPlace_50 rfl (by decide) rfl ?_
        refine go_iinc (v := (x3 + (1 : Int32))) [(0, .ref (ga G 30)), (1, .int x1), (2, .int r5), (3, .int (x3 + (1 : Int32))), (4, .int r5)] [1, 2, 3, 0, 4] 3 dX6_leastPlace_51 rfl rfl (by decide) rfl ?_
        refine go_goto 14 dX6_leastPlace_54 (by decide) ?_
        exact go_sub [0, 1, 2, 3] rfl h
      · have h := h.2 c9
        refine go_iload dX6_leastPlace_42 4 rfl ?_
        refine go_iload_n dX6_leastPlace_44 rfl 2 rfl ?_
        refine go_icmp_ge 51 dX6_leastPlace_45 (by decide) (fun c10 => ?_) (fun c10 => ?_)
        · have h := h.1 c10
          refine go_iinc (v := (x3 + (1 : Int32))) [(0, .ref (ga G 30)), (1, .int x1), (2, .int x2), (3, .int (x3 + (1 : Int32))), (4, .int r5)] [1, 2, 3, 0, 4] 3 dX6_leastPlace_51 rfl rfl (by decide) rfl ?_
          refine go_goto 14 dX6_leastPlace_54 (by decide) ?_
          exact go_sub [0, 1, 2, 3] rfl h
        · have h := h.2 c10
          refine go_iload dX6_leastPlace_48 4 rfl ?_
          refine go_istore_n [(0, .ref (ga G 30)), (1, .int x1), (2, .int r5), (3, .int x3), (4, .int r5)] [1, 2, 0, 3, 4] dX6_leastPlace_50 rfl (by decide) rfl ?_
          refine go_iinc (v := (x3 + (1 : Int32))) [(0, .ref (ga G 30)), (1, .int x1), (2, .int r5), (3, .int (x3 + (1 : Int32))), (4, .int r5)] [1, 2, 3, 0, 4] 3 dX6_leastPlace_51 rfl rfl (by decide) rfl ?_
          refine go_goto 14 dX6_leastPlace_54 (by decide) ?_
          exact go_sub [0, 1, 2, 3] rfl h
set_option maxRecDepth 100000 in
theorem eX9_place {G : gC} {l : Launch} {a1 : Int32} {a2 : Int32} {μ : Mem} {P : Int32 → Mem → Prop} (h : qX9_isScene G l a1 μ (fun (r2 : Int32) (μ1 : Mem) => ((¬ r2 = 0) → ((a2 < 0) → P (-1002 : Int32) μ1) ∧ ((¬ a2 < 0) → ((a2 ≤ (1 : Int32)) → ((¬ a2 = 0) → qX9_freshSets G l  μ1 (fun (μ7 : Mem) => qX6_greatestPlace G l a1 μ7 (fun (r10 : Int32) (μ9 : Mem) => P r10 μ9))) ∧ ((a2 = 0) → qX9_freshSets G l  μ1 (fun (μ11 : Mem) => qX6_leastPlace G l a1 μ11 (fun (r14 : Int32) (μ13 : Mem) => P r14 μ13)))) ∧ ((¬ a2 ≤ (1 : Int32)) → P (-1002 : Int32) μ1))) ∧ ((r2 = 0) → P (-1001 : Int32) μ1))) : qX9_place G l a1 a2 μ P := by
  refine Sp.of (by decide) (Nat.le_of_ble_eq_true rfl) (lv := [(0, .ref (ga G 0)), (1, .int a1), (2, .int a2)]) rfl ?_
  refine go_aload_n dX9_place_0 rfl 0 rfl ?_
  refine go_iload_n dX9_place_1 rfl 1 rfl ?_
  refine go_callV (As := [.int a1]) (rest := []) dX9_place_2 lX9_115 kX9_isScene rfl (by decide) (Nat.le_of_ble_eq_true rfl) (g_lt rfl) (gs_0 G _ _) rfl (by decide) rfl (gI_go (fun r2 μ1 h => ?_)) h
  refine go_if_ne 12 dX9_place_5 (by decide) (fun c3 => ?_) (fun c3 => ?_)
  · have h := h.1 c3
    refine go_iload_n dX9_place_12 rfl 2 rfl ?_
    refine go_if_lt 21 dX9_place_13 (by decide) (fun c4 => ?_) (fun c4 => ?_)
    · have h := h.1 c4
      refine go_sipush (v := -1002) dX9_place_21 (by decide) ?_
      exact go_iret dX9_place_24 rfl (Nat.le_refl _) (Nat.le_refl _) ⟨_, rfl, h⟩
    · have h := h.2 c4
      refine go_iload_n dX9_place_16 rfl 2 rfl ?_
      refine go_iconst (v := 1) dX9_place_17 (by decide) ?_
      refine go_icmp_le 25 dX9_place_18 (by decide) (fun c5 => ?_) (fun c5 => ?_)
      · have h := h.1 c5
        refine go_iload_n dX9_place_25 rfl 2 rfl ?_
        refine go_if_ne 40 dX9_place_26 (by decide) (fun c6 => ?_) (fun c6 => ?_)
        · have h := h.1 c6
          refine go_aload_n dX9_place_40 rfl 0 rfl ?_
          refine go_callV (As := []) (rest := []) dX9_place_41 lX9_168 kX9_freshSets rfl (by decide) (Nat.le_of_ble_eq_true rfl) (g_lt rfl) (gs_0 G _ _) rfl (by decide) rfl (gR_go (fun μ7 h => ?_)) h
          refine go_iload_n dX9_place_44 rfl 1 rfl ?_
          refine go_callV (As := [.int a1]) (rest := []) dX9_place_45 lX9_188 kX6_greatestPlace rfl (by decide) (Nat.le_of_ble_eq_true rfl) (g_lt rfl) (gs_30 G _ _) rfl (by decide) rfl (gI_go (fun r10 μ9 h => ?_)) h
          exact go_iret dX9_place_48 rfl (Nat.le_refl _) (Nat.le_refl _) ⟨_, rfl, h⟩
        · have h := h.2 c6
          refine go_aload_n dX9_place_29 rfl 0 rfl ?_
          refine go_callV (As := []) (rest := []) dX9_place_30 lX9_168 kX9_freshSets rfl (by decide) (Nat.le_of_ble_eq_true rfl) (g_lt rfl) (gs_0 G _ _) rfl (by decide) rfl (gR_go (fun μ11 h => ?_)) h
          refine go_iload_n dX9_place_33 rfl 1 rfl ?_
          refine go_callV (As := [.int a1]) (rest := []) dX9_place_34 lX9_185 kX6_leastPlace rfl (by decide) (Nat.le_of_ble_eq_true rfl) (g_lt rfl) (gs_30 G _ _) rfl (by decide) rfl (gI_go (fun r14 μ13 h => ?_)) h
          refine go_goto 48 dX9_place_37 (by decide) ?_
          exact go_iret dX9_place_48 rfl (Nat.le_refl _) (Nat.le_refl _) ⟨_, rfl, h⟩
      · have h := h.2 c5
        refine go_sipush (v := -1002) dX9_place_21 (by decide) ?_
        exact go_iret dX9_place_24 rfl (Nat.le_refl _) (Nat.le_refl _) ⟨_, rfl, h⟩
  · have h := h.2 c3
    refine go_sipush (v := -1001) dX9_place_8 (by decide) ?_
    exact go_iret dX9_place_11 rfl (Nat.le_refl _) (Nat.le_refl _) ⟨_, rfl, h⟩
set_option maxRecDepth 100000 in
theorem eX7_openBehind {G : gC} {l : Launch} {a1 : Int32} {μ : Mem} {P : Int32 → Mem → Prop} (h : qX7_union G l a1 (4 : Int32) μ (fun (r2 : Int32) (μ1 : Mem) => qX7_union G l a1 (5 : Int32) μ1 (fun (r4 : Int32) (μ3 : Mem) => P (r2 &&& (r4 ^^^ (-1 : Int32))) μ3))) : qX7_openBehind G l a1 μ P := by
  refine Sp.of (by decide) (Nat.le_of_ble_eq_true rfl) (lv := [(0, .ref (ga G 4)), (1, .int a1)]) rfl ?_
  refine go_aload_n dX7_openBehind_0 rfl 0 rfl ?_
  refine go_iload_n dX7_openBehind_1 rfl 1 rfl ?_
  refine go_iconst (v := 4) dX7_openBehind_2 (by decide) ?_
  refine go_callV (As := [.int a1, .int (4 : Int32)]) (rest := []) dX7_openBehind_3 lX7_34 kX7_union rfl (by decide) (Nat.le_of_ble_eq_true rfl) (g_lt rfl) (gs_4 G _ _) rfl (by decide) rfl (gI_go (fun r2 μ1 h => ?_)) h
  refine go_aload_n dX7_openBehind_6 rfl 0 rfl ?_
  refine go_iload_n dX7_openBehind_7 rfl 1 rfl ?_
  refine go_iconst (v := 5) dX7_openBehind_8 (by decide) ?_
  refine go_callV (As := [.int a1, .int (5 : Int32)]) (rest := [.int r2]) dX7_openBehind_9 lX7_34 kX7_union rfl (by decide) (Nat.le_of_ble_eq_true rfl) (g_lt rfl) (gs_4 G _ _) rfl (by decide) rfl (gI_go (fun r4 μ3 h => ?_)) h
  refine go_iconst (v := -1) dX7_openBehind_12 (by decide) ?_
  refine go_ixor dX7_openBehind_13 ?_
  refine go_iand dX7_openBehind_14 ?_
  exact go_iret dX7_openBehind_15 rfl (Nat.le_refl _) (Nat.le_refl _) ⟨_, rfl, h⟩
set_option maxRecDepth 100000 in
theorem eX9_open {G : gC} {l : Launch} {a1 : Int32} {μ : Mem} {P : Int32 → Mem → Prop} (h : qX9_areScenes G l a1 μ (fun (r2 : Int32) (μ1 : Mem) => ((r2 = 0) → P (-1001 : Int32) μ1) ∧ ((¬ r2 = 0) → qX7_openBehind G l a1 μ1 (fun (r5 : Int32) (μ4 : Mem) => P r5 μ4)))) : qX9_open G l a1 μ P := by
  refine Sp.of (by decide) (Nat.le_of_ble_eq_true rfl) (lv := [(0, .ref (ga G 0)), (1, .int a1)]) rfl ?_
  refine go_aload_n dX9_open_0 rfl 0 rfl ?_
  refine go_iload_n dX9_open_1 rfl 1 rfl ?_
  refine go_callV (As := [.int a1]) (rest := []) dX9_open_2 lX9_162 kX9_areScenes rfl (by decide) (Nat.le_of_ble_eq_true rfl) (g_lt rfl) (gs_0 G _ _) rfl (by decide) rfl (gI_go (fun r2 μ1 h => ?_)) h
  refine go_if_eq 19 dX9_open_5 (by decide) (fun c3 => ?_) (fun c3 => ?_)
  · have h := h.1 c3
    refine go_sipush (v := -1001) dX9_open_19 (by decide) ?_
    exact go_iret dX9_open_22 rfl (Nat.le_refl _) (Nat.le_refl _) ⟨_, rfl, h⟩
  · have h := h.2 c3
    refine go_aload_n dX9_open_8 rfl 0 rfl ?_
    refine go_get (.ref (ga G 4)) dX9_open_9 fX9_28 (g_lt rfl) (gs_0 G _ _) rfl ?_
    refine go_iload_n dX9_open_12 rfl 1 rfl ?_
    refine go_callV (As := [.int a1]) (rest := []) dX9_open_13 lX9_191 kX7_openBehind rfl (by decide) (Nat.le_of_ble_eq_true rfl) (g_lt rfl) (gs_4 G _ _) rfl (by decide) rfl (gI_go (fun r5 μ4 h => ?_)) h
    refine go_goto 22 dX9_open_16 (by decide) ?_
    exact go_iret dX9_open_22 rfl (Nat.le_refl _) (Nat.le_refl _) ⟨_, rfl, h⟩
set_option maxRecDepth 100000 in
theorem eX9_atOnce {G : gC} {l : Launch} {a1 : Int32} {μ : Mem} {P : Int32 → Mem → Prop} (h : qX9_areScenes G l a1 μ (fun (r2 : Int32) (μ1 : Mem) => ((r2 = 0) → P (-1001 : Int32) μ1) ∧ ((¬ r2 = 0) → qX9_freshSets G l  μ1 (fun (μ4 : Mem) => vp_in a1 1024 ∧ P (gm_r μ4 40 a1.toNatClampNeg) μ4)))) : qX9_atOnce G l a1 μ P := by
  refine Sp.of (by decide) (Nat.le_of_ble_eq_true rfl) (lv := [(0, .ref (ga G 0)), (1, .int a1)]) rfl ?_
  refine go_aload_n dX9_atOnce_0 rfl 0 rfl ?_
  refine go_iload_n dX9_atOnce_1 rfl 1 rfl ?_
  refine go_callV (As := [.int a1]) (rest := []) dX9_atOnce_2 lX9_162 kX9_areScenes rfl (by decide) (Nat.le_of_ble_eq_true rfl) (g_lt rfl) (gs_0 G _ _) rfl (by decide) rfl (gI_go (fun r2 μ1 h => ?_)) h
  refine go_if_eq 20 dX9_atOnce_5 (by decide) (fun c3 => ?_) (fun c3 => ?_)
  · have h := h.1 c3
    refine go_sipush (v := -1001) dX9_atOnce_20 (by decide) ?_
    exact go_iret dX9_atOnce_23 rfl (Nat.le_refl _) (Nat.le_refl _) ⟨_, rfl, h⟩
  · have h := h.2 c3
    refine go_aload_n dX9_atOnce_8 rfl 0 rfl ?_
    refine go_callV (As := []) (rest := []) dX9_atOnce_9 lX9_168 kX9_freshSets rfl (by decide) (Nat.le_of_ble_eq_true rfl) (g_lt rfl) (gs_0 G _ _) rfl (by decide) rfl (gR_go (fun μ4 h => ?_)) h
    refine go_get (.ref (ga G 40)) dX9_atOnce_12 fX9_194 (g_lt rfl) (gs_30 G _ _) rfl ?_
    refine go_iload_n dX9_atOnce_15 rfl 1 rfl ?_
    obtain ⟨b6, h⟩ := h
    refine go_ialdv ((gm_r μ4 40 a1.toNatClampNeg)) dX9_atOnce_16 (g_lt rfl) (gs_40 G) b6 rfl ?_
    refine go_goto 23 dX9_atOnce_17 (by decide) ?_
    exact go_iret dX9_atOnce_23 rfl (Nat.le_refl _) (Nat.le_refl _) ⟨_, rfl, h⟩
set_option maxRecDepth 100000 in
theorem eX6_takenAlong {G : gC} {l : Launch} {a1 : Int32} {μ : Mem} {P : Int32 → Mem → Prop} (h : hX6_takenAlong_4 G l P a1 (0 : Int32) (0 : Int32) μ) : qX6_takenAlong G l a1 μ P := by
  refine Sp.of (by decide) (Nat.le_of_ble_eq_true rfl) (lv := [(0, .ref (ga G 30)), (1, .int a1)]) rfl ?_
  refine go_iconst (v := 0) dX6_takenAlong_0 (by decide) ?_
  refine go_istore_n [(0, .ref (ga G 30)), (1, .int a1), (2, .int (0 : Int32))] [1, 2, 0] dX6_takenAlong_1 rfl (by decide) rfl ?_
  refine go_iconst (v := 0) dX6_takenAlong_2 (by decide) ?_
  refine go_istore_n [(0, .ref (ga G 30)), (1, .int a1), (2, .int (0 : Int32)), (3, .int (0 : Int32))] [1, 2, 3, 0] dX6_takenAlong_3 rfl (by decide) rfl ?_
  exact h
set_option maxRecDepth 100000 in
theorem eX6_takenAlong_4 {G : gC} {l : Launch} {P : Int32 → Mem → Prop} {x1 : Int32} {x2 : Int32} {x3 : Int32} {μ : Mem} (h : (((gm_r μ 30 3) ≤ x3) → qX7_all G l  μ (fun (r3 : Int32) (μ2 : Mem) => P (r3 &&& (x2 ^^^ (-1 : Int32))) μ2)) ∧ ((¬ (gm_r μ 30 3) ≤ x3) → vp_in x3 1024 ∧ (((gm_r μ 39 x3.toNatClampNeg) ≤ 0) → hX6_takenAlong_4 G l P x1 x2 (x3 + (1 : Int32)) μ) ∧ ((¬ (gm_r μ 39 x3.toNatClampNeg) ≤ 0) → ((¬ ((x3 >>> (x1 &&& 31)) &&& (1 : Int32)) = 0) → hX6_takenAlong_4 G l P x1 x2 (x3 + (1 : Int32)) μ) ∧ ((((x3 >>> (x1 &&& 31)) &&& (1 : Int32)) = 0) → hX6_takenAlong_4 G l P x1 (x2 ||| x3) (x3 + (1 : Int32)) μ)))) : hX6_takenAlong_4 G l P x1 x2 x3 μ := by
  refine go_iload_n dX6_takenAlong_4 rfl 3 rfl ?_
  refine go_aload_n dX6_takenAlong_5 rfl 0 rfl ?_
  refine go_get (.int (gm_r μ 30 3)) dX6_takenAlong_6 fX6_63 (g_lt rfl) (gs_30 G _ _) rfl ?_
  refine go_icmp_ge 39 dX6_takenAlong_9 (by decide) (fun c1 => ?_) (fun c1 => ?_)
  · have h := h.1 c1
    refine go_aload_n dX6_takenAlong_39 rfl 0 rfl ?_
    refine go_get (.ref (ga G 4)) dX6_takenAlong_40 fX6_49 (g_lt rfl) (gs_30 G _ _) rfl ?_
    refine go_callV (As := []) (rest := []) dX6_takenAlong_43 lX6_112 kX7_all rfl (by decide) (Nat.le_of_ble_eq_true rfl) (g_lt rfl) (gs_4 G _ _) rfl (by decide) rfl (gI_go (fun r3 μ2 h => ?_)) h
    refine go_iload_n dX6_takenAlong_46 rfl 2 rfl ?_
    refine go_iconst (v := -1) dX6_takenAlong_47 (by decide) ?_
    refine go_ixor dX6_takenAlong_48 ?_
    refine go_iand dX6_takenAlong_49 ?_
    exact go_iret dX6_takenAlong_50 rfl (Nat.le_refl _) (Nat.le_refl _) ⟨_, rfl, h⟩
  · have h := h.2 c1
    refine go_aload_n dX6_takenAlong_12 rfl 0 rfl ?_
    refine go_get (.ref (ga G 39)) dX6_takenAlong_13 fX6_40 (g_lt rfl) (gs_30 G _ _) rfl ?_
    refine go_iload_n dX6_takenAlong_16 rfl 3 rfl ?_
    obtain ⟨b4, h⟩ := h
    refine go_ialdv ((gm_r μ 39 x3.toNatClampNeg)) dX6_takenAlong_17 (g_lt rfl) (gs_39 G) b4 rfl ?_
    refine go_if_le 33 dX6_takenAlong_18 (by decide) (fun c5 => ?_) (fun c5 => ?_)
    · have h := h.1 c5
      refine go_iinc (v := (x3 + (1 : Int32))) [(0, .ref (ga G 30)), (1, .int x1), (2, .int x2), (3, .int (x3 + (1 : Int32)))] [1, 2, 3, 0] 3 dX6_takenAlong_33 rfl rfl (by decide) rfl ?_
      refine go_goto 4 dX6_takenAlong_36 (by decide) ?_
      exact h
    · have h := h.2 c5
      refine go_iload_n dX6_takenAlong_21 rfl 3 rfl ?_
      refine go_iload_n dX6_takenAlong_22 rfl 1 rfl ?_
      refine go_ishr dX6_takenAlong_23 ?_
      refine go_iconst (v := 1) dX6_takenAlong_24 (by decide) ?_
      refine go_iand dX6_takenAlong_25 ?_
      refine go_if_ne 33 dX6_takenAlong_26 (by decide) (fun c6 => ?_) (fun c6 => ?_)
      · have h := h.1 c6
        refine go_iinc (v := (x3 + (1 : Int32))) [(0, .ref (ga G 30)), (1, .int x1), (2, .int x2), (3, .int (x3 + (1 : Int32)))] [1, 2, 3, 0] 3 dX6_takenAlong_33 rfl rfl (by decide) rfl ?_
        refine go_goto 4 dX6_takenAlong_36 (by decide) ?_
        exact h
      · have h := h.2 c6
        refine go_iload_n dX6_takenAlong_29 rfl 2 rfl ?_
        refine go_iload_n dX6_takenAlong_30 rfl 3 rfl ?_
        refine go_ior dX6_takenAlong_31 ?_
        refine go_istore_n [(0, .ref (ga G 30)), (1, .int x1), (2, .int (x2 ||| x3)), (3, .int x3)] [1, 2, 0, 3] dX6_takenAlong_32 rfl (by decide) rfl ?_
        refine go_iinc (v := (x3 + (1 : Int32))) [(0, .ref (ga G 30)), (1, .int x1), (2, .int (x2 ||| x3)), (3, .int (x3 + (1 : Int32)))] [1, 2, 3, 0] 3 dX6_takenAlong_33 rfl rfl (by decide) rfl ?_
        refine go_goto 4 dX6_takenAlong_36 (by decide) ?_
        exact h
set_option maxRecDepth 100000 in
theorem eX9_along {G : gC} {l : Launch} {a1 : Int32} {μ : Mem} {P : Int32 → Mem → Prop} (h : qX9_isScene G l a1 μ (fun (r2 : Int32) (μ1 : Mem) => ((r2 = 0) → P (-1001 : Int32) μ1) ∧ ((¬ r2 = 0) → qX9_freshSets G l  μ1 (fun (μ4 : Mem) => qX6_takenAlong G l a1 μ4 (fun (r7 : Int32) (μ6 : Mem) => P r7 μ6))))) : qX9_along G l a1 μ P := by
  refine Sp.of (by decide) (Nat.le_of_ble_eq_true rfl) (lv := [(0, .ref (ga G 0)), (1, .int a1)]) rfl ?_
  refine go_aload_n dX9_along_0 rfl 0 rfl ?_
  refine go_iload_n dX9_along_1 rfl 1 rfl ?_
  refine go_callV (As := [.int a1]) (rest := []) dX9_along_2 lX9_115 kX9_isScene rfl (by decide) (Nat.le_of_ble_eq_true rfl) (g_lt rfl) (gs_0 G _ _) rfl (by decide) rfl (gI_go (fun r2 μ1 h => ?_)) h
  refine go_if_eq 19 dX9_along_5 (by decide) (fun c3 => ?_) (fun c3 => ?_)
  · have h := h.1 c3
    refine go_sipush (v := -1001) dX9_along_19 (by decide) ?_
    exact go_iret dX9_along_22 rfl (Nat.le_refl _) (Nat.le_refl _) ⟨_, rfl, h⟩
  · have h := h.2 c3
    refine go_aload_n dX9_along_8 rfl 0 rfl ?_
    refine go_callV (As := []) (rest := []) dX9_along_9 lX9_168 kX9_freshSets rfl (by decide) (Nat.le_of_ble_eq_true rfl) (g_lt rfl) (gs_0 G _ _) rfl (by decide) rfl (gR_go (fun μ4 h => ?_)) h
    refine go_iload_n dX9_along_12 rfl 1 rfl ?_
    refine go_callV (As := [.int a1]) (rest := []) dX9_along_13 lX9_197 kX6_takenAlong rfl (by decide) (Nat.le_of_ble_eq_true rfl) (g_lt rfl) (gs_30 G _ _) rfl (by decide) rfl (gI_go (fun r7 μ6 h => ?_)) h
    refine go_goto 22 dX9_along_16 (by decide) ?_
    exact go_iret dX9_along_22 rfl (Nat.le_refl _) (Nat.le_refl _) ⟨_, rfl, h⟩
set_option maxRecDepth 100000 in
theorem eX6_shortestTo {G : gC} {l : Launch} {a1 : Int32} {μ : Mem} {P : Int32 → Mem → Prop} (h : hX6_shortestTo_4 G l P a1 (-1 : Int32) (0 : Int32) μ) : qX6_shortestTo G l a1 μ P := by
  refine Sp.of (by decide) (Nat.le_of_ble_eq_true rfl) (lv := [(0, .ref (ga G 30)), (1, .int a1)]) rfl ?_
  refine go_iconst (v := -1) dX6_shortestTo_0 (by decide) ?_
  refine go_istore_n [(0, .ref (ga G 30)), (1, .int a1), (2, .int (-1 : Int32))] [1, 2, 0] dX6_shortestTo_1 rfl (by decide) rfl ?_
  refine go_iconst (v := 0) dX6_shortestTo_2 (by decide) ?_
  refine go_istore_n [(0, .ref (ga G 30)), (1, .int a1), (2, .int (-1 : Int32)), (3, .int (0 : Int32))] [1, 2, 3, 0] dX6_shortestTo_3 rfl (by decide) rfl ?_
  exact h
set_option maxRecDepth 100000 in
theorem eX6_shortestTo_4 {G : gC} {l : Launch} {P : Int32 → Mem → Prop} {x1 : Int32} {x2 : Int32} {x3 : Int32} {μ : Mem} (h : (((gm_r μ 30 3) ≤ x3) → P x2 μ) ∧ ((¬ (gm_r μ 30 3) ≤ x3) → vp_in x3 1024 ∧ (((gm_r μ 39 x3.toNatClampNeg) ≤ 0) → hX6_shortestTo_4 G l P x1 x2 (x3 + (1 : Int32)) μ) ∧ ((¬ (gm_r μ 39 x3.toNatClampNeg) ≤ 0) → ((¬ ((x3 >>> (x1 &&& 31)) &&& (1 : Int32)) = (1 : Int32)) → hX6_shortestTo_4 G l P x1 x2 (x3 + (1 : Int32)) μ) ∧ ((((x3 >>> (x1 &&& 31)) &&& (1 : Int32)) = (1 : Int32)) → ((x2 = (-1 : Int32)) → hX6_shortestTo_4 G l P x1 x3 (x3 + (1 : Int32)) μ) ∧ ((¬ x2 = (-1 : Int32)) → vp_in x2 1024 ∧ (((gm_r μ 31 x2.toNatClampNeg) ≤ (gm_r μ 31 x3.toNatClampNeg)) → hX6_shortestTo_4 G l P x1 x2 (x3 + (1 : Int32)) μ) ∧ ((¬ (gm_r μ 31 x2.toNatClampNeg) ≤ (gm_r μ 31 x3.toNatClampNeg)) → hX6_shortestTo_4 G l P x1 x3 (x3 + (1 : Int32)) μ)))))) : hX6_shortestTo_4 G l P x1 x2 x3 μ := by
  refine go_iload_n dX6_shortestTo_4 rfl 3 rfl ?_
  refine go_aload_n dX6_shortestTo_5 rfl 0 rfl ?_
  refine go_get (.int (gm_r μ 30 3)) dX6_shortestTo_6 fX6_63 (g_lt rfl) (gs_30 G _ _) rfl ?_
  refine go_icmp_ge 58 dX6_shortestTo_9 (by decide) (fun c1 => ?_) (fun c1 => ?_)
  · have h := h.1 c1
    refine go_iload_n dX6_shortestTo_58 rfl 2 rfl ?_
    exact go_iret dX6_shortestTo_59 rfl (Nat.le_refl _) (Nat.le_refl _) ⟨_, rfl, h⟩
  · have h := h.2 c1
    refine go_aload_n dX6_shortestTo_12 rfl 0 rfl ?_
    refine go_get (.ref (ga G 39)) dX6_shortestTo_13 fX6_40 (g_lt rfl) (gs_30 G _ _) rfl ?_
    refine go_iload_n dX6_shortestTo_16 rfl 3 rfl ?_
    obtain ⟨b2, h⟩ := h
    refine go_ialdv ((gm_r μ 39 x3.toNatClampNeg)) dX6_shortestTo_17 (g_lt rfl) (gs_39 G) b2 rfl ?_
    refine go_if_le 52 dX6_shortestTo_18 (by decide) (fun c3 => ?_) (fun c3 => ?_)
    · have h := h.1 c3
      refine go_iinc (v := (x3 + (1 : Int32))) [(0, .ref (ga G 30)), (1, .int x1), (2, .int x2), (3, .int (x3 + (1 : Int32)))] [1, 2, 3, 0] 3 dX6_shortestTo_52 rfl rfl (by decide) rfl ?_
      refine go_goto 4 dX6_shortestTo_55 (by decide) ?_
      exact h
    · have h := h.2 c3
      refine go_iload_n dX6_shortestTo_21 rfl 3 rfl ?_
      refine go_iload_n dX6_shortestTo_22 rfl 1 rfl ?_
      refine go_ishr dX6_shortestTo_23 ?_
      refine go_iconst (v := 1) dX6_shortestTo_24 (by decide) ?_
      refine go_iand dX6_shortestTo_25 ?_
      refine go_iconst (v := 1) dX6_shortestTo_26 (by decide) ?_
      refine go_icmp_ne 52 dX6_shortestTo_27 (by decide) (fun c4 => ?_) (fun c4 => ?_)
      · have h := h.1 c4
        refine go_iinc (v := (x3 + (1 : Int32))) [(0, .ref (ga G 30)), (1, .int x1), (2, .int x2), (3, .int (x3 + (1 : Int32)))] [1, 2, 3, 0] 3 dX6_shortestTo_52 rfl rfl (by decide) rfl ?_
        refine go_goto 4 dX6_shortestTo_55 (by decide) ?_
        exact h
      · have h := h.2 c4
        refine go_iload_n dX6_shortestTo_30 rfl 2 rfl ?_
        refine go_iconst (v := -1) dX6_shortestTo_31 (by decide) ?_
        refine go_icmp_eq 50 dX6_shortestTo_32 (by decide) (fun c5 => ?_) (fun c5 => ?_)
        · have h := h.1 c5
          refine go_iload_n dX6_shortestTo_50 rfl 3 rfl ?_
          refine go_istore_n [(0, .ref (ga G 30)), (1, .int x1), (2, .int x3), (3, .int x3)] [1, 2, 0, 3] dX6_shortestTo_51 rfl (by decide) rfl ?_
          refine go_iinc (v := (x3 + (1 : Int32))) [(0, .ref (ga G 30)), (1, .int x1), (2, .int x3), (3, .int (x3 + (1 : Int32)))] [1, 2, 3, 0] 3 dX6_shortestTo_52 rfl rfl (by decide) rfl ?_
          refine go_goto 4 dX6_shortestTo_55 (by decide) ?_
          exact h
        · have h := h.2 c5
          refine go_aload_n dX6_shortestTo_35 rfl 0 rfl ?_
          refine go_get (.ref (ga G 31)) dX6_shortestTo_36 fX6_15 (g_lt rfl) (gs_30 G _ _) rfl ?_
          refine go_iload_n dX6_shortestTo_39 rfl 3 rfl ?_
          refine go_ialdv ((gm_r μ 31 x3.toNatClampNeg)) dX6_shortestTo_40 (g_lt rfl) (gs_31 G) b2 rfl ?_
          refine go_aload_n dX6_shortestTo_41 rfl 0 rfl ?_
          refine go_get (.ref (ga G 31)) dX6_shortestTo_42 fX6_15 (g_lt rfl) (gs_30 G _ _) rfl ?_
          refine go_iload_n dX6_shortestTo_45 rfl 2 rfl ?_
          obtain ⟨b6, h⟩ := h
          refine go_ialdv ((gm_r μ 31 x2.toNatClampNeg)) dX6_shortestTo_46 (g_lt rfl) (gs_31 G) b6 rfl ?_
          refine go_icmp_ge 52 dX6_shortestTo_47 (by decide) (fun c7 => ?_) (fun c7 => ?_)
          · have h := h.1 c7
            refine go_iinc (v := (x3 + (1 : Int32))) [(0, .ref (ga G 30)), (1, .int x1), (2, .int x2), (3, .int (x3 + (1 : Int32)))] [1, 2, 3, 0] 3 dX6_shortestTo_52 rfl rfl (by decide) rfl ?_
            refine go_goto 4 dX6_shortestTo_55 (by decide) ?_
            exact h
          · have h := h.2 c7
            refine go_iload_n dX6_shortestTo_50 rfl 3 rfl ?_
            refine go_istore_n [(0, .ref (ga G 30)), (1, .int x1), (2, .int x3), (3, .int x3)] [1, 2, 0, 3] dX6_shortestTo_51 rfl (by decide) rfl ?_
            refine go_iinc (v := (x3 + (1 : Int32))) [(0, .ref (ga G 30)), (1, .int x1), (2, .int x3), (3, .int (x3 + (1 : Int32)))] [1, 2, 3, 0] 3 dX6_shortestTo_52 rfl rfl (by decide) rfl ?_
            refine go_goto 4 dX6_shortestTo_55 (by decide) ?_
            exact h
set_option maxRecDepth 100000 in
theorem eX9_shortest {G : gC} {l : Launch} {a1 : Int32} {a2 : Int32} {μ : Mem} {P : Int32 → Mem → Prop} (h : qX9_isScene G l a1 μ (fun (r2 : Int32) (μ1 : Mem) => ((¬ r2 = 0) → ((a2 < 0) → P (-1002 : Int32) μ1) ∧ ((¬ a2 < 0) → ((a2 ≤ (1 : Int32)) → qX9_freshSets G l  μ1 (fun (μ6 : Mem) => qX6_shortestTo G l a1 μ6 (fun (r9 : Int32) (μ8 : Mem) => ((a2 = 0) → P r9 μ8) ∧ ((¬ a2 = 0) → ((¬ r9 = (-1 : Int32)) → qX7_sum G l r9 (0 : Int32) μ8 (fun (r13 : Int32) (μ12 : Mem) => P r13 μ12)) ∧ ((r9 = (-1 : Int32)) → P r9 μ8))))) ∧ ((¬ a2 ≤ (1 : Int32)) → P (-1002 : Int32) μ1))) ∧ ((r2 = 0) → P (-1001 : Int32) μ1))) : qX9_shortest G l a1 a2 μ P := by
  refine Sp.of (by decide) (Nat.le_of_ble_eq_true rfl) (lv := [(0, .ref (ga G 0)), (1, .int a1), (2, .int a2)]) rfl ?_
  refine go_aload_n dX9_shortest_0 rfl 0 rfl ?_
  refine go_iload_n dX9_shortest_1 rfl 1 rfl ?_
  refine go_callV (As := [.int a1]) (rest := []) dX9_shortest_2 lX9_115 kX9_isScene rfl (by decide) (Nat.le_of_ble_eq_true rfl) (g_lt rfl) (gs_0 G _ _) rfl (by decide) rfl (gI_go (fun r2 μ1 h => ?_)) h
  refine go_if_ne 12 dX9_shortest_5 (by decide) (fun c3 => ?_) (fun c3 => ?_)
  · have h := h.1 c3
    refine go_iload_n dX9_shortest_12 rfl 2 rfl ?_
    refine go_if_lt 21 dX9_shortest_13 (by decide) (fun c4 => ?_) (fun c4 => ?_)
    · have h := h.1 c4
      refine go_sipush (v := -1002) dX9_shortest_21 (by decide) ?_
      exact go_iret dX9_shortest_24 rfl (Nat.le_refl _) (Nat.le_refl _) ⟨_, rfl, h⟩
    · have h := h.2 c4
      refine go_iload_n dX9_shortest_16 rfl 2 rfl ?_
      refine go_iconst (v := 1) dX9_shortest_17 (by decide) ?_
      refine go_icmp_le 25 dX9_shortest_18 (by decide) (fun c5 => ?_) (fun c5 => ?_)
      · have h := h.1 c5
        refine go_aload_n dX9_shortest_25 rfl 0 rfl ?_
        refine go_callV (As := []) (rest := []) dX9_shortest_26 lX9_168 kX9_freshSets rfl (by decide) (Nat.le_of_ble_eq_true rfl) (g_lt rfl) (gs_0 G _ _) rfl (by decide) rfl (gR_go (fun μ6 h => ?_)) h
        refine go_iload_n dX9_shortest_29 rfl 1 rfl ?_
        refine go_callV (As := [.int a1]) (rest := []) dX9_shortest_30 lX9_200 kX6_shortestTo rfl (by decide) (Nat.le_of_ble_eq_true rfl) (g_lt rfl) (gs_30 G _ _) rfl (by decide) rfl (gI_go (fun r9 μ8 h => ?_)) h
        refine go_istore_n [(0, .ref (ga G 0)), (1, .int a1), (2, .int a2), (3, .int r9)] [1, 2, 3, 0] dX9_shortest_33 rfl (by decide) rfl ?_
        refine go_iload_n dX9_shortest_34 rfl 2 rfl ?_
        refine go_if_eq 43 dX9_shortest_35 (by decide) (fun c10 => ?_) (fun c10 => ?_)
        · have h := h.1 c10
          refine go_iload_n dX9_shortest_43 rfl 3 rfl ?_
          refine go_goto 56 dX9_shortest_44 (by decide) ?_
          exact go_iret dX9_shortest_56 rfl (Nat.le_refl _) (Nat.le_refl _) ⟨_, rfl, h⟩
        · have h := h.2 c10
          refine go_iload_n dX9_shortest_38 rfl 3 rfl ?_
          refine go_iconst (v := -1) dX9_shortest_39 (by decide) ?_
          refine go_icmp_ne 47 dX9_shortest_40 (by decide) (fun c11 => ?_) (fun c11 => ?_)
          · have h := h.1 c11
            refine go_aload_n dX9_shortest_47 rfl 0 rfl ?_
            refine go_get (.ref (ga G 4)) dX9_shortest_48 fX9_28 (g_lt rfl) (gs_0 G _ _) rfl ?_
            refine go_iload_n dX9_shortest_51 rfl 3 rfl ?_
            refine go_iconst (v := 0) dX9_shortest_52 (by decide) ?_
            refine go_callV (As := [.int r9, .int (0 : Int32)]) (rest := []) dX9_shortest_53 lX9_148 kX7_sum rfl (by decide) (Nat.le_of_ble_eq_true rfl) (g_lt rfl) (gs_4 G _ _) rfl (by decide) rfl (gI_go (fun r13 μ12 h => ?_)) h
            exact go_iret dX9_shortest_56 rfl (Nat.le_refl _) (Nat.le_refl _) ⟨_, rfl, h⟩
          · have h := h.2 c11
            refine go_iload_n dX9_shortest_43 rfl 3 rfl ?_
            refine go_goto 56 dX9_shortest_44 (by decide) ?_
            exact go_iret dX9_shortest_56 rfl (Nat.le_refl _) (Nat.le_refl _) ⟨_, rfl, h⟩
      · have h := h.2 c5
        refine go_sipush (v := -1002) dX9_shortest_21 (by decide) ?_
        exact go_iret dX9_shortest_24 rfl (Nat.le_refl _) (Nat.le_refl _) ⟨_, rfl, h⟩
  · have h := h.2 c3
    refine go_sipush (v := -1001) dX9_shortest_8 (by decide) ?_
    exact go_iret dX9_shortest_11 rfl (Nat.le_refl _) (Nat.le_refl _) ⟨_, rfl, h⟩
set_option maxRecDepth 100000 in
theorem eX0_mayBecome {G : gC} {l : Launch} {a1 : Int32} {a2 : Int32} {μ : Mem} {P : Int32 → Mem → Prop} (h : ((a1 < 0) → P (0 : Int32) μ) ∧ ((¬ a1 < 0) → (((8 : Int32) ≤ a1) → P (0 : Int32) μ) ∧ ((¬ (8 : Int32) ≤ a1) → vp_in a1 8 ∧ ((a2 < (gz_lowest.getD a1.toNatClampNeg 0)) → P (0 : Int32) μ) ∧ ((¬ a2 < (gz_lowest.getD a1.toNatClampNeg 0)) → vp_in a1 8 ∧ ((a2 ≤ (gz_highest.getD a1.toNatClampNeg 0)) → ((¬ a1 = 0) → hX0_mayBecome_44 G l P a1 a2 μ) ∧ ((a1 = 0) → (((gm_r μ 45 1) < a2) → P (0 : Int32) μ) ∧ ((¬ (gm_r μ 45 1) < a2) → hX0_mayBecome_44 G l P a1 a2 μ))) ∧ ((¬ a2 ≤ (gz_highest.getD a1.toNatClampNeg 0)) → P (0 : Int32) μ))))) : qX0_mayBecome G l a1 a2 μ P := by
  refine Sp.of (by decide) (Nat.le_of_ble_eq_true rfl) (lv := [(0, .ref (ga G 42)), (1, .int a1), (2, .int a2)]) rfl ?_
  refine go_iload_n dX0_mayBecome_0 rfl 1 rfl ?_
  refine go_if_lt 28 dX0_mayBecome_1 (by decide) (fun c1 => ?_) (fun c1 => ?_)
  · have h := h.1 c1
    refine go_iconst (v := 0) dX0_mayBecome_28 (by decide) ?_
    exact go_zret dX0_mayBecome_29 rfl (Nat.le_refl _) (Nat.le_refl _) rfl ⟨_, rfl, h⟩
  · have h := h.2 c1
    refine go_iload_n dX0_mayBecome_4 rfl 1 rfl ?_
    refine go_bipush (v := 8) dX0_mayBecome_5 (by decide) ?_
    refine go_icmp_ge 28 dX0_mayBecome_7 (by decide) (fun c2 => ?_) (fun c2 => ?_)
    · have h := h.1 c2
      refine go_iconst (v := 0) dX0_mayBecome_28 (by decide) ?_
      exact go_zret dX0_mayBecome_29 rfl (Nat.le_refl _) (Nat.le_refl _) rfl ⟨_, rfl, h⟩
    · have h := h.2 c2
      refine go_iload_n dX0_mayBecome_10 rfl 2 rfl ?_
      refine go_gets dX0_mayBecome_11 (fun s hz => hz.2.1.1) (g_in 705 (by decide +kernel) rfl) ?_
      refine go_iload_n dX0_mayBecome_14 rfl 1 rfl ?_
      obtain ⟨b3, h⟩ := h
      refine go_tald (f := fun j => gz_lowest.getD j 0) dX0_mayBecome_15 (fun s hz => hz.2.1.2) b3 ?_
      refine go_icmp_lt 28 dX0_mayBecome_16 (by decide) (fun c4 => ?_) (fun c4 => ?_)
      · have h := h.1 c4
        refine go_iconst (v := 0) dX0_mayBecome_28 (by decide) ?_
        exact go_zret dX0_mayBecome_29 rfl (Nat.le_refl _) (Nat.le_refl _) rfl ⟨_, rfl, h⟩
      · have h := h.2 c4
        refine go_iload_n dX0_mayBecome_19 rfl 2 rfl ?_
        refine go_gets dX0_mayBecome_20 (fun s hz => hz.2.2.1.1) (g_in 707 (by decide +kernel) rfl) ?_
        refine go_iload_n dX0_mayBecome_23 rfl 1 rfl ?_
        obtain ⟨b5, h⟩ := h
        refine go_tald (f := fun j => gz_highest.getD j 0) dX0_mayBecome_24 (fun s hz => hz.2.2.1.2) b5 ?_
        refine go_icmp_le 30 dX0_mayBecome_25 (by decide) (fun c6 => ?_) (fun c6 => ?_)
        · have h := h.1 c6
          refine go_iload_n dX0_mayBecome_30 rfl 1 rfl ?_
          refine go_if_ne 44 dX0_mayBecome_31 (by decide) (fun c7 => ?_) (fun c7 => ?_)
          · have h := h.1 c7
            exact h
          · have h := h.2 c7
            refine go_iload_n dX0_mayBecome_34 rfl 2 rfl ?_
            refine go_aload_n dX0_mayBecome_35 rfl 0 rfl ?_
            refine go_get (.ref (ga G 45)) dX0_mayBecome_36 fX0_33 (g_lt rfl) (gs_42 G _ _) rfl ?_
            refine go_iconst (v := 1) dX0_mayBecome_39 (by decide) ?_
            refine go_ialdv ((gm_r μ 45 1)) dX0_mayBecome_40 (g_lt rfl) (gs_45 G) (by unfold vp_in; decide) rfl ?_
            refine go_icmp_gt 63 dX0_mayBecome_41 (by decide) (fun c8 => ?_) (fun c8 => ?_)
            · have h := h.1 c8
              refine go_iconst (v := 0) dX0_mayBecome_63 (by decide) ?_
              exact go_zret dX0_mayBecome_64 rfl (Nat.le_refl _) (Nat.le_refl _) rfl ⟨_, rfl, h⟩
            · have h := h.2 c8
              exact h
        · have h := h.2 c6
          refine go_iconst (v := 0) dX0_mayBecome_28 (by decide) ?_
          exact go_zret dX0_mayBecome_29 rfl (Nat.le_refl _) (Nat.le_refl _) rfl ⟨_, rfl, h⟩
set_option maxRecDepth 100000 in
theorem eX0_mayBecome_44 {G : gC} {l : Launch} {P : Int32 → Mem → Prop} {x1 : Int32} {x2 : Int32} {μ : Mem} (h : ((¬ x1 = (1 : Int32)) → P (1 : Int32) μ) ∧ ((x1 = (1 : Int32)) → ((x2 < (gm_r μ 45 0)) → P (0 : Int32) μ) ∧ ((¬ x2 < (gm_r μ 45 0)) → P (1 : Int32) μ))) : hX0_mayBecome_44 G l P x1 x2 μ := by
  refine go_iload_n dX0_mayBecome_44 rfl 1 rfl ?_
  refine go_iconst (v := 1) dX0_mayBecome_45 (by decide) ?_
  refine go_icmp_ne 59 dX0_mayBecome_46 (by decide) (fun c9 => ?_) (fun c9 => ?_)
  · have h := h.1 c9
    refine go_iconst (v := 1) dX0_mayBecome_59 (by decide) ?_
    refine go_goto 64 dX0_mayBecome_60 (by decide) ?_
    exact go_zret dX0_mayBecome_64 rfl (Nat.le_refl _) (Nat.le_refl _) rfl ⟨_, rfl, h⟩
  · have h := h.2 c9
    refine go_iload_n dX0_mayBecome_49 rfl 2 rfl ?_
    refine go_aload_n dX0_mayBecome_50 rfl 0 rfl ?_
    refine go_get (.ref (ga G 45)) dX0_mayBecome_51 fX0_33 (g_lt rfl) (gs_42 G _ _) rfl ?_
    refine go_iconst (v := 0) dX0_mayBecome_54 (by decide) ?_
    refine go_ialdv ((gm_r μ 45 0)) dX0_mayBecome_55 (g_lt rfl) (gs_45 G) (by unfold vp_in; decide) rfl ?_
    refine go_icmp_lt 63 dX0_mayBecome_56 (by decide) (fun c10 => ?_) (fun c10 => ?_)
    · have h := h.1 c10
      refine go_iconst (v := 0) dX0_mayBecome_63 (by decide) ?_
      exact go_zret dX0_mayBecome_64 rfl (Nat.le_refl _) (Nat.le_refl _) rfl ⟨_, rfl, h⟩
    · have h := h.2 c10
      refine go_iconst (v := 1) dX0_mayBecome_59 (by decide) ?_
      refine go_goto 64 dX0_mayBecome_60 (by decide) ?_
      exact go_zret dX0_mayBecome_64 rfl (Nat.le_refl _) (Nat.le_refl _) rfl ⟨_, rfl, h⟩
set_option maxRecDepth 100000 in
theorem eX9_law {G : gC} {l : Launch} {a1 : Int32} {a2 : Int32} {μ : Mem} {P : Int32 → Mem → Prop} (h : qX0_mayBecome G l a1 a2 μ (fun (r2 : Int32) (μ1 : Mem) => ((¬ r2 = 0) → vp_in a1 8 ∧ qX9_forgetPlans G l  (gm_w μ1 45 a1.toNatClampNeg a2) (fun (μ5 : Mem) => P (gm_r μ1 45 a1.toNatClampNeg) μ5)) ∧ ((r2 = 0) → P (-1002 : Int32) μ1))) : qX9_law G l a1 a2 μ P := by
  refine Sp.of (by decide) (Nat.le_of_ble_eq_true rfl) (lv := [(0, .ref (ga G 0)), (1, .int a1), (2, .int a2)]) rfl ?_
  refine go_aload_n dX9_law_0 rfl 0 rfl ?_
  refine go_get (.ref (ga G 42)) dX9_law_1 fX9_56 (g_lt rfl) (gs_0 G _ _) rfl ?_
  refine go_iload_n dX9_law_4 rfl 1 rfl ?_
  refine go_iload_n dX9_law_5 rfl 2 rfl ?_
  refine go_callV (As := [.int a1, .int a2]) (rest := []) dX9_law_6 lX9_203 kX0_mayBecome rfl (by decide) (Nat.le_of_ble_eq_true rfl) (g_lt rfl) (gs_42 G _ _) rfl (by decide) rfl (gI_go (fun r2 μ1 h => ?_)) h
  refine go_if_ne 16 dX9_law_9 (by decide) (fun c3 => ?_) (fun c3 => ?_)
  · have h := h.1 c3
    refine go_aload_n dX9_law_16 rfl 0 rfl ?_
    refine go_get (.ref (ga G 42)) dX9_law_17 fX9_56 (g_lt rfl) (gs_0 G _ _) rfl ?_
    refine go_get (.ref (ga G 45)) dX9_law_20 fX9_206 (g_lt rfl) (gs_42 G _ _) rfl ?_
    refine go_iload_n dX9_law_23 rfl 1 rfl ?_
    obtain ⟨b4, h⟩ := h
    refine go_ialdv ((gm_r μ1 45 a1.toNatClampNeg)) dX9_law_24 (g_lt rfl) (gs_45 G) b4 rfl ?_
    refine go_istore_n [(0, .ref (ga G 0)), (1, .int a1), (2, .int a2), (3, .int (gm_r μ1 45 a1.toNatClampNeg))] [1, 2, 3, 0] dX9_law_25 rfl (by decide) rfl ?_
    refine go_aload_n dX9_law_26 rfl 0 rfl ?_
    refine go_get (.ref (ga G 42)) dX9_law_27 fX9_56 (g_lt rfl) (gs_0 G _ _) rfl ?_
    refine go_get (.ref (ga G 45)) dX9_law_30 fX9_206 (g_lt rfl) (gs_42 G _ _) rfl ?_
    refine go_iload_n dX9_law_33 rfl 1 rfl ?_
    refine go_iload_n dX9_law_34 rfl 2 rfl ?_
    refine go_iast dX9_law_35 (g_lt rfl) (gs_45 G) b4 ?_
    refine go_aload_n dX9_law_36 rfl 0 rfl ?_
    refine go_callV (As := []) (rest := []) dX9_law_37 lX9_106 kX9_forgetPlans rfl (by decide) (Nat.le_of_ble_eq_true rfl) (g_lt rfl) (gs_0 G _ _) rfl (by decide) rfl (gV_go (fun μ5 h => ?_)) h
    refine go_iload_n dX9_law_40 rfl 3 rfl ?_
    exact go_iret dX9_law_41 rfl (Nat.le_refl _) (Nat.le_refl _) ⟨_, rfl, h⟩
  · have h := h.2 c3
    refine go_sipush (v := -1002) dX9_law_12 (by decide) ?_
    exact go_iret dX9_law_15 rfl (Nat.le_refl _) (Nat.le_refl _) ⟨_, rfl, h⟩
set_option maxRecDepth 100000 in
theorem eX0_append {G : gC} {l : Launch} {a1 : Int32} {μ : Mem} {P : Mem → Prop} (h : (((10 : Int32) ≤ (gm_r μ 42 1)) → P μ) ∧ ((¬ (10 : Int32) ≤ (gm_r μ 42 1)) → vp_in (gm_r μ 42 1) 10 ∧ P (gm_w (gm_w μ 43 (gm_r μ 42 1).toNatClampNeg a1) 42 1 ((gm_r μ 42 1) + (1 : Int32))))) : qX0_append G l a1 μ P := by
  refine Sp.of (by decide) (Nat.le_of_ble_eq_true rfl) (lv := [(0, .ref (ga G 42)), (1, .int a1)]) rfl ?_
  refine go_aload_n dX0_append_0 rfl 0 rfl ?_
  refine go_get (.int (gm_r μ 42 1)) dX0_append_1 fX0_15 (g_lt rfl) (gs_42 G _ _) rfl ?_
  refine go_bipush (v := 10) dX0_append_4 (by decide) ?_
  refine go_icmp_ge 29 dX0_append_6 (by decide) (fun c1 => ?_) (fun c1 => ?_)
  · have h := h.1 c1
    exact go_vret dX0_append_29 rfl (Nat.le_refl _) (Nat.le_refl _) ⟨rfl, h⟩
  · have h := h.2 c1
    refine go_aload_n dX0_append_9 rfl 0 rfl ?_
    refine go_get (.ref (ga G 43)) dX0_append_10 fX0_9 (g_lt rfl) (gs_42 G _ _) rfl ?_
    refine go_aload_n dX0_append_13 rfl 0 rfl ?_
    refine go_get (.int (gm_r μ 42 1)) dX0_append_14 fX0_15 (g_lt rfl) (gs_42 G _ _) rfl ?_
    refine go_iload_n dX0_append_17 rfl 1 rfl ?_
    obtain ⟨b2, h⟩ := h
    refine go_iast dX0_append_18 (g_lt rfl) (gs_43 G) b2 ?_
    refine go_aload_n dX0_append_19 rfl 0 rfl ?_
    refine go_dup dX0_append_20 rfl ?_
    refine go_get (.int (gm_r μ 42 1)) dX0_append_21 fX0_15 (g_lt rfl) (gs_42 G _ _) rfl ?_
    refine go_iconst (v := 1) dX0_append_24 (by decide) ?_
    refine go_iadd dX0_append_25 ?_
    refine go_puti dX0_append_26 pX0_15 (g_lt rfl) (gs_42 G _ _) (Nat.le_of_ble_eq_true rfl) rfl ?_
    exact go_vret dX0_append_29 rfl (Nat.le_refl _) (Nat.le_refl _) ⟨rfl, h⟩
set_option maxRecDepth 100000 in
theorem eX0_setUpTo {G : gC} {l : Launch} {a1 : Int32} {μ : Mem} {P : Int32 → Mem → Prop} (h : qX0_setFrom G l (0 : Int32) a1 μ (fun (r2 : Int32) (μ1 : Mem) => P r2 μ1)) : qX0_setUpTo G l a1 μ P := by
  refine Sp.of (by decide) (Nat.le_of_ble_eq_true rfl) (lv := [(0, .ref (ga G 42)), (1, .int a1)]) rfl ?_
  refine go_aload_n dX0_setUpTo_0 rfl 0 rfl ?_
  refine go_iconst (v := 0) dX0_setUpTo_1 (by decide) ?_
  refine go_iload_n dX0_setUpTo_2 rfl 1 rfl ?_
  refine go_callV (As := [.int (0 : Int32), .int a1]) (rest := []) dX0_setUpTo_3 lX0_59 kX0_setFrom rfl (by decide) (Nat.le_of_ble_eq_true rfl) (g_lt rfl) (gs_42 G _ _) rfl (by decide) rfl (gI_go (fun r2 μ1 h => ?_)) h
  exact go_iret dX0_setUpTo_6 rfl (Nat.le_refl _) (Nat.le_refl _) ⟨_, rfl, h⟩
set_option maxRecDepth 100000 in
theorem eX9_add {G : gC} {l : Launch} {a1 : Int32} {μ : Mem} {P : Int32 → Mem → Prop} (h : qX9_isScene G l a1 μ (fun (r2 : Int32) (μ1 : Mem) => ((¬ r2 = 0) → qX0_setUpTo G l (gm_r μ1 42 1) μ1 (fun (r5 : Int32) (μ4 : Mem) => qX5_nextBehind G l r5 μ4 (fun (r7 : Int32) (μ6 : Mem) => ((¬ ((r7 >>> (a1 &&& 31)) &&& (1 : Int32)) = 0) → qX0_drafted G l  μ6 (fun (r10 : Int32) (μ9 : Mem) => ((r10 < (6 : Int32)) → qX0_append G l a1 μ9 (fun (μ12 : Mem) => qX0_drafted G l  μ12 (fun (r15 : Int32) (μ14 : Mem) => P r15 μ14))) ∧ ((¬ r10 < (6 : Int32)) → P (-1004 : Int32) μ9))) ∧ ((((r7 >>> (a1 &&& 31)) &&& (1 : Int32)) = 0) → P (-1003 : Int32) μ6)))) ∧ ((r2 = 0) → P (-1001 : Int32) μ1))) : qX9_add G l a1 μ P := by
  refine Sp.of (by decide) (Nat.le_of_ble_eq_true rfl) (lv := [(0, .ref (ga G 0)), (1, .int a1)]) rfl ?_
  refine go_aload_n dX9_add_0 rfl 0 rfl ?_
  refine go_iload_n dX9_add_1 rfl 1 rfl ?_
  refine go_callV (As := [.int a1]) (rest := []) dX9_add_2 lX9_115 kX9_isScene rfl (by decide) (Nat.le_of_ble_eq_true rfl) (g_lt rfl) (gs_0 G _ _) rfl (by decide) rfl (gI_go (fun r2 μ1 h => ?_)) h
  refine go_if_ne 12 dX9_add_5 (by decide) (fun c3 => ?_) (fun c3 => ?_)
  · have h := h.1 c3
    refine go_aload_n dX9_add_12 rfl 0 rfl ?_
    refine go_get (.ref (ga G 28)) dX9_add_13 fX9_40 (g_lt rfl) (gs_0 G _ _) rfl ?_
    refine go_aload_n dX9_add_16 rfl 0 rfl ?_
    refine go_get (.ref (ga G 42)) dX9_add_17 fX9_56 (g_lt rfl) (gs_0 G _ _) rfl ?_
    refine go_aload_n dX9_add_20 rfl 0 rfl ?_
    refine go_get (.ref (ga G 42)) dX9_add_21 fX9_56 (g_lt rfl) (gs_0 G _ _) rfl ?_
    refine go_get (.int (gm_r μ1 42 1)) dX9_add_24 fX9_209 (g_lt rfl) (gs_42 G _ _) rfl ?_
    refine go_callV (As := [.int (gm_r μ1 42 1)]) (rest := [.ref (ga G 28)]) dX9_add_27 lX9_212 kX0_setUpTo rfl (by decide) (Nat.le_of_ble_eq_true rfl) (g_lt rfl) (gs_42 G _ _) rfl (by decide) rfl (gI_go (fun r5 μ4 h => ?_)) h
    refine go_callV (As := [.int r5]) (rest := []) dX9_add_30 lX9_165 kX5_nextBehind rfl (by decide) (Nat.le_of_ble_eq_true rfl) (g_lt rfl) (gs_28 G _ _) rfl (by decide) rfl (gI_go (fun r7 μ6 h => ?_)) h
    refine go_iload_n dX9_add_33 rfl 1 rfl ?_
    refine go_ishr dX9_add_34 ?_
    refine go_iconst (v := 1) dX9_add_35 (by decide) ?_
    refine go_iand dX9_add_36 ?_
    refine go_if_ne 44 dX9_add_37 (by decide) (fun c8 => ?_) (fun c8 => ?_)
    · have h := h.1 c8
      refine go_aload_n dX9_add_44 rfl 0 rfl ?_
      refine go_get (.ref (ga G 42)) dX9_add_45 fX9_56 (g_lt rfl) (gs_0 G _ _) rfl ?_
      refine go_callV (As := []) (rest := []) dX9_add_48 lX9_142 kX0_drafted rfl (by decide) (Nat.le_of_ble_eq_true rfl) (g_lt rfl) (gs_42 G _ _) rfl (by decide) rfl (gI_go (fun r10 μ9 h => ?_)) h
      refine go_bipush (v := 6) dX9_add_51 (by decide) ?_
      refine go_icmp_lt 60 dX9_add_53 (by decide) (fun c11 => ?_) (fun c11 => ?_)
      · have h := h.1 c11
        refine go_aload_n dX9_add_60 rfl 0 rfl ?_
        refine go_get (.ref (ga G 42)) dX9_add_61 fX9_56 (g_lt rfl) (gs_0 G _ _) rfl ?_
        refine go_iload_n dX9_add_64 rfl 1 rfl ?_
        refine go_callV (As := [.int a1]) (rest := []) dX9_add_65 lX9_215 kX0_append rfl (by decide) (Nat.le_of_ble_eq_true rfl) (g_lt rfl) (gs_42 G _ _) rfl (by decide) rfl (gV_go (fun μ12 h => ?_)) h
        refine go_aload_n dX9_add_68 rfl 0 rfl ?_
        refine go_get (.ref (ga G 42)) dX9_add_69 fX9_56 (g_lt rfl) (gs_0 G _ _) rfl ?_
        refine go_callV (As := []) (rest := []) dX9_add_72 lX9_142 kX0_drafted rfl (by decide) (Nat.le_of_ble_eq_true rfl) (g_lt rfl) (gs_42 G _ _) rfl (by decide) rfl (gI_go (fun r15 μ14 h => ?_)) h
        exact go_iret dX9_add_75 rfl (Nat.le_refl _) (Nat.le_refl _) ⟨_, rfl, h⟩
      · have h := h.2 c11
        refine go_sipush (v := -1004) dX9_add_56 (by decide) ?_
        exact go_iret dX9_add_59 rfl (Nat.le_refl _) (Nat.le_refl _) ⟨_, rfl, h⟩
    · have h := h.2 c8
      refine go_sipush (v := -1003) dX9_add_40 (by decide) ?_
      exact go_iret dX9_add_43 rfl (Nat.le_refl _) (Nat.le_refl _) ⟨_, rfl, h⟩
  · have h := h.2 c3
    refine go_sipush (v := -1001) dX9_add_8 (by decide) ?_
    exact go_iret dX9_add_11 rfl (Nat.le_refl _) (Nat.le_refl _) ⟨_, rfl, h⟩
set_option maxRecDepth 100000 in
theorem eX0_takeLast {G : gC} {l : Launch}  {μ : Mem} {P : Int32 → Mem → Prop} (h : (((1 : Int32) ≤ (gm_r μ 42 1)) → vp_in ((gm_r μ 42 1) - (1 : Int32)) 10 ∧ P (gm_r μ 43 ((gm_r μ 42 1) - (1 : Int32)).toNatClampNeg) (gm_w μ 42 1 ((gm_r μ 42 1) - (1 : Int32)))) ∧ ((¬ (1 : Int32) ≤ (gm_r μ 42 1)) → P (-1 : Int32) μ)) : qX0_takeLast G l  μ P := by
  refine Sp.of (by decide) (Nat.le_of_ble_eq_true rfl) (lv := [(0, .ref (ga G 42))]) rfl ?_
  refine go_aload_n dX0_takeLast_0 rfl 0 rfl ?_
  refine go_get (.int (gm_r μ 42 1)) dX0_takeLast_1 fX0_15 (g_lt rfl) (gs_42 G _ _) rfl ?_
  refine go_iconst (v := 1) dX0_takeLast_4 (by decide) ?_
  refine go_icmp_ge 10 dX0_takeLast_5 (by decide) (fun c1 => ?_) (fun c1 => ?_)
  · have h := h.1 c1
    refine go_aload_n dX0_takeLast_10 rfl 0 rfl ?_
    refine go_dup dX0_takeLast_11 rfl ?_
    refine go_get (.int (gm_r μ 42 1)) dX0_takeLast_12 fX0_15 (g_lt rfl) (gs_42 G _ _) rfl ?_
    refine go_iconst (v := 1) dX0_takeLast_15 (by decide) ?_
    refine go_isub dX0_takeLast_16 ?_
    refine go_puti dX0_takeLast_17 pX0_15 (g_lt rfl) (gs_42 G _ _) (Nat.le_of_ble_eq_true rfl) rfl ?_
    refine go_aload_n dX0_takeLast_20 rfl 0 rfl ?_
    refine go_get (.ref (ga G 43)) dX0_takeLast_21 fX0_9 (g_lt rfl) (gs_42 G _ _) rfl ?_
    refine go_aload_n dX0_takeLast_24 rfl 0 rfl ?_
    refine go_get (.int ((gm_r μ 42 1) - (1 : Int32))) dX0_takeLast_25 fX0_15 (g_lt rfl) (gs_42 G _ _) rfl ?_
    obtain ⟨b2, h⟩ := h
    refine go_ialdv ((gm_r μ 43 ((gm_r μ 42 1) - (1 : Int32)).toNatClampNeg)) dX0_takeLast_28 (g_lt rfl) (gs_43 G) b2 rfl ?_
    exact go_iret dX0_takeLast_29 rfl (Nat.le_refl _) (Nat.le_refl _) ⟨_, rfl, h⟩
  · have h := h.2 c1
    refine go_iconst (v := -1) dX0_takeLast_8 (by decide) ?_
    exact go_iret dX0_takeLast_9 rfl (Nat.le_refl _) (Nat.le_refl _) ⟨_, rfl, h⟩
set_option maxRecDepth 100000 in
theorem eX9_drop {G : gC} {l : Launch}  {μ : Mem} {P : Int32 → Mem → Prop} (h : qX0_drafted G l  μ (fun (r2 : Int32) (μ1 : Mem) => ((¬ r2 = 0) → qX0_takeLast G l  μ1 (fun (r5 : Int32) (μ4 : Mem) => P r5 μ4)) ∧ ((r2 = 0) → P (-1 : Int32) μ1))) : qX9_drop G l  μ P := by
  refine Sp.of (by decide) (Nat.le_of_ble_eq_true rfl) (lv := [(0, .ref (ga G 0))]) rfl ?_
  refine go_aload_n dX9_drop_0 rfl 0 rfl ?_
  refine go_get (.ref (ga G 42)) dX9_drop_1 fX9_56 (g_lt rfl) (gs_0 G _ _) rfl ?_
  refine go_callV (As := []) (rest := []) dX9_drop_4 lX9_142 kX0_drafted rfl (by decide) (Nat.le_of_ble_eq_true rfl) (g_lt rfl) (gs_42 G _ _) rfl (by decide) rfl (gI_go (fun r2 μ1 h => ?_)) h
  refine go_if_ne 14 dX9_drop_7 (by decide) (fun c3 => ?_) (fun c3 => ?_)
  · have h := h.1 c3
    refine go_aload_n dX9_drop_14 rfl 0 rfl ?_
    refine go_get (.ref (ga G 42)) dX9_drop_15 fX9_56 (g_lt rfl) (gs_0 G _ _) rfl ?_
    refine go_callV (As := []) (rest := []) dX9_drop_18 lX9_216 kX0_takeLast rfl (by decide) (Nat.le_of_ble_eq_true rfl) (g_lt rfl) (gs_42 G _ _) rfl (by decide) rfl (gI_go (fun r5 μ4 h => ?_)) h
    exact go_iret dX9_drop_21 rfl (Nat.le_refl _) (Nat.le_refl _) ⟨_, rfl, h⟩
  · have h := h.2 c3
    refine go_iconst (v := -1) dX9_drop_10 (by decide) ?_
    refine go_goto 21 dX9_drop_11 (by decide) ?_
    exact go_iret dX9_drop_21 rfl (Nat.le_refl _) (Nat.le_refl _) ⟨_, rfl, h⟩
set_option maxRecDepth 100000 in
theorem eX3_remindedIn {G : gC} {l : Launch} {a1 : Int32} {μ : Mem} {P : Int32 → Mem → Prop} (h : hX3_remindedIn_7 G l P a1 (0 : Int32) (0 : Int32) (0 : Int32) μ) : qX3_remindedIn G l a1 μ P := by
  refine Sp.of (by decide) (Nat.le_of_ble_eq_true rfl) (lv := [(0, .ref (ga G 46)), (1, .int a1)]) rfl ?_
  refine go_iconst (v := 0) dX3_remindedIn_0 (by decide) ?_
  refine go_istore_n [(0, .ref (ga G 46)), (1, .int a1), (2, .int (0 : Int32))] [1, 2, 0] dX3_remindedIn_1 rfl (by decide) rfl ?_
  refine go_iconst (v := 0) dX3_remindedIn_2 (by decide) ?_
  refine go_istore_n [(0, .ref (ga G 46)), (1, .int a1), (2, .int (0 : Int32)), (3, .int (0 : Int32))] [1, 2, 3, 0] dX3_remindedIn_3 rfl (by decide) rfl ?_
  refine go_iconst (v := 0) dX3_remindedIn_4 (by decide) ?_
  refine go_istore [(0, .ref (ga G 46)), (1, .int a1), (2, .int (0 : Int32)), (3, .int (0 : Int32)), (4, .int (0 : Int32))] [1, 2, 3, 4, 0] dX3_remindedIn_5 (by decide) rfl ?_
  exact h
set_option maxRecDepth 100000 in
theorem eX3_remindedIn_7 {G : gC} {l : Launch} {P : Int32 → Mem → Prop} {x1 : Int32} {x2 : Int32} {x3 : Int32} {x4 : Int32} {μ : Mem} (h : ((x1 ≤ x4) → qX0_setOf G l x1 μ (fun (r3 : Int32) (μ2 : Mem) => qX7_union G l r3 (2 : Int32) μ2 (fun (r5 : Int32) (μ4 : Mem) => P ((r5 &&& x2) &&& (x3 ^^^ (-1 : Int32))) μ4))) ∧ ((¬ x1 ≤ x4) → qX0_setOf G l x4 μ (fun (r7 : Int32) (μ6 : Mem) => qX7_union G l r7 (2 : Int32) μ6 (fun (r9 : Int32) (μ8 : Mem) => (((gm_r μ8 45 2) < (x1 - x4)) → hX3_remindedIn_7 G l P x1 (x2 ||| r9) x3 (x4 + (1 : Int32)) μ8) ∧ ((¬ (gm_r μ8 45 2) < (x1 - x4)) → hX3_remindedIn_7 G l P x1 (x2 ||| r9) (x3 ||| r9) (x4 + (1 : Int32)) μ8))))) : hX3_remindedIn_7 G l P x1 x2 x3 x4 μ := by
  refine go_iload dX3_remindedIn_7 4 rfl ?_
  refine go_iload_n dX3_remindedIn_9 rfl 1 rfl ?_
  refine go_icmp_ge 64 dX3_remindedIn_10 (by decide) (fun c1 => ?_) (fun c1 => ?_)
  · have h := h.1 c1
    refine go_aload_n dX3_remindedIn_64 rfl 0 rfl ?_
    refine go_get (.ref (ga G 4)) dX3_remindedIn_65 fX3_9 (g_lt rfl) (gs_46 G _ _) rfl ?_
    refine go_aload_n dX3_remindedIn_68 rfl 0 rfl ?_
    refine go_get (.ref (ga G 42)) dX3_remindedIn_69 fX3_15 (g_lt rfl) (gs_46 G _ _) rfl ?_
    refine go_iload_n dX3_remindedIn_72 rfl 1 rfl ?_
    refine go_callV (As := [.int x1]) (rest := [.ref (ga G 4)]) dX3_remindedIn_73 lX3_34 kX0_setOf rfl (by decide) (Nat.le_of_ble_eq_true rfl) (g_lt rfl) (gs_42 G _ _) rfl (by decide) rfl (gI_go (fun r3 μ2 h => ?_)) h
    refine go_iconst (v := 2) dX3_remindedIn_76 (by decide) ?_
    refine go_callV (As := [.int r3, .int (2 : Int32)]) (rest := []) dX3_remindedIn_77 lX3_43 kX7_union rfl (by decide) (Nat.le_of_ble_eq_true rfl) (g_lt rfl) (gs_4 G _ _) rfl (by decide) rfl (gI_go (fun r5 μ4 h => ?_)) h
    refine go_iload_n dX3_remindedIn_80 rfl 2 rfl ?_
    refine go_iand dX3_remindedIn_81 ?_
    refine go_iload_n dX3_remindedIn_82 rfl 3 rfl ?_
    refine go_iconst (v := -1) dX3_remindedIn_83 (by decide) ?_
    refine go_ixor dX3_remindedIn_84 ?_
    refine go_iand dX3_remindedIn_85 ?_
    exact go_iret dX3_remindedIn_86 rfl (Nat.le_refl _) (Nat.le_refl _) ⟨_, rfl, h⟩
  · have h := h.2 c1
    refine go_aload_n dX3_remindedIn_13 rfl 0 rfl ?_
    refine go_get (.ref (ga G 4)) dX3_remindedIn_14 fX3_9 (g_lt rfl) (gs_46 G _ _) rfl ?_
    refine go_aload_n dX3_remindedIn_17 rfl 0 rfl ?_
    refine go_get (.ref (ga G 42)) dX3_remindedIn_18 fX3_15 (g_lt rfl) (gs_46 G _ _) rfl ?_
    refine go_iload dX3_remindedIn_21 4 rfl ?_
    refine go_callV (As := [.int x4]) (rest := [.ref (ga G 4)]) dX3_remindedIn_23 lX3_34 kX0_setOf rfl (by decide) (Nat.le_of_ble_eq_true rfl) (g_lt rfl) (gs_42 G _ _) rfl (by decide) rfl (gI_go (fun r7 μ6 h => ?_)) h
    refine go_iconst (v := 2) dX3_remindedIn_26 (by decide) ?_
    refine go_callV (As := [.int r7, .int (2 : Int32)]) (rest := []) dX3_remindedIn_27 lX3_43 kX7_union rfl (by decide) (Nat.le_of_ble_eq_true rfl) (g_lt rfl) (gs_4 G _ _) rfl (by decide) rfl (gI_go (fun r9 μ8 h => ?_)) h
    refine go_istore [(0, .ref (ga G 46)), (1, .int x1), (2, .int x2), (3, .int x3), (4, .int x4), (5, .int r9)] [1, 2, 3, 4, 5, 0] dX3_remindedIn_30 (by decide) rfl ?_
    refine go_iload_n dX3_remindedIn_32 rfl 2 rfl ?_
    refine go_iload dX3_remindedIn_33 5 rfl ?_
    refine go_ior dX3_remindedIn_35 ?_
    refine go_istore_n [(0, .ref (ga G 46)), (1, .int x1), (2, .int (x2 ||| r9)), (3, .int x3), (4, .int x4), (5, .int r9)] [1, 2, 0, 3, 4, 5] dX3_remindedIn_36 rfl (by decide) rfl ?_
    refine go_iload_n dX3_remindedIn_37 rfl 1 rfl ?_
    refine go_iload dX3_remindedIn_38 4 rfl ?_
    refine go_isub dX3_remindedIn_40 ?_
    refine go_aload_n dX3_remindedIn_41 rfl 0 rfl ?_
    refine go_get (.ref (ga G 42)) dX3_remindedIn_42 fX3_15 (g_lt rfl) (gs_46 G _ _) rfl ?_
    refine go_get (.ref (ga G 45)) dX3_remindedIn_45 fX3_19 (g_lt rfl) (gs_42 G _ _) rfl ?_
    refine go_iconst (v := 2) dX3_remindedIn_48 (by decide) ?_
    refine go_ialdv ((gm_r μ8 45 2)) dX3_remindedIn_49 (g_lt rfl) (gs_45 G) (by unfold vp_in; decide) rfl ?_
    refine go_icmp_gt 58 dX3_remindedIn_50 (by decide) (fun c10 => ?_) (fun c10 => ?_)
    · have h := h.1 c10
      refine go_iinc (v := (x4 + (1 : Int32))) [(0, .ref (ga G 46)), (1, .int x1), (2, .int (x2 ||| r9)), (3, .int x3), (4, .int (x4 + (1 : Int32))), (5, .int r9)] [1, 2, 3, 4, 0, 5] 4 dX3_remindedIn_58 rfl rfl (by decide) rfl ?_
      refine go_goto 7 dX3_remindedIn_61 (by decide) ?_
      exact go_sub [0, 1, 2, 3, 4] rfl h
    · have h := h.2 c10
      refine go_iload_n dX3_remindedIn_53 rfl 3 rfl ?_
      refine go_iload dX3_remindedIn_54 5 rfl ?_
      refine go_ior dX3_remindedIn_56 ?_
      refine go_istore_n [(0, .ref (ga G 46)), (1, .int x1), (2, .int (x2 ||| r9)), (3, .int (x3 ||| r9)), (4, .int x4), (5, .int r9)] [1, 2, 3, 0, 4, 5] dX3_remindedIn_57 rfl (by decide) rfl ?_
      refine go_iinc (v := (x4 + (1 : Int32))) [(0, .ref (ga G 46)), (1, .int x1), (2, .int (x2 ||| r9)), (3, .int (x3 ||| r9)), (4, .int (x4 + (1 : Int32))), (5, .int r9)] [1, 2, 3, 4, 0, 5] 4 dX3_remindedIn_58 rfl rfl (by decide) rfl ?_
      refine go_goto 7 dX3_remindedIn_61 (by decide) ?_
      exact go_sub [0, 1, 2, 3, 4] rfl h
set_option maxRecDepth 100000 in
theorem eX3_linesOf {G : gC} {l : Launch} {a1 : Int32} {μ : Mem} {P : Int32 → Mem → Prop} (h : qX3_remindedIn G l a1 μ (fun (r2 : Int32) (μ1 : Mem) => qJ6_bitCount_0f7a4 G l r2 μ1 (fun (r4 : Int32) (μ3 : Mem) => qX0_setOf G l a1 μ3 (fun (r6 : Int32) (μ5 : Mem) => qX7_sum G l r6 (0 : Int32) μ5 (fun (r8 : Int32) (μ7 : Mem) => P (r8 + ((gm_r μ 45 3) * r4)) μ7))))) : qX3_linesOf G l a1 μ P := by
  refine Sp.of (by decide) (Nat.le_of_ble_eq_true rfl) (lv := [(0, .ref (ga G 46)), (1, .int a1)]) rfl ?_
  refine go_aload_n dX3_linesOf_0 rfl 0 rfl ?_
  refine go_get (.ref (ga G 42)) dX3_linesOf_1 fX3_15 (g_lt rfl) (gs_46 G _ _) rfl ?_
  refine go_get (.ref (ga G 45)) dX3_linesOf_4 fX3_19 (g_lt rfl) (gs_42 G _ _) rfl ?_
  refine go_iconst (v := 3) dX3_linesOf_7 (by decide) ?_
  refine go_ialdv ((gm_r μ 45 3)) dX3_linesOf_8 (g_lt rfl) (gs_45 G) (by unfold vp_in; decide) rfl ?_
  refine go_aload_n dX3_linesOf_9 rfl 0 rfl ?_
  refine go_iload_n dX3_linesOf_10 rfl 1 rfl ?_
  refine go_callV (As := [.int a1]) (rest := [.int (gm_r μ 45 3)]) dX3_linesOf_11 lX3_25 kX3_remindedIn rfl (by decide) (Nat.le_of_ble_eq_true rfl) (g_lt rfl) (gs_46 G _ _) rfl (by decide) rfl (gI_go (fun r2 μ1 h => ?_)) h
  refine go_callS (As := [.int r2]) (rest := [.int (gm_r μ 45 3)]) dX3_linesOf_14 lX3_29 kJ6_bitCount_0f7a4 rfl (by decide) (Nat.le_of_ble_eq_true rfl) (by decide) rfl (gI_go (fun r4 μ3 h => ?_)) h
  refine go_imul dX3_linesOf_17 ?_
  refine go_istore_n [(0, .ref (ga G 46)), (1, .int a1), (2, .int ((gm_r μ 45 3) * r4))] [1, 2, 0] dX3_linesOf_18 rfl (by decide) rfl ?_
  refine go_aload_n dX3_linesOf_19 rfl 0 rfl ?_
  refine go_get (.ref (ga G 4)) dX3_linesOf_20 fX3_9 (g_lt rfl) (gs_46 G _ _) rfl ?_
  refine go_aload_n dX3_linesOf_23 rfl 0 rfl ?_
  refine go_get (.ref (ga G 42)) dX3_linesOf_24 fX3_15 (g_lt rfl) (gs_46 G _ _) rfl ?_
  refine go_iload_n dX3_linesOf_27 rfl 1 rfl ?_
  refine go_callV (As := [.int a1]) (rest := [.ref (ga G 4)]) dX3_linesOf_28 lX3_34 kX0_setOf rfl (by decide) (Nat.le_of_ble_eq_true rfl) (g_lt rfl) (gs_42 G _ _) rfl (by decide) rfl (gI_go (fun r6 μ5 h => ?_)) h
  refine go_iconst (v := 0) dX3_linesOf_31 (by decide) ?_
  refine go_callV (As := [.int r6, .int (0 : Int32)]) (rest := []) dX3_linesOf_32 lX3_39 kX7_sum rfl (by decide) (Nat.le_of_ble_eq_true rfl) (g_lt rfl) (gs_4 G _ _) rfl (by decide) rfl (gI_go (fun r8 μ7 h => ?_)) h
  refine go_iload_n dX3_linesOf_35 rfl 2 rfl ?_
  refine go_iadd dX3_linesOf_36 ?_
  exact go_iret dX3_linesOf_37 rfl (Nat.le_refl _) (Nat.le_refl _) ⟨_, rfl, h⟩
set_option maxRecDepth 100000 in
theorem eX9_lines {G : gC} {l : Launch}  {μ : Mem} {P : Int32 → Mem → Prop} (h : qX3_linesOf G l (gm_r μ 42 3) μ (fun (r2 : Int32) (μ1 : Mem) => P r2 μ1)) : qX9_lines G l  μ P := by
  refine Sp.of (by decide) (Nat.le_of_ble_eq_true rfl) (lv := [(0, .ref (ga G 0))]) rfl ?_
  refine go_aload_n dX9_lines_0 rfl 0 rfl ?_
  refine go_get (.ref (ga G 46)) dX9_lines_1 fX9_65 (g_lt rfl) (gs_0 G _ _) rfl ?_
  refine go_aload_n dX9_lines_4 rfl 0 rfl ?_
  refine go_get (.ref (ga G 42)) dX9_lines_5 fX9_56 (g_lt rfl) (gs_0 G _ _) rfl ?_
  refine go_get (.int (gm_r μ 42 3)) dX9_lines_8 fX9_139 (g_lt rfl) (gs_42 G _ _) rfl ?_
  refine go_callV (As := [.int (gm_r μ 42 3)]) (rest := []) dX9_lines_11 lX9_219 kX3_linesOf rfl (by decide) (Nat.le_of_ble_eq_true rfl) (g_lt rfl) (gs_46 G _ _) rfl (by decide) rfl (gI_go (fun r2 μ1 h => ?_)) h
  exact go_iret dX9_lines_14 rfl (Nat.le_refl _) (Nat.le_refl _) ⟨_, rfl, h⟩
set_option maxRecDepth 100000 in
theorem eX0_closeNumber {G : gC} {l : Launch}  {μ : Mem} {P : Mem → Prop} (h : (((12 : Int32) ≤ (gm_r μ 42 3)) → P μ) ∧ ((¬ (12 : Int32) ≤ (gm_r μ 42 3)) → vp_in (gm_r μ 42 3) 12 ∧ P (gm_w (gm_w μ 44 (gm_r μ 42 3).toNatClampNeg (gm_r μ 42 1)) 42 3 ((gm_r μ 42 3) + (1 : Int32))))) : qX0_closeNumber G l  μ P := by
  refine Sp.of (by decide) (Nat.le_of_ble_eq_true rfl) (lv := [(0, .ref (ga G 42))]) rfl ?_
  refine go_aload_n dX0_closeNumber_0 rfl 0 rfl ?_
  refine go_get (.int (gm_r μ 42 3)) dX0_closeNumber_1 fX0_22 (g_lt rfl) (gs_42 G _ _) rfl ?_
  refine go_bipush (v := 12) dX0_closeNumber_4 (by decide) ?_
  refine go_icmp_ge 32 dX0_closeNumber_6 (by decide) (fun c1 => ?_) (fun c1 => ?_)
  · have h := h.1 c1
    exact go_vret dX0_closeNumber_32 rfl (Nat.le_refl _) (Nat.le_refl _) ⟨rfl, h⟩
  · have h := h.2 c1
    refine go_aload_n dX0_closeNumber_9 rfl 0 rfl ?_
    refine go_get (.ref (ga G 44)) dX0_closeNumber_10 fX0_19 (g_lt rfl) (gs_42 G _ _) rfl ?_
    refine go_aload_n dX0_closeNumber_13 rfl 0 rfl ?_
    refine go_get (.int (gm_r μ 42 3)) dX0_closeNumber_14 fX0_22 (g_lt rfl) (gs_42 G _ _) rfl ?_
    refine go_aload_n dX0_closeNumber_17 rfl 0 rfl ?_
    refine go_get (.int (gm_r μ 42 1)) dX0_closeNumber_18 fX0_15 (g_lt rfl) (gs_42 G _ _) rfl ?_
    obtain ⟨b2, h⟩ := h
    refine go_iast dX0_closeNumber_21 (g_lt rfl) (gs_44 G) b2 ?_
    refine go_aload_n dX0_closeNumber_22 rfl 0 rfl ?_
    refine go_dup dX0_closeNumber_23 rfl ?_
    refine go_get (.int (gm_r μ 42 3)) dX0_closeNumber_24 fX0_22 (g_lt rfl) (gs_42 G _ _) rfl ?_
    refine go_iconst (v := 1) dX0_closeNumber_27 (by decide) ?_
    refine go_iadd dX0_closeNumber_28 ?_
    refine go_puti dX0_closeNumber_29 pX0_22 (g_lt rfl) (gs_42 G _ _) (Nat.le_of_ble_eq_true rfl) rfl ?_
    exact go_vret dX0_closeNumber_32 rfl (Nat.le_refl _) (Nat.le_refl _) ⟨rfl, h⟩
set_option maxRecDepth 100000 in
theorem eX9_print {G : gC} {l : Launch}  {μ : Mem} {P : Int32 → Mem → Prop} (h : qX0_drafted G l  μ (fun (r2 : Int32) (μ1 : Mem) => ((¬ r2 = 0) → qX3_linesOf G l (gm_r μ1 42 3) μ1 (fun (r5 : Int32) (μ4 : Mem) => ((r5 < (gm_r μ4 45 0)) → P (-1003 : Int32) μ4) ∧ ((¬ r5 < (gm_r μ4 45 0)) → ((r5 ≤ (gm_r μ4 45 1)) → (((gm_r μ4 42 3) < (12 : Int32)) → qX0_closeNumber G l  μ4 (fun (μ9 : Mem) => qX9_forgetPlans G l  μ9 (fun (μ11 : Mem) => P ((gm_r μ11 42 3) - (1 : Int32)) μ11))) ∧ ((¬ (gm_r μ4 42 3) < (12 : Int32)) → P (-1004 : Int32) μ4)) ∧ ((¬ r5 ≤ (gm_r μ4 45 1)) → P (-1003 : Int32) μ4)))) ∧ ((r2 = 0) → P (-1003 : Int32) μ1))) : qX9_print G l  μ P := by
  refine Sp.of (by decide) (Nat.le_of_ble_eq_true rfl) (lv := [(0, .ref (ga G 0))]) rfl ?_
  refine go_aload_n dX9_print_0 rfl 0 rfl ?_
  refine go_get (.ref (ga G 42)) dX9_print_1 fX9_56 (g_lt rfl) (gs_0 G _ _) rfl ?_
  refine go_callV (As := []) (rest := []) dX9_print_4 lX9_142 kX0_drafted rfl (by decide) (Nat.le_of_ble_eq_true rfl) (g_lt rfl) (gs_42 G _ _) rfl (by decide) rfl (gI_go (fun r2 μ1 h => ?_)) h
  refine go_if_ne 14 dX9_print_7 (by decide) (fun c3 => ?_) (fun c3 => ?_)
  · have h := h.1 c3
    refine go_aload_n dX9_print_14 rfl 0 rfl ?_
    refine go_get (.ref (ga G 46)) dX9_print_15 fX9_65 (g_lt rfl) (gs_0 G _ _) rfl ?_
    refine go_aload_n dX9_print_18 rfl 0 rfl ?_
    refine go_get (.ref (ga G 42)) dX9_print_19 fX9_56 (g_lt rfl) (gs_0 G _ _) rfl ?_
    refine go_get (.int (gm_r μ1 42 3)) dX9_print_22 fX9_139 (g_lt rfl) (gs_42 G _ _) rfl ?_
    refine go_callV (As := [.int (gm_r μ1 42 3)]) (rest := []) dX9_print_25 lX9_219 kX3_linesOf rfl (by decide) (Nat.le_of_ble_eq_true rfl) (g_lt rfl) (gs_46 G _ _) rfl (by decide) rfl (gI_go (fun r5 μ4 h => ?_)) h
    refine go_istore_n [(0, .ref (ga G 0)), (1, .int r5)] [1, 0] dX9_print_28 rfl (by decide) rfl ?_
    refine go_iload_n dX9_print_29 rfl 1 rfl ?_
    refine go_aload_n dX9_print_30 rfl 0 rfl ?_
    refine go_get (.ref (ga G 42)) dX9_print_31 fX9_56 (g_lt rfl) (gs_0 G _ _) rfl ?_
    refine go_get (.ref (ga G 45)) dX9_print_34 fX9_206 (g_lt rfl) (gs_42 G _ _) rfl ?_
    refine go_iconst (v := 0) dX9_print_37 (by decide) ?_
    refine go_ialdv ((gm_r μ4 45 0)) dX9_print_38 (g_lt rfl) (gs_45 G) (by unfold vp_in; decide) rfl ?_
    refine go_icmp_lt 55 dX9_print_39 (by decide) (fun c6 => ?_) (fun c6 => ?_)
    · have h := h.1 c6
      refine go_sipush (v := -1003) dX9_print_55 (by decide) ?_
      exact go_iret dX9_print_58 rfl (Nat.le_refl _) (Nat.le_refl _) ⟨_, rfl, h⟩
    · have h := h.2 c6
      refine go_iload_n dX9_print_42 rfl 1 rfl ?_
      refine go_aload_n dX9_print_43 rfl 0 rfl ?_
      refine go_get (.ref (ga G 42)) dX9_print_44 fX9_56 (g_lt rfl) (gs_0 G _ _) rfl ?_
      refine go_get (.ref (ga G 45)) dX9_print_47 fX9_206 (g_lt rfl) (gs_42 G _ _) rfl ?_
      refine go_iconst (v := 1) dX9_print_50 (by decide) ?_
      refine go_ialdv ((gm_r μ4 45 1)) dX9_print_51 (g_lt rfl) (gs_45 G) (by unfold vp_in; decide) rfl ?_
      refine go_icmp_le 59 dX9_print_52 (by decide) (fun c7 => ?_) (fun c7 => ?_)
      · have h := h.1 c7
        refine go_aload_n dX9_print_59 rfl 0 rfl ?_
        refine go_get (.ref (ga G 42)) dX9_print_60 fX9_56 (g_lt rfl) (gs_0 G _ _) rfl ?_
        refine go_get (.int (gm_r μ4 42 3)) dX9_print_63 fX9_139 (g_lt rfl) (gs_42 G _ _) rfl ?_
        refine go_bipush (v := 12) dX9_print_66 (by decide) ?_
        refine go_icmp_lt 75 dX9_print_68 (by decide) (fun c8 => ?_) (fun c8 => ?_)
        · have h := h.1 c8
          refine go_aload_n dX9_print_75 rfl 0 rfl ?_
          refine go_get (.ref (ga G 42)) dX9_print_76 fX9_56 (g_lt rfl) (gs_0 G _ _) rfl ?_
          refine go_callV (As := []) (rest := []) dX9_print_79 lX9_222 kX0_closeNumber rfl (by decide) (Nat.le_of_ble_eq_true rfl) (g_lt rfl) (gs_42 G _ _) rfl (by decide) rfl (gV_go (fun μ9 h => ?_)) h
          refine go_aload_n dX9_print_82 rfl 0 rfl ?_
          refine go_callV (As := []) (rest := []) dX9_print_83 lX9_106 kX9_forgetPlans rfl (by decide) (Nat.le_of_ble_eq_true rfl) (g_lt rfl) (gs_0 G _ _) rfl (by decide) rfl (gV_go (fun μ11 h => ?_)) h
          refine go_aload_n dX9_print_86 rfl 0 rfl ?_
          refine go_get (.ref (ga G 42)) dX9_print_87 fX9_56 (g_lt rfl) (gs_0 G _ _) rfl ?_
          refine go_get (.int (gm_r μ11 42 3)) dX9_print_90 fX9_139 (g_lt rfl) (gs_42 G _ _) rfl ?_
          refine go_iconst (v := 1) dX9_print_93 (by decide) ?_
          refine go_isub dX9_print_94 ?_
          exact go_iret dX9_print_95 rfl (Nat.le_refl _) (Nat.le_refl _) ⟨_, rfl, h⟩
        · have h := h.2 c8
          refine go_sipush (v := -1004) dX9_print_71 (by decide) ?_
          exact go_iret dX9_print_74 rfl (Nat.le_refl _) (Nat.le_refl _) ⟨_, rfl, h⟩
      · have h := h.2 c7
        refine go_sipush (v := -1003) dX9_print_55 (by decide) ?_
        exact go_iret dX9_print_58 rfl (Nat.le_refl _) (Nat.le_refl _) ⟨_, rfl, h⟩
  · have h := h.2 c3
    refine go_sipush (v := -1003) dX9_print_10 (by decide) ?_
    exact go_iret dX9_print_13 rfl (Nat.le_refl _) (Nat.le_refl _) ⟨_, rfl, h⟩
set_option maxRecDepth 100000 in
theorem eX0_sceneOf {G : gC} {l : Launch} {a1 : Int32} {a2 : Int32} {μ : Mem} {P : Int32 → Mem → Prop} (h : qX0_start G l a1 μ (fun (r2 : Int32) (μ1 : Mem) => ((a2 < 0) → P (-1 : Int32) μ1) ∧ ((¬ a2 < 0) → qX0_end G l a1 μ1 (fun (r5 : Int32) (μ4 : Mem) => (((r2 + a2) < r5) → vp_in (r2 + a2) 10 ∧ P (gm_r μ4 43 (r2 + a2).toNatClampNeg) μ4) ∧ ((¬ (r2 + a2) < r5) → P (-1 : Int32) μ4))))) : qX0_sceneOf G l a1 a2 μ P := by
  refine Sp.of (by decide) (Nat.le_of_ble_eq_true rfl) (lv := [(0, .ref (ga G 42)), (1, .int a1), (2, .int a2)]) rfl ?_
  refine go_aload_n dX0_sceneOf_0 rfl 0 rfl ?_
  refine go_iload_n dX0_sceneOf_1 rfl 1 rfl ?_
  refine go_callV (As := [.int a1]) (rest := []) dX0_sceneOf_2 lX0_48 kX0_start rfl (by decide) (Nat.le_of_ble_eq_true rfl) (g_lt rfl) (gs_42 G _ _) rfl (by decide) rfl (gI_go (fun r2 μ1 h => ?_)) h
  refine go_iload_n dX0_sceneOf_5 rfl 2 rfl ?_
  refine go_iadd dX0_sceneOf_6 ?_
  refine go_istore_n [(0, .ref (ga G 42)), (1, .int a1), (2, .int a2), (3, .int (r2 + a2))] [1, 2, 3, 0] dX0_sceneOf_7 rfl (by decide) rfl ?_
  refine go_iload_n dX0_sceneOf_8 rfl 2 rfl ?_
  refine go_if_lt 21 dX0_sceneOf_9 (by decide) (fun c3 => ?_) (fun c3 => ?_)
  · have h := h.1 c3
    refine go_iconst (v := -1) dX0_sceneOf_21 (by decide) ?_
    refine go_goto 31 dX0_sceneOf_22 (by decide) ?_
    exact go_iret dX0_sceneOf_31 rfl (Nat.le_refl _) (Nat.le_refl _) ⟨_, rfl, h⟩
  · have h := h.2 c3
    refine go_iload_n dX0_sceneOf_12 rfl 3 rfl ?_
    refine go_aload_n dX0_sceneOf_13 rfl 0 rfl ?_
    refine go_iload_n dX0_sceneOf_14 rfl 1 rfl ?_
    refine go_callV (As := [.int a1]) (rest := [.int (r2 + a2)]) dX0_sceneOf_15 lX0_56 kX0_end rfl (by decide) (Nat.le_of_ble_eq_true rfl) (g_lt rfl) (gs_42 G _ _) rfl (by decide) rfl (gI_go (fun r5 μ4 h => ?_)) h
    refine go_icmp_lt 25 dX0_sceneOf_18 (by decide) (fun c6 => ?_) (fun c6 => ?_)
    · have h := h.1 c6
      refine go_aload_n dX0_sceneOf_25 rfl 0 rfl ?_
      refine go_get (.ref (ga G 43)) dX0_sceneOf_26 fX0_9 (g_lt rfl) (gs_42 G _ _) rfl ?_
      refine go_iload_n dX0_sceneOf_29 rfl 3 rfl ?_
      obtain ⟨b7, h⟩ := h
      refine go_ialdv ((gm_r μ4 43 (r2 + a2).toNatClampNeg)) dX0_sceneOf_30 (g_lt rfl) (gs_43 G) b7 rfl ?_
      exact go_iret dX0_sceneOf_31 rfl (Nat.le_refl _) (Nat.le_refl _) ⟨_, rfl, h⟩
    · have h := h.2 c6
      refine go_iconst (v := -1) dX0_sceneOf_21 (by decide) ?_
      refine go_goto 31 dX0_sceneOf_22 (by decide) ?_
      exact go_iret dX0_sceneOf_31 rfl (Nat.le_refl _) (Nat.le_refl _) ⟨_, rfl, h⟩
set_option maxRecDepth 100000 in
theorem eX3_openBehindNumber {G : gC} {l : Launch} {a1 : Int32} {μ : Mem} {P : Int32 → Mem → Prop} (h : qX0_end G l a1 μ (fun (r2 : Int32) (μ1 : Mem) => qX0_setUpTo G l r2 μ1 (fun (r4 : Int32) (μ3 : Mem) => qX7_openBehind G l r4 μ3 (fun (r6 : Int32) (μ5 : Mem) => P r6 μ5)))) : qX3_openBehindNumber G l a1 μ P := by
  refine Sp.of (by decide) (Nat.le_of_ble_eq_true rfl) (lv := [(0, .ref (ga G 46)), (1, .int a1)]) rfl ?_
  refine go_aload_n dX3_openBehindNumber_0 rfl 0 rfl ?_
  refine go_get (.ref (ga G 4)) dX3_openBehindNumber_1 fX3_9 (g_lt rfl) (gs_46 G _ _) rfl ?_
  refine go_aload_n dX3_openBehindNumber_4 rfl 0 rfl ?_
  refine go_get (.ref (ga G 42)) dX3_openBehindNumber_5 fX3_15 (g_lt rfl) (gs_46 G _ _) rfl ?_
  refine go_aload_n dX3_openBehindNumber_8 rfl 0 rfl ?_
  refine go_get (.ref (ga G 42)) dX3_openBehindNumber_9 fX3_15 (g_lt rfl) (gs_46 G _ _) rfl ?_
  refine go_iload_n dX3_openBehindNumber_12 rfl 1 rfl ?_
  refine go_callV (As := [.int a1]) (rest := [.ref (ga G 42), .ref (ga G 4)]) dX3_openBehindNumber_13 lX3_46 kX0_end rfl (by decide) (Nat.le_of_ble_eq_true rfl) (g_lt rfl) (gs_42 G _ _) rfl (by decide) rfl (gI_go (fun r2 μ1 h => ?_)) h
  refine go_callV (As := [.int r2]) (rest := [.ref (ga G 4)]) dX3_openBehindNumber_16 lX3_49 kX0_setUpTo rfl (by decide) (Nat.le_of_ble_eq_true rfl) (g_lt rfl) (gs_42 G _ _) rfl (by decide) rfl (gI_go (fun r4 μ3 h => ?_)) h
  refine go_callV (As := [.int r4]) (rest := []) dX3_openBehindNumber_19 lX3_52 kX7_openBehind rfl (by decide) (Nat.le_of_ble_eq_true rfl) (g_lt rfl) (gs_4 G _ _) rfl (by decide) rfl (gI_go (fun r6 μ5 h => ?_)) h
  exact go_iret dX3_openBehindNumber_22 rfl (Nat.le_refl _) (Nat.le_refl _) ⟨_, rfl, h⟩
set_option maxRecDepth 100000 in
theorem eX3_pullOf {G : gC} {l : Launch} {a1 : Int32} {μ : Mem} {P : Int32 → Mem → Prop} (h : qX3_openBehindNumber G l a1 μ (fun (r2 : Int32) (μ1 : Mem) => qX0_setOf G l a1 μ1 (fun (r4 : Int32) (μ3 : Mem) => qX7_sum G l r4 (1 : Int32) μ3 (fun (r6 : Int32) (μ5 : Mem) => qJ6_bitCount_0f7a4 G l r2 μ5 (fun (r8 : Int32) (μ7 : Mem) => qX0_end G l a1 μ7 (fun (r10 : Int32) (μ9 : Mem) => qX0_start G l a1 μ9 (fun (r12 : Int32) (μ11 : Mem) => qX0_sceneOf G l a1 ((r10 - r12) - (1 : Int32)) μ11 (fun (r14 : Int32) (μ13 : Mem) => qX7_cell G l r14 (4 : Int32) μ13 (fun (r16 : Int32) (μ15 : Mem) => (((r16 &&& r2) = 0) → (((4 : Int32) ≤ a1) → qX0_end G l (a1 - (4 : Int32)) μ15 (fun (r20 : Int32) (μ19 : Mem) => qX0_setUpTo G l r20 μ19 (fun (r22 : Int32) (μ21 : Mem) => hX3_pullOf_120 G l P r2 (r6 + ((gm_r μ5 45 5) * r8)) r22 μ21))) ∧ ((¬ (4 : Int32) ≤ a1) → hX3_pullOf_120 G l P r2 (r6 + ((gm_r μ5 45 5) * r8)) (0 : Int32) μ15)) ∧ ((¬ (r16 &&& r2) = 0) → ∀ v23 : Int32, v23 = ((r6 + ((gm_r μ5 45 5) * r8)) + (gm_r μ15 45 4)) → (((4 : Int32) ≤ a1) → qX0_end G l (a1 - (4 : Int32)) μ15 (fun (r26 : Int32) (μ25 : Mem) => qX0_setUpTo G l r26 μ25 (fun (r28 : Int32) (μ27 : Mem) => hX3_pullOf_120 G l P r2 v23 r28 μ27))) ∧ ((¬ (4 : Int32) ≤ a1) → hX3_pullOf_120 G l P r2 v23 (0 : Int32) μ15))))))))))) : qX3_pullOf G l a1 μ P := by
  refine Sp.of (by decide) (Nat.le_of_ble_eq_true rfl) (lv := [(0, .ref (ga G 46)), (1, .int a1)]) rfl ?_
  refine go_aload_n dX3_pullOf_0 rfl 0 rfl ?_
  refine go_iload_n dX3_pullOf_1 rfl 1 rfl ?_
  refine go_callV (As := [.int a1]) (rest := []) dX3_pullOf_2 lX3_55 kX3_openBehindNumber rfl (by decide) (Nat.le_of_ble_eq_true rfl) (g_lt rfl) (gs_46 G _ _) rfl (by decide) rfl (gI_go (fun r2 μ1 h => ?_)) h
  refine go_istore_n [(0, .ref (ga G 46)), (1, .int a1), (2, .int r2)] [1, 2, 0] dX3_pullOf_5 rfl (by decide) rfl ?_
  refine go_aload_n dX3_pullOf_6 rfl 0 rfl ?_
  refine go_get (.ref (ga G 4)) dX3_pullOf_7 fX3_9 (g_lt rfl) (gs_46 G _ _) rfl ?_
  refine go_aload_n dX3_pullOf_10 rfl 0 rfl ?_
  refine go_get (.ref (ga G 42)) dX3_pullOf_11 fX3_15 (g_lt rfl) (gs_46 G _ _) rfl ?_
  refine go_iload_n dX3_pullOf_14 rfl 1 rfl ?_
  refine go_callV (As := [.int a1]) (rest := [.ref (ga G 4)]) dX3_pullOf_15 lX3_34 kX0_setOf rfl (by decide) (Nat.le_of_ble_eq_true rfl) (g_lt rfl) (gs_42 G _ _) rfl (by decide) rfl (gI_go (fun r4 μ3 h => ?_)) h
  refine go_iconst (v := 1) dX3_pullOf_18 (by decide) ?_
  refine go_callV (As := [.int r4, .int (1 : Int32)]) (rest := []) dX3_pullOf_19 lX3_39 kX7_sum rfl (by decide) (Nat.le_of_ble_eq_true rfl) (g_lt rfl) (gs_4 G _ _) rfl (by decide) rfl (gI_go (fun r6 μ5 h => ?_)) h
  refine go_aload_n dX3_pullOf_22 rfl 0 rfl ?_
  refine go_get (.ref (ga G 42)) dX3_pullOf_23 fX3_15 (g_lt rfl) (gs_46 G _ _) rfl ?_
  refine go_get (.ref (ga G 45)) dX3_pullOf_26 fX3_19 (g_lt rfl) (gs_42 G _ _) rfl ?_
  refine go_iconst (v := 5) dX3_pullOf_29 (by decide) ?_
  refine go_ialdv ((gm_r μ5 45 5)) dX3_pullOf_30 (g_lt rfl) (gs_45 G) (by unfold vp_in; decide) rfl ?_
  refine go_iload_n dX3_pullOf_31 rfl 2 rfl ?_
  refine go_callS (As := [.int r2]) (rest := [.int (gm_r μ5 45 5), .int r6]) dX3_pullOf_32 lX3_29 kJ6_bitCount_0f7a4 rfl (by decide) (Nat.le_of_ble_eq_true rfl) (by decide) rfl (gI_go (fun r8 μ7 h => ?_)) h
  refine go_imul dX3_pullOf_35 ?_
  refine go_iadd dX3_pullOf_36 ?_
  refine go_istore_n [(0, .ref (ga G 46)), (1, .int a1), (2, .int r2), (3, .int (r6 + ((gm_r μ5 45 5) * r8)))] [1, 2, 3, 0] dX3_pullOf_37 rfl (by decide) rfl ?_
  refine go_aload_n dX3_pullOf_38 rfl 0 rfl ?_
  refine go_get (.ref (ga G 42)) dX3_pullOf_39 fX3_15 (g_lt rfl) (gs_46 G _ _) rfl ?_
  refine go_iload_n dX3_pullOf_42 rfl 1 rfl ?_
  refine go_aload_n dX3_pullOf_43 rfl 0 rfl ?_
  refine go_get (.ref (ga G 42)) dX3_pullOf_44 fX3_15 (g_lt rfl) (gs_46 G _ _) rfl ?_
  refine go_iload_n dX3_pullOf_47 rfl 1 rfl ?_
  refine go_callV (As := [.int a1]) (rest := [.int a1, .ref (ga G 42)]) dX3_pullOf_48 lX3_46 kX0_end rfl (by decide) (Nat.le_of_ble_eq_true rfl) (g_lt rfl) (gs_42 G _ _) rfl (by decide) rfl (gI_go (fun r10 μ9 h => ?_)) h
  refine go_aload_n dX3_pullOf_51 rfl 0 rfl ?_
  refine go_get (.ref (ga G 42)) dX3_pullOf_52 fX3_15 (g_lt rfl) (gs_46 G _ _) rfl ?_
  refine go_iload_n dX3_pullOf_55 rfl 1 rfl ?_
  refine go_callV (As := [.int a1]) (rest := [.int r10, .int a1, .ref (ga G 42)]) dX3_pullOf_56 lX3_58 kX0_start rfl (by decide) (Nat.le_of_ble_eq_true rfl) (g_lt rfl) (gs_42 G _ _) rfl (by decide) rfl (gI_go (fun r12 μ11 h => ?_)) h
  refine go_isub dX3_pullOf_59 ?_
  refine go_iconst (v := 1) dX3_pullOf_60 (by decide) ?_
  refine go_isub dX3_pullOf_61 ?_
  refine go_callV (As := [.int a1, .int ((r10 - r12) - (1 : Int32))]) (rest := []) dX3_pullOf_62 lX3_61 kX0_sceneOf rfl (by decide) (Nat.le_of_ble_eq_true rfl) (g_lt rfl) (gs_42 G _ _) rfl (by decide) rfl (gI_go (fun r14 μ13 h => ?_)) h
  refine go_istore [(0, .ref (ga G 46)), (1, .int a1), (2, .int r2), (3, .int (r6 + ((gm_r μ5 45 5) * r8))), (4, .int r14)] [1, 2, 3, 4, 0] dX3_pullOf_65 (by decide) rfl ?_
  refine go_aload_n dX3_pullOf_67 rfl 0 rfl ?_
  refine go_get (.ref (ga G 4)) dX3_pullOf_68 fX3_9 (g_lt rfl) (gs_46 G _ _) rfl ?_
  refine go_iload dX3_pullOf_71 4 rfl ?_
  refine go_iconst (v := 4) dX3_pullOf_73 (by decide) ?_
  refine go_callV (As := [.int r14, .int (4 : Int32)]) (rest := []) dX3_pullOf_74 lX3_64 kX7_cell rfl (by decide) (Nat.le_of_ble_eq_true rfl) (g_lt rfl) (gs_4 G _ _) rfl (by decide) rfl (gI_go (fun r16 μ15 h => ?_)) h
  refine go_iload_n dX3_pullOf_77 rfl 2 rfl ?_
  refine go_iand dX3_pullOf_78 ?_
  refine go_if_eq 94 dX3_pullOf_79 (by decide) (fun c17 => ?_) (fun c17 => ?_)
  · have h := h.1 c17
    refine go_iload_n dX3_pullOf_94 rfl 1 rfl ?_
    refine go_iconst (v := 4) dX3_pullOf_95 (by decide) ?_
    refine go_icmp_ge 103 dX3_pullOf_96 (by decide) (fun c18 => ?_) (fun c18 => ?_)
    · have h := h.1 c18
      refine go_aload_n dX3_pullOf_103 rfl 0 rfl ?_
      refine go_get (.ref (ga G 42)) dX3_pullOf_104 fX3_15 (g_lt rfl) (gs_46 G _ _) rfl ?_
      refine go_aload_n dX3_pullOf_107 rfl 0 rfl ?_
      refine go_get (.ref (ga G 42)) dX3_pullOf_108 fX3_15 (g_lt rfl) (gs_46 G _ _) rfl ?_
      refine go_iload_n dX3_pullOf_111 rfl 1 rfl ?_
      refine go_iconst (v := 4) dX3_pullOf_112 (by decide) ?_
      refine go_isub dX3_pullOf_113 ?_
      refine go_callV (As := [.int (a1 - (4 : Int32))]) (rest := [.ref (ga G 42)]) dX3_pullOf_114 lX3_46 kX0_end rfl (by decide) (Nat.le_of_ble_eq_true rfl) (g_lt rfl) (gs_42 G _ _) rfl (by decide) rfl (gI_go (fun r20 μ19 h => ?_)) h
      refine go_callV (As := [.int r20]) (rest := []) dX3_pullOf_117 lX3_49 kX0_setUpTo rfl (by decide) (Nat.le_of_ble_eq_true rfl) (g_lt rfl) (gs_42 G _ _) rfl (by decide) rfl (gI_go (fun r22 μ21 h => ?_)) h
      exact go_sub [0, 2, 3] rfl h
    · have h := h.2 c18
      refine go_iconst (v := 0) dX3_pullOf_99 (by decide) ?_
      refine go_goto 120 dX3_pullOf_100 (by decide) ?_
      exact go_sub [0, 2, 3] rfl h
  · have h := h.2 c17
    refine go_iload_n dX3_pullOf_82 rfl 3 rfl ?_
    refine go_aload_n dX3_pullOf_83 rfl 0 rfl ?_
    refine go_get (.ref (ga G 42)) dX3_pullOf_84 fX3_15 (g_lt rfl) (gs_46 G _ _) rfl ?_
    refine go_get (.ref (ga G 45)) dX3_pullOf_87 fX3_19 (g_lt rfl) (gs_42 G _ _) rfl ?_
    refine go_iconst (v := 4) dX3_pullOf_90 (by decide) ?_
    refine go_ialdv ((gm_r μ15 45 4)) dX3_pullOf_91 (g_lt rfl) (gs_45 G) (by unfold vp_in; decide) rfl ?_
    refine go_iadd dX3_pullOf_92 ?_
    refine go_topi (fun v23 e_v23 => ?_)
    have h := h v23 e_v23
    refine go_istore_n [(0, .ref (ga G 46)), (1, .int a1), (2, .int r2), (3, .int v23), (4, .int r14)] [1, 2, 3, 0, 4] dX3_pullOf_93 rfl (by decide) rfl ?_
    refine go_iload_n dX3_pullOf_94 rfl 1 rfl ?_
    refine go_iconst (v := 4) dX3_pullOf_95 (by decide) ?_
    refine go_icmp_ge 103 dX3_pullOf_96 (by decide) (fun c24 => ?_) (fun c24 => ?_)
    · have h := h.1 c24
      refine go_aload_n dX3_pullOf_103 rfl 0 rfl ?_
      refine go_get (.ref (ga G 42)) dX3_pullOf_104 fX3_15 (g_lt rfl) (gs_46 G _ _) rfl ?_
      refine go_aload_n dX3_pullOf_107 rfl 0 rfl ?_
      refine go_get (.ref (ga G 42)) dX3_pullOf_108 fX3_15 (g_lt rfl) (gs_46 G _ _) rfl ?_
      refine go_iload_n dX3_pullOf_111 rfl 1 rfl ?_
      refine go_iconst (v := 4) dX3_pullOf_112 (by decide) ?_
      refine go_isub dX3_pullOf_113 ?_
      refine go_callV (As := [.int (a1 - (4 : Int32))]) (rest := [.ref (ga G 42)]) dX3_pullOf_114 lX3_46 kX0_end rfl (by decide) (Nat.le_of_ble_eq_true rfl) (g_lt rfl) (gs_42 G _ _) rfl (by decide) rfl (gI_go (fun r26 μ25 h => ?_)) h
      refine go_callV (As := [.int r26]) (rest := []) dX3_pullOf_117 lX3_49 kX0_setUpTo rfl (by decide) (Nat.le_of_ble_eq_true rfl) (g_lt rfl) (gs_42 G _ _) rfl (by decide) rfl (gI_go (fun r28 μ27 h => ?_)) h
      exact go_sub [0, 2, 3] rfl h
    · have h := h.2 c24
      refine go_iconst (v := 0) dX3_pullOf_99 (by decide) ?_
      refine go_goto 120 dX3_pullOf_100 (by decide) ?_
      exact go_sub [0, 2, 3] rfl h
set_option maxRecDepth 100000 in
theorem eX3_pullOf_120 {G : gC} {l : Launch} {P : Int32 → Mem → Prop} {x2 : Int32} {x3 : Int32} {y0 : Int32} {μ : Mem} (h : qX7_union G l y0 (4 : Int32) μ (fun (r30 : Int32) (μ29 : Mem) => qJ6_bitCount_0f7a4 G l (x2 &&& r30) μ29 (fun (r32 : Int32) (μ31 : Mem) => P (x3 - ((gm_r μ 45 6) * r32)) μ31))) : hX3_pullOf_120 G l P x2 x3 y0 μ := by
  refine go_istore [(0, .ref (ga G 46)), (2, .int x2), (3, .int x3), (5, .int y0)] [1, 2, 3, 0] dX3_pullOf_120 (by decide) rfl ?_
  refine go_iload_n dX3_pullOf_122 rfl 2 rfl ?_
  refine go_aload_n dX3_pullOf_123 rfl 0 rfl ?_
  refine go_get (.ref (ga G 42)) dX3_pullOf_124 fX3_15 (g_lt rfl) (gs_46 G _ _) rfl ?_
  refine go_get (.ref (ga G 45)) dX3_pullOf_127 fX3_19 (g_lt rfl) (gs_42 G _ _) rfl ?_
  refine go_bipush (v := 6) dX3_pullOf_130 (by decide) ?_
  refine go_ialdv ((gm_r μ 45 6)) dX3_pullOf_132 (g_lt rfl) (gs_45 G) (by unfold vp_in; decide) rfl ?_
  refine go_iload_n dX3_pullOf_133 rfl 1 rfl ?_
  refine go_aload_n dX3_pullOf_134 rfl 0 rfl ?_
  refine go_get (.ref (ga G 4)) dX3_pullOf_135 fX3_9 (g_lt rfl) (gs_46 G _ _) rfl ?_
  refine go_iload dX3_pullOf_138 3 rfl ?_
  refine go_iconst (v := 4) dX3_pullOf_140 (by decide) ?_
  refine go_callV (As := [.int y0, .int (4 : Int32)]) (rest := [.int x2, .int (gm_r μ 45 6), .int x3]) dX3_pullOf_141 lX3_43 kX7_union rfl (by decide) (Nat.le_of_ble_eq_true rfl) (g_lt rfl) (gs_4 G _ _) rfl (by decide) rfl (gI_go (fun r30 μ29 h => ?_)) h
  refine go_iand dX3_pullOf_144 ?_
  refine go_callS (As := [.int (x2 &&& r30)]) (rest := [.int (gm_r μ 45 6), .int x3]) dX3_pullOf_145 lX3_29 kJ6_bitCount_0f7a4 rfl (by decide) (Nat.le_of_ble_eq_true rfl) (by decide) rfl (gI_go (fun r32 μ31 h => ?_)) h
  refine go_imul dX3_pullOf_148 ?_
  refine go_isub dX3_pullOf_149 ?_
  exact go_iret dX3_pullOf_150 rfl (Nat.le_refl _) (Nat.le_refl _) ⟨_, rfl, h⟩
set_option maxRecDepth 100000 in
theorem eX3_readersBehind {G : gC} {l : Launch} {a1 : Int32} {μ : Mem} {P : Int32 → Mem → Prop} (h : hX3_readersBehind_7 G l P a1 (1000 : Int64) (0 : Int32) μ) : qX3_readersBehind G l a1 μ P := by
  refine Sp.of (by decide) (Nat.le_of_ble_eq_true rfl) (lv := [(0, .ref (ga G 46)), (1, .int a1)]) rfl ?_
  refine go_ldc2_w (v := 1000) (g_in 780 (by decide +kernel) rfl) dX3_readersBehind_0 ?_
  refine go_lstore_n [(0, .ref (ga G 46)), (1, .int a1), (2, .long (1000 : Int64))] [1, 2, 0] dX3_readersBehind_3 rfl (by decide) rfl ?_
  refine go_iconst (v := 0) dX3_readersBehind_4 (by decide) ?_
  refine go_istore [(0, .ref (ga G 46)), (1, .int a1), (2, .long (1000 : Int64)), (4, .int (0 : Int32))] [1, 2, 3, 0] dX3_readersBehind_5 (by decide) rfl ?_
  exact h
set_option maxRecDepth 100000 in
theorem eX3_readersBehind_7 {G : gC} {l : Launch} {P : Int32 → Mem → Prop} {x1 : Int32} {x2 : Int64} {x4 : Int32} {μ : Mem} (h : ((x1 < x4) → P (x2).toInt32 μ) ∧ ((¬ x1 < x4) → qX3_pullOf G l x4 μ (fun (r3 : Int32) (μ2 : Mem) => ∀ v4 : Int64, v4 = ((x2 * ((((100 : Int32) - (gm_r μ 45 7)) + r3)).toInt64) / (100 : Int64)) → ∀ v5 : Int64, v5 = (if (if v4 < (1000000000 : Int64) then v4 else (1000000000 : Int64)) < (0 : Int64) then (0 : Int64) else (if v4 < (1000000000 : Int64) then v4 else (1000000000 : Int64))) → hX3_readersBehind_7 G l P x1 v5 (x4 + (1 : Int32)) μ2))) : hX3_readersBehind_7 G l P x1 x2 x4 μ := by
  refine go_iload dX3_readersBehind_7 3 rfl ?_
  refine go_iload_n dX3_readersBehind_9 rfl 1 rfl ?_
  refine go_icmp_gt 59 dX3_readersBehind_10 (by decide) (fun c1 => ?_) (fun c1 => ?_)
  · have h := h.1 c1
    refine go_lload_n dX3_readersBehind_59 rfl 2 rfl ?_
    refine go_l2i dX3_readersBehind_60 ?_
    exact go_iret dX3_readersBehind_61 rfl (Nat.le_refl _) (Nat.le_refl _) ⟨_, rfl, h⟩
  · have h := h.2 c1
    refine go_lload_n dX3_readersBehind_13 rfl 2 rfl ?_
    refine go_bipush (v := 100) dX3_readersBehind_14 (by decide) ?_
    refine go_aload_n dX3_readersBehind_16 rfl 0 rfl ?_
    refine go_get (.ref (ga G 42)) dX3_readersBehind_17 fX3_15 (g_lt rfl) (gs_46 G _ _) rfl ?_
    refine go_get (.ref (ga G 45)) dX3_readersBehind_20 fX3_19 (g_lt rfl) (gs_42 G _ _) rfl ?_
    refine go_bipush (v := 7) dX3_readersBehind_23 (by decide) ?_
    refine go_ialdv ((gm_r μ 45 7)) dX3_readersBehind_25 (g_lt rfl) (gs_45 G) (by unfold vp_in; decide) rfl ?_
    refine go_isub dX3_readersBehind_26 ?_
    refine go_aload_n dX3_readersBehind_27 rfl 0 rfl ?_
    refine go_iload dX3_readersBehind_28 3 rfl ?_
    refine go_callV (As := [.int x4]) (rest := [.int ((100 : Int32) - (gm_r μ 45 7)), .long x2]) dX3_readersBehind_30 lX3_69 kX3_pullOf rfl (by decide) (Nat.le_of_ble_eq_true rfl) (g_lt rfl) (gs_46 G _ _) rfl (by decide) rfl (gI_go (fun r3 μ2 h => ?_)) h
    refine go_iadd dX3_readersBehind_33 ?_
    refine go_i2l dX3_readersBehind_34 ?_
    refine go_lmul dX3_readersBehind_35 ?_
    refine go_ldc2_w (v := 100) (g_in 782 (by decide +kernel) rfl) dX3_readersBehind_36 ?_
    refine go_ldiv dX3_readersBehind_39 (by decide) ?_
    refine go_topl (fun v4 e_v4 => ?_)
    have h := h v4 e_v4
    refine go_lstore_n [(0, .ref (ga G 46)), (1, .int x1), (2, .long v4), (4, .int x4)] [1, 2, 0, 3] dX3_readersBehind_40 rfl (by decide) rfl ?_
    refine go_lconst (v := 0) dX3_readersBehind_41 (by decide) ?_
    refine go_ldc2_w (v := 1000000000) (g_in 783 (by decide +kernel) rfl) dX3_readersBehind_42 ?_
    refine go_lload_n dX3_readersBehind_45 rfl 2 rfl ?_
    refine go_mminL dX3_readersBehind_46 (g_in 784 (by decide +kernel) rfl) (g_in 785 (by decide +kernel) rfl) (g_in 81 (by decide +kernel) rfl) (g_in 786 (by decide +kernel) rfl) (by decide) (by decide) (Nat.le_of_ble_eq_true rfl) (Nat.le_refl _) (Nat.le_refl _) ?_
    refine go_mmaxL dX3_readersBehind_49 (g_in 787 (by decide +kernel) rfl) (g_in 788 (by decide +kernel) rfl) (g_in 81 (by decide +kernel) rfl) (g_in 789 (by decide +kernel) rfl) (by decide) (by decide) (Nat.le_of_ble_eq_true rfl) (Nat.le_refl _) (Nat.le_refl _) ?_
    refine go_topl (fun v5 e_v5 => ?_)
    have h := h v5 e_v5
    refine go_lstore_n [(0, .ref (ga G 46)), (1, .int x1), (2, .long v5), (4, .int x4)] [1, 2, 0, 3] dX3_readersBehind_52 rfl (by decide) rfl ?_
    refine go_iinc (v := (x4 + (1 : Int32))) [(0, .ref (ga G 46)), (1, .int x1), (2, .long v5), (4, .int (x4 + (1 : Int32)))] [1, 2, 3, 0] 3 dX3_readersBehind_53 rfl rfl (by decide) rfl ?_
    refine go_goto 7 dX3_readersBehind_56 (by decide) ?_
    exact h
set_option maxRecDepth 100000 in
theorem eX9_number {G : gC} {l : Launch} {a1 : Int32} {a2 : Int32} {μ : Mem} {P : Int32 → Mem → Prop} (h : ((a1 < 0) → P (-1001 : Int32) μ) ∧ ((¬ a1 < 0) → ((a1 < (gm_r μ 42 3)) → ((a2.toInt < 0 ∨ 5 < a2.toInt) → ((a2 < (6 : Int32)) → P (-1002 : Int32) μ) ∧ ((¬ a2 < (6 : Int32)) → ((a2 ≤ (11 : Int32)) → qX0_sceneOf G l a1 (a2 - (6 : Int32)) μ (fun (r6 : Int32) (μ5 : Mem) => P r6 μ5)) ∧ ((¬ a2 ≤ (11 : Int32)) → P (-1002 : Int32) μ))) ∧ ((a2 = (0 : Int32)) → qX0_end G l a1 μ (fun (r8 : Int32) (μ7 : Mem) => qX0_start G l a1 μ7 (fun (r10 : Int32) (μ9 : Mem) => P (r8 - r10) μ9))) ∧ ((a2 = (1 : Int32)) → qX3_linesOf G l a1 μ (fun (r12 : Int32) (μ11 : Mem) => P r12 μ11)) ∧ ((a2 = (2 : Int32)) → qX3_pullOf G l a1 μ (fun (r14 : Int32) (μ13 : Mem) => P r14 μ13)) ∧ ((a2 = (3 : Int32)) → qX3_readersBehind G l a1 μ (fun (r16 : Int32) (μ15 : Mem) => P r16 μ15)) ∧ ((a2 = (4 : Int32)) → qX3_openBehindNumber G l a1 μ (fun (r18 : Int32) (μ17 : Mem) => P r18 μ17)) ∧ ((a2 = (5 : Int32)) → qX3_remindedIn G l a1 μ (fun (r20 : Int32) (μ19 : Mem) => P r20 μ19))) ∧ ((¬ a1 < (gm_r μ 42 3)) → P (-1001 : Int32) μ))) : qX9_number G l a1 a2 μ P := by
  refine Sp.of (by decide) (Nat.le_of_ble_eq_true rfl) (lv := [(0, .ref (ga G 0)), (1, .int a1), (2, .int a2)]) rfl ?_
  refine go_iload_n dX9_number_0 rfl 1 rfl ?_
  refine go_if_lt 15 dX9_number_1 (by decide) (fun c1 => ?_) (fun c1 => ?_)
  · have h := h.1 c1
    refine go_sipush (v := -1001) dX9_number_15 (by decide) ?_
    exact go_iret dX9_number_18 rfl (Nat.le_refl _) (Nat.le_refl _) ⟨_, rfl, h⟩
  · have h := h.2 c1
    refine go_iload_n dX9_number_4 rfl 1 rfl ?_
    refine go_aload_n dX9_number_5 rfl 0 rfl ?_
    refine go_get (.ref (ga G 42)) dX9_number_6 fX9_56 (g_lt rfl) (gs_0 G _ _) rfl ?_
    refine go_get (.int (gm_r μ 42 3)) dX9_number_9 fX9_139 (g_lt rfl) (gs_42 G _ _) rfl ?_
    refine go_icmp_lt 19 dX9_number_12 (by decide) (fun c2 => ?_) (fun c2 => ?_)
    · have h := h.1 c2
      refine go_iload_n dX9_number_19 rfl 2 rfl ?_
      by_cases c21 : a2.toInt < 0 ∨ 5 < a2.toInt
      · have h := h.1 c21
        refine go_tableOut 123 dX9_number_20 c21 (by decide) ?_
        refine go_iload_n dX9_number_123 rfl 2 rfl ?_
        refine go_bipush (v := 6) dX9_number_124 (by decide) ?_
        refine go_icmp_lt 135 dX9_number_126 (by decide) (fun c3 => ?_) (fun c3 => ?_)
        · have h := h.1 c3
          refine go_sipush (v := -1002) dX9_number_135 (by decide) ?_
          refine go_goto 153 dX9_number_138 (by decide) ?_
          exact go_iret dX9_number_153 rfl (Nat.le_refl _) (Nat.le_refl _) ⟨_, rfl, h⟩
        · have h := h.2 c3
          refine go_iload_n dX9_number_129 rfl 2 rfl ?_
          refine go_bipush (v := 11) dX9_number_130 (by decide) ?_
          refine go_icmp_le 141 dX9_number_132 (by decide) (fun c4 => ?_) (fun c4 => ?_)
          · have h := h.1 c4
            refine go_aload_n dX9_number_141 rfl 0 rfl ?_
            refine go_get (.ref (ga G 42)) dX9_number_142 fX9_56 (g_lt rfl) (gs_0 G _ _) rfl ?_
            refine go_iload_n dX9_number_145 rfl 1 rfl ?_
            refine go_iload_n dX9_number_146 rfl 2 rfl ?_
            refine go_bipush (v := 6) dX9_number_147 (by decide) ?_
            refine go_isub dX9_number_149 ?_
            refine go_callV (As := [.int a1, .int (a2 - (6 : Int32))]) (rest := []) dX9_number_150 lX9_243 kX0_sceneOf rfl (by decide) (Nat.le_of_ble_eq_true rfl) (g_lt rfl) (gs_42 G _ _) rfl (by decide) rfl (gI_go (fun r6 μ5 h => ?_)) h
            exact go_iret dX9_number_153 rfl (Nat.le_refl _) (Nat.le_refl _) ⟨_, rfl, h⟩
          · have h := h.2 c4
            refine go_sipush (v := -1002) dX9_number_135 (by decide) ?_
            refine go_goto 153 dX9_number_138 (by decide) ?_
            exact go_iret dX9_number_153 rfl (Nat.le_refl _) (Nat.le_refl _) ⟨_, rfl, h⟩
      · rcases (show a2.toInt = 0 ∨ a2.toInt = 1 ∨ a2.toInt = 2 ∨ a2.toInt = 3 ∨ a2.toInt = 4 ∨ a2.toInt = 5 by omega) with c21e | c21e | c21e | c21e | c21e | c21e
        · have h := h.2.1 (sw_eq (0 : Int32) rfl c21e)
          refine go_tableIn 60 dX9_number_20 (by omega) (by omega) (by rw [c21e]; rfl) (by decide) ?_
          refine go_aload_n dX9_number_60 rfl 0 rfl ?_
          refine go_get (.ref (ga G 42)) dX9_number_61 fX9_56 (g_lt rfl) (gs_0 G _ _) rfl ?_
          refine go_iload_n dX9_number_64 rfl 1 rfl ?_
          refine go_callV (As := [.int a1]) (rest := []) dX9_number_65 lX9_225 kX0_end rfl (by decide) (Nat.le_of_ble_eq_true rfl) (g_lt rfl) (gs_42 G _ _) rfl (by decide) rfl (gI_go (fun r8 μ7 h => ?_)) h
          refine go_aload_n dX9_number_68 rfl 0 rfl ?_
          refine go_get (.ref (ga G 42)) dX9_number_69 fX9_56 (g_lt rfl) (gs_0 G _ _) rfl ?_
          refine go_iload_n dX9_number_72 rfl 1 rfl ?_
          refine go_callV (As := [.int a1]) (rest := [.int r8]) dX9_number_73 lX9_228 kX0_start rfl (by decide) (Nat.le_of_ble_eq_true rfl) (g_lt rfl) (gs_42 G _ _) rfl (by decide) rfl (gI_go (fun r10 μ9 h => ?_)) h
          refine go_isub dX9_number_76 ?_
          exact go_iret dX9_number_77 rfl (Nat.le_refl _) (Nat.le_refl _) ⟨_, rfl, h⟩
        · have h := h.2.2.1 (sw_eq (1 : Int32) rfl c21e)
          refine go_tableIn 78 dX9_number_20 (by omega) (by omega) (by rw [c21e]; rfl) (by decide) ?_
          refine go_aload_n dX9_number_78 rfl 0 rfl ?_
          refine go_get (.ref (ga G 46)) dX9_number_79 fX9_65 (g_lt rfl) (gs_0 G _ _) rfl ?_
          refine go_iload_n dX9_number_82 rfl 1 rfl ?_
          refine go_callV (As := [.int a1]) (rest := []) dX9_number_83 lX9_219 kX3_linesOf rfl (by decide) (Nat.le_of_ble_eq_true rfl) (g_lt rfl) (gs_46 G _ _) rfl (by decide) rfl (gI_go (fun r12 μ11 h => ?_)) h
          exact go_iret dX9_number_86 rfl (Nat.le_refl _) (Nat.le_refl _) ⟨_, rfl, h⟩
        · have h := h.2.2.2.1 (sw_eq (2 : Int32) rfl c21e)
          refine go_tableIn 87 dX9_number_20 (by omega) (by omega) (by rw [c21e]; rfl) (by decide) ?_
          refine go_aload_n dX9_number_87 rfl 0 rfl ?_
          refine go_get (.ref (ga G 46)) dX9_number_88 fX9_65 (g_lt rfl) (gs_0 G _ _) rfl ?_
          refine go_iload_n dX9_number_91 rfl 1 rfl ?_
          refine go_callV (As := [.int a1]) (rest := []) dX9_number_92 lX9_231 kX3_pullOf rfl (by decide) (Nat.le_of_ble_eq_true rfl) (g_lt rfl) (gs_46 G _ _) rfl (by decide) rfl (gI_go (fun r14 μ13 h => ?_)) h
          exact go_iret dX9_number_95 rfl (Nat.le_refl _) (Nat.le_refl _) ⟨_, rfl, h⟩
        · have h := h.2.2.2.2.1 (sw_eq (3 : Int32) rfl c21e)
          refine go_tableIn 96 dX9_number_20 (by omega) (by omega) (by rw [c21e]; rfl) (by decide) ?_
          refine go_aload_n dX9_number_96 rfl 0 rfl ?_
          refine go_get (.ref (ga G 46)) dX9_number_97 fX9_65 (g_lt rfl) (gs_0 G _ _) rfl ?_
          refine go_iload_n dX9_number_100 rfl 1 rfl ?_
          refine go_callV (As := [.int a1]) (rest := []) dX9_number_101 lX9_234 kX3_readersBehind rfl (by decide) (Nat.le_of_ble_eq_true rfl) (g_lt rfl) (gs_46 G _ _) rfl (by decide) rfl (gI_go (fun r16 μ15 h => ?_)) h
          exact go_iret dX9_number_104 rfl (Nat.le_refl _) (Nat.le_refl _) ⟨_, rfl, h⟩
        · have h := h.2.2.2.2.2.1 (sw_eq (4 : Int32) rfl c21e)
          refine go_tableIn 105 dX9_number_20 (by omega) (by omega) (by rw [c21e]; rfl) (by decide) ?_
          refine go_aload_n dX9_number_105 rfl 0 rfl ?_
          refine go_get (.ref (ga G 46)) dX9_number_106 fX9_65 (g_lt rfl) (gs_0 G _ _) rfl ?_
          refine go_iload_n dX9_number_109 rfl 1 rfl ?_
          refine go_callV (As := [.int a1]) (rest := []) dX9_number_110 lX9_237 kX3_openBehindNumber rfl (by decide) (Nat.le_of_ble_eq_true rfl) (g_lt rfl) (gs_46 G _ _) rfl (by decide) rfl (gI_go (fun r18 μ17 h => ?_)) h
          exact go_iret dX9_number_113 rfl (Nat.le_refl _) (Nat.le_refl _) ⟨_, rfl, h⟩
        · have h := h.2.2.2.2.2.2 (sw_eq (5 : Int32) rfl c21e)
          refine go_tableIn 114 dX9_number_20 (by omega) (by omega) (by rw [c21e]; rfl) (by decide) ?_
          refine go_aload_n dX9_number_114 rfl 0 rfl ?_
          refine go_get (.ref (ga G 46)) dX9_number_115 fX9_65 (g_lt rfl) (gs_0 G _ _) rfl ?_
          refine go_iload_n dX9_number_118 rfl 1 rfl ?_
          refine go_callV (As := [.int a1]) (rest := []) dX9_number_119 lX9_240 kX3_remindedIn rfl (by decide) (Nat.le_of_ble_eq_true rfl) (g_lt rfl) (gs_46 G _ _) rfl (by decide) rfl (gI_go (fun r20 μ19 h => ?_)) h
          exact go_iret dX9_number_122 rfl (Nat.le_refl _) (Nat.le_refl _) ⟨_, rfl, h⟩
    · have h := h.2 c2
      refine go_sipush (v := -1001) dX9_number_15 (by decide) ?_
      exact go_iret dX9_number_18 rfl (Nat.le_refl _) (Nat.le_refl _) ⟨_, rfl, h⟩
set_option maxRecDepth 100000 in
theorem eX9_readers {G : gC} {l : Launch}  {μ : Mem} {P : Int32 → Mem → Prop} (h : qX3_readersBehind G l ((gm_r μ 42 3) - (1 : Int32)) μ (fun (r2 : Int32) (μ1 : Mem) => P r2 μ1)) : qX9_readers G l  μ P := by
  refine Sp.of (by decide) (Nat.le_of_ble_eq_true rfl) (lv := [(0, .ref (ga G 0))]) rfl ?_
  refine go_aload_n dX9_readers_0 rfl 0 rfl ?_
  refine go_get (.ref (ga G 46)) dX9_readers_1 fX9_65 (g_lt rfl) (gs_0 G _ _) rfl ?_
  refine go_aload_n dX9_readers_4 rfl 0 rfl ?_
  refine go_get (.ref (ga G 42)) dX9_readers_5 fX9_56 (g_lt rfl) (gs_0 G _ _) rfl ?_
  refine go_get (.int (gm_r μ 42 3)) dX9_readers_8 fX9_139 (g_lt rfl) (gs_42 G _ _) rfl ?_
  refine go_iconst (v := 1) dX9_readers_11 (by decide) ?_
  refine go_isub dX9_readers_12 ?_
  refine go_callV (As := [.int ((gm_r μ 42 3) - (1 : Int32))]) (rest := []) dX9_readers_13 lX9_234 kX3_readersBehind rfl (by decide) (Nat.le_of_ble_eq_true rfl) (g_lt rfl) (gs_46 G _ _) rfl (by decide) rfl (gI_go (fun r2 μ1 h => ?_)) h
  exact go_iret dX9_readers_16 rfl (Nat.le_refl _) (Nat.le_refl _) ⟨_, rfl, h⟩
set_option maxRecDepth 100000 in
theorem eX2_worthOfBest {G : gC} {l : Launch} {a1 : Int32} {μ : Mem} {P : Int32 → Mem → Prop} (h : ((a1 < 0) → P (-1 : Int32) μ) ∧ ((¬ a1 < 0) → ((a1 ≤ (10 : Int32)) → 144 ≤ μ.1 ∧ vp_in a1 11 ∧ P (gm_r μ (108 + 1 + a1.toNatClampNeg) 0) μ) ∧ ((¬ a1 ≤ (10 : Int32)) → P (-1 : Int32) μ))) : qX2_worthOfBest G l a1 μ P := by
  refine Sp.of (by decide) (Nat.le_of_ble_eq_true rfl) (lv := [(0, .ref (ga G 106)), (1, .int a1)]) rfl ?_
  refine go_iload_n dX2_worthOfBest_0 rfl 1 rfl ?_
  refine go_if_lt 10 dX2_worthOfBest_1 (by decide) (fun c1 => ?_) (fun c1 => ?_)
  · have h := h.1 c1
    refine go_iconst (v := -1) dX2_worthOfBest_10 (by decide) ?_
    refine go_goto 22 dX2_worthOfBest_11 (by decide) ?_
    exact go_iret dX2_worthOfBest_22 rfl (Nat.le_refl _) (Nat.le_refl _) ⟨_, rfl, h⟩
  · have h := h.2 c1
    refine go_iload_n dX2_worthOfBest_4 rfl 1 rfl ?_
    refine go_bipush (v := 10) dX2_worthOfBest_5 (by decide) ?_
    refine go_icmp_le 14 dX2_worthOfBest_7 (by decide) (fun c2 => ?_) (fun c2 => ?_)
    · have h := h.1 c2
      refine go_aload_n dX2_worthOfBest_14 rfl 0 rfl ?_
      obtain ⟨n3, h⟩ := h
      refine go_get (.ref (ga G 108)) dX2_worthOfBest_15 fX2_17 (g_lt2 n3 rfl) (gs_106 G _ _) rfl ?_
      refine go_iload_n dX2_worthOfBest_18 rfl 1 rfl ?_
      obtain ⟨b4, h⟩ := h
      refine go_aald dX2_worthOfBest_19 (g_lt2 n3 rfl) (gs_108 G) b4 ?_
      refine go_iconst (v := 0) dX2_worthOfBest_20 (by decide) ?_
      refine go_ialdv ((gm_r μ (108 + 1 + a1.toNatClampNeg) 0)) dX2_worthOfBest_21 (gl_108 n3 (vp_lt b4)) (gn_108 G (vp_lt b4)) (by unfold vp_in; decide) rfl ?_
      exact go_iret dX2_worthOfBest_22 rfl (Nat.le_refl _) (Nat.le_refl _) ⟨_, rfl, h⟩
    · have h := h.2 c2
      refine go_iconst (v := -1) dX2_worthOfBest_10 (by decide) ?_
      refine go_goto 22 dX2_worthOfBest_11 (by decide) ?_
      exact go_iret dX2_worthOfBest_22 rfl (Nat.le_refl _) (Nat.le_refl _) ⟨_, rfl, h⟩
set_option maxRecDepth 100000 in
theorem eX2_partOfBest {G : gC} {l : Launch} {a1 : Int32} {a2 : Int32} {μ : Mem} {P : Int32 → Mem → Prop} (h : ((a2 < 0) → P (-1 : Int32) μ) ∧ ((¬ a2 < 0) → ((a1 ≤ a2) → P (-1 : Int32) μ) ∧ ((¬ a1 ≤ a2) → 144 ≤ μ.1 ∧ qX2_worthOfBest G l a1 μ (fun (r5 : Int32) (μ4 : Mem) => ((¬ r5 = (-1 : Int32)) → hX2_partOfBest_25 G l P a1 a2 (0 : Int32) (0 : Int32) μ4) ∧ ((r5 = (-1 : Int32)) → P (-1 : Int32) μ4))))) : qX2_partOfBest G l a1 a2 μ P := by
  refine Sp.of (by decide) (Nat.le_of_ble_eq_true rfl) (lv := [(0, .ref (ga G 106)), (1, .int a1), (2, .int a2)]) rfl ?_
  refine go_iload_n dX2_partOfBest_0 rfl 2 rfl ?_
  refine go_if_lt 18 dX2_partOfBest_1 (by decide) (fun c1 => ?_) (fun c1 => ?_)
  · have h := h.1 c1
    refine go_iconst (v := -1) dX2_partOfBest_18 (by decide) ?_
    exact go_iret dX2_partOfBest_19 rfl (Nat.le_refl _) (Nat.le_refl _) ⟨_, rfl, h⟩
  · have h := h.2 c1
    refine go_iload_n dX2_partOfBest_4 rfl 2 rfl ?_
    refine go_iload_n dX2_partOfBest_5 rfl 1 rfl ?_
    refine go_icmp_ge 18 dX2_partOfBest_6 (by decide) (fun c2 => ?_) (fun c2 => ?_)
    · have h := h.1 c2
      refine go_iconst (v := -1) dX2_partOfBest_18 (by decide) ?_
      exact go_iret dX2_partOfBest_19 rfl (Nat.le_refl _) (Nat.le_refl _) ⟨_, rfl, h⟩
    · have h := h.2 c2
      refine go_aload_n dX2_partOfBest_9 rfl 0 rfl ?_
      refine go_iload_n dX2_partOfBest_10 rfl 1 rfl ?_
      obtain ⟨n3, h⟩ := h
      refine go_callV (As := [.int a1]) (rest := []) dX2_partOfBest_11 lX2_45 kX2_worthOfBest rfl (by decide) (Nat.le_of_ble_eq_true rfl) (g_lt2 n3 rfl) (gs_106 G _ _) rfl (by decide) rfl (gI_go (fun r5 μ4 h => ?_)) h
      refine go_iconst (v := -1) dX2_partOfBest_14 (by decide) ?_
      refine go_icmp_ne 20 dX2_partOfBest_15 (by decide) (fun c6 => ?_) (fun c6 => ?_)
      · have h := h.1 c6
        refine go_iconst (v := 0) dX2_partOfBest_20 (by decide) ?_
        refine go_istore_n [(0, .ref (ga G 106)), (1, .int a1), (2, .int a2), (3, .int (0 : Int32))] [1, 2, 3, 0] dX2_partOfBest_21 rfl (by decide) rfl ?_
        refine go_iconst (v := 0) dX2_partOfBest_22 (by decide) ?_
        refine go_istore [(0, .ref (ga G 106)), (1, .int a1), (2, .int a2), (3, .int (0 : Int32)), (4, .int (0 : Int32))] [1, 2, 3, 4, 0] dX2_partOfBest_23 (by decide) rfl ?_
        exact h
      · have h := h.2 c6
        refine go_iconst (v := -1) dX2_partOfBest_18 (by decide) ?_
        exact go_iret dX2_partOfBest_19 rfl (Nat.le_refl _) (Nat.le_refl _) ⟨_, rfl, h⟩
set_option maxRecDepth 100000 in
theorem eX2_partOfBest_25 {G : gC} {l : Launch} {P : Int32 → Mem → Prop} {x1 : Int32} {x2 : Int32} {x3 : Int32} {x4 : Int32} {μ : Mem} (h : ((x2 ≤ x4) → 144 ≤ μ.1 ∧ vp_in (x1 - x2) 11 ∧ vp_in x3 1024 ∧ P (gm_r μ (120 + 1 + (x1 - x2).toNatClampNeg) x3.toNatClampNeg) μ) ∧ ((¬ x2 ≤ x4) → 144 ≤ μ.1 ∧ vp_in (x1 - x4) 11 ∧ vp_in x3 1024 ∧ ∀ v14 : Int32, v14 = (x3 ||| (gm_r μ (120 + 1 + (x1 - x4).toNatClampNeg) x3.toNatClampNeg)) → hX2_partOfBest_25 G l P x1 x2 v14 (x4 + (1 : Int32)) μ)) : hX2_partOfBest_25 G l P x1 x2 x3 x4 μ := by
  refine go_iload dX2_partOfBest_25 4 rfl ?_
  refine go_iload_n dX2_partOfBest_27 rfl 2 rfl ?_
  refine go_icmp_ge 51 dX2_partOfBest_28 (by decide) (fun c7 => ?_) (fun c7 => ?_)
  · have h := h.1 c7
    refine go_aload_n dX2_partOfBest_51 rfl 0 rfl ?_
    obtain ⟨n8, h⟩ := h
    refine go_get (.ref (ga G 120)) dX2_partOfBest_52 fX2_20 (g_lt2 n8 rfl) (gs_106 G _ _) rfl ?_
    refine go_iload_n dX2_partOfBest_55 rfl 1 rfl ?_
    refine go_iload_n dX2_partOfBest_56 rfl 2 rfl ?_
    refine go_isub dX2_partOfBest_57 ?_
    obtain ⟨b9, h⟩ := h
    refine go_aald dX2_partOfBest_58 (g_lt2 n8 rfl) (gs_120 G) b9 ?_
    refine go_iload_n dX2_partOfBest_59 rfl 3 rfl ?_
    obtain ⟨b10, h⟩ := h
    refine go_ialdv ((gm_r μ (120 + 1 + (x1 - x2).toNatClampNeg) x3.toNatClampNeg)) dX2_partOfBest_60 (gl_120 n8 (vp_lt b9)) (gn_120 G (vp_lt b9)) b10 rfl ?_
    exact go_iret dX2_partOfBest_61 rfl (Nat.le_refl _) (Nat.le_refl _) ⟨_, rfl, h⟩
  · have h := h.2 c7
    refine go_iload_n dX2_partOfBest_31 rfl 3 rfl ?_
    refine go_aload_n dX2_partOfBest_32 rfl 0 rfl ?_
    obtain ⟨n11, h⟩ := h
    refine go_get (.ref (ga G 120)) dX2_partOfBest_33 fX2_20 (g_lt2 n11 rfl) (gs_106 G _ _) rfl ?_
    refine go_iload_n dX2_partOfBest_36 rfl 1 rfl ?_
    refine go_iload dX2_partOfBest_37 4 rfl ?_
    refine go_isub dX2_partOfBest_39 ?_
    obtain ⟨b12, h⟩ := h
    refine go_aald dX2_partOfBest_40 (g_lt2 n11 rfl) (gs_120 G) b12 ?_
    refine go_iload_n dX2_partOfBest_41 rfl 3 rfl ?_
    obtain ⟨b13, h⟩ := h
    refine go_ialdv ((gm_r μ (120 + 1 + (x1 - x4).toNatClampNeg) x3.toNatClampNeg)) dX2_partOfBest_42 (gl_120 n11 (vp_lt b12)) (gn_120 G (vp_lt b12)) b13 rfl ?_
    refine go_ior dX2_partOfBest_43 ?_
    refine go_topi (fun v14 e_v14 => ?_)
    have h := h v14 e_v14
    refine go_istore_n [(0, .ref (ga G 106)), (1, .int x1), (2, .int x2), (3, .int v14), (4, .int x4)] [1, 2, 3, 0, 4] dX2_partOfBest_44 rfl (by decide) rfl ?_
    refine go_iinc (v := (x4 + (1 : Int32))) [(0, .ref (ga G 106)), (1, .int x1), (2, .int x2), (3, .int v14), (4, .int (x4 + (1 : Int32)))] [1, 2, 3, 4, 0] 4 dX2_partOfBest_45 rfl rfl (by decide) rfl ?_
    refine go_goto 25 dX2_partOfBest_48 (by decide) ?_
    exact h
set_option maxRecDepth 100000 in
theorem eX2_growPart {G : gC} {l : Launch} {a1 : Int32} {a2 : Int32} {a3 : Int32} {μ : Mem} {P : Mem → Prop} (h : hX2_growPart_3 G l P a1 a2 a3 (0 : Int32) μ) : qX2_growPart G l a1 a2 a3 μ P := by
  refine Sp.of (by decide) (Nat.le_of_ble_eq_true rfl) (lv := [(0, .ref (ga G 106)), (1, .int a1), (2, .int a2), (3, .int a3)]) rfl ?_
  refine go_iconst (v := 0) dX2_growPart_0 (by decide) ?_
  refine go_istore [(0, .ref (ga G 106)), (1, .int a1), (2, .int a2), (3, .int a3), (4, .int (0 : Int32))] [1, 2, 3, 4, 0] dX2_growPart_1 (by decide) rfl ?_
  exact h
set_option maxRecDepth 100000 in
theorem eX2_growPart_3 {G : gC} {l : Launch} {P : Mem → Prop} {x1 : Int32} {x2 : Int32} {x3 : Int32} {x4 : Int32} {μ : Mem} (h : 144 ≤ μ.1 ∧ (((gm_r μ 4 1) ≤ x4) → P μ) ∧ ((¬ (gm_r μ 4 1) ≤ x4) → (((x3 >>> (x4 &&& 31)) = 0) → P μ) ∧ ((¬ (x3 >>> (x4 &&& 31)) = 0) → ((¬ ((x3 >>> (x4 &&& 31)) &&& (1 : Int32)) = (1 : Int32)) → hX2_growPart_3 G l P x1 x2 x3 (x4 + (1 : Int32)) μ) ∧ ((((x3 >>> (x4 &&& 31)) &&& (1 : Int32)) = (1 : Int32)) → ∀ v5 : Int32, v5 = (x2 ||| ((1 : Int32) <<< (x4 &&& 31))) → qX7_cell G l x4 (4 : Int32) μ (fun (r7 : Int32) (μ6 : Mem) => 144 ≤ μ6.1 ∧ vp_in (x1 ||| v5) 1024 ∧ (((r7 &&& (gm_r μ6 37 (x1 ||| v5).toNatClampNeg)) = 0) → hX2_growPart_71 G l P x1 x2 x3 x4 v5 (0 : Int32) μ6) ∧ ((¬ (r7 &&& (gm_r μ6 37 (x1 ||| v5).toNatClampNeg)) = 0) → hX2_growPart_71 G l P x1 x2 x3 x4 v5 (1 : Int32) μ6)))))) : hX2_growPart_3 G l P x1 x2 x3 x4 μ := by
  refine go_iload dX2_growPart_3 4 rfl ?_
  refine go_aload_n dX2_growPart_5 rfl 0 rfl ?_
  obtain ⟨n1, h⟩ := h
  refine go_get (.ref (ga G 4)) dX2_growPart_6 fX2_33 (g_lt2 n1 rfl) (gs_106 G _ _) rfl ?_
  refine go_get (.int (gm_r μ 4 1)) dX2_growPart_9 fX2_107 (g_lt rfl) (gs_4 G _ _) rfl ?_
  refine go_icmp_ge 106 dX2_growPart_12 (by decide) (fun c2 => ?_) (fun c2 => ?_)
  · have h := h.1 c2
    exact go_vret dX2_growPart_106 rfl (Nat.le_refl _) (Nat.le_refl _) ⟨rfl, h⟩
  · have h := h.2 c2
    refine go_iload_n dX2_growPart_15 rfl 3 rfl ?_
    refine go_iload dX2_growPart_16 4 rfl ?_
    refine go_ishr dX2_growPart_18 ?_
    refine go_if_eq 106 dX2_growPart_19 (by decide) (fun c3 => ?_) (fun c3 => ?_)
    · have h := h.1 c3
      exact go_vret dX2_growPart_106 rfl (Nat.le_refl _) (Nat.le_refl _) ⟨rfl, h⟩
    · have h := h.2 c3
      refine go_iload_n dX2_growPart_22 rfl 3 rfl ?_
      refine go_iload dX2_growPart_23 4 rfl ?_
      refine go_ishr dX2_growPart_25 ?_
      refine go_iconst (v := 1) dX2_growPart_26 (by decide) ?_
      refine go_iand dX2_growPart_27 ?_
      refine go_iconst (v := 1) dX2_growPart_28 (by decide) ?_
      refine go_icmp_ne 100 dX2_growPart_29 (by decide) (fun c4 => ?_) (fun c4 => ?_)
      · have h := h.1 c4
        refine go_iinc (v := (x4 + (1 : Int32))) [(0, .ref (ga G 106)), (1, .int x1), (2, .int x2), (3, .int x3), (4, .int (x4 + (1 : Int32)))] [1, 2, 3, 4, 0] 4 dX2_growPart_100 rfl rfl (by decide) rfl ?_
        refine go_goto 3 dX2_growPart_103 (by decide) ?_
        exact h
      · have h := h.2 c4
        refine go_iload_n dX2_growPart_32 rfl 2 rfl ?_
        refine go_iconst (v := 1) dX2_growPart_33 (by decide) ?_
        refine go_iload dX2_growPart_34 4 rfl ?_
        refine go_ishl dX2_growPart_36 ?_
        refine go_ior dX2_growPart_37 ?_
        refine go_topi (fun v5 e_v5 => ?_)
        have h := h v5 e_v5
        refine go_istore [(0, .ref (ga G 106)), (1, .int x1), (2, .int x2), (3, .int x3), (4, .int x4), (5, .int v5)] [1, 2, 3, 4, 5, 0] dX2_growPart_38 (by decide) rfl ?_
        refine go_aload_n dX2_growPart_40 rfl 0 rfl ?_
        refine go_get (.ref (ga G 4)) dX2_growPart_41 fX2_33 (g_lt2 n1 rfl) (gs_106 G _ _) rfl ?_
        refine go_iload dX2_growPart_44 4 rfl ?_
        refine go_iconst (v := 4) dX2_growPart_46 (by decide) ?_
        refine go_callV (As := [.int x4, .int (4 : Int32)]) (rest := []) dX2_growPart_47 lX2_112 kX7_cell rfl (by decide) (Nat.le_of_ble_eq_true rfl) (g_lt rfl) (gs_4 G _ _) rfl (by decide) rfl (gI_go (fun r7 μ6 h => ?_)) h
        refine go_aload_n dX2_growPart_50 rfl 0 rfl ?_
        obtain ⟨n8, h⟩ := h
        refine go_get (.ref (ga G 30)) dX2_growPart_51 fX2_37 (g_lt2 n8 rfl) (gs_106 G _ _) rfl ?_
        refine go_get (.ref (ga G 37)) dX2_growPart_54 fX2_115 (g_lt rfl) (gs_30 G _ _) rfl ?_
        refine go_iload_n dX2_growPart_57 rfl 1 rfl ?_
        refine go_iload dX2_growPart_58 5 rfl ?_
        refine go_ior dX2_growPart_60 ?_
        obtain ⟨b9, h⟩ := h
        refine go_ialdv ((gm_r μ6 37 (x1 ||| v5).toNatClampNeg)) dX2_growPart_61 (g_lt rfl) (gs_37 G) b9 rfl ?_
        refine go_iand dX2_growPart_62 ?_
        refine go_if_eq 70 dX2_growPart_63 (by decide) (fun c10 => ?_) (fun c10 => ?_)
        · have h := h.1 c10
          refine go_iconst (v := 0) dX2_growPart_70 (by decide) ?_
          exact h
        · have h := h.2 c10
          refine go_iconst (v := 1) dX2_growPart_66 (by decide) ?_
          refine go_goto 71 dX2_growPart_67 (by decide) ?_
          exact h
set_option maxRecDepth 100000 in
theorem eX2_growPart_71 {G : gC} {l : Launch} {P : Mem → Prop} {x1 : Int32} {x2 : Int32} {x3 : Int32} {x4 : Int32} {x5 : Int32} {y0 : Int32} {μ : Mem} (h : 144 ≤ μ.1 ∧ vp_in x5 1024 ∧ ((y0 = 0) → hX2_growPart_3 G l P x1 x2 x3 (x4 + (1 : Int32)) (gm_w μ 107 x5.toNatClampNeg (if (gm_r μ 107 x5.toNatClampNeg) < (1 : Int32) then (1 : Int32) else (gm_r μ 107 x5.toNatClampNeg)))) ∧ ((¬ y0 = 0) → hX2_growPart_3 G l P x1 x2 x3 (x4 + (1 : Int32)) (gm_w μ 107 x5.toNatClampNeg (if (gm_r μ 107 x5.toNatClampNeg) < (2 : Int32) then (2 : Int32) else (gm_r μ 107 x5.toNatClampNeg))))) : hX2_growPart_71 G l P x1 x2 x3 x4 x5 y0 μ := by
  refine go_istore [(0, .ref (ga G 106)), (1, .int x1), (2, .int x2), (3, .int x3), (4, .int x4), (5, .int x5), (6, .int y0)] [1, 2, 3, 4, 5, 6, 0] dX2_growPart_71 (by decide) rfl ?_
  refine go_aload_n dX2_growPart_73 rfl 0 rfl ?_
  obtain ⟨n11, h⟩ := h
  refine go_get (.ref (ga G 107)) dX2_growPart_74 fX2_9 (g_lt2 n11 rfl) (gs_106 G _ _) rfl ?_
  refine go_iload dX2_growPart_77 5 rfl ?_
  refine go_aload_n dX2_growPart_79 rfl 0 rfl ?_
  refine go_get (.ref (ga G 107)) dX2_growPart_80 fX2_9 (g_lt2 n11 rfl) (gs_106 G _ _) rfl ?_
  refine go_iload dX2_growPart_83 5 rfl ?_
  obtain ⟨b12, h⟩ := h
  refine go_ialdv ((gm_r μ 107 x5.toNatClampNeg)) dX2_growPart_85 (g_lt2 n11 rfl) (gs_107 G) b12 rfl ?_
  refine go_iload dX2_growPart_86 6 rfl ?_
  refine go_if_eq 95 dX2_growPart_88 (by decide) (fun c13 => ?_) (fun c13 => ?_)
  · have h := h.1 c13
    refine go_iconst (v := 1) dX2_growPart_95 (by decide) ?_
    refine go_mmax dX2_growPart_96 (g_in 863 (by decide +kernel) rfl) (g_in 621 (by decide +kernel) rfl) (g_in 81 (by decide +kernel) rfl) (g_in 622 (by decide +kernel) rfl) (by decide) (by decide) (Nat.le_of_ble_eq_true rfl) (Nat.le_refl _) (Nat.le_refl _) ?_
    refine go_iast dX2_growPart_99 (g_lt2 n11 rfl) (gs_107 G) b12 ?_
    refine go_iinc (v := (x4 + (1 : Int32))) [(0, .ref (ga G 106)), (1, .int x1), (2, .int x2), (3, .int x3), (4, .int (x4 + (1 : Int32))), (5, .int x5), (6, .int y0)] [1, 2, 3, 4, 0, 5, 6] 4 dX2_growPart_100 rfl rfl (by decide) rfl ?_
    refine go_goto 3 dX2_growPart_103 (by decide) ?_
    exact go_sub [0, 1, 2, 3, 4] rfl h
  · have h := h.2 c13
    refine go_iconst (v := 2) dX2_growPart_91 (by decide) ?_
    refine go_goto 96 dX2_growPart_92 (by decide) ?_
    refine go_mmax dX2_growPart_96 (g_in 863 (by decide +kernel) rfl) (g_in 621 (by decide +kernel) rfl) (g_in 81 (by decide +kernel) rfl) (g_in 622 (by decide +kernel) rfl) (by decide) (by decide) (Nat.le_of_ble_eq_true rfl) (Nat.le_refl _) (Nat.le_refl _) ?_
    refine go_iast dX2_growPart_99 (g_lt2 n11 rfl) (gs_107 G) b12 ?_
    refine go_iinc (v := (x4 + (1 : Int32))) [(0, .ref (ga G 106)), (1, .int x1), (2, .int x2), (3, .int x3), (4, .int (x4 + (1 : Int32))), (5, .int x5), (6, .int y0)] [1, 2, 3, 4, 0, 5, 6] 4 dX2_growPart_100 rfl rfl (by decide) rfl ?_
    refine go_goto 3 dX2_growPart_103 (by decide) ?_
    exact go_sub [0, 1, 2, 3, 4] rfl h
set_option maxRecDepth 100000 in
theorem eX2_findParts {G : gC} {l : Launch} {a1 : Int32} {a2 : Int32} {μ : Mem} {P : Mem → Prop} (h : 144 ≤ μ.1 ∧ qJ6_bitCount_0f7a4 G l a2 μ (fun (r3 : Int32) (μ2 : Mem) => hX2_findParts_21 G l P a2 ((gm_r μ 106 3) ||| a1) ((1 : Int32) <<< (r3 &&& 31)) (0 : Int32) (0 : Int32) μ2)) : qX2_findParts G l a1 a2 μ P := by
  refine Sp.of (by decide) (Nat.le_of_ble_eq_true rfl) (lv := [(0, .ref (ga G 106)), (1, .int a1), (2, .int a2)]) rfl ?_
  refine go_aload_n dX2_findParts_0 rfl 0 rfl ?_
  obtain ⟨n1, h⟩ := h
  refine go_get (.int (gm_r μ 106 3)) dX2_findParts_1 fX2_67 (g_lt2 n1 rfl) (gs_106 G _ _) rfl ?_
  refine go_iload_n dX2_findParts_4 rfl 1 rfl ?_
  refine go_ior dX2_findParts_5 ?_
  refine go_istore_n [(0, .ref (ga G 106)), (1, .int a1), (2, .int a2), (3, .int ((gm_r μ 106 3) ||| a1))] [1, 2, 3, 0] dX2_findParts_6 rfl (by decide) rfl ?_
  refine go_iconst (v := 1) dX2_findParts_7 (by decide) ?_
  refine go_iload_n dX2_findParts_8 rfl 2 rfl ?_
  refine go_callS (As := [.int a2]) (rest := [.int (1 : Int32)]) dX2_findParts_9 lX2_53 kJ6_bitCount_0f7a4 rfl (by decide) (Nat.le_of_ble_eq_true rfl) (by decide) rfl (gI_go (fun r3 μ2 h => ?_)) h
  refine go_ishl dX2_findParts_12 ?_
  refine go_istore [(0, .ref (ga G 106)), (1, .int a1), (2, .int a2), (3, .int ((gm_r μ 106 3) ||| a1)), (4, .int ((1 : Int32) <<< (r3 &&& 31)))] [1, 2, 3, 4, 0] dX2_findParts_13 (by decide) rfl ?_
  refine go_iconst (v := 0) dX2_findParts_15 (by decide) ?_
  refine go_istore [(0, .ref (ga G 106)), (1, .int a1), (2, .int a2), (3, .int ((gm_r μ 106 3) ||| a1)), (4, .int ((1 : Int32) <<< (r3 &&& 31))), (5, .int (0 : Int32))] [1, 2, 3, 4, 5, 0] dX2_findParts_16 (by decide) rfl ?_
  refine go_iconst (v := 0) dX2_findParts_18 (by decide) ?_
  refine go_istore [(0, .ref (ga G 106)), (1, .int a1), (2, .int a2), (3, .int ((gm_r μ 106 3) ||| a1)), (4, .int ((1 : Int32) <<< (r3 &&& 31))), (5, .int (0 : Int32)), (6, .int (0 : Int32))] [1, 2, 3, 4, 5, 6, 0] dX2_findParts_19 (by decide) rfl ?_
  exact go_sub [0, 2, 3, 4, 5, 6] rfl h
set_option maxRecDepth 100000 in
theorem eX2_findParts_21 {G : gC} {l : Launch} {P : Mem → Prop} {x2 : Int32} {x3 : Int32} {x4 : Int32} {x5 : Int32} {x6 : Int32} {μ : Mem} (h : ((x4 ≤ x6) → hX2_findParts_62 G l P x2 x3 x4 x5 (0 : Int32) μ) ∧ ((¬ x4 ≤ x6) → 144 ≤ μ.1 ∧ ((¬ x6 = 0) → vp_in x5 1024 ∧ hX2_findParts_21 G l P x2 x3 x4 ((x5 - x2) &&& x2) (x6 + (1 : Int32)) (gm_w μ 107 x5.toNatClampNeg (0 : Int32))) ∧ ((x6 = 0) → vp_in x5 1024 ∧ hX2_findParts_21 G l P x2 x3 x4 ((x5 - x2) &&& x2) (x6 + (1 : Int32)) (gm_w μ 107 x5.toNatClampNeg (1 : Int32))))) : hX2_findParts_21 G l P x2 x3 x4 x5 x6 μ := by
  refine go_iload dX2_findParts_21 5 rfl ?_
  refine go_iload dX2_findParts_23 3 rfl ?_
  refine go_icmp_ge 59 dX2_findParts_25 (by decide) (fun c4 => ?_) (fun c4 => ?_)
  · have h := h.1 c4
    refine go_iconst (v := 0) dX2_findParts_59 (by decide) ?_
    refine go_istore [(0, .ref (ga G 106)), (2, .int x2), (3, .int x3), (4, .int x4), (5, .int x5), (6, .int (0 : Int32))] [1, 2, 3, 4, 5, 0] dX2_findParts_60 (by decide) rfl ?_
    exact h
  · have h := h.2 c4
    refine go_aload_n dX2_findParts_28 rfl 0 rfl ?_
    obtain ⟨n5, h⟩ := h
    refine go_get (.ref (ga G 107)) dX2_findParts_29 fX2_9 (g_lt2 n5 rfl) (gs_106 G _ _) rfl ?_
    refine go_iload dX2_findParts_32 4 rfl ?_
    refine go_iload dX2_findParts_34 5 rfl ?_
    refine go_if_ne 43 dX2_findParts_36 (by decide) (fun c6 => ?_) (fun c6 => ?_)
    · have h := h.1 c6
      refine go_iconst (v := 0) dX2_findParts_43 (by decide) ?_
      obtain ⟨b7, h⟩ := h
      refine go_iast dX2_findParts_44 (g_lt2 n5 rfl) (gs_107 G) b7 ?_
      refine go_iload dX2_findParts_45 4 rfl ?_
      refine go_iload_n dX2_findParts_47 rfl 1 rfl ?_
      refine go_isub dX2_findParts_48 ?_
      refine go_iload_n dX2_findParts_49 rfl 1 rfl ?_
      refine go_iand dX2_findParts_50 ?_
      refine go_istore [(0, .ref (ga G 106)), (2, .int x2), (3, .int x3), (4, .int x4), (5, .int ((x5 - x2) &&& x2)), (6, .int x6)] [1, 2, 3, 4, 0, 5] dX2_findParts_51 (by decide) rfl ?_
      refine go_iinc (v := (x6 + (1 : Int32))) [(0, .ref (ga G 106)), (2, .int x2), (3, .int x3), (4, .int x4), (5, .int ((x5 - x2) &&& x2)), (6, .int (x6 + (1 : Int32)))] [1, 2, 3, 4, 5, 0] 5 dX2_findParts_53 rfl rfl (by decide) rfl ?_
      refine go_goto 21 dX2_findParts_56 (by decide) ?_
      exact h
    · have h := h.2 c6
      refine go_iconst (v := 1) dX2_findParts_39 (by decide) ?_
      refine go_goto 44 dX2_findParts_40 (by decide) ?_
      obtain ⟨b8, h⟩ := h
      refine go_iast dX2_findParts_44 (g_lt2 n5 rfl) (gs_107 G) b8 ?_
      refine go_iload dX2_findParts_45 4 rfl ?_
      refine go_iload_n dX2_findParts_47 rfl 1 rfl ?_
      refine go_isub dX2_findParts_48 ?_
      refine go_iload_n dX2_findParts_49 rfl 1 rfl ?_
      refine go_iand dX2_findParts_50 ?_
      refine go_istore [(0, .ref (ga G 106)), (2, .int x2), (3, .int x3), (4, .int x4), (5, .int ((x5 - x2) &&& x2)), (6, .int x6)] [1, 2, 3, 4, 0, 5] dX2_findParts_51 (by decide) rfl ?_
      refine go_iinc (v := (x6 + (1 : Int32))) [(0, .ref (ga G 106)), (2, .int x2), (3, .int x3), (4, .int x4), (5, .int ((x5 - x2) &&& x2)), (6, .int (x6 + (1 : Int32)))] [1, 2, 3, 4, 5, 0] 5 dX2_findParts_53 rfl rfl (by decide) rfl ?_
      refine go_goto 21 dX2_findParts_56 (by decide) ?_
      exact h
set_option maxRecDepth 100000 in
theorem eX2_findParts_62 {G : gC} {l : Launch} {P : Mem → Prop} {x2 : Int32} {x3 : Int32} {x4 : Int32} {x5 : Int32} {x6 : Int32} {μ : Mem} (h : ((x4 ≤ x6) → P μ) ∧ ((¬ x4 ≤ x6) → qJ6_bitCount_0f7a4 G l x5 μ (fun (r11 : Int32) (μ10 : Mem) => (((6 : Int32) ≤ r11) → hX2_findParts_106 G l P x2 x3 x4 x5 x6 (0 : Int32) μ10) ∧ ((¬ (6 : Int32) ≤ r11) → 144 ≤ μ10.1 ∧ vp_in x5 1024 ∧ (((gm_r μ10 45 1) < (gm_r μ10 31 x5.toNatClampNeg)) → hX2_findParts_106 G l P x2 x3 x4 x5 x6 (0 : Int32) μ10) ∧ ((¬ (gm_r μ10 45 1) < (gm_r μ10 31 x5.toNatClampNeg)) → hX2_findParts_106 G l P x2 x3 x4 x5 x6 (1 : Int32) μ10))))) : hX2_findParts_62 G l P x2 x3 x4 x5 x6 μ := by
  refine go_iload dX2_findParts_62 5 rfl ?_
  refine go_iload dX2_findParts_64 3 rfl ?_
  refine go_icmp_ge 158 dX2_findParts_66 (by decide) (fun c9 => ?_) (fun c9 => ?_)
  · have h := h.1 c9
    exact go_vret dX2_findParts_158 rfl (Nat.le_refl _) (Nat.le_refl _) ⟨rfl, h⟩
  · have h := h.2 c9
    refine go_iload dX2_findParts_69 4 rfl ?_
    refine go_callS (As := [.int x5]) (rest := []) dX2_findParts_71 lX2_53 kJ6_bitCount_0f7a4 rfl (by decide) (Nat.le_of_ble_eq_true rfl) (by decide) rfl (gI_go (fun r11 μ10 h => ?_)) h
    refine go_bipush (v := 6) dX2_findParts_74 (by decide) ?_
    refine go_icmp_ge 105 dX2_findParts_76 (by decide) (fun c12 => ?_) (fun c12 => ?_)
    · have h := h.1 c12
      refine go_iconst (v := 0) dX2_findParts_105 (by decide) ?_
      exact h
    · have h := h.2 c12
      refine go_aload_n dX2_findParts_79 rfl 0 rfl ?_
      obtain ⟨n13, h⟩ := h
      refine go_get (.ref (ga G 30)) dX2_findParts_80 fX2_37 (g_lt2 n13 rfl) (gs_106 G _ _) rfl ?_
      refine go_get (.ref (ga G 31)) dX2_findParts_83 fX2_92 (g_lt rfl) (gs_30 G _ _) rfl ?_
      refine go_iload dX2_findParts_86 4 rfl ?_
      obtain ⟨b14, h⟩ := h
      refine go_ialdv ((gm_r μ10 31 x5.toNatClampNeg)) dX2_findParts_88 (g_lt rfl) (gs_31 G) b14 rfl ?_
      refine go_aload_n dX2_findParts_89 rfl 0 rfl ?_
      refine go_get (.ref (ga G 42)) dX2_findParts_90 fX2_41 (g_lt2 n13 rfl) (gs_106 G _ _) rfl ?_
      refine go_get (.ref (ga G 45)) dX2_findParts_93 fX2_97 (g_lt rfl) (gs_42 G _ _) rfl ?_
      refine go_iconst (v := 1) dX2_findParts_96 (by decide) ?_
      refine go_ialdv ((gm_r μ10 45 1)) dX2_findParts_97 (g_lt rfl) (gs_45 G) (by unfold vp_in; decide) rfl ?_
      refine go_icmp_gt 105 dX2_findParts_98 (by decide) (fun c15 => ?_) (fun c15 => ?_)
      · have h := h.1 c15
        refine go_iconst (v := 0) dX2_findParts_105 (by decide) ?_
        exact h
      · have h := h.2 c15
        refine go_iconst (v := 1) dX2_findParts_101 (by decide) ?_
        refine go_goto 106 dX2_findParts_102 (by decide) ?_
        exact h
set_option maxRecDepth 100000 in
theorem eX2_findParts_106 {G : gC} {l : Launch} {P : Mem → Prop} {x2 : Int32} {x3 : Int32} {x4 : Int32} {x5 : Int32} {x6 : Int32} {y0 : Int32} {μ : Mem} (h : ((y0 = 0) → hX2_findParts_62 G l P x2 x3 x4 ((x5 - x2) &&& x2) (x6 + (1 : Int32)) μ) ∧ ((¬ y0 = 0) → 144 ≤ μ.1 ∧ vp_in x5 1024 ∧ (((gm_r μ 107 x5.toNatClampNeg) = 0) → hX2_findParts_62 G l P x2 x3 x4 ((x5 - x2) &&& x2) (x6 + (1 : Int32)) μ) ∧ ((¬ (gm_r μ 107 x5.toNatClampNeg) = 0) → vp_in (x3 ||| x5) 1024 ∧ qX2_growPart G l x3 x5 ((gm_r μ 38 (x3 ||| x5).toNatClampNeg) &&& x2) μ (fun (μ21 : Mem) => hX2_findParts_62 G l P x2 x3 x4 ((x5 - x2) &&& x2) (x6 + (1 : Int32)) μ21)))) : hX2_findParts_106 G l P x2 x3 x4 x5 x6 y0 μ := by
  refine go_istore [(0, .ref (ga G 106)), (2, .int x2), (3, .int x3), (4, .int x4), (5, .int x5), (6, .int x6), (7, .int y0)] [1, 2, 3, 4, 5, 6, 0] dX2_findParts_106 (by decide) rfl ?_
  refine go_iload dX2_findParts_108 6 rfl ?_
  refine go_if_eq 144 dX2_findParts_110 (by decide) (fun c16 => ?_) (fun c16 => ?_)
  · have h := h.1 c16
    refine go_iload dX2_findParts_144 4 rfl ?_
    refine go_iload_n dX2_findParts_146 rfl 1 rfl ?_
    refine go_isub dX2_findParts_147 ?_
    refine go_iload_n dX2_findParts_148 rfl 1 rfl ?_
    refine go_iand dX2_findParts_149 ?_
    refine go_istore [(0, .ref (ga G 106)), (2, .int x2), (3, .int x3), (4, .int x4), (5, .int ((x5 - x2) &&& x2)), (6, .int x6), (7, .int y0)] [1, 2, 3, 4, 0, 5, 6] dX2_findParts_150 (by decide) rfl ?_
    refine go_iinc (v := (x6 + (1 : Int32))) [(0, .ref (ga G 106)), (2, .int x2), (3, .int x3), (4, .int x4), (5, .int ((x5 - x2) &&& x2)), (6, .int (x6 + (1 : Int32))), (7, .int y0)] [1, 2, 3, 4, 5, 0, 6] 5 dX2_findParts_152 rfl rfl (by decide) rfl ?_
    refine go_goto 62 dX2_findParts_155 (by decide) ?_
    exact go_sub [0, 1, 2, 3, 4, 5] rfl h
  · have h := h.2 c16
    refine go_aload_n dX2_findParts_113 rfl 0 rfl ?_
    obtain ⟨n17, h⟩ := h
    refine go_get (.ref (ga G 107)) dX2_findParts_114 fX2_9 (g_lt2 n17 rfl) (gs_106 G _ _) rfl ?_
    refine go_iload dX2_findParts_117 4 rfl ?_
    obtain ⟨b18, h⟩ := h
    refine go_ialdv ((gm_r μ 107 x5.toNatClampNeg)) dX2_findParts_119 (g_lt2 n17 rfl) (gs_107 G) b18 rfl ?_
    refine go_if_eq 144 dX2_findParts_120 (by decide) (fun c19 => ?_) (fun c19 => ?_)
    · have h := h.1 c19
      refine go_iload dX2_findParts_144 4 rfl ?_
      refine go_iload_n dX2_findParts_146 rfl 1 rfl ?_
      refine go_isub dX2_findParts_147 ?_
      refine go_iload_n dX2_findParts_148 rfl 1 rfl ?_
      refine go_iand dX2_findParts_149 ?_
      refine go_istore [(0, .ref (ga G 106)), (2, .int x2), (3, .int x3), (4, .int x4), (5, .int ((x5 - x2) &&& x2)), (6, .int x6), (7, .int y0)] [1, 2, 3, 4, 0, 5, 6] dX2_findParts_150 (by decide) rfl ?_
      refine go_iinc (v := (x6 + (1 : Int32))) [(0, .ref (ga G 106)), (2, .int x2), (3, .int x3), (4, .int x4), (5, .int ((x5 - x2) &&& x2)), (6, .int (x6 + (1 : Int32))), (7, .int y0)] [1, 2, 3, 4, 5, 0, 6] 5 dX2_findParts_152 rfl rfl (by decide) rfl ?_
      refine go_goto 62 dX2_findParts_155 (by decide) ?_
      exact go_sub [0, 1, 2, 3, 4, 5] rfl h
    · have h := h.2 c19
      refine go_aload_n dX2_findParts_123 rfl 0 rfl ?_
      refine go_iload_n dX2_findParts_124 rfl 2 rfl ?_
      refine go_iload dX2_findParts_125 4 rfl ?_
      refine go_aload_n dX2_findParts_127 rfl 0 rfl ?_
      refine go_get (.ref (ga G 30)) dX2_findParts_128 fX2_37 (g_lt2 n17 rfl) (gs_106 G _ _) rfl ?_
      refine go_get (.ref (ga G 38)) dX2_findParts_131 fX2_100 (g_lt rfl) (gs_30 G _ _) rfl ?_
      refine go_iload_n dX2_findParts_134 rfl 2 rfl ?_
      refine go_iload dX2_findParts_135 4 rfl ?_
      refine go_ior dX2_findParts_137 ?_
      obtain ⟨b20, h⟩ := h
      refine go_ialdv ((gm_r μ 38 (x3 ||| x5).toNatClampNeg)) dX2_findParts_138 (g_lt rfl) (gs_38 G) b20 rfl ?_
      refine go_iload_n dX2_findParts_139 rfl 1 rfl ?_
      refine go_iand dX2_findParts_140 ?_
      refine go_callV (As := [.int x3, .int x5, .int ((gm_r μ 38 (x3 ||| x5).toNatClampNeg) &&& x2)]) (rest := []) dX2_findParts_141 lX2_103 kX2_growPart rfl (by decide) (Nat.le_of_ble_eq_true rfl) (g_lt2 n17 rfl) (gs_106 G _ _) rfl (by decide) rfl (gV_go (fun μ21 h => ?_)) h
      refine go_iload dX2_findParts_144 4 rfl ?_
      refine go_iload_n dX2_findParts_146 rfl 1 rfl ?_
      refine go_isub dX2_findParts_147 ?_
      refine go_iload_n dX2_findParts_148 rfl 1 rfl ?_
      refine go_iand dX2_findParts_149 ?_
      refine go_istore [(0, .ref (ga G 106)), (2, .int x2), (3, .int x3), (4, .int x4), (5, .int ((x5 - x2) &&& x2)), (6, .int x6), (7, .int y0)] [1, 2, 3, 4, 0, 5, 6] dX2_findParts_150 (by decide) rfl ?_
      refine go_iinc (v := (x6 + (1 : Int32))) [(0, .ref (ga G 106)), (2, .int x2), (3, .int x3), (4, .int x4), (5, .int ((x5 - x2) &&& x2)), (6, .int (x6 + (1 : Int32))), (7, .int y0)] [1, 2, 3, 4, 5, 0, 6] 5 dX2_findParts_152 rfl rfl (by decide) rfl ?_
      refine go_goto 62 dX2_findParts_155 (by decide) ?_
      exact go_sub [0, 1, 2, 3, 4, 5] rfl h
set_option maxRecDepth 100000 in
theorem eX2_worthOfPart {G : gC} {l : Launch} {a1 : Int32} {a2 : Int32} {μ : Mem} {P : Int32 → Mem → Prop} (h : 144 ≤ μ.1 ∧ vp_in a2 1024 ∧ (((gm_r μ 107 a2.toNatClampNeg) = 0) → P (-1 : Int32) μ) ∧ ((¬ (gm_r μ 107 a2.toNatClampNeg) = 0) → (((gm_r μ 31 a2.toNatClampNeg) < (gm_r μ 45 0)) → P (-1 : Int32) μ) ∧ ((¬ (gm_r μ 31 a2.toNatClampNeg) < (gm_r μ 45 0)) → (((gm_r μ 31 a2.toNatClampNeg) ≤ (gm_r μ 45 1)) → vp_in (((gm_r μ 106 3) ||| a1) ||| a2) 1024 ∧ ∀ v7 : Int32, v7 = (gm_r μ 37 (((gm_r μ 106 3) ||| a1) ||| a2).toNatClampNeg) → ((¬ (gm_r μ 107 a2.toNatClampNeg) = (2 : Int32)) → hX2_worthOfPart_88 G l P a2 v7 (0 : Int32) μ) ∧ (((gm_r μ 107 a2.toNatClampNeg) = (2 : Int32)) → hX2_worthOfPart_88 G l P a2 v7 (gm_r μ 45 4) μ)) ∧ ((¬ (gm_r μ 31 a2.toNatClampNeg) ≤ (gm_r μ 45 1)) → P (-1 : Int32) μ)))) : qX2_worthOfPart G l a1 a2 μ P := by
  refine Sp.of (by decide) (Nat.le_of_ble_eq_true rfl) (lv := [(0, .ref (ga G 106)), (1, .int a1), (2, .int a2)]) rfl ?_
  refine go_aload_n dX2_worthOfPart_0 rfl 0 rfl ?_
  obtain ⟨n1, h⟩ := h
  refine go_get (.ref (ga G 30)) dX2_worthOfPart_1 fX2_37 (g_lt2 n1 rfl) (gs_106 G _ _) rfl ?_
  refine go_get (.ref (ga G 31)) dX2_worthOfPart_4 fX2_92 (g_lt rfl) (gs_30 G _ _) rfl ?_
  refine go_iload_n dX2_worthOfPart_7 rfl 2 rfl ?_
  obtain ⟨b2, h⟩ := h
  refine go_ialdv ((gm_r μ 31 a2.toNatClampNeg)) dX2_worthOfPart_8 (g_lt rfl) (gs_31 G) b2 rfl ?_
  refine go_istore_n [(0, .ref (ga G 106)), (1, .int a1), (2, .int a2), (3, .int (gm_r μ 31 a2.toNatClampNeg))] [1, 2, 3, 0] dX2_worthOfPart_9 rfl (by decide) rfl ?_
  refine go_aload_n dX2_worthOfPart_10 rfl 0 rfl ?_
  refine go_get (.ref (ga G 107)) dX2_worthOfPart_11 fX2_9 (g_lt2 n1 rfl) (gs_106 G _ _) rfl ?_
  refine go_iload_n dX2_worthOfPart_14 rfl 2 rfl ?_
  refine go_ialdv ((gm_r μ 107 a2.toNatClampNeg)) dX2_worthOfPart_15 (g_lt2 n1 rfl) (gs_107 G) b2 rfl ?_
  refine go_if_eq 45 dX2_worthOfPart_16 (by decide) (fun c3 => ?_) (fun c3 => ?_)
  · have h := h.1 c3
    refine go_iconst (v := -1) dX2_worthOfPart_45 (by decide) ?_
    exact go_iret dX2_worthOfPart_46 rfl (Nat.le_refl _) (Nat.le_refl _) ⟨_, rfl, h⟩
  · have h := h.2 c3
    refine go_iload_n dX2_worthOfPart_19 rfl 3 rfl ?_
    refine go_aload_n dX2_worthOfPart_20 rfl 0 rfl ?_
    refine go_get (.ref (ga G 42)) dX2_worthOfPart_21 fX2_41 (g_lt2 n1 rfl) (gs_106 G _ _) rfl ?_
    refine go_get (.ref (ga G 45)) dX2_worthOfPart_24 fX2_97 (g_lt rfl) (gs_42 G _ _) rfl ?_
    refine go_iconst (v := 0) dX2_worthOfPart_27 (by decide) ?_
    refine go_ialdv ((gm_r μ 45 0)) dX2_worthOfPart_28 (g_lt rfl) (gs_45 G) (by unfold vp_in; decide) rfl ?_
    refine go_icmp_lt 45 dX2_worthOfPart_29 (by decide) (fun c4 => ?_) (fun c4 => ?_)
    · have h := h.1 c4
      refine go_iconst (v := -1) dX2_worthOfPart_45 (by decide) ?_
      exact go_iret dX2_worthOfPart_46 rfl (Nat.le_refl _) (Nat.le_refl _) ⟨_, rfl, h⟩
    · have h := h.2 c4
      refine go_iload_n dX2_worthOfPart_32 rfl 3 rfl ?_
      refine go_aload_n dX2_worthOfPart_33 rfl 0 rfl ?_
      refine go_get (.ref (ga G 42)) dX2_worthOfPart_34 fX2_41 (g_lt2 n1 rfl) (gs_106 G _ _) rfl ?_
      refine go_get (.ref (ga G 45)) dX2_worthOfPart_37 fX2_97 (g_lt rfl) (gs_42 G _ _) rfl ?_
      refine go_iconst (v := 1) dX2_worthOfPart_40 (by decide) ?_
      refine go_ialdv ((gm_r μ 45 1)) dX2_worthOfPart_41 (g_lt rfl) (gs_45 G) (by unfold vp_in; decide) rfl ?_
      refine go_icmp_le 47 dX2_worthOfPart_42 (by decide) (fun c5 => ?_) (fun c5 => ?_)
      · have h := h.1 c5
        refine go_aload_n dX2_worthOfPart_47 rfl 0 rfl ?_
        refine go_get (.ref (ga G 30)) dX2_worthOfPart_48 fX2_37 (g_lt2 n1 rfl) (gs_106 G _ _) rfl ?_
        refine go_get (.ref (ga G 37)) dX2_worthOfPart_51 fX2_115 (g_lt rfl) (gs_30 G _ _) rfl ?_
        refine go_aload_n dX2_worthOfPart_54 rfl 0 rfl ?_
        refine go_get (.int (gm_r μ 106 3)) dX2_worthOfPart_55 fX2_67 (g_lt2 n1 rfl) (gs_106 G _ _) rfl ?_
        refine go_iload_n dX2_worthOfPart_58 rfl 1 rfl ?_
        refine go_ior dX2_worthOfPart_59 ?_
        refine go_iload_n dX2_worthOfPart_60 rfl 2 rfl ?_
        refine go_ior dX2_worthOfPart_61 ?_
        obtain ⟨b6, h⟩ := h
        refine go_ialdv ((gm_r μ 37 (((gm_r μ 106 3) ||| a1) ||| a2).toNatClampNeg)) dX2_worthOfPart_62 (g_lt rfl) (gs_37 G) b6 rfl ?_
        refine go_topi (fun v7 e_v7 => ?_)
        have h := h v7 e_v7
        refine go_istore [(0, .ref (ga G 106)), (1, .int a1), (2, .int a2), (3, .int (gm_r μ 31 a2.toNatClampNeg)), (4, .int v7)] [1, 2, 3, 4, 0] dX2_worthOfPart_63 (by decide) rfl ?_
        refine go_aload_n dX2_worthOfPart_65 rfl 0 rfl ?_
        refine go_get (.ref (ga G 107)) dX2_worthOfPart_66 fX2_9 (g_lt2 n1 rfl) (gs_106 G _ _) rfl ?_
        refine go_iload_n dX2_worthOfPart_69 rfl 2 rfl ?_
        refine go_ialdv ((gm_r μ 107 a2.toNatClampNeg)) dX2_worthOfPart_70 (g_lt2 n1 rfl) (gs_107 G) b2 rfl ?_
        refine go_iconst (v := 2) dX2_worthOfPart_71 (by decide) ?_
        refine go_icmp_ne 87 dX2_worthOfPart_72 (by decide) (fun c8 => ?_) (fun c8 => ?_)
        · have h := h.1 c8
          refine go_iconst (v := 0) dX2_worthOfPart_87 (by decide) ?_
          exact go_sub [0, 2, 4] rfl h
        · have h := h.2 c8
          refine go_aload_n dX2_worthOfPart_75 rfl 0 rfl ?_
          refine go_get (.ref (ga G 42)) dX2_worthOfPart_76 fX2_41 (g_lt2 n1 rfl) (gs_106 G _ _) rfl ?_
          refine go_get (.ref (ga G 45)) dX2_worthOfPart_79 fX2_97 (g_lt rfl) (gs_42 G _ _) rfl ?_
          refine go_iconst (v := 4) dX2_worthOfPart_82 (by decide) ?_
          refine go_ialdv ((gm_r μ 45 4)) dX2_worthOfPart_83 (g_lt rfl) (gs_45 G) (by unfold vp_in; decide) rfl ?_
          refine go_goto 88 dX2_worthOfPart_84 (by decide) ?_
          exact go_sub [0, 2, 4] rfl h
      · have h := h.2 c5
        refine go_iconst (v := -1) dX2_worthOfPart_45 (by decide) ?_
        exact go_iret dX2_worthOfPart_46 rfl (Nat.le_refl _) (Nat.le_refl _) ⟨_, rfl, h⟩
set_option maxRecDepth 100000 in
theorem eX2_worthOfPart_88 {G : gC} {l : Launch} {P : Int32 → Mem → Prop} {x2 : Int32} {x4 : Int32} {y0 : Int32} {μ : Mem} (h : 144 ≤ μ.1 ∧ vp_in x2 1024 ∧ qJ6_bitCount_0f7a4 G l x4 μ (fun (r12 : Int32) (μ11 : Mem) => P (((gm_r μ 32 x2.toNatClampNeg) + ((gm_r μ 45 5) * r12)) + y0) μ11)) : hX2_worthOfPart_88 G l P x2 x4 y0 μ := by
  refine go_istore [(0, .ref (ga G 106)), (2, .int x2), (4, .int x4), (5, .int y0)] [1, 2, 3, 0] dX2_worthOfPart_88 (by decide) rfl ?_
  refine go_aload_n dX2_worthOfPart_90 rfl 0 rfl ?_
  obtain ⟨n9, h⟩ := h
  refine go_get (.ref (ga G 30)) dX2_worthOfPart_91 fX2_37 (g_lt2 n9 rfl) (gs_106 G _ _) rfl ?_
  refine go_get (.ref (ga G 32)) dX2_worthOfPart_94 fX2_118 (g_lt rfl) (gs_30 G _ _) rfl ?_
  refine go_iload_n dX2_worthOfPart_97 rfl 1 rfl ?_
  obtain ⟨b10, h⟩ := h
  refine go_ialdv ((gm_r μ 32 x2.toNatClampNeg)) dX2_worthOfPart_98 (g_lt rfl) (gs_32 G) b10 rfl ?_
  refine go_aload_n dX2_worthOfPart_99 rfl 0 rfl ?_
  refine go_get (.ref (ga G 42)) dX2_worthOfPart_100 fX2_41 (g_lt2 n9 rfl) (gs_106 G _ _) rfl ?_
  refine go_get (.ref (ga G 45)) dX2_worthOfPart_103 fX2_97 (g_lt rfl) (gs_42 G _ _) rfl ?_
  refine go_iconst (v := 5) dX2_worthOfPart_106 (by decide) ?_
  refine go_ialdv ((gm_r μ 45 5)) dX2_worthOfPart_107 (g_lt rfl) (gs_45 G) (by unfold vp_in; decide) rfl ?_
  refine go_iload dX2_worthOfPart_108 2 rfl ?_
  refine go_callS (As := [.int x4]) (rest := [.int (gm_r μ 45 5), .int (gm_r μ 32 x2.toNatClampNeg)]) dX2_worthOfPart_110 lX2_53 kJ6_bitCount_0f7a4 rfl (by decide) (Nat.le_of_ble_eq_true rfl) (by decide) rfl (gI_go (fun r12 μ11 h => ?_)) h
  refine go_imul dX2_worthOfPart_113 ?_
  refine go_iadd dX2_worthOfPart_114 ?_
  refine go_iload dX2_worthOfPart_115 3 rfl ?_
  refine go_iadd dX2_worthOfPart_117 ?_
  exact go_iret dX2_worthOfPart_118 rfl (Nat.le_refl _) (Nat.le_refl _) ⟨_, rfl, h⟩
set_option maxRecDepth 100000 in
theorem eX2_chooseFirst {G : gC} {l : Launch} {a1 : Int32} {a2 : Int32} {μ : Mem} {P : Mem → Prop} (h : 144 ≤ μ.1 ∧ qX2_findParts G l a1 a2 μ (fun (μ2 : Mem) => qJ6_bitCount_0f7a4 G l a2 μ2 (fun (r5 : Int32) (μ4 : Mem) => hX2_chooseFirst_17 G l P a1 a2 r5 (0 : Int32) (1 : Int32) μ4))) : qX2_chooseFirst G l a1 a2 μ P := by
  refine Sp.of (by decide) (Nat.le_of_ble_eq_true rfl) (lv := [(0, .ref (ga G 106)), (1, .int a1), (2, .int a2)]) rfl ?_
  refine go_aload_n dX2_chooseFirst_0 rfl 0 rfl ?_
  refine go_iload_n dX2_chooseFirst_1 rfl 1 rfl ?_
  refine go_iload_n dX2_chooseFirst_2 rfl 2 rfl ?_
  obtain ⟨n1, h⟩ := h
  refine go_callV (As := [.int a1, .int a2]) (rest := []) dX2_chooseFirst_3 lX2_73 kX2_findParts rfl (by decide) (Nat.le_of_ble_eq_true rfl) (g_lt2 n1 rfl) (gs_106 G _ _) rfl (by decide) rfl (gV_go (fun μ2 h => ?_)) h
  refine go_iload_n dX2_chooseFirst_6 rfl 2 rfl ?_
  refine go_callS (As := [.int a2]) (rest := []) dX2_chooseFirst_7 lX2_53 kJ6_bitCount_0f7a4 rfl (by decide) (Nat.le_of_ble_eq_true rfl) (by decide) rfl (gI_go (fun r5 μ4 h => ?_)) h
  refine go_istore_n [(0, .ref (ga G 106)), (1, .int a1), (2, .int a2), (3, .int r5)] [1, 2, 3, 0] dX2_chooseFirst_10 rfl (by decide) rfl ?_
  refine go_iconst (v := 0) dX2_chooseFirst_11 (by decide) ?_
  refine go_istore [(0, .ref (ga G 106)), (1, .int a1), (2, .int a2), (3, .int r5), (4, .int (0 : Int32))] [1, 2, 3, 4, 0] dX2_chooseFirst_12 (by decide) rfl ?_
  refine go_iconst (v := 1) dX2_chooseFirst_14 (by decide) ?_
  refine go_istore [(0, .ref (ga G 106)), (1, .int a1), (2, .int a2), (3, .int r5), (4, .int (0 : Int32)), (5, .int (1 : Int32))] [1, 2, 3, 4, 5, 0] dX2_chooseFirst_15 (by decide) rfl ?_
  exact h
set_option maxRecDepth 100000 in
theorem eX2_chooseFirst_17 {G : gC} {l : Launch} {P : Mem → Prop} {x1 : Int32} {x2 : Int32} {x3 : Int32} {x4 : Int32} {x5 : Int32} {μ : Mem} (h : ((((1 : Int32) <<< (x3 &&& 31)) ≤ x5) → P μ) ∧ ((¬ ((1 : Int32) <<< (x3 &&& 31)) ≤ x5) → 144 ≤ μ.1 ∧ qX2_worthOfPart G l x1 ((x4 - x2) &&& x2) μ (fun (r9 : Int32) (μ8 : Mem) => ((¬ r9 = (-1 : Int32)) → qJ6_bitCount_0f7a4 G l ((x4 - x2) &&& x2) μ8 (fun (r12 : Int32) (μ11 : Mem) => hX2_chooseFirst_66 G l P x1 x2 x3 ((x4 - x2) &&& x2) x5 r9 (((1 : Int32) + x3) - r12) (1 : Int32) μ11)) ∧ ((r9 = (-1 : Int32)) → hX2_chooseFirst_66 G l P x1 x2 x3 ((x4 - x2) &&& x2) x5 r9 (0 : Int32) (1 : Int32) μ8)))) : hX2_chooseFirst_17 G l P x1 x2 x3 x4 x5 μ := by
  refine go_iload dX2_chooseFirst_17 5 rfl ?_
  refine go_iconst (v := 1) dX2_chooseFirst_19 (by decide) ?_
  refine go_iload_n dX2_chooseFirst_20 rfl 3 rfl ?_
  refine go_ishl dX2_chooseFirst_21 ?_
  refine go_icmp_ge 149 dX2_chooseFirst_22 (by decide) (fun c6 => ?_) (fun c6 => ?_)
  · have h := h.1 c6
    exact go_vret dX2_chooseFirst_149 rfl (Nat.le_refl _) (Nat.le_refl _) ⟨rfl, h⟩
  · have h := h.2 c6
    refine go_iload dX2_chooseFirst_25 4 rfl ?_
    refine go_iload_n dX2_chooseFirst_27 rfl 2 rfl ?_
    refine go_isub dX2_chooseFirst_28 ?_
    refine go_iload_n dX2_chooseFirst_29 rfl 2 rfl ?_
    refine go_iand dX2_chooseFirst_30 ?_
    refine go_istore [(0, .ref (ga G 106)), (1, .int x1), (2, .int x2), (3, .int x3), (4, .int ((x4 - x2) &&& x2)), (5, .int x5)] [1, 2, 3, 4, 0, 5] dX2_chooseFirst_31 (by decide) rfl ?_
    refine go_aload_n dX2_chooseFirst_33 rfl 0 rfl ?_
    refine go_iload_n dX2_chooseFirst_34 rfl 1 rfl ?_
    refine go_iload dX2_chooseFirst_35 4 rfl ?_
    obtain ⟨n7, h⟩ := h
    refine go_callV (As := [.int x1, .int ((x4 - x2) &&& x2)]) (rest := []) dX2_chooseFirst_37 lX2_76 kX2_worthOfPart rfl (by decide) (Nat.le_of_ble_eq_true rfl) (g_lt2 n7 rfl) (gs_106 G _ _) rfl (by decide) rfl (gI_go (fun r9 μ8 h => ?_)) h
    refine go_istore [(0, .ref (ga G 106)), (1, .int x1), (2, .int x2), (3, .int x3), (4, .int ((x4 - x2) &&& x2)), (5, .int x5), (6, .int r9)] [1, 2, 3, 4, 5, 6, 0] dX2_chooseFirst_40 (by decide) rfl ?_
    refine go_iload dX2_chooseFirst_42 6 rfl ?_
    refine go_iconst (v := -1) dX2_chooseFirst_44 (by decide) ?_
    refine go_icmp_ne 52 dX2_chooseFirst_45 (by decide) (fun c10 => ?_) (fun c10 => ?_)
    · have h := h.1 c10
      refine go_iconst (v := 1) dX2_chooseFirst_52 (by decide) ?_
      refine go_iload_n dX2_chooseFirst_53 rfl 3 rfl ?_
      refine go_iadd dX2_chooseFirst_54 ?_
      refine go_iload dX2_chooseFirst_55 4 rfl ?_
      refine go_callS (As := [.int ((x4 - x2) &&& x2)]) (rest := [.int ((1 : Int32) + x3)]) dX2_chooseFirst_57 lX2_53 kJ6_bitCount_0f7a4 rfl (by decide) (Nat.le_of_ble_eq_true rfl) (by decide) rfl (gI_go (fun r12 μ11 h => ?_)) h
      refine go_isub dX2_chooseFirst_60 ?_
      refine go_istore [(0, .ref (ga G 106)), (1, .int x1), (2, .int x2), (3, .int x3), (4, .int ((x4 - x2) &&& x2)), (5, .int x5), (6, .int r9), (7, .int (((1 : Int32) + x3) - r12))] [1, 2, 3, 4, 5, 6, 7, 0] dX2_chooseFirst_61 (by decide) rfl ?_
      refine go_iconst (v := 1) dX2_chooseFirst_63 (by decide) ?_
      refine go_istore [(0, .ref (ga G 106)), (1, .int x1), (2, .int x2), (3, .int x3), (4, .int ((x4 - x2) &&& x2)), (5, .int x5), (6, .int r9), (7, .int (((1 : Int32) + x3) - r12)), (8, .int (1 : Int32))] [1, 2, 3, 4, 5, 6, 7, 8, 0] dX2_chooseFirst_64 (by decide) rfl ?_
      exact h
    · have h := h.2 c10
      refine go_iconst (v := 0) dX2_chooseFirst_48 (by decide) ?_
      refine go_goto 61 dX2_chooseFirst_49 (by decide) ?_
      refine go_istore [(0, .ref (ga G 106)), (1, .int x1), (2, .int x2), (3, .int x3), (4, .int ((x4 - x2) &&& x2)), (5, .int x5), (6, .int r9), (7, .int (0 : Int32))] [1, 2, 3, 4, 5, 6, 7, 0] dX2_chooseFirst_61 (by decide) rfl ?_
      refine go_iconst (v := 1) dX2_chooseFirst_63 (by decide) ?_
      refine go_istore [(0, .ref (ga G 106)), (1, .int x1), (2, .int x2), (3, .int x3), (4, .int ((x4 - x2) &&& x2)), (5, .int x5), (6, .int r9), (7, .int (0 : Int32)), (8, .int (1 : Int32))] [1, 2, 3, 4, 5, 6, 7, 8, 0] dX2_chooseFirst_64 (by decide) rfl ?_
      exact h
set_option maxRecDepth 100000 in
theorem eX2_chooseFirst_66 {G : gC} {l : Launch} {P : Mem → Prop} {x1 : Int32} {x2 : Int32} {x3 : Int32} {x4 : Int32} {x5 : Int32} {x6 : Int32} {x7 : Int32} {x8 : Int32} {μ : Mem} (h : ((x7 < x8) → hX2_chooseFirst_17 G l P x1 x2 x3 x4 (x5 + (1 : Int32)) μ) ∧ ((¬ x7 < x8) → 144 ≤ μ.1 ∧ vp_in (x8 - (1 : Int32)) 11 ∧ vp_in (x1 ||| x4) 1024 ∧ ∀ v17 : Int32, v17 = (gm_r μ (108 + 1 + (x8 - (1 : Int32)).toNatClampNeg) (x1 ||| x4).toNatClampNeg) → ((v17 = (-1 : Int32)) → hX2_chooseFirst_66 G l P x1 x2 x3 x4 x5 x6 x7 (x8 + (1 : Int32)) μ) ∧ ((¬ v17 = (-1 : Int32)) → vp_in x8 11 ∧ vp_in x1 1024 ∧ (((v17 + x6) ≤ (gm_r μ (108 + 1 + x8.toNatClampNeg) x1.toNatClampNeg)) → hX2_chooseFirst_66 G l P x1 x2 x3 x4 x5 x6 x7 (x8 + (1 : Int32)) μ) ∧ ((¬ (v17 + x6) ≤ (gm_r μ (108 + 1 + x8.toNatClampNeg) x1.toNatClampNeg)) → hX2_chooseFirst_66 G l P x1 x2 x3 x4 x5 x6 x7 (x8 + (1 : Int32)) (gm_w (gm_w μ (108 + 1 + x8.toNatClampNeg) x1.toNatClampNeg (v17 + x6)) (120 + 1 + x8.toNatClampNeg) x1.toNatClampNeg x4))))) : hX2_chooseFirst_66 G l P x1 x2 x3 x4 x5 x6 x7 x8 μ := by
  refine go_iload dX2_chooseFirst_66 8 rfl ?_
  refine go_iload dX2_chooseFirst_68 7 rfl ?_
  refine go_icmp_gt 143 dX2_chooseFirst_70 (by decide) (fun c13 => ?_) (fun c13 => ?_)
  · have h := h.1 c13
    refine go_iinc (v := (x5 + (1 : Int32))) [(0, .ref (ga G 106)), (1, .int x1), (2, .int x2), (3, .int x3), (4, .int x4), (5, .int (x5 + (1 : Int32))), (6, .int x6), (7, .int x7), (8, .int x8)] [1, 2, 3, 4, 5, 0, 6, 7, 8] 5 dX2_chooseFirst_143 rfl rfl (by decide) rfl ?_
    refine go_goto 17 dX2_chooseFirst_146 (by decide) ?_
    exact go_sub [0, 1, 2, 3, 4, 5] rfl h
  · have h := h.2 c13
    refine go_aload_n dX2_chooseFirst_73 rfl 0 rfl ?_
    obtain ⟨n14, h⟩ := h
    refine go_get (.ref (ga G 108)) dX2_chooseFirst_74 fX2_17 (g_lt2 n14 rfl) (gs_106 G _ _) rfl ?_
    refine go_iload dX2_chooseFirst_77 8 rfl ?_
    refine go_iconst (v := 1) dX2_chooseFirst_79 (by decide) ?_
    refine go_isub dX2_chooseFirst_80 ?_
    obtain ⟨b15, h⟩ := h
    refine go_aald dX2_chooseFirst_81 (g_lt2 n14 rfl) (gs_108 G) b15 ?_
    refine go_iload_n dX2_chooseFirst_82 rfl 1 rfl ?_
    refine go_iload dX2_chooseFirst_83 4 rfl ?_
    refine go_ior dX2_chooseFirst_85 ?_
    obtain ⟨b16, h⟩ := h
    refine go_ialdv ((gm_r μ (108 + 1 + (x8 - (1 : Int32)).toNatClampNeg) (x1 ||| x4).toNatClampNeg)) dX2_chooseFirst_86 (gl_108 n14 (vp_lt b15)) (gn_108 G (vp_lt b15)) b16 rfl ?_
    refine go_topi (fun v17 e_v17 => ?_)
    have h := h v17 e_v17
    refine go_istore [(0, .ref (ga G 106)), (1, .int x1), (2, .int x2), (3, .int x3), (4, .int x4), (5, .int x5), (6, .int x6), (7, .int x7), (8, .int x8), (9, .int v17)] [1, 2, 3, 4, 5, 6, 7, 8, 9, 0] dX2_chooseFirst_87 (by decide) rfl ?_
    refine go_iload dX2_chooseFirst_89 9 rfl ?_
    refine go_iconst (v := -1) dX2_chooseFirst_91 (by decide) ?_
    refine go_icmp_eq 137 dX2_chooseFirst_92 (by decide) (fun c18 => ?_) (fun c18 => ?_)
    · have h := h.1 c18
      refine go_iinc (v := (x8 + (1 : Int32))) [(0, .ref (ga G 106)), (1, .int x1), (2, .int x2), (3, .int x3), (4, .int x4), (5, .int x5), (6, .int x6), (7, .int x7), (8, .int (x8 + (1 : Int32))), (9, .int v17)] [1, 2, 3, 4, 5, 6, 7, 8, 0, 9] 8 dX2_chooseFirst_137 rfl rfl (by decide) rfl ?_
      refine go_goto 66 dX2_chooseFirst_140 (by decide) ?_
      exact go_sub [0, 1, 2, 3, 4, 5, 6, 7, 8] rfl h
    · have h := h.2 c18
      refine go_iload dX2_chooseFirst_95 9 rfl ?_
      refine go_iload dX2_chooseFirst_97 6 rfl ?_
      refine go_iadd dX2_chooseFirst_99 ?_
      refine go_aload_n dX2_chooseFirst_100 rfl 0 rfl ?_
      refine go_get (.ref (ga G 108)) dX2_chooseFirst_101 fX2_17 (g_lt2 n14 rfl) (gs_106 G _ _) rfl ?_
      refine go_iload dX2_chooseFirst_104 8 rfl ?_
      obtain ⟨b19, h⟩ := h
      refine go_aald dX2_chooseFirst_106 (g_lt2 n14 rfl) (gs_108 G) b19 ?_
      refine go_iload_n dX2_chooseFirst_107 rfl 1 rfl ?_
      obtain ⟨b20, h⟩ := h
      refine go_ialdv ((gm_r μ (108 + 1 + x8.toNatClampNeg) x1.toNatClampNeg)) dX2_chooseFirst_108 (gl_108 n14 (vp_lt b19)) (gn_108 G (vp_lt b19)) b20 rfl ?_
      refine go_icmp_le 137 dX2_chooseFirst_109 (by decide) (fun c21 => ?_) (fun c21 => ?_)
      · have h := h.1 c21
        refine go_iinc (v := (x8 + (1 : Int32))) [(0, .ref (ga G 106)), (1, .int x1), (2, .int x2), (3, .int x3), (4, .int x4), (5, .int x5), (6, .int x6), (7, .int x7), (8, .int (x8 + (1 : Int32))), (9, .int v17)] [1, 2, 3, 4, 5, 6, 7, 8, 0, 9] 8 dX2_chooseFirst_137 rfl rfl (by decide) rfl ?_
        refine go_goto 66 dX2_chooseFirst_140 (by decide) ?_
        exact go_sub [0, 1, 2, 3, 4, 5, 6, 7, 8] rfl h
      · have h := h.2 c21
        refine go_aload_n dX2_chooseFirst_112 rfl 0 rfl ?_
        refine go_get (.ref (ga G 108)) dX2_chooseFirst_113 fX2_17 (g_lt2 n14 rfl) (gs_106 G _ _) rfl ?_
        refine go_iload dX2_chooseFirst_116 8 rfl ?_
        refine go_aald dX2_chooseFirst_118 (g_lt2 n14 rfl) (gs_108 G) b19 ?_
        refine go_iload_n dX2_chooseFirst_119 rfl 1 rfl ?_
        refine go_iload dX2_chooseFirst_120 9 rfl ?_
        refine go_iload dX2_chooseFirst_122 6 rfl ?_
        refine go_iadd dX2_chooseFirst_124 ?_
        refine go_iast dX2_chooseFirst_125 (gl_108 n14 (vp_lt b19)) (gn_108 G (vp_lt b19)) b20 ?_
        refine go_aload_n dX2_chooseFirst_126 rfl 0 rfl ?_
        refine go_get (.ref (ga G 120)) dX2_chooseFirst_127 fX2_20 (g_lt2 n14 rfl) (gs_106 G _ _) rfl ?_
        refine go_iload dX2_chooseFirst_130 8 rfl ?_
        refine go_aald dX2_chooseFirst_132 (g_lt2 n14 rfl) (gs_120 G) b19 ?_
        refine go_iload_n dX2_chooseFirst_133 rfl 1 rfl ?_
        refine go_iload dX2_chooseFirst_134 4 rfl ?_
        refine go_iast dX2_chooseFirst_136 (gl_120 n14 (vp_lt b19)) (gn_120 G (vp_lt b19)) b20 ?_
        refine go_iinc (v := (x8 + (1 : Int32))) [(0, .ref (ga G 106)), (1, .int x1), (2, .int x2), (3, .int x3), (4, .int x4), (5, .int x5), (6, .int x6), (7, .int x7), (8, .int (x8 + (1 : Int32))), (9, .int v17)] [1, 2, 3, 4, 5, 6, 7, 8, 0, 9] 8 dX2_chooseFirst_137 rfl rfl (by decide) rfl ?_
        refine go_goto 66 dX2_chooseFirst_140 (by decide) ?_
        exact go_sub [0, 1, 2, 3, 4, 5, 6, 7, 8] rfl h
set_option maxRecDepth 100000 in
theorem eX2_planFor {G : gC} {l : Launch} {a1 : Int32} {μ : Mem} {P : Mem → Prop} (h : 144 ≤ μ.1 ∧ ((¬ (gm_r μ 106 7) = a1) → qX0_printed G l  μ (fun (r4 : Int32) (μ3 : Mem) => qX0_setUpTo G l r4 μ3 (fun (r6 : Int32) (μ5 : Mem) => 144 ≤ μ5.1 ∧ qJ6_bitCount_0f7a4 G l a1 (gm_w μ5 106 3 r6) (fun (r9 : Int32) (μ8 : Mem) => hX2_planFor_37 G l P a1 r9 a1 (0 : Int32) μ8)))) ∧ (((gm_r μ 106 7) = a1) → P μ)) : qX2_planFor G l a1 μ P := by
  refine Sp.of (by decide) (Nat.le_of_ble_eq_true rfl) (lv := [(0, .ref (ga G 106)), (1, .int a1)]) rfl ?_
  refine go_aload_n dX2_planFor_0 rfl 0 rfl ?_
  obtain ⟨n1, h⟩ := h
  refine go_get (.int (gm_r μ 106 7)) dX2_planFor_1 fX2_23 (g_lt2 n1 rfl) (gs_106 G _ _) rfl ?_
  refine go_iload_n dX2_planFor_4 rfl 1 rfl ?_
  refine go_icmp_ne 9 dX2_planFor_5 (by decide) (fun c2 => ?_) (fun c2 => ?_)
  · have h := h.1 c2
    refine go_aload_n dX2_planFor_9 rfl 0 rfl ?_
    refine go_aload_n dX2_planFor_10 rfl 0 rfl ?_
    refine go_get (.ref (ga G 42)) dX2_planFor_11 fX2_41 (g_lt2 n1 rfl) (gs_106 G _ _) rfl ?_
    refine go_aload_n dX2_planFor_14 rfl 0 rfl ?_
    refine go_get (.ref (ga G 42)) dX2_planFor_15 fX2_41 (g_lt2 n1 rfl) (gs_106 G _ _) rfl ?_
    refine go_callV (As := []) (rest := [.ref (ga G 42), .ref (ga G 106)]) dX2_planFor_18 lX2_58 kX0_printed rfl (by decide) (Nat.le_of_ble_eq_true rfl) (g_lt rfl) (gs_42 G _ _) rfl (by decide) rfl (gI_go (fun r4 μ3 h => ?_)) h
    refine go_callV (As := [.int r4]) (rest := [.ref (ga G 106)]) dX2_planFor_21 lX2_64 kX0_setUpTo rfl (by decide) (Nat.le_of_ble_eq_true rfl) (g_lt rfl) (gs_42 G _ _) rfl (by decide) rfl (gI_go (fun r6 μ5 h => ?_)) h
    obtain ⟨n7, h⟩ := h
    refine go_puti dX2_planFor_24 pX2_67 (g_lt2 n7 rfl) (gs_106 G _ _) (Nat.le_of_ble_eq_true rfl) rfl ?_
    refine go_iload_n dX2_planFor_27 rfl 1 rfl ?_
    refine go_callS (As := [.int a1]) (rest := []) dX2_planFor_28 lX2_53 kJ6_bitCount_0f7a4 rfl (by decide) (Nat.le_of_ble_eq_true rfl) (by decide) rfl (gI_go (fun r9 μ8 h => ?_)) h
    refine go_istore_n [(0, .ref (ga G 106)), (1, .int a1), (2, .int r9)] [1, 2, 0] dX2_planFor_31 rfl (by decide) rfl ?_
    refine go_iload_n dX2_planFor_32 rfl 1 rfl ?_
    refine go_istore_n [(0, .ref (ga G 106)), (1, .int a1), (2, .int r9), (3, .int a1)] [1, 2, 3, 0] dX2_planFor_33 rfl (by decide) rfl ?_
    refine go_iconst (v := 0) dX2_planFor_34 (by decide) ?_
    refine go_istore [(0, .ref (ga G 106)), (1, .int a1), (2, .int r9), (3, .int a1), (4, .int (0 : Int32))] [1, 2, 3, 4, 0] dX2_planFor_35 (by decide) rfl ?_
    exact h
  · have h := h.2 c2
    exact go_vret dX2_planFor_8 rfl (Nat.le_refl _) (Nat.le_refl _) ⟨rfl, h⟩
set_option maxRecDepth 100000 in
theorem eX2_planFor_37 {G : gC} {l : Launch} {P : Mem → Prop} {x1 : Int32} {x2 : Int32} {x3 : Int32} {x4 : Int32} {μ : Mem} (h : ((((1 : Int32) <<< (x2 &&& 31)) ≤ x4) → 144 ≤ μ.1 ∧ P (gm_w μ 106 7 x1)) ∧ ((¬ ((1 : Int32) <<< (x2 &&& 31)) ≤ x4) → hX2_planFor_48 G l P x1 x2 x3 x4 (0 : Int32) μ)) : hX2_planFor_37 G l P x1 x2 x3 x4 μ := by
  refine go_iload dX2_planFor_37 4 rfl ?_
  refine go_iconst (v := 1) dX2_planFor_39 (by decide) ?_
  refine go_iload_n dX2_planFor_40 rfl 2 rfl ?_
  refine go_ishl dX2_planFor_41 ?_
  refine go_icmp_ge 107 dX2_planFor_42 (by decide) (fun c10 => ?_) (fun c10 => ?_)
  · have h := h.1 c10
    refine go_aload_n dX2_planFor_107 rfl 0 rfl ?_
    refine go_iload_n dX2_planFor_108 rfl 1 rfl ?_
    obtain ⟨n11, h⟩ := h
    refine go_puti dX2_planFor_109 pX2_23 (g_lt2 n11 rfl) (gs_106 G _ _) (Nat.le_of_ble_eq_true rfl) rfl ?_
    exact go_vret dX2_planFor_112 rfl (Nat.le_refl _) (Nat.le_refl _) ⟨rfl, h⟩
  · have h := h.2 c10
    refine go_iconst (v := 0) dX2_planFor_45 (by decide) ?_
    refine go_istore [(0, .ref (ga G 106)), (1, .int x1), (2, .int x2), (3, .int x3), (4, .int x4), (5, .int (0 : Int32))] [1, 2, 3, 4, 5, 0] dX2_planFor_46 (by decide) rfl ?_
    exact h
set_option maxRecDepth 100000 in
theorem eX2_planFor_48 {G : gC} {l : Launch} {P : Mem → Prop} {x1 : Int32} {x2 : Int32} {x3 : Int32} {x4 : Int32} {x5 : Int32} {μ : Mem} (h : (((10 : Int32) < x5) → 144 ≤ μ.1 ∧ qX2_chooseFirst G l x3 (x1 &&& (x3 ^^^ (-1 : Int32))) μ (fun (μ14 : Mem) => hX2_planFor_37 G l P x1 x2 ((x3 - (1 : Int32)) &&& x1) (x4 + (1 : Int32)) μ14)) ∧ ((¬ (10 : Int32) < x5) → 144 ≤ μ.1 ∧ vp_in x5 11 ∧ ((¬ x5 = 0) → vp_in x3 1024 ∧ hX2_planFor_48 G l P x1 x2 x3 x4 (x5 + (1 : Int32)) (gm_w μ (108 + 1 + x5.toNatClampNeg) x3.toNatClampNeg (-1 : Int32))) ∧ ((x5 = 0) → ((¬ x3 = x1) → vp_in x3 1024 ∧ hX2_planFor_48 G l P x1 x2 x3 x4 (x5 + (1 : Int32)) (gm_w μ (108 + 1 + x5.toNatClampNeg) x3.toNatClampNeg (-1 : Int32))) ∧ ((x3 = x1) → vp_in x3 1024 ∧ hX2_planFor_48 G l P x1 x2 x3 x4 (x5 + (1 : Int32)) (gm_w μ (108 + 1 + x5.toNatClampNeg) x3.toNatClampNeg (0 : Int32)))))) : hX2_planFor_48 G l P x1 x2 x3 x4 x5 μ := by
  refine go_iload dX2_planFor_48 5 rfl ?_
  refine go_bipush (v := 10) dX2_planFor_50 (by decide) ?_
  refine go_icmp_gt 85 dX2_planFor_52 (by decide) (fun c12 => ?_) (fun c12 => ?_)
  · have h := h.1 c12
    refine go_aload_n dX2_planFor_85 rfl 0 rfl ?_
    refine go_iload_n dX2_planFor_86 rfl 3 rfl ?_
    refine go_iload_n dX2_planFor_87 rfl 1 rfl ?_
    refine go_iload_n dX2_planFor_88 rfl 3 rfl ?_
    refine go_iconst (v := -1) dX2_planFor_89 (by decide) ?_
    refine go_ixor dX2_planFor_90 ?_
    refine go_iand dX2_planFor_91 ?_
    obtain ⟨n13, h⟩ := h
    refine go_callV (As := [.int x3, .int (x1 &&& (x3 ^^^ (-1 : Int32)))]) (rest := []) dX2_planFor_92 lX2_69 kX2_chooseFirst rfl (by decide) (Nat.le_of_ble_eq_true rfl) (g_lt2 n13 rfl) (gs_106 G _ _) rfl (by decide) rfl (gV_go (fun μ14 h => ?_)) h
    refine go_iload_n dX2_planFor_95 rfl 3 rfl ?_
    refine go_iconst (v := 1) dX2_planFor_96 (by decide) ?_
    refine go_isub dX2_planFor_97 ?_
    refine go_iload_n dX2_planFor_98 rfl 1 rfl ?_
    refine go_iand dX2_planFor_99 ?_
    refine go_istore_n [(0, .ref (ga G 106)), (1, .int x1), (2, .int x2), (3, .int ((x3 - (1 : Int32)) &&& x1)), (4, .int x4), (5, .int x5)] [1, 2, 3, 0, 4, 5] dX2_planFor_100 rfl (by decide) rfl ?_
    refine go_iinc (v := (x4 + (1 : Int32))) [(0, .ref (ga G 106)), (1, .int x1), (2, .int x2), (3, .int ((x3 - (1 : Int32)) &&& x1)), (4, .int (x4 + (1 : Int32))), (5, .int x5)] [1, 2, 3, 4, 0, 5] 4 dX2_planFor_101 rfl rfl (by decide) rfl ?_
    refine go_goto 37 dX2_planFor_104 (by decide) ?_
    exact go_sub [0, 1, 2, 3, 4] rfl h
  · have h := h.2 c12
    refine go_aload_n dX2_planFor_55 rfl 0 rfl ?_
    obtain ⟨n16, h⟩ := h
    refine go_get (.ref (ga G 108)) dX2_planFor_56 fX2_17 (g_lt2 n16 rfl) (gs_106 G _ _) rfl ?_
    refine go_iload dX2_planFor_59 5 rfl ?_
    obtain ⟨b17, h⟩ := h
    refine go_aald dX2_planFor_61 (g_lt2 n16 rfl) (gs_108 G) b17 ?_
    refine go_iload_n dX2_planFor_62 rfl 3 rfl ?_
    refine go_iload dX2_planFor_63 5 rfl ?_
    refine go_if_ne 77 dX2_planFor_65 (by decide) (fun c18 => ?_) (fun c18 => ?_)
    · have h := h.1 c18
      refine go_iconst (v := -1) dX2_planFor_77 (by decide) ?_
      obtain ⟨b19, h⟩ := h
      refine go_iast dX2_planFor_78 (gl_108 n16 (vp_lt b17)) (gn_108 G (vp_lt b17)) b19 ?_
      refine go_iinc (v := (x5 + (1 : Int32))) [(0, .ref (ga G 106)), (1, .int x1), (2, .int x2), (3, .int x3), (4, .int x4), (5, .int (x5 + (1 : Int32)))] [1, 2, 3, 4, 5, 0] 5 dX2_planFor_79 rfl rfl (by decide) rfl ?_
      refine go_goto 48 dX2_planFor_82 (by decide) ?_
      exact h
    · have h := h.2 c18
      refine go_iload_n dX2_planFor_68 rfl 3 rfl ?_
      refine go_iload_n dX2_planFor_69 rfl 1 rfl ?_
      refine go_icmp_ne 77 dX2_planFor_70 (by decide) (fun c20 => ?_) (fun c20 => ?_)
      · have h := h.1 c20
        refine go_iconst (v := -1) dX2_planFor_77 (by decide) ?_
        obtain ⟨b21, h⟩ := h
        refine go_iast dX2_planFor_78 (gl_108 n16 (vp_lt b17)) (gn_108 G (vp_lt b17)) b21 ?_
        refine go_iinc (v := (x5 + (1 : Int32))) [(0, .ref (ga G 106)), (1, .int x1), (2, .int x2), (3, .int x3), (4, .int x4), (5, .int (x5 + (1 : Int32)))] [1, 2, 3, 4, 5, 0] 5 dX2_planFor_79 rfl rfl (by decide) rfl ?_
        refine go_goto 48 dX2_planFor_82 (by decide) ?_
        exact h
      · have h := h.2 c20
        refine go_iconst (v := 0) dX2_planFor_73 (by decide) ?_
        refine go_goto 78 dX2_planFor_74 (by decide) ?_
        obtain ⟨b22, h⟩ := h
        refine go_iast dX2_planFor_78 (gl_108 n16 (vp_lt b17)) (gn_108 G (vp_lt b17)) b22 ?_
        refine go_iinc (v := (x5 + (1 : Int32))) [(0, .ref (ga G 106)), (1, .int x1), (2, .int x2), (3, .int x3), (4, .int x4), (5, .int (x5 + (1 : Int32)))] [1, 2, 3, 4, 5, 0] 5 dX2_planFor_79 rfl rfl (by decide) rfl ?_
        refine go_goto 48 dX2_planFor_82 (by decide) ?_
        exact h
set_option maxRecDepth 100000 in
theorem eX9_plan {G : gC} {l : Launch} {a1 : Int32} {a2 : Int32} {a3 : Int32} {μ : Mem} {P : Int32 → Mem → Prop} (h : qX9_areScenes G l a2 μ (fun (r2 : Int32) (μ1 : Mem) => ((r2 = 0) → P (-1001 : Int32) μ1) ∧ ((¬ r2 = 0) → qX0_printed G l  μ1 (fun (r5 : Int32) (μ4 : Mem) => qX0_setUpTo G l r5 μ4 (fun (r7 : Int32) (μ6 : Mem) => (((a2 &&& r7) = 0) → ((a1 < (1 : Int32)) → P (-1002 : Int32) μ6) ∧ ((¬ a1 < (1 : Int32)) → ((a1 ≤ (12 : Int32)) → qX9_freshPlans G l  μ6 (fun (μ11 : Mem) => 144 ≤ μ11.1 ∧ qX2_planFor G l a2 μ11 (fun (μ14 : Mem) => ((¬ a3 = (-1 : Int32)) → 144 ≤ μ14.1 ∧ qX2_partOfBest G l a1 a3 μ14 (fun (r19 : Int32) (μ18 : Mem) => P r19 μ18)) ∧ ((a3 = (-1 : Int32)) → 144 ≤ μ14.1 ∧ qX2_worthOfBest G l a1 μ14 (fun (r22 : Int32) (μ21 : Mem) => P r22 μ21))))) ∧ ((¬ a1 ≤ (12 : Int32)) → P (-1002 : Int32) μ6))) ∧ ((¬ (a2 &&& r7) = 0) → P (-1001 : Int32) μ6)))))) : qX9_plan G l a1 a2 a3 μ P := by
  refine Sp.of (by decide) (Nat.le_of_ble_eq_true rfl) (lv := [(0, .ref (ga G 0)), (1, .int a1), (2, .int a2), (3, .int a3)]) rfl ?_
  refine go_aload_n dX9_plan_0 rfl 0 rfl ?_
  refine go_iload_n dX9_plan_1 rfl 2 rfl ?_
  refine go_callV (As := [.int a2]) (rest := []) dX9_plan_2 lX9_162 kX9_areScenes rfl (by decide) (Nat.le_of_ble_eq_true rfl) (g_lt rfl) (gs_0 G _ _) rfl (by decide) rfl (gI_go (fun r2 μ1 h => ?_)) h
  refine go_if_eq 27 dX9_plan_5 (by decide) (fun c3 => ?_) (fun c3 => ?_)
  · have h := h.1 c3
    refine go_sipush (v := -1001) dX9_plan_27 (by decide) ?_
    exact go_iret dX9_plan_30 rfl (by decide) (by decide) ⟨_, rfl, h⟩
  · have h := h.2 c3
    refine go_iload_n dX9_plan_8 rfl 2 rfl ?_
    refine go_aload_n dX9_plan_9 rfl 0 rfl ?_
    refine go_get (.ref (ga G 42)) dX9_plan_10 fX9_56 (g_lt rfl) (gs_0 G _ _) rfl ?_
    refine go_aload_n dX9_plan_13 rfl 0 rfl ?_
    refine go_get (.ref (ga G 42)) dX9_plan_14 fX9_56 (g_lt rfl) (gs_0 G _ _) rfl ?_
    refine go_callV (As := []) (rest := [.ref (ga G 42), .int a2]) dX9_plan_17 lX9_135 kX0_printed rfl (by decide) (Nat.le_of_ble_eq_true rfl) (g_lt rfl) (gs_42 G _ _) rfl (by decide) rfl (gI_go (fun r5 μ4 h => ?_)) h
    refine go_callV (As := [.int r5]) (rest := [.int a2]) dX9_plan_20 lX9_212 kX0_setUpTo rfl (by decide) (Nat.le_of_ble_eq_true rfl) (g_lt rfl) (gs_42 G _ _) rfl (by decide) rfl (gI_go (fun r7 μ6 h => ?_)) h
    refine go_iand dX9_plan_23 ?_
    refine go_if_eq 31 dX9_plan_24 (by decide) (fun c8 => ?_) (fun c8 => ?_)
    · have h := h.1 c8
      refine go_iload_n dX9_plan_31 rfl 1 rfl ?_
      refine go_iconst (v := 1) dX9_plan_32 (by decide) ?_
      refine go_icmp_lt 42 dX9_plan_33 (by decide) (fun c9 => ?_) (fun c9 => ?_)
      · have h := h.1 c9
        refine go_sipush (v := -1002) dX9_plan_42 (by decide) ?_
        exact go_iret dX9_plan_45 rfl (by decide) (by decide) ⟨_, rfl, h⟩
      · have h := h.2 c9
        refine go_iload_n dX9_plan_36 rfl 1 rfl ?_
        refine go_bipush (v := 12) dX9_plan_37 (by decide) ?_
        refine go_icmp_le 46 dX9_plan_39 (by decide) (fun c10 => ?_) (fun c10 => ?_)
        · have h := h.1 c10
          refine go_aload_n dX9_plan_46 rfl 0 rfl ?_
          refine go_callV (As := []) (rest := []) dX9_plan_47 lX9_246 kX9_freshPlans rfl (by decide) (Nat.le_of_ble_eq_true rfl) (g_lt rfl) (gs_0 G _ _) rfl (by decide) rfl (gR_go (fun μ11 h => ?_)) h
          refine go_astore [(0, .ref (ga G 0)), (1, .int a1), (2, .int a2), (3, .int a3), (4, .ref (ga G 106))] [1, 2, 3, 4, 0] dX9_plan_50 (by decide) rfl ?_
          refine go_aload dX9_plan_52 4 rfl ?_
          refine go_iload_n dX9_plan_54 rfl 2 rfl ?_
          obtain ⟨n13, h⟩ := h
          refine go_callV (As := [.int a2]) (rest := []) dX9_plan_55 lX9_250 kX2_planFor rfl (by decide) (Nat.le_of_ble_eq_true rfl) (g_lt2 n13 rfl) (gs_106 G _ _) rfl (by decide) rfl (gV_go (fun μ14 h => ?_)) h
          refine go_iload_n dX9_plan_58 rfl 3 rfl ?_
          refine go_iconst (v := -1) dX9_plan_59 (by decide) ?_
          refine go_icmp_ne 72 dX9_plan_60 (by decide) (fun c16 => ?_) (fun c16 => ?_)
          · have h := h.1 c16
            refine go_aload dX9_plan_72 4 rfl ?_
            refine go_iload_n dX9_plan_74 rfl 1 rfl ?_
            refine go_iload_n dX9_plan_75 rfl 3 rfl ?_
            obtain ⟨n17, h⟩ := h
            refine go_callV (As := [.int a1, .int a3]) (rest := []) dX9_plan_76 lX9_258 kX2_partOfBest rfl (by decide) (Nat.le_of_ble_eq_true rfl) (g_lt2 n17 rfl) (gs_106 G _ _) rfl (by decide) rfl (gI_go (fun r19 μ18 h => ?_)) h
            exact go_iret dX9_plan_79 rfl (by decide) (by decide) ⟨_, rfl, h⟩
          · have h := h.2 c16
            refine go_aload dX9_plan_63 4 rfl ?_
            refine go_iload_n dX9_plan_65 rfl 1 rfl ?_
            obtain ⟨n20, h⟩ := h
            refine go_callV (As := [.int a1]) (rest := []) dX9_plan_66 lX9_255 kX2_worthOfBest rfl (by decide) (Nat.le_of_ble_eq_true rfl) (g_lt2 n20 rfl) (gs_106 G _ _) rfl (by decide) rfl (gI_go (fun r22 μ21 h => ?_)) h
            refine go_goto 79 dX9_plan_69 (by decide) ?_
            exact go_iret dX9_plan_79 rfl (by decide) (by decide) ⟨_, rfl, h⟩
        · have h := h.2 c10
          refine go_sipush (v := -1002) dX9_plan_42 (by decide) ?_
          exact go_iret dX9_plan_45 rfl (by decide) (by decide) ⟨_, rfl, h⟩
    · have h := h.2 c8
      refine go_sipush (v := -1001) dX9_plan_27 (by decide) ?_
      exact go_iret dX9_plan_30 rfl (by decide) (by decide) ⟨_, rfl, h⟩
set_option maxRecDepth 100000 in
theorem eX2_gatherBehind {G : gC} {l : Launch} {a1 : Int32} {a2 : Int32} {μ : Mem} {P : Mem → Prop} (h : 144 ≤ μ.1 ∧ qX2_findParts G l a1 a2 μ (fun (μ2 : Mem) => qJ6_bitCount_0f7a4 G l a2 μ2 (fun (r5 : Int32) (μ4 : Mem) => qJ6_bitCount_0f7a4 G l a1 μ4 (fun (r7 : Int32) (μ6 : Mem) => hX2_gatherBehind_23 G l P a1 a2 r5 r7 (0 : Int32) (1 : Int32) μ6)))) : qX2_gatherBehind G l a1 a2 μ P := by
  refine Sp.of (by decide) (Nat.le_of_ble_eq_true rfl) (lv := [(0, .ref (ga G 106)), (1, .int a1), (2, .int a2)]) rfl ?_
  refine go_aload_n dX2_gatherBehind_0 rfl 0 rfl ?_
  refine go_iload_n dX2_gatherBehind_1 rfl 1 rfl ?_
  refine go_iload_n dX2_gatherBehind_2 rfl 2 rfl ?_
  obtain ⟨n1, h⟩ := h
  refine go_callV (As := [.int a1, .int a2]) (rest := []) dX2_gatherBehind_3 lX2_73 kX2_findParts rfl (by decide) (Nat.le_of_ble_eq_true rfl) (g_lt2 n1 rfl) (gs_106 G _ _) rfl (by decide) rfl (gV_go (fun μ2 h => ?_)) h
  refine go_iload_n dX2_gatherBehind_6 rfl 2 rfl ?_
  refine go_callS (As := [.int a2]) (rest := []) dX2_gatherBehind_7 lX2_53 kJ6_bitCount_0f7a4 rfl (by decide) (Nat.le_of_ble_eq_true rfl) (by decide) rfl (gI_go (fun r5 μ4 h => ?_)) h
  refine go_istore_n [(0, .ref (ga G 106)), (1, .int a1), (2, .int a2), (3, .int r5)] [1, 2, 3, 0] dX2_gatherBehind_10 rfl (by decide) rfl ?_
  refine go_iload_n dX2_gatherBehind_11 rfl 1 rfl ?_
  refine go_callS (As := [.int a1]) (rest := []) dX2_gatherBehind_12 lX2_53 kJ6_bitCount_0f7a4 rfl (by decide) (Nat.le_of_ble_eq_true rfl) (by decide) rfl (gI_go (fun r7 μ6 h => ?_)) h
  refine go_istore [(0, .ref (ga G 106)), (1, .int a1), (2, .int a2), (3, .int r5), (4, .int r7)] [1, 2, 3, 4, 0] dX2_gatherBehind_15 (by decide) rfl ?_
  refine go_iconst (v := 0) dX2_gatherBehind_17 (by decide) ?_
  refine go_istore [(0, .ref (ga G 106)), (1, .int a1), (2, .int a2), (3, .int r5), (4, .int r7), (5, .int (0 : Int32))] [1, 2, 3, 4, 5, 0] dX2_gatherBehind_18 (by decide) rfl ?_
  refine go_iconst (v := 1) dX2_gatherBehind_20 (by decide) ?_
  refine go_istore [(0, .ref (ga G 106)), (1, .int a1), (2, .int a2), (3, .int r5), (4, .int r7), (5, .int (0 : Int32)), (6, .int (1 : Int32))] [1, 2, 3, 4, 5, 6, 0] dX2_gatherBehind_21 (by decide) rfl ?_
  exact h
set_option maxRecDepth 100000 in
theorem eX2_gatherBehind_23 {G : gC} {l : Launch} {P : Mem → Prop} {x1 : Int32} {x2 : Int32} {x3 : Int32} {x4 : Int32} {x5 : Int32} {x6 : Int32} {μ : Mem} (h : ((((1 : Int32) <<< (x3 &&& 31)) ≤ x6) → P μ) ∧ ((¬ ((1 : Int32) <<< (x3 &&& 31)) ≤ x6) → 144 ≤ μ.1 ∧ qX2_worthOfPart G l x1 ((x5 - x2) &&& x2) μ (fun (r11 : Int32) (μ10 : Mem) => hX2_gatherBehind_51 G l P x1 x2 x3 x4 ((x5 - x2) &&& x2) x6 r11 (0 : Int32) μ10))) : hX2_gatherBehind_23 G l P x1 x2 x3 x4 x5 x6 μ := by
  refine go_iload dX2_gatherBehind_23 6 rfl ?_
  refine go_iconst (v := 1) dX2_gatherBehind_25 (by decide) ?_
  refine go_iload_n dX2_gatherBehind_26 rfl 3 rfl ?_
  refine go_ishl dX2_gatherBehind_27 ?_
  refine go_icmp_ge 134 dX2_gatherBehind_28 (by decide) (fun c8 => ?_) (fun c8 => ?_)
  · have h := h.1 c8
    exact go_vret dX2_gatherBehind_134 rfl (Nat.le_refl _) (Nat.le_refl _) ⟨rfl, h⟩
  · have h := h.2 c8
    refine go_iload dX2_gatherBehind_31 5 rfl ?_
    refine go_iload_n dX2_gatherBehind_33 rfl 2 rfl ?_
    refine go_isub dX2_gatherBehind_34 ?_
    refine go_iload_n dX2_gatherBehind_35 rfl 2 rfl ?_
    refine go_iand dX2_gatherBehind_36 ?_
    refine go_istore [(0, .ref (ga G 106)), (1, .int x1), (2, .int x2), (3, .int x3), (4, .int x4), (5, .int ((x5 - x2) &&& x2)), (6, .int x6)] [1, 2, 3, 4, 5, 0, 6] dX2_gatherBehind_37 (by decide) rfl ?_
    refine go_aload_n dX2_gatherBehind_39 rfl 0 rfl ?_
    refine go_iload_n dX2_gatherBehind_40 rfl 1 rfl ?_
    refine go_iload dX2_gatherBehind_41 5 rfl ?_
    obtain ⟨n9, h⟩ := h
    refine go_callV (As := [.int x1, .int ((x5 - x2) &&& x2)]) (rest := []) dX2_gatherBehind_43 lX2_76 kX2_worthOfPart rfl (by decide) (Nat.le_of_ble_eq_true rfl) (g_lt2 n9 rfl) (gs_106 G _ _) rfl (by decide) rfl (gI_go (fun r11 μ10 h => ?_)) h
    refine go_istore [(0, .ref (ga G 106)), (1, .int x1), (2, .int x2), (3, .int x3), (4, .int x4), (5, .int ((x5 - x2) &&& x2)), (6, .int x6), (7, .int r11)] [1, 2, 3, 4, 5, 6, 7, 0] dX2_gatherBehind_46 (by decide) rfl ?_
    refine go_iconst (v := 0) dX2_gatherBehind_48 (by decide) ?_
    refine go_istore [(0, .ref (ga G 106)), (1, .int x1), (2, .int x2), (3, .int x3), (4, .int x4), (5, .int ((x5 - x2) &&& x2)), (6, .int x6), (7, .int r11), (8, .int (0 : Int32))] [1, 2, 3, 4, 5, 6, 7, 8, 0] dX2_gatherBehind_49 (by decide) rfl ?_
    exact h
set_option maxRecDepth 100000 in
theorem eX2_gatherBehind_51 {G : gC} {l : Launch} {P : Mem → Prop} {x1 : Int32} {x2 : Int32} {x3 : Int32} {x4 : Int32} {x5 : Int32} {x6 : Int32} {x7 : Int32} {x8 : Int32} {μ : Mem} (h : ((x4 < x8) → hX2_gatherBehind_23 G l P x1 x2 x3 x4 x5 (x6 + (1 : Int32)) μ) ∧ ((¬ x4 < x8) → ((x7 = (-1 : Int32)) → hX2_gatherBehind_23 G l P x1 x2 x3 x4 x5 (x6 + (1 : Int32)) μ) ∧ ((¬ x7 = (-1 : Int32)) → 144 ≤ μ.1 ∧ vp_in x8 11 ∧ vp_in x1 1024 ∧ (((gm_r μ (132 + 1 + x8.toNatClampNeg) x1.toNatClampNeg) = (-1 : Int32)) → hX2_gatherBehind_51 G l P x1 x2 x3 x4 x5 x6 x7 (x8 + (1 : Int32)) μ) ∧ ((¬ (gm_r μ (132 + 1 + x8.toNatClampNeg) x1.toNatClampNeg) = (-1 : Int32)) → vp_in (x8 + (1 : Int32)) 11 ∧ vp_in (x1 ||| x5) 1024 ∧ hX2_gatherBehind_51 G l P x1 x2 x3 x4 x5 x6 x7 (x8 + (1 : Int32)) (gm_w μ (132 + 1 + (x8 + (1 : Int32)).toNatClampNeg) (x1 ||| x5).toNatClampNeg (if (gm_r μ (132 + 1 + (x8 + (1 : Int32)).toNatClampNeg) (x1 ||| x5).toNatClampNeg) < ((gm_r μ (132 + 1 + x8.toNatClampNeg) x1.toNatClampNeg) + x7) then ((gm_r μ (132 + 1 + x8.toNatClampNeg) x1.toNatClampNeg) + x7) else (gm_r μ (132 + 1 + (x8 + (1 : Int32)).toNatClampNeg) (x1 ||| x5).toNatClampNeg))))))) : hX2_gatherBehind_51 G l P x1 x2 x3 x4 x5 x6 x7 x8 μ := by
  refine go_iload dX2_gatherBehind_51 8 rfl ?_
  refine go_iload dX2_gatherBehind_53 4 rfl ?_
  refine go_icmp_gt 128 dX2_gatherBehind_55 (by decide) (fun c12 => ?_) (fun c12 => ?_)
  · have h := h.1 c12
    refine go_iinc (v := (x6 + (1 : Int32))) [(0, .ref (ga G 106)), (1, .int x1), (2, .int x2), (3, .int x3), (4, .int x4), (5, .int x5), (6, .int (x6 + (1 : Int32))), (7, .int x7), (8, .int x8)] [1, 2, 3, 4, 5, 6, 0, 7, 8] 6 dX2_gatherBehind_128 rfl rfl (by decide) rfl ?_
    refine go_goto 23 dX2_gatherBehind_131 (by decide) ?_
    exact go_sub [0, 1, 2, 3, 4, 5, 6] rfl h
  · have h := h.2 c12
    refine go_iload dX2_gatherBehind_58 7 rfl ?_
    refine go_iconst (v := -1) dX2_gatherBehind_60 (by decide) ?_
    refine go_icmp_eq 128 dX2_gatherBehind_61 (by decide) (fun c13 => ?_) (fun c13 => ?_)
    · have h := h.1 c13
      refine go_iinc (v := (x6 + (1 : Int32))) [(0, .ref (ga G 106)), (1, .int x1), (2, .int x2), (3, .int x3), (4, .int x4), (5, .int x5), (6, .int (x6 + (1 : Int32))), (7, .int x7), (8, .int x8)] [1, 2, 3, 4, 5, 6, 0, 7, 8] 6 dX2_gatherBehind_128 rfl rfl (by decide) rfl ?_
      refine go_goto 23 dX2_gatherBehind_131 (by decide) ?_
      exact go_sub [0, 1, 2, 3, 4, 5, 6] rfl h
    · have h := h.2 c13
      refine go_aload_n dX2_gatherBehind_64 rfl 0 rfl ?_
      obtain ⟨n14, h⟩ := h
      refine go_get (.ref (ga G 132)) dX2_gatherBehind_65 fX2_27 (g_lt2 n14 rfl) (gs_106 G _ _) rfl ?_
      refine go_iload dX2_gatherBehind_68 8 rfl ?_
      obtain ⟨b15, h⟩ := h
      refine go_aald dX2_gatherBehind_70 (g_lt2 n14 rfl) (gs_132 G) b15 ?_
      refine go_iload_n dX2_gatherBehind_71 rfl 1 rfl ?_
      obtain ⟨b16, h⟩ := h
      refine go_ialdv ((gm_r μ (132 + 1 + x8.toNatClampNeg) x1.toNatClampNeg)) dX2_gatherBehind_72 (gl_132 n14 (vp_lt b15)) (gn_132 G (vp_lt b15)) b16 rfl ?_
      refine go_iconst (v := -1) dX2_gatherBehind_73 (by decide) ?_
      refine go_icmp_eq 122 dX2_gatherBehind_74 (by decide) (fun c17 => ?_) (fun c17 => ?_)
      · have h := h.1 c17
        refine go_iinc (v := (x8 + (1 : Int32))) [(0, .ref (ga G 106)), (1, .int x1), (2, .int x2), (3, .int x3), (4, .int x4), (5, .int x5), (6, .int x6), (7, .int x7), (8, .int (x8 + (1 : Int32)))] [1, 2, 3, 4, 5, 6, 7, 8, 0] 8 dX2_gatherBehind_122 rfl rfl (by decide) rfl ?_
        refine go_goto 51 dX2_gatherBehind_125 (by decide) ?_
        exact h
      · have h := h.2 c17
        refine go_iload_n dX2_gatherBehind_77 rfl 1 rfl ?_
        refine go_iload dX2_gatherBehind_78 5 rfl ?_
        refine go_ior dX2_gatherBehind_80 ?_
        refine go_istore [(0, .ref (ga G 106)), (1, .int x1), (2, .int x2), (3, .int x3), (4, .int x4), (5, .int x5), (6, .int x6), (7, .int x7), (8, .int x8), (9, .int (x1 ||| x5))] [1, 2, 3, 4, 5, 6, 7, 8, 9, 0] dX2_gatherBehind_81 (by decide) rfl ?_
        refine go_aload_n dX2_gatherBehind_83 rfl 0 rfl ?_
        refine go_get (.ref (ga G 132)) dX2_gatherBehind_84 fX2_27 (g_lt2 n14 rfl) (gs_106 G _ _) rfl ?_
        refine go_iload dX2_gatherBehind_87 8 rfl ?_
        refine go_iconst (v := 1) dX2_gatherBehind_89 (by decide) ?_
        refine go_iadd dX2_gatherBehind_90 ?_
        obtain ⟨b18, h⟩ := h
        refine go_aald dX2_gatherBehind_91 (g_lt2 n14 rfl) (gs_132 G) b18 ?_
        refine go_iload dX2_gatherBehind_92 9 rfl ?_
        refine go_aload_n dX2_gatherBehind_94 rfl 0 rfl ?_
        refine go_get (.ref (ga G 132)) dX2_gatherBehind_95 fX2_27 (g_lt2 n14 rfl) (gs_106 G _ _) rfl ?_
        refine go_iload dX2_gatherBehind_98 8 rfl ?_
        refine go_iconst (v := 1) dX2_gatherBehind_100 (by decide) ?_
        refine go_iadd dX2_gatherBehind_101 ?_
        refine go_aald dX2_gatherBehind_102 (g_lt2 n14 rfl) (gs_132 G) b18 ?_
        refine go_iload dX2_gatherBehind_103 9 rfl ?_
        obtain ⟨b19, h⟩ := h
        refine go_ialdv ((gm_r μ (132 + 1 + (x8 + (1 : Int32)).toNatClampNeg) (x1 ||| x5).toNatClampNeg)) dX2_gatherBehind_105 (gl_132 n14 (vp_lt b18)) (gn_132 G (vp_lt b18)) b19 rfl ?_
        refine go_aload_n dX2_gatherBehind_106 rfl 0 rfl ?_
        refine go_get (.ref (ga G 132)) dX2_gatherBehind_107 fX2_27 (g_lt2 n14 rfl) (gs_106 G _ _) rfl ?_
        refine go_iload dX2_gatherBehind_110 8 rfl ?_
        refine go_aald dX2_gatherBehind_112 (g_lt2 n14 rfl) (gs_132 G) b15 ?_
        refine go_iload_n dX2_gatherBehind_113 rfl 1 rfl ?_
        refine go_ialdv ((gm_r μ (132 + 1 + x8.toNatClampNeg) x1.toNatClampNeg)) dX2_gatherBehind_114 (gl_132 n14 (vp_lt b15)) (gn_132 G (vp_lt b15)) b16 rfl ?_
        refine go_iload dX2_gatherBehind_115 7 rfl ?_
        refine go_iadd dX2_gatherBehind_117 ?_
        refine go_mmax dX2_gatherBehind_118 (g_in 863 (by decide +kernel) rfl) (g_in 621 (by decide +kernel) rfl) (g_in 81 (by decide +kernel) rfl) (g_in 622 (by decide +kernel) rfl) (by decide) (by decide) (Nat.le_of_ble_eq_true rfl) (Nat.le_refl _) (Nat.le_refl _) ?_
        refine go_iast dX2_gatherBehind_121 (gl_132 n14 (vp_lt b18)) (gn_132 G (vp_lt b18)) b19 ?_
        refine go_iinc (v := (x8 + (1 : Int32))) [(0, .ref (ga G 106)), (1, .int x1), (2, .int x2), (3, .int x3), (4, .int x4), (5, .int x5), (6, .int x6), (7, .int x7), (8, .int (x8 + (1 : Int32))), (9, .int (x1 ||| x5))] [1, 2, 3, 4, 5, 6, 7, 8, 0, 9] 8 dX2_gatherBehind_122 rfl rfl (by decide) rfl ?_
        refine go_goto 51 dX2_gatherBehind_125 (by decide) ?_
        exact go_sub [0, 1, 2, 3, 4, 5, 6, 7, 8] rfl h
set_option maxRecDepth 100000 in
theorem eX2_isGathered {G : gC} {l : Launch} {a1 : Int32} {μ : Mem} {P : Int32 → Mem → Prop} (h : hX2_isGathered_2 G l P a1 (0 : Int32) μ) : qX2_isGathered G l a1 μ P := by
  refine Sp.of (by decide) (Nat.le_of_ble_eq_true rfl) (lv := [(0, .ref (ga G 106)), (1, .int a1)]) rfl ?_
  refine go_iconst (v := 0) dX2_isGathered_0 (by decide) ?_
  refine go_istore_n [(0, .ref (ga G 106)), (1, .int a1), (2, .int (0 : Int32))] [1, 2, 0] dX2_isGathered_1 rfl (by decide) rfl ?_
  exact h
set_option maxRecDepth 100000 in
theorem eX2_isGathered_2 {G : gC} {l : Launch} {P : Int32 → Mem → Prop} {x1 : Int32} {x2 : Int32} {μ : Mem} (h : (((10 : Int32) < x2) → P (0 : Int32) μ) ∧ ((¬ (10 : Int32) < x2) → 144 ≤ μ.1 ∧ vp_in x2 11 ∧ vp_in x1 1024 ∧ (((gm_r μ (132 + 1 + x2.toNatClampNeg) x1.toNatClampNeg) = (-1 : Int32)) → hX2_isGathered_2 G l P x1 (x2 + (1 : Int32)) μ) ∧ ((¬ (gm_r μ (132 + 1 + x2.toNatClampNeg) x1.toNatClampNeg) = (-1 : Int32)) → P (1 : Int32) μ))) : hX2_isGathered_2 G l P x1 x2 μ := by
  refine go_iload_n dX2_isGathered_2 rfl 2 rfl ?_
  refine go_bipush (v := 10) dX2_isGathered_3 (by decide) ?_
  refine go_icmp_gt 28 dX2_isGathered_5 (by decide) (fun c1 => ?_) (fun c1 => ?_)
  · have h := h.1 c1
    refine go_iconst (v := 0) dX2_isGathered_28 (by decide) ?_
    exact go_zret dX2_isGathered_29 rfl (Nat.le_refl _) (Nat.le_refl _) rfl ⟨_, rfl, h⟩
  · have h := h.2 c1
    refine go_aload_n dX2_isGathered_8 rfl 0 rfl ?_
    obtain ⟨n2, h⟩ := h
    refine go_get (.ref (ga G 132)) dX2_isGathered_9 fX2_27 (g_lt2 n2 rfl) (gs_106 G _ _) rfl ?_
    refine go_iload_n dX2_isGathered_12 rfl 2 rfl ?_
    obtain ⟨b3, h⟩ := h
    refine go_aald dX2_isGathered_13 (g_lt2 n2 rfl) (gs_132 G) b3 ?_
    refine go_iload_n dX2_isGathered_14 rfl 1 rfl ?_
    obtain ⟨b4, h⟩ := h
    refine go_ialdv ((gm_r μ (132 + 1 + x2.toNatClampNeg) x1.toNatClampNeg)) dX2_isGathered_15 (gl_132 n2 (vp_lt b3)) (gn_132 G (vp_lt b3)) b4 rfl ?_
    refine go_iconst (v := -1) dX2_isGathered_16 (by decide) ?_
    refine go_icmp_eq 22 dX2_isGathered_17 (by decide) (fun c5 => ?_) (fun c5 => ?_)
    · have h := h.1 c5
      refine go_iinc (v := (x2 + (1 : Int32))) [(0, .ref (ga G 106)), (1, .int x1), (2, .int (x2 + (1 : Int32)))] [1, 2, 0] 2 dX2_isGathered_22 rfl rfl (by decide) rfl ?_
      refine go_goto 2 dX2_isGathered_25 (by decide) ?_
      exact h
    · have h := h.2 c5
      refine go_iconst (v := 1) dX2_isGathered_20 (by decide) ?_
      exact go_zret dX2_isGathered_21 rfl (Nat.le_refl _) (Nat.le_refl _) rfl ⟨_, rfl, h⟩
set_option maxRecDepth 100000 in
theorem eX2_gatherFor {G : gC} {l : Launch} {a1 : Int32} {μ : Mem} {P : Mem → Prop} (h : 144 ≤ μ.1 ∧ ((¬ (gm_r μ 106 9) = a1) → hX2_gatherFor_11 G l P a1 (0 : Int32) μ) ∧ (((gm_r μ 106 9) = a1) → P μ)) : qX2_gatherFor G l a1 μ P := by
  refine Sp.of (by decide) (Nat.le_of_ble_eq_true rfl) (lv := [(0, .ref (ga G 106)), (1, .int a1)]) rfl ?_
  refine go_aload_n dX2_gatherFor_0 rfl 0 rfl ?_
  obtain ⟨n1, h⟩ := h
  refine go_get (.int (gm_r μ 106 9)) dX2_gatherFor_1 fX2_30 (g_lt2 n1 rfl) (gs_106 G _ _) rfl ?_
  refine go_iload_n dX2_gatherFor_4 rfl 1 rfl ?_
  refine go_icmp_ne 9 dX2_gatherFor_5 (by decide) (fun c2 => ?_) (fun c2 => ?_)
  · have h := h.1 c2
    refine go_iconst (v := 0) dX2_gatherFor_9 (by decide) ?_
    refine go_istore_n [(0, .ref (ga G 106)), (1, .int a1), (2, .int (0 : Int32))] [1, 2, 0] dX2_gatherFor_10 rfl (by decide) rfl ?_
    exact h
  · have h := h.2 c2
    exact go_vret dX2_gatherFor_8 rfl (Nat.le_refl _) (Nat.le_refl _) ⟨rfl, h⟩
set_option maxRecDepth 100000 in
theorem eX2_gatherFor_11 {G : gC} {l : Launch} {P : Mem → Prop} {x1 : Int32} {x2 : Int32} {μ : Mem} (h : (((10 : Int32) < x2) → 144 ≤ μ.1 ∧ qX0_printed G l  μ (fun (r6 : Int32) (μ5 : Mem) => qX0_setUpTo G l r6 μ5 (fun (r8 : Int32) (μ7 : Mem) => 144 ≤ μ7.1 ∧ qJ6_bitCount_0f7a4 G l x1 (gm_w μ7 106 3 r8) (fun (r11 : Int32) (μ10 : Mem) => hX2_gatherFor_85 G l P x1 r11 (0 : Int32) (0 : Int32) μ10)))) ∧ ((¬ (10 : Int32) < x2) → hX2_gatherFor_19 G l P x1 x2 (0 : Int32) μ)) : hX2_gatherFor_11 G l P x1 x2 μ := by
  refine go_iload_n dX2_gatherFor_11 rfl 2 rfl ?_
  refine go_bipush (v := 10) dX2_gatherFor_12 (by decide) ?_
  refine go_icmp_gt 57 dX2_gatherFor_14 (by decide) (fun c3 => ?_) (fun c3 => ?_)
  · have h := h.1 c3
    refine go_aload_n dX2_gatherFor_57 rfl 0 rfl ?_
    refine go_aload_n dX2_gatherFor_58 rfl 0 rfl ?_
    obtain ⟨n4, h⟩ := h
    refine go_get (.ref (ga G 42)) dX2_gatherFor_59 fX2_41 (g_lt2 n4 rfl) (gs_106 G _ _) rfl ?_
    refine go_aload_n dX2_gatherFor_62 rfl 0 rfl ?_
    refine go_get (.ref (ga G 42)) dX2_gatherFor_63 fX2_41 (g_lt2 n4 rfl) (gs_106 G _ _) rfl ?_
    refine go_callV (As := []) (rest := [.ref (ga G 42), .ref (ga G 106)]) dX2_gatherFor_66 lX2_58 kX0_printed rfl (by decide) (Nat.le_of_ble_eq_true rfl) (g_lt rfl) (gs_42 G _ _) rfl (by decide) rfl (gI_go (fun r6 μ5 h => ?_)) h
    refine go_callV (As := [.int r6]) (rest := [.ref (ga G 106)]) dX2_gatherFor_69 lX2_64 kX0_setUpTo rfl (by decide) (Nat.le_of_ble_eq_true rfl) (g_lt rfl) (gs_42 G _ _) rfl (by decide) rfl (gI_go (fun r8 μ7 h => ?_)) h
    obtain ⟨n9, h⟩ := h
    refine go_puti dX2_gatherFor_72 pX2_67 (g_lt2 n9 rfl) (gs_106 G _ _) (Nat.le_of_ble_eq_true rfl) rfl ?_
    refine go_iload_n dX2_gatherFor_75 rfl 1 rfl ?_
    refine go_callS (As := [.int x1]) (rest := []) dX2_gatherFor_76 lX2_53 kJ6_bitCount_0f7a4 rfl (by decide) (Nat.le_of_ble_eq_true rfl) (by decide) rfl (gI_go (fun r11 μ10 h => ?_)) h
    refine go_istore_n [(0, .ref (ga G 106)), (1, .int x1), (2, .int r11)] [1, 2, 0] dX2_gatherFor_79 rfl (by decide) rfl ?_
    refine go_iconst (v := 0) dX2_gatherFor_80 (by decide) ?_
    refine go_istore_n [(0, .ref (ga G 106)), (1, .int x1), (2, .int r11), (3, .int (0 : Int32))] [1, 2, 3, 0] dX2_gatherFor_81 rfl (by decide) rfl ?_
    refine go_iconst (v := 0) dX2_gatherFor_82 (by decide) ?_
    refine go_istore [(0, .ref (ga G 106)), (1, .int x1), (2, .int r11), (3, .int (0 : Int32)), (4, .int (0 : Int32))] [1, 2, 3, 4, 0] dX2_gatherFor_83 (by decide) rfl ?_
    exact h
  · have h := h.2 c3
    refine go_iconst (v := 0) dX2_gatherFor_17 (by decide) ?_
    refine go_istore_n [(0, .ref (ga G 106)), (1, .int x1), (2, .int x2), (3, .int (0 : Int32))] [1, 2, 3, 0] dX2_gatherFor_18 rfl (by decide) rfl ?_
    exact h
set_option maxRecDepth 100000 in
theorem eX2_gatherFor_85 {G : gC} {l : Launch} {P : Mem → Prop} {x1 : Int32} {x2 : Int32} {x3 : Int32} {x4 : Int32} {μ : Mem} (h : ((((1 : Int32) <<< (x2 &&& 31)) ≤ x4) → 144 ≤ μ.1 ∧ P (gm_w μ 106 9 x1)) ∧ ((¬ ((1 : Int32) <<< (x2 &&& 31)) ≤ x4) → 144 ≤ μ.1 ∧ qX2_isGathered G l x3 μ (fun (r16 : Int32) (μ15 : Mem) => ((r16 = 0) → hX2_gatherFor_85 G l P x1 x2 ((x3 - x1) &&& x1) (x4 + (1 : Int32)) μ15) ∧ ((¬ r16 = 0) → 144 ≤ μ15.1 ∧ qX2_gatherBehind G l x3 (x1 &&& (x3 ^^^ (-1 : Int32))) μ15 (fun (μ19 : Mem) => hX2_gatherFor_85 G l P x1 x2 ((x3 - x1) &&& x1) (x4 + (1 : Int32)) μ19))))) : hX2_gatherFor_85 G l P x1 x2 x3 x4 μ := by
  refine go_iload dX2_gatherFor_85 4 rfl ?_
  refine go_iconst (v := 1) dX2_gatherFor_87 (by decide) ?_
  refine go_iload_n dX2_gatherFor_88 rfl 2 rfl ?_
  refine go_ishl dX2_gatherFor_89 ?_
  refine go_icmp_ge 123 dX2_gatherFor_90 (by decide) (fun c12 => ?_) (fun c12 => ?_)
  · have h := h.1 c12
    refine go_aload_n dX2_gatherFor_123 rfl 0 rfl ?_
    refine go_iload_n dX2_gatherFor_124 rfl 1 rfl ?_
    obtain ⟨n13, h⟩ := h
    refine go_puti dX2_gatherFor_125 pX2_30 (g_lt2 n13 rfl) (gs_106 G _ _) (Nat.le_of_ble_eq_true rfl) rfl ?_
    exact go_vret dX2_gatherFor_128 rfl (Nat.le_refl _) (Nat.le_refl _) ⟨rfl, h⟩
  · have h := h.2 c12
    refine go_aload_n dX2_gatherFor_93 rfl 0 rfl ?_
    refine go_iload_n dX2_gatherFor_94 rfl 3 rfl ?_
    obtain ⟨n14, h⟩ := h
    refine go_callV (As := [.int x3]) (rest := []) dX2_gatherFor_95 lX2_80 kX2_isGathered rfl (by decide) (Nat.le_of_ble_eq_true rfl) (g_lt2 n14 rfl) (gs_106 G _ _) rfl (by decide) rfl (gI_go (fun r16 μ15 h => ?_)) h
    refine go_if_eq 111 dX2_gatherFor_98 (by decide) (fun c17 => ?_) (fun c17 => ?_)
    · have h := h.1 c17
      refine go_iload_n dX2_gatherFor_111 rfl 3 rfl ?_
      refine go_iload_n dX2_gatherFor_112 rfl 1 rfl ?_
      refine go_isub dX2_gatherFor_113 ?_
      refine go_iload_n dX2_gatherFor_114 rfl 1 rfl ?_
      refine go_iand dX2_gatherFor_115 ?_
      refine go_istore_n [(0, .ref (ga G 106)), (1, .int x1), (2, .int x2), (3, .int ((x3 - x1) &&& x1)), (4, .int x4)] [1, 2, 3, 0, 4] dX2_gatherFor_116 rfl (by decide) rfl ?_
      refine go_iinc (v := (x4 + (1 : Int32))) [(0, .ref (ga G 106)), (1, .int x1), (2, .int x2), (3, .int ((x3 - x1) &&& x1)), (4, .int (x4 + (1 : Int32)))] [1, 2, 3, 4, 0] 4 dX2_gatherFor_117 rfl rfl (by decide) rfl ?_
      refine go_goto 85 dX2_gatherFor_120 (by decide) ?_
      exact h
    · have h := h.2 c17
      refine go_aload_n dX2_gatherFor_101 rfl 0 rfl ?_
      refine go_iload_n dX2_gatherFor_102 rfl 3 rfl ?_
      refine go_iload_n dX2_gatherFor_103 rfl 1 rfl ?_
      refine go_iload_n dX2_gatherFor_104 rfl 3 rfl ?_
      refine go_iconst (v := -1) dX2_gatherFor_105 (by decide) ?_
      refine go_ixor dX2_gatherFor_106 ?_
      refine go_iand dX2_gatherFor_107 ?_
      obtain ⟨n18, h⟩ := h
      refine go_callV (As := [.int x3, .int (x1 &&& (x3 ^^^ (-1 : Int32)))]) (rest := []) dX2_gatherFor_108 lX2_84 kX2_gatherBehind rfl (by decide) (Nat.le_of_ble_eq_true rfl) (g_lt2 n18 rfl) (gs_106 G _ _) rfl (by decide) rfl (gV_go (fun μ19 h => ?_)) h
      refine go_iload_n dX2_gatherFor_111 rfl 3 rfl ?_
      refine go_iload_n dX2_gatherFor_112 rfl 1 rfl ?_
      refine go_isub dX2_gatherFor_113 ?_
      refine go_iload_n dX2_gatherFor_114 rfl 1 rfl ?_
      refine go_iand dX2_gatherFor_115 ?_
      refine go_istore_n [(0, .ref (ga G 106)), (1, .int x1), (2, .int x2), (3, .int ((x3 - x1) &&& x1)), (4, .int x4)] [1, 2, 3, 0, 4] dX2_gatherFor_116 rfl (by decide) rfl ?_
      refine go_iinc (v := (x4 + (1 : Int32))) [(0, .ref (ga G 106)), (1, .int x1), (2, .int x2), (3, .int ((x3 - x1) &&& x1)), (4, .int (x4 + (1 : Int32)))] [1, 2, 3, 4, 0] 4 dX2_gatherFor_117 rfl rfl (by decide) rfl ?_
      refine go_goto 85 dX2_gatherFor_120 (by decide) ?_
      exact h
set_option maxRecDepth 100000 in
theorem eX2_gatherFor_19 {G : gC} {l : Launch} {P : Mem → Prop} {x1 : Int32} {x2 : Int32} {x3 : Int32} {μ : Mem} (h : ((x1 < x3) → hX2_gatherFor_11 G l P x1 (x2 + (1 : Int32)) μ) ∧ ((¬ x1 < x3) → 144 ≤ μ.1 ∧ vp_in x2 11 ∧ ((¬ x2 = 0) → vp_in x3 1024 ∧ hX2_gatherFor_19 G l P x1 x2 (x3 + (1 : Int32)) (gm_w μ (132 + 1 + x2.toNatClampNeg) x3.toNatClampNeg (-1 : Int32))) ∧ ((x2 = 0) → ((¬ x3 = 0) → vp_in x3 1024 ∧ hX2_gatherFor_19 G l P x1 x2 (x3 + (1 : Int32)) (gm_w μ (132 + 1 + x2.toNatClampNeg) x3.toNatClampNeg (-1 : Int32))) ∧ ((x3 = 0) → vp_in x3 1024 ∧ hX2_gatherFor_19 G l P x1 x2 (x3 + (1 : Int32)) (gm_w μ (132 + 1 + x2.toNatClampNeg) x3.toNatClampNeg (0 : Int32)))))) : hX2_gatherFor_19 G l P x1 x2 x3 μ := by
  refine go_iload_n dX2_gatherFor_19 rfl 3 rfl ?_
  refine go_iload_n dX2_gatherFor_20 rfl 1 rfl ?_
  refine go_icmp_gt 51 dX2_gatherFor_21 (by decide) (fun c21 => ?_) (fun c21 => ?_)
  · have h := h.1 c21
    refine go_iinc (v := (x2 + (1 : Int32))) [(0, .ref (ga G 106)), (1, .int x1), (2, .int (x2 + (1 : Int32))), (3, .int x3)] [1, 2, 0, 3] 2 dX2_gatherFor_51 rfl rfl (by decide) rfl ?_
    refine go_goto 11 dX2_gatherFor_54 (by decide) ?_
    exact go_sub [0, 1, 2] rfl h
  · have h := h.2 c21
    refine go_aload_n dX2_gatherFor_24 rfl 0 rfl ?_
    obtain ⟨n22, h⟩ := h
    refine go_get (.ref (ga G 132)) dX2_gatherFor_25 fX2_27 (g_lt2 n22 rfl) (gs_106 G _ _) rfl ?_
    refine go_iload_n dX2_gatherFor_28 rfl 2 rfl ?_
    obtain ⟨b23, h⟩ := h
    refine go_aald dX2_gatherFor_29 (g_lt2 n22 rfl) (gs_132 G) b23 ?_
    refine go_iload_n dX2_gatherFor_30 rfl 3 rfl ?_
    refine go_iload_n dX2_gatherFor_31 rfl 2 rfl ?_
    refine go_if_ne 43 dX2_gatherFor_32 (by decide) (fun c24 => ?_) (fun c24 => ?_)
    · have h := h.1 c24
      refine go_iconst (v := -1) dX2_gatherFor_43 (by decide) ?_
      obtain ⟨b25, h⟩ := h
      refine go_iast dX2_gatherFor_44 (gl_132 n22 (vp_lt b23)) (gn_132 G (vp_lt b23)) b25 ?_
      refine go_iinc (v := (x3 + (1 : Int32))) [(0, .ref (ga G 106)), (1, .int x1), (2, .int x2), (3, .int (x3 + (1 : Int32)))] [1, 2, 3, 0] 3 dX2_gatherFor_45 rfl rfl (by decide) rfl ?_
      refine go_goto 19 dX2_gatherFor_48 (by decide) ?_
      exact h
    · have h := h.2 c24
      refine go_iload_n dX2_gatherFor_35 rfl 3 rfl ?_
      refine go_if_ne 43 dX2_gatherFor_36 (by decide) (fun c26 => ?_) (fun c26 => ?_)
      · have h := h.1 c26
        refine go_iconst (v := -1) dX2_gatherFor_43 (by decide) ?_
        obtain ⟨b27, h⟩ := h
        refine go_iast dX2_gatherFor_44 (gl_132 n22 (vp_lt b23)) (gn_132 G (vp_lt b23)) b27 ?_
        refine go_iinc (v := (x3 + (1 : Int32))) [(0, .ref (ga G 106)), (1, .int x1), (2, .int x2), (3, .int (x3 + (1 : Int32)))] [1, 2, 3, 0] 3 dX2_gatherFor_45 rfl rfl (by decide) rfl ?_
        refine go_goto 19 dX2_gatherFor_48 (by decide) ?_
        exact h
      · have h := h.2 c26
        refine go_iconst (v := 0) dX2_gatherFor_39 (by decide) ?_
        refine go_goto 44 dX2_gatherFor_40 (by decide) ?_
        obtain ⟨b28, h⟩ := h
        refine go_iast dX2_gatherFor_44 (gl_132 n22 (vp_lt b23)) (gn_132 G (vp_lt b23)) b28 ?_
        refine go_iinc (v := (x3 + (1 : Int32))) [(0, .ref (ga G 106)), (1, .int x1), (2, .int x2), (3, .int (x3 + (1 : Int32)))] [1, 2, 3, 0] 3 dX2_gatherFor_45 rfl rfl (by decide) rfl ?_
        refine go_goto 19 dX2_gatherFor_48 (by decide) ?_
        exact h
