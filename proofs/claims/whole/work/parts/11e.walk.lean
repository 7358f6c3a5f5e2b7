set_option maxRecDepth 100000 in
theorem eX10_findWorths {G : gC} {l : Launch} {a1 : Int32} {a2 : Int32} {μ : Mem} {P : Mem → Prop} (h : qX10_findReach G l a1 a2 μ (fun (μ1 : Mem) => hX10_findWorths_8 G l P a1 a2 a2 μ1)) : qX10_findWorths G l a1 a2 μ P := by
  refine Sp.of (by decide) (Nat.le_of_ble_eq_true rfl) (lv := [(0, .ref (ga G 78)), (1, .int a1), (2, .int a2)]) rfl ?_
  refine go_aload_n dX10_findWorths_0 rfl 0 rfl ?_
  refine go_iload_n dX10_findWorths_1 rfl 1 rfl ?_
  refine go_iload_n dX10_findWorths_2 rfl 2 rfl ?_
  refine go_callV (As := [.int a1, .int a2]) (rest := []) dX10_findWorths_3 lX10_272 kX10_findReach rfl (by decide) (Nat.le_of_ble_eq_true rfl) (g_lt rfl) (gs_78 G _ _) rfl (by decide) rfl (gV_go (fun μ1 h => ?_)) h
  refine go_iload_n dX10_findWorths_6 rfl 2 rfl ?_
  refine go_istore_n [(0, .ref (ga G 78)), (1, .int a1), (2, .int a2), (3, .int a2)] [1, 2, 3, 0] dX10_findWorths_7 rfl (by decide) rfl ?_
  exact h
set_option maxRecDepth 100000 in
theorem eX10_findWorths_8 {G : gC} {l : Launch} {P : Mem → Prop} {x1 : Int32} {x2 : Int32} {x3 : Int32} {μ : Mem} (h : ((x3 ≤ 0) → P μ) ∧ ((¬ x3 ≤ 0) → vp_in (x1 ||| x3) 1024 ∧ (((gm_r μ 95 (x1 ||| x3).toNatClampNeg) = 0) → hX10_findWorths_63 G l P x1 x2 x3 (0 : Int32) μ) ∧ ((¬ (gm_r μ 95 (x1 ||| x3).toNatClampNeg) = 0) → qX10_ones G l x3 μ (fun (r7 : Int32) (μ6 : Mem) => (((6 : Int32) < r7) → hX10_findWorths_63 G l P x1 x2 x3 (0 : Int32) μ6) ∧ ((¬ (6 : Int32) < r7) → qX10_linesOf G l x3 μ6 (fun (r10 : Int32) (μ9 : Mem) => qX10_in G l (r10).toInt64 ((gm_r μ9 83 0)).toInt64 ((gm_r μ9 83 1)).toInt64 μ9 (fun (r12 : Int32) (μ11 : Mem) => ((r12 = 0) → hX10_findWorths_63 G l P x1 x2 x3 (0 : Int32) μ11) ∧ ((¬ r12 = 0) → hX10_findWorths_63 G l P x1 x2 x3 (1 : Int32) μ11)))))))) : hX10_findWorths_8 G l P x1 x2 x3 μ := by
  refine go_iload_n dX10_findWorths_8 rfl 3 rfl ?_
  refine go_if_le 132 dX10_findWorths_9 (by decide) (fun c3 => ?_) (fun c3 => ?_)
  · have h := h.1 c3
    exact go_vret dX10_findWorths_132 rfl (Nat.le_refl _) (Nat.le_refl _) ⟨rfl, h⟩
  · have h := h.2 c3
    refine go_aload_n dX10_findWorths_12 rfl 0 rfl ?_
    refine go_get (.ref (ga G 95)) dX10_findWorths_13 fX10_64 (g_lt rfl) (gs_78 G _ _) rfl ?_
    refine go_iload_n dX10_findWorths_16 rfl 1 rfl ?_
    refine go_iload_n dX10_findWorths_17 rfl 3 rfl ?_
    refine go_ior dX10_findWorths_18 ?_
    obtain ⟨b4, h⟩ := h
    refine go_zaldv ((gm_r μ 95 (x1 ||| x3).toNatClampNeg)) dX10_findWorths_19 (g_lt rfl) (gs_95 G) b4 rfl ?_
    refine go_if_eq 62 dX10_findWorths_20 (by decide) (fun c5 => ?_) (fun c5 => ?_)
    · have h := h.1 c5
      refine go_iconst (v := 0) dX10_findWorths_62 (by decide) ?_
      exact h
    · have h := h.2 c5
      refine go_iload_n dX10_findWorths_23 rfl 3 rfl ?_
      refine go_callS (As := [.int x3]) (rest := []) dX10_findWorths_24 lX10_208 kX10_ones rfl (by decide) (Nat.le_of_ble_eq_true rfl) (by decide) rfl (gI_go (fun r7 μ6 h => ?_)) h
      refine go_bipush (v := 6) dX10_findWorths_27 (by decide) ?_
      refine go_icmp_gt 62 dX10_findWorths_29 (by decide) (fun c8 => ?_) (fun c8 => ?_)
      · have h := h.1 c8
        refine go_iconst (v := 0) dX10_findWorths_62 (by decide) ?_
        exact h
      · have h := h.2 c8
        refine go_aload_n dX10_findWorths_32 rfl 0 rfl ?_
        refine go_iload_n dX10_findWorths_33 rfl 3 rfl ?_
        refine go_callV (As := [.int x3]) (rest := []) dX10_findWorths_34 lX10_211 kX10_linesOf rfl (by decide) (Nat.le_of_ble_eq_true rfl) (g_lt rfl) (gs_78 G _ _) rfl (by decide) rfl (gI_go (fun r10 μ9 h => ?_)) h
        refine go_i2l dX10_findWorths_37 ?_
        refine go_aload_n dX10_findWorths_38 rfl 0 rfl ?_
        refine go_get (.ref (ga G 83)) dX10_findWorths_39 fX10_22 (g_lt rfl) (gs_78 G _ _) rfl ?_
        refine go_iconst (v := 0) dX10_findWorths_42 (by decide) ?_
        refine go_ialdv ((gm_r μ9 83 0)) dX10_findWorths_43 (g_lt rfl) (gs_83 G) (by unfold vp_in; decide) rfl ?_
        refine go_i2l dX10_findWorths_44 ?_
        refine go_aload_n dX10_findWorths_45 rfl 0 rfl ?_
        refine go_get (.ref (ga G 83)) dX10_findWorths_46 fX10_22 (g_lt rfl) (gs_78 G _ _) rfl ?_
        refine go_iconst (v := 1) dX10_findWorths_49 (by decide) ?_
        refine go_ialdv ((gm_r μ9 83 1)) dX10_findWorths_50 (g_lt rfl) (gs_83 G) (by unfold vp_in; decide) rfl ?_
        refine go_i2l dX10_findWorths_51 ?_
        refine go_callS (As := [.long (r10).toInt64, .long ((gm_r μ9 83 0)).toInt64, .long ((gm_r μ9 83 1)).toInt64]) (rest := []) dX10_findWorths_52 lX10_99 kX10_in rfl (by decide) (Nat.le_of_ble_eq_true rfl) (by decide) rfl (gI_go (fun r12 μ11 h => ?_)) h
        refine go_if_eq 62 dX10_findWorths_55 (by decide) (fun c13 => ?_) (fun c13 => ?_)
        · have h := h.1 c13
          refine go_iconst (v := 0) dX10_findWorths_62 (by decide) ?_
          exact h
        · have h := h.2 c13
          refine go_iconst (v := 1) dX10_findWorths_58 (by decide) ?_
          refine go_goto 63 dX10_findWorths_59 (by decide) ?_
          exact h
set_option maxRecDepth 100000 in
theorem eX10_findWorths_63 {G : gC} {l : Launch} {P : Mem → Prop} {x1 : Int32} {x2 : Int32} {x3 : Int32} {y0 : Int32} {μ : Mem} (h : ((¬ y0 = 0) → qX10_joyOf G l x3 μ (fun (r16 : Int32) (μ15 : Mem) => qX10_openOf G l (x1 ||| x3) μ15 (fun (r18 : Int32) (μ17 : Mem) => qX10_ones G l r18 μ17 (fun (r20 : Int32) (μ19 : Mem) => qX10_hooks G l x1 x3 μ19 (fun (r22 : Int32) (μ21 : Mem) => ((r22 = 0) → vp_in x3 1024 ∧ hX10_findWorths_8 G l P x1 x2 ((x3 - (1 : Int32)) &&& x2) (gm_w μ21 96 x3.toNatClampNeg ((r16 + ((gm_r μ15 83 5) * r20)) + (0 : Int32)))) ∧ ((¬ r22 = 0) → vp_in x3 1024 ∧ hX10_findWorths_8 G l P x1 x2 ((x3 - (1 : Int32)) &&& x2) (gm_w μ21 96 x3.toNatClampNeg ((r16 + ((gm_r μ15 83 5) * r20)) + (gm_r μ21 83 4))))))))) ∧ ((y0 = 0) → vp_in x3 1024 ∧ hX10_findWorths_8 G l P x1 x2 ((x3 - (1 : Int32)) &&& x2) (gm_w μ 96 x3.toNatClampNeg (-1 : Int32)))) : hX10_findWorths_63 G l P x1 x2 x3 y0 μ := by
  refine go_istore [(0, .ref (ga G 78)), (1, .int x1), (2, .int x2), (3, .int x3), (4, .int y0)] [1, 2, 3, 4, 0] dX10_findWorths_63 (by decide) rfl ?_
  refine go_aload_n dX10_findWorths_65 rfl 0 rfl ?_
  refine go_get (.ref (ga G 96)) dX10_findWorths_66 fX10_67 (g_lt rfl) (gs_78 G _ _) rfl ?_
  refine go_iload_n dX10_findWorths_69 rfl 3 rfl ?_
  refine go_iload dX10_findWorths_70 4 rfl ?_
  refine go_if_ne 79 dX10_findWorths_72 (by decide) (fun c14 => ?_) (fun c14 => ?_)
  · have h := h.1 c14
    refine go_aload_n dX10_findWorths_79 rfl 0 rfl ?_
    refine go_iload_n dX10_findWorths_80 rfl 3 rfl ?_
    refine go_callV (As := [.int x3]) (rest := [.int x3, .ref (ga G 96)]) dX10_findWorths_81 lX10_253 kX10_joyOf rfl (by decide) (Nat.le_of_ble_eq_true rfl) (g_lt rfl) (gs_78 G _ _) rfl (by decide) rfl (gI_go (fun r16 μ15 h => ?_)) h
    refine go_aload_n dX10_findWorths_84 rfl 0 rfl ?_
    refine go_get (.ref (ga G 83)) dX10_findWorths_85 fX10_22 (g_lt rfl) (gs_78 G _ _) rfl ?_
    refine go_iconst (v := 5) dX10_findWorths_88 (by decide) ?_
    refine go_ialdv ((gm_r μ15 83 5)) dX10_findWorths_89 (g_lt rfl) (gs_83 G) (by unfold vp_in; decide) rfl ?_
    refine go_aload_n dX10_findWorths_90 rfl 0 rfl ?_
    refine go_iload_n dX10_findWorths_91 rfl 1 rfl ?_
    refine go_iload_n dX10_findWorths_92 rfl 3 rfl ?_
    refine go_ior dX10_findWorths_93 ?_
    refine go_callV (As := [.int (x1 ||| x3)]) (rest := [.int (gm_r μ15 83 5), .int r16, .int x3, .ref (ga G 96)]) dX10_findWorths_94 lX10_237 kX10_openOf rfl (by decide) (Nat.le_of_ble_eq_true rfl) (g_lt rfl) (gs_78 G _ _) rfl (by decide) rfl (gI_go (fun r18 μ17 h => ?_)) h
    refine go_callS (As := [.int r18]) (rest := [.int (gm_r μ15 83 5), .int r16, .int x3, .ref (ga G 96)]) dX10_findWorths_97 lX10_208 kX10_ones rfl (by decide) (Nat.le_of_ble_eq_true rfl) (by decide) rfl (gI_go (fun r20 μ19 h => ?_)) h
    refine go_imul dX10_findWorths_100 ?_
    refine go_iadd dX10_findWorths_101 ?_
    refine go_aload_n dX10_findWorths_102 rfl 0 rfl ?_
    refine go_iload_n dX10_findWorths_103 rfl 1 rfl ?_
    refine go_iload_n dX10_findWorths_104 rfl 3 rfl ?_
    refine go_callV (As := [.int x1, .int x3]) (rest := [.int (r16 + ((gm_r μ15 83 5) * r20)), .int x3, .ref (ga G 96)]) dX10_findWorths_105 lX10_276 kX10_hooks rfl (by decide) (Nat.le_of_ble_eq_true rfl) (g_lt rfl) (gs_78 G _ _) rfl (by decide) rfl (gI_go (fun r22 μ21 h => ?_)) h
    refine go_if_eq 120 dX10_findWorths_108 (by decide) (fun c23 => ?_) (fun c23 => ?_)
    · have h := h.1 c23
      refine go_iconst (v := 0) dX10_findWorths_120 (by decide) ?_
      refine go_iadd dX10_findWorths_121 ?_
      obtain ⟨b24, h⟩ := h
      refine go_iast dX10_findWorths_122 (g_lt rfl) (gs_96 G) b24 ?_
      refine go_iload_n dX10_findWorths_123 rfl 3 rfl ?_
      refine go_iconst (v := 1) dX10_findWorths_124 (by decide) ?_
      refine go_isub dX10_findWorths_125 ?_
      refine go_iload_n dX10_findWorths_126 rfl 2 rfl ?_
      refine go_iand dX10_findWorths_127 ?_
      refine go_istore_n [(0, .ref (ga G 78)), (1, .int x1), (2, .int x2), (3, .int ((x3 - (1 : Int32)) &&& x2)), (4, .int y0)] [1, 2, 3, 0, 4] dX10_findWorths_128 rfl (by decide) rfl ?_
      refine go_goto 8 dX10_findWorths_129 (by decide) ?_
      exact go_sub [0, 1, 2, 3] rfl h
    · have h := h.2 c23
      refine go_aload_n dX10_findWorths_111 rfl 0 rfl ?_
      refine go_get (.ref (ga G 83)) dX10_findWorths_112 fX10_22 (g_lt rfl) (gs_78 G _ _) rfl ?_
      refine go_iconst (v := 4) dX10_findWorths_115 (by decide) ?_
      refine go_ialdv ((gm_r μ21 83 4)) dX10_findWorths_116 (g_lt rfl) (gs_83 G) (by unfold vp_in; decide) rfl ?_
      refine go_goto 121 dX10_findWorths_117 (by decide) ?_
      refine go_iadd dX10_findWorths_121 ?_
      obtain ⟨b25, h⟩ := h
      refine go_iast dX10_findWorths_122 (g_lt rfl) (gs_96 G) b25 ?_
      refine go_iload_n dX10_findWorths_123 rfl 3 rfl ?_
      refine go_iconst (v := 1) dX10_findWorths_124 (by decide) ?_
      refine go_isub dX10_findWorths_125 ?_
      refine go_iload_n dX10_findWorths_126 rfl 2 rfl ?_
      refine go_iand dX10_findWorths_127 ?_
      refine go_istore_n [(0, .ref (ga G 78)), (1, .int x1), (2, .int x2), (3, .int ((x3 - (1 : Int32)) &&& x2)), (4, .int y0)] [1, 2, 3, 0, 4] dX10_findWorths_128 rfl (by decide) rfl ?_
      refine go_goto 8 dX10_findWorths_129 (by decide) ?_
      exact go_sub [0, 1, 2, 3] rfl h
  · have h := h.2 c14
    refine go_iconst (v := -1) dX10_findWorths_75 (by decide) ?_
    refine go_goto 122 dX10_findWorths_76 (by decide) ?_
    obtain ⟨b26, h⟩ := h
    refine go_iast dX10_findWorths_122 (g_lt rfl) (gs_96 G) b26 ?_
    refine go_iload_n dX10_findWorths_123 rfl 3 rfl ?_
    refine go_iconst (v := 1) dX10_findWorths_124 (by decide) ?_
    refine go_isub dX10_findWorths_125 ?_
    refine go_iload_n dX10_findWorths_126 rfl 2 rfl ?_
    refine go_iand dX10_findWorths_127 ?_
    refine go_istore_n [(0, .ref (ga G 78)), (1, .int x1), (2, .int x2), (3, .int ((x3 - (1 : Int32)) &&& x2)), (4, .int y0)] [1, 2, 3, 0, 4] dX10_findWorths_128 rfl (by decide) rfl ?_
    refine go_goto 8 dX10_findWorths_129 (by decide) ?_
    exact go_sub [0, 1, 2, 3] rfl h
set_option maxRecDepth 100000 in
theorem eX10_findPlan {G : gC} {l : Launch} {a1 : Int32} {a2 : Int32} {μ : Mem} {P : Mem → Prop} (h : qX10_findComing G l  μ (fun (μ1 : Mem) => hX10_findPlan_6 G l P a1 a2 a2 μ1)) : qX10_findPlan G l a1 a2 μ P := by
  refine Sp.of (by decide) (Nat.le_of_ble_eq_true rfl) (lv := [(0, .ref (ga G 78)), (1, .int a1), (2, .int a2)]) rfl ?_
  refine go_aload_n dX10_findPlan_0 rfl 0 rfl ?_
  refine go_callV (As := []) (rest := []) dX10_findPlan_1 lX10_226 kX10_findComing rfl (by decide) (Nat.le_of_ble_eq_true rfl) (g_lt rfl) (gs_78 G _ _) rfl (by decide) rfl (gV_go (fun μ1 h => ?_)) h
  refine go_iload_n dX10_findPlan_4 rfl 2 rfl ?_
  refine go_istore_n [(0, .ref (ga G 78)), (1, .int a1), (2, .int a2), (3, .int a2)] [1, 2, 3, 0] dX10_findPlan_5 rfl (by decide) rfl ?_
  exact h
set_option maxRecDepth 100000 in
theorem eX10_findPlan_6 {G : gC} {l : Launch} {P : Mem → Prop} {x1 : Int32} {x2 : Int32} {x3 : Int32} {μ : Mem} (h : ((x3 < 0) → P μ) ∧ ((¬ x3 < 0) → ((¬ (x3 &&& (x2 ^^^ (-1 : Int32))) = 0) → hX10_findPlan_6 G l P x1 x2 (x3 + (-1 : Int32)) μ) ∧ (((x3 &&& (x2 ^^^ (-1 : Int32))) = 0) → qX10_findWorths G l ((gm_r μ 78 23) ||| x3) (x2 &&& (x3 ^^^ (-1 : Int32))) μ (fun (μ5 : Mem) => hX10_findPlan_40 G l P x1 x2 x3 (x2 &&& (x3 ^^^ (-1 : Int32))) (0 : Int32) μ5)))) : hX10_findPlan_6 G l P x1 x2 x3 μ := by
  refine go_iload_n dX10_findPlan_6 rfl 3 rfl ?_
  refine go_if_lt 209 dX10_findPlan_7 (by decide) (fun c3 => ?_) (fun c3 => ?_)
  · have h := h.1 c3
    exact go_vret dX10_findPlan_209 rfl (Nat.le_refl _) (Nat.le_refl _) ⟨rfl, h⟩
  · have h := h.2 c3
    refine go_iload_n dX10_findPlan_10 rfl 3 rfl ?_
    refine go_iload_n dX10_findPlan_11 rfl 2 rfl ?_
    refine go_iconst (v := -1) dX10_findPlan_12 (by decide) ?_
    refine go_ixor dX10_findPlan_13 ?_
    refine go_iand dX10_findPlan_14 ?_
    refine go_if_ne 203 dX10_findPlan_15 (by decide) (fun c4 => ?_) (fun c4 => ?_)
    · have h := h.1 c4
      refine go_iinc (v := (x3 + (-1 : Int32))) [(0, .ref (ga G 78)), (1, .int x1), (2, .int x2), (3, .int (x3 + (-1 : Int32)))] [1, 2, 3, 0] 3 dX10_findPlan_203 rfl rfl (by decide) rfl ?_
      refine go_goto 6 dX10_findPlan_206 (by decide) ?_
      exact h
    · have h := h.2 c4
      refine go_iload_n dX10_findPlan_18 rfl 2 rfl ?_
      refine go_iload_n dX10_findPlan_19 rfl 3 rfl ?_
      refine go_iconst (v := -1) dX10_findPlan_20 (by decide) ?_
      refine go_ixor dX10_findPlan_21 ?_
      refine go_iand dX10_findPlan_22 ?_
      refine go_istore [(0, .ref (ga G 78)), (1, .int x1), (2, .int x2), (3, .int x3), (4, .int (x2 &&& (x3 ^^^ (-1 : Int32))))] [1, 2, 3, 4, 0] dX10_findPlan_23 (by decide) rfl ?_
      refine go_aload_n dX10_findPlan_25 rfl 0 rfl ?_
      refine go_aload_n dX10_findPlan_26 rfl 0 rfl ?_
      refine go_get (.int (gm_r μ 78 23)) dX10_findPlan_27 fX10_180 (g_lt rfl) (gs_78 G _ _) rfl ?_
      refine go_iload_n dX10_findPlan_30 rfl 3 rfl ?_
      refine go_ior dX10_findPlan_31 ?_
      refine go_iload dX10_findPlan_32 4 rfl ?_
      refine go_callV (As := [.int ((gm_r μ 78 23) ||| x3), .int (x2 &&& (x3 ^^^ (-1 : Int32)))]) (rest := []) dX10_findPlan_34 lX10_279 kX10_findWorths rfl (by decide) (Nat.le_of_ble_eq_true rfl) (g_lt rfl) (gs_78 G _ _) rfl (by decide) rfl (gV_go (fun μ5 h => ?_)) h
      refine go_iconst (v := 0) dX10_findPlan_37 (by decide) ?_
      refine go_istore [(0, .ref (ga G 78)), (1, .int x1), (2, .int x2), (3, .int x3), (4, .int (x2 &&& (x3 ^^^ (-1 : Int32)))), (5, .int (0 : Int32))] [1, 2, 3, 4, 5, 0] dX10_findPlan_38 (by decide) rfl ?_
      exact h
set_option maxRecDepth 100000 in
theorem eX10_findPlan_40 {G : gC} {l : Launch} {P : Mem → Prop} {x1 : Int32} {x2 : Int32} {x3 : Int32} {x4 : Int32} {x5 : Int32} {μ : Mem} (h : ((x1 < x5) → hX10_findPlan_6 G l P x1 x2 (x3 + (-1 : Int32)) μ) ∧ ((¬ x1 < x5) → ((¬ x5 = 0) → vp_in (((1024 : Int32) * x5) + x3) 13312 ∧ hX10_findPlan_90 G l P x1 x2 x3 x4 x5 (((1024 : Int32) * x5) + x3) x4 (gm_w (gm_w μ 97 (((1024 : Int32) * x5) + x3).toNatClampNeg (-1 : Int32)) 98 (((1024 : Int32) * x5) + x3).toNatClampNeg (-1 : Int32))) ∧ ((x5 = 0) → ((¬ x3 = x2) → vp_in (((1024 : Int32) * x5) + x3) 13312 ∧ hX10_findPlan_90 G l P x1 x2 x3 x4 x5 (((1024 : Int32) * x5) + x3) x4 (gm_w (gm_w μ 97 (((1024 : Int32) * x5) + x3).toNatClampNeg (-1 : Int32)) 98 (((1024 : Int32) * x5) + x3).toNatClampNeg (-1 : Int32))) ∧ ((x3 = x2) → vp_in (((1024 : Int32) * x5) + x3) 13312 ∧ hX10_findPlan_90 G l P x1 x2 x3 x4 x5 (((1024 : Int32) * x5) + x3) x4 (gm_w (gm_w μ 97 (((1024 : Int32) * x5) + x3).toNatClampNeg (0 : Int32)) 98 (((1024 : Int32) * x5) + x3).toNatClampNeg (-1 : Int32)))))) : hX10_findPlan_40 G l P x1 x2 x3 x4 x5 μ := by
  refine go_iload dX10_findPlan_40 5 rfl ?_
  refine go_iload_n dX10_findPlan_42 rfl 1 rfl ?_
  refine go_icmp_gt 203 dX10_findPlan_43 (by decide) (fun c7 => ?_) (fun c7 => ?_)
  · have h := h.1 c7
    refine go_iinc (v := (x3 + (-1 : Int32))) [(0, .ref (ga G 78)), (1, .int x1), (2, .int x2), (3, .int (x3 + (-1 : Int32))), (4, .int x4), (5, .int x5)] [1, 2, 3, 0, 4, 5] 3 dX10_findPlan_203 rfl rfl (by decide) rfl ?_
    refine go_goto 6 dX10_findPlan_206 (by decide) ?_
    exact go_sub [0, 1, 2, 3] rfl h
  · have h := h.2 c7
    refine go_sipush (v := 1024) dX10_findPlan_46 (by decide) ?_
    refine go_iload dX10_findPlan_49 5 rfl ?_
    refine go_imul dX10_findPlan_51 ?_
    refine go_iload_n dX10_findPlan_52 rfl 3 rfl ?_
    refine go_iadd dX10_findPlan_53 ?_
    refine go_istore [(0, .ref (ga G 78)), (1, .int x1), (2, .int x2), (3, .int x3), (4, .int x4), (5, .int x5), (6, .int (((1024 : Int32) * x5) + x3))] [1, 2, 3, 4, 5, 6, 0] dX10_findPlan_54 (by decide) rfl ?_
    refine go_aload_n dX10_findPlan_56 rfl 0 rfl ?_
    refine go_get (.ref (ga G 97)) dX10_findPlan_57 fX10_70 (g_lt rfl) (gs_78 G _ _) rfl ?_
    refine go_iload dX10_findPlan_60 6 rfl ?_
    refine go_iload dX10_findPlan_62 5 rfl ?_
    refine go_if_ne 76 dX10_findPlan_64 (by decide) (fun c8 => ?_) (fun c8 => ?_)
    · have h := h.1 c8
      refine go_iconst (v := -1) dX10_findPlan_76 (by decide) ?_
      obtain ⟨b9, h⟩ := h
      refine go_iast dX10_findPlan_77 (g_lt rfl) (gs_97 G) b9 ?_
      refine go_aload_n dX10_findPlan_78 rfl 0 rfl ?_
      refine go_get (.ref (ga G 98)) dX10_findPlan_79 fX10_73 (g_lt rfl) (gs_78 G _ _) rfl ?_
      refine go_iload dX10_findPlan_82 6 rfl ?_
      refine go_iconst (v := -1) dX10_findPlan_84 (by decide) ?_
      refine go_iast dX10_findPlan_85 (g_lt rfl) (gs_98 G) b9 ?_
      refine go_iload dX10_findPlan_86 4 rfl ?_
      refine go_istore [(0, .ref (ga G 78)), (1, .int x1), (2, .int x2), (3, .int x3), (4, .int x4), (5, .int x5), (6, .int (((1024 : Int32) * x5) + x3)), (7, .int x4)] [1, 2, 3, 4, 5, 6, 7, 0] dX10_findPlan_88 (by decide) rfl ?_
      exact h
    · have h := h.2 c8
      refine go_iload_n dX10_findPlan_67 rfl 3 rfl ?_
      refine go_iload_n dX10_findPlan_68 rfl 2 rfl ?_
      refine go_icmp_ne 76 dX10_findPlan_69 (by decide) (fun c10 => ?_) (fun c10 => ?_)
      · have h := h.1 c10
        refine go_iconst (v := -1) dX10_findPlan_76 (by decide) ?_
        obtain ⟨b11, h⟩ := h
        refine go_iast dX10_findPlan_77 (g_lt rfl) (gs_97 G) b11 ?_
        refine go_aload_n dX10_findPlan_78 rfl 0 rfl ?_
        refine go_get (.ref (ga G 98)) dX10_findPlan_79 fX10_73 (g_lt rfl) (gs_78 G _ _) rfl ?_
        refine go_iload dX10_findPlan_82 6 rfl ?_
        refine go_iconst (v := -1) dX10_findPlan_84 (by decide) ?_
        refine go_iast dX10_findPlan_85 (g_lt rfl) (gs_98 G) b11 ?_
        refine go_iload dX10_findPlan_86 4 rfl ?_
        refine go_istore [(0, .ref (ga G 78)), (1, .int x1), (2, .int x2), (3, .int x3), (4, .int x4), (5, .int x5), (6, .int (((1024 : Int32) * x5) + x3)), (7, .int x4)] [1, 2, 3, 4, 5, 6, 7, 0] dX10_findPlan_88 (by decide) rfl ?_
        exact h
      · have h := h.2 c10
        refine go_iconst (v := 0) dX10_findPlan_72 (by decide) ?_
        refine go_goto 77 dX10_findPlan_73 (by decide) ?_
        obtain ⟨b12, h⟩ := h
        refine go_iast dX10_findPlan_77 (g_lt rfl) (gs_97 G) b12 ?_
        refine go_aload_n dX10_findPlan_78 rfl 0 rfl ?_
        refine go_get (.ref (ga G 98)) dX10_findPlan_79 fX10_73 (g_lt rfl) (gs_78 G _ _) rfl ?_
        refine go_iload dX10_findPlan_82 6 rfl ?_
        refine go_iconst (v := -1) dX10_findPlan_84 (by decide) ?_
        refine go_iast dX10_findPlan_85 (g_lt rfl) (gs_98 G) b12 ?_
        refine go_iload dX10_findPlan_86 4 rfl ?_
        refine go_istore [(0, .ref (ga G 78)), (1, .int x1), (2, .int x2), (3, .int x3), (4, .int x4), (5, .int x5), (6, .int (((1024 : Int32) * x5) + x3)), (7, .int x4)] [1, 2, 3, 4, 5, 6, 7, 0] dX10_findPlan_88 (by decide) rfl ?_
        exact h
set_option maxRecDepth 100000 in
theorem eX10_findPlan_90 {G : gC} {l : Launch} {P : Mem → Prop} {x1 : Int32} {x2 : Int32} {x3 : Int32} {x4 : Int32} {x5 : Int32} {x6 : Int32} {x7 : Int32} {μ : Mem} (h : ((x7 ≤ 0) → hX10_findPlan_40 G l P x1 x2 x3 x4 (x5 + (1 : Int32)) μ) ∧ ((¬ x7 ≤ 0) → ((x5 ≤ 0) → hX10_findPlan_40 G l P x1 x2 x3 x4 (x5 + (1 : Int32)) μ) ∧ ((¬ x5 ≤ 0) → vp_in x7 1024 ∧ ((0 ≤ (gm_r μ 96 x7.toNatClampNeg)) → vp_in (((1024 : Int32) * (x5 - (1 : Int32))) + (x3 ||| x7)) 13312 ∧ hX10_findPlan_132 G l P x1 x2 x3 x4 x5 x6 x7 (gm_r μ 97 (((1024 : Int32) * (x5 - (1 : Int32))) + (x3 ||| x7)).toNatClampNeg) μ) ∧ ((¬ 0 ≤ (gm_r μ 96 x7.toNatClampNeg)) → hX10_findPlan_132 G l P x1 x2 x3 x4 x5 x6 x7 (-1 : Int32) μ)))) : hX10_findPlan_90 G l P x1 x2 x3 x4 x5 x6 x7 μ := by
  refine go_iload dX10_findPlan_90 7 rfl ?_
  refine go_if_le 197 dX10_findPlan_92 (by decide) (fun c13 => ?_) (fun c13 => ?_)
  · have h := h.1 c13
    refine go_iinc (v := (x5 + (1 : Int32))) [(0, .ref (ga G 78)), (1, .int x1), (2, .int x2), (3, .int x3), (4, .int x4), (5, .int (x5 + (1 : Int32))), (6, .int x6), (7, .int x7)] [1, 2, 3, 4, 5, 0, 6, 7] 5 dX10_findPlan_197 rfl rfl (by decide) rfl ?_
    refine go_goto 40 dX10_findPlan_200 (by decide) ?_
    exact go_sub [0, 1, 2, 3, 4, 5] rfl h
  · have h := h.2 c13
    refine go_iload dX10_findPlan_95 5 rfl ?_
    refine go_if_le 197 dX10_findPlan_97 (by decide) (fun c14 => ?_) (fun c14 => ?_)
    · have h := h.1 c14
      refine go_iinc (v := (x5 + (1 : Int32))) [(0, .ref (ga G 78)), (1, .int x1), (2, .int x2), (3, .int x3), (4, .int x4), (5, .int (x5 + (1 : Int32))), (6, .int x6), (7, .int x7)] [1, 2, 3, 4, 5, 0, 6, 7] 5 dX10_findPlan_197 rfl rfl (by decide) rfl ?_
      refine go_goto 40 dX10_findPlan_200 (by decide) ?_
      exact go_sub [0, 1, 2, 3, 4, 5] rfl h
    · have h := h.2 c14
      refine go_aload_n dX10_findPlan_100 rfl 0 rfl ?_
      refine go_get (.ref (ga G 96)) dX10_findPlan_101 fX10_67 (g_lt rfl) (gs_78 G _ _) rfl ?_
      refine go_iload dX10_findPlan_104 7 rfl ?_
      obtain ⟨b15, h⟩ := h
      refine go_ialdv ((gm_r μ 96 x7.toNatClampNeg)) dX10_findPlan_106 (g_lt rfl) (gs_96 G) b15 rfl ?_
      refine go_if_ge 114 dX10_findPlan_107 (by decide) (fun c16 => ?_) (fun c16 => ?_)
      · have h := h.1 c16
        refine go_aload_n dX10_findPlan_114 rfl 0 rfl ?_
        refine go_get (.ref (ga G 97)) dX10_findPlan_115 fX10_70 (g_lt rfl) (gs_78 G _ _) rfl ?_
        refine go_sipush (v := 1024) dX10_findPlan_118 (by decide) ?_
        refine go_iload dX10_findPlan_121 5 rfl ?_
        refine go_iconst (v := 1) dX10_findPlan_123 (by decide) ?_
        refine go_isub dX10_findPlan_124 ?_
        refine go_imul dX10_findPlan_125 ?_
        refine go_iload_n dX10_findPlan_126 rfl 3 rfl ?_
        refine go_iload dX10_findPlan_127 7 rfl ?_
        refine go_ior dX10_findPlan_129 ?_
        refine go_iadd dX10_findPlan_130 ?_
        obtain ⟨b17, h⟩ := h
        refine go_ialdv ((gm_r μ 97 (((1024 : Int32) * (x5 - (1 : Int32))) + (x3 ||| x7)).toNatClampNeg)) dX10_findPlan_131 (g_lt rfl) (gs_97 G) b17 rfl ?_
        exact h
      · have h := h.2 c16
        refine go_iconst (v := -1) dX10_findPlan_110 (by decide) ?_
        refine go_goto 132 dX10_findPlan_111 (by decide) ?_
        exact h
set_option maxRecDepth 100000 in
theorem eX10_findPlan_132 {G : gC} {l : Launch} {P : Mem → Prop} {x1 : Int32} {x2 : Int32} {x3 : Int32} {x4 : Int32} {x5 : Int32} {x6 : Int32} {x7 : Int32} {y0 : Int32} {μ : Mem} (h : ((y0 < 0) → hX10_findPlan_90 G l P x1 x2 x3 x4 x5 x6 ((x7 - (1 : Int32)) &&& x4) μ) ∧ ((¬ y0 < 0) → vp_in x7 1024 ∧ vp_in x6 13312 ∧ (((y0 + (gm_r μ 96 x7.toNatClampNeg)) < (gm_r μ 97 x6.toNatClampNeg)) → hX10_findPlan_90 G l P x1 x2 x3 x4 x5 x6 ((x7 - (1 : Int32)) &&& x4) μ) ∧ ((¬ (y0 + (gm_r μ 96 x7.toNatClampNeg)) < (gm_r μ 97 x6.toNatClampNeg)) → hX10_findPlan_90 G l P x1 x2 x3 x4 x5 x6 ((x7 - (1 : Int32)) &&& x4) (gm_w (gm_w μ 97 x6.toNatClampNeg (y0 + (gm_r μ 96 x7.toNatClampNeg))) 98 x6.toNatClampNeg x7)))) : hX10_findPlan_132 G l P x1 x2 x3 x4 x5 x6 x7 y0 μ := by
  refine go_istore [(0, .ref (ga G 78)), (1, .int x1), (2, .int x2), (3, .int x3), (4, .int x4), (5, .int x5), (6, .int x6), (7, .int x7), (8, .int y0)] [1, 2, 3, 4, 5, 6, 7, 8, 0] dX10_findPlan_132 (by decide) rfl ?_
  refine go_iload dX10_findPlan_134 8 rfl ?_
  refine go_if_lt 185 dX10_findPlan_136 (by decide) (fun c18 => ?_) (fun c18 => ?_)
  · have h := h.1 c18
    refine go_iload dX10_findPlan_185 7 rfl ?_
    refine go_iconst (v := 1) dX10_findPlan_187 (by decide) ?_
    refine go_isub dX10_findPlan_188 ?_
    refine go_iload dX10_findPlan_189 4 rfl ?_
    refine go_iand dX10_findPlan_191 ?_
    refine go_istore [(0, .ref (ga G 78)), (1, .int x1), (2, .int x2), (3, .int x3), (4, .int x4), (5, .int x5), (6, .int x6), (7, .int ((x7 - (1 : Int32)) &&& x4)), (8, .int y0)] [1, 2, 3, 4, 5, 6, 7, 0, 8] dX10_findPlan_192 (by decide) rfl ?_
    refine go_goto 90 dX10_findPlan_194 (by decide) ?_
    exact go_sub [0, 1, 2, 3, 4, 5, 6, 7] rfl h
  · have h := h.2 c18
    refine go_iload dX10_findPlan_139 8 rfl ?_
    refine go_aload_n dX10_findPlan_141 rfl 0 rfl ?_
    refine go_get (.ref (ga G 96)) dX10_findPlan_142 fX10_67 (g_lt rfl) (gs_78 G _ _) rfl ?_
    refine go_iload dX10_findPlan_145 7 rfl ?_
    obtain ⟨b19, h⟩ := h
    refine go_ialdv ((gm_r μ 96 x7.toNatClampNeg)) dX10_findPlan_147 (g_lt rfl) (gs_96 G) b19 rfl ?_
    refine go_iadd dX10_findPlan_148 ?_
    refine go_aload_n dX10_findPlan_149 rfl 0 rfl ?_
    refine go_get (.ref (ga G 97)) dX10_findPlan_150 fX10_70 (g_lt rfl) (gs_78 G _ _) rfl ?_
    refine go_iload dX10_findPlan_153 6 rfl ?_
    obtain ⟨b20, h⟩ := h
    refine go_ialdv ((gm_r μ 97 x6.toNatClampNeg)) dX10_findPlan_155 (g_lt rfl) (gs_97 G) b20 rfl ?_
    refine go_icmp_lt 185 dX10_findPlan_156 (by decide) (fun c21 => ?_) (fun c21 => ?_)
    · have h := h.1 c21
      refine go_iload dX10_findPlan_185 7 rfl ?_
      refine go_iconst (v := 1) dX10_findPlan_187 (by decide) ?_
      refine go_isub dX10_findPlan_188 ?_
      refine go_iload dX10_findPlan_189 4 rfl ?_
      refine go_iand dX10_findPlan_191 ?_
      refine go_istore [(0, .ref (ga G 78)), (1, .int x1), (2, .int x2), (3, .int x3), (4, .int x4), (5, .int x5), (6, .int x6), (7, .int ((x7 - (1 : Int32)) &&& x4)), (8, .int y0)] [1, 2, 3, 4, 5, 6, 7, 0, 8] dX10_findPlan_192 (by decide) rfl ?_
      refine go_goto 90 dX10_findPlan_194 (by decide) ?_
      exact go_sub [0, 1, 2, 3, 4, 5, 6, 7] rfl h
    · have h := h.2 c21
      refine go_aload_n dX10_findPlan_159 rfl 0 rfl ?_
      refine go_get (.ref (ga G 97)) dX10_findPlan_160 fX10_70 (g_lt rfl) (gs_78 G _ _) rfl ?_
      refine go_iload dX10_findPlan_163 6 rfl ?_
      refine go_iload dX10_findPlan_165 8 rfl ?_
      refine go_aload_n dX10_findPlan_167 rfl 0 rfl ?_
      refine go_get (.ref (ga G 96)) dX10_findPlan_168 fX10_67 (g_lt rfl) (gs_78 G _ _) rfl ?_
      refine go_iload dX10_findPlan_171 7 rfl ?_
      refine go_ialdv ((gm_r μ 96 x7.toNatClampNeg)) dX10_findPlan_173 (g_lt rfl) (gs_96 G) b19 rfl ?_
      refine go_iadd dX10_findPlan_174 ?_
      refine go_iast dX10_findPlan_175 (g_lt rfl) (gs_97 G) b20 ?_
      refine go_aload_n dX10_findPlan_176 rfl 0 rfl ?_
      refine go_get (.ref (ga G 98)) dX10_findPlan_177 fX10_73 (g_lt rfl) (gs_78 G _ _) rfl ?_
      refine go_iload dX10_findPlan_180 6 rfl ?_
      refine go_iload dX10_findPlan_182 7 rfl ?_
      refine go_iast dX10_findPlan_184 (g_lt rfl) (gs_98 G) b20 ?_
      refine go_iload dX10_findPlan_185 7 rfl ?_
      refine go_iconst (v := 1) dX10_findPlan_187 (by decide) ?_
      refine go_isub dX10_findPlan_188 ?_
      refine go_iload dX10_findPlan_189 4 rfl ?_
      refine go_iand dX10_findPlan_191 ?_
      refine go_istore [(0, .ref (ga G 78)), (1, .int x1), (2, .int x2), (3, .int x3), (4, .int x4), (5, .int x5), (6, .int x6), (7, .int ((x7 - (1 : Int32)) &&& x4)), (8, .int y0)] [1, 2, 3, 4, 5, 6, 7, 0, 8] dX10_findPlan_192 (by decide) rfl ?_
      refine go_goto 90 dX10_findPlan_194 (by decide) ?_
      exact go_sub [0, 1, 2, 3, 4, 5, 6, 7] rfl h
set_option maxRecDepth 100000 in
theorem eX10_plan {G : gC} {l : Launch} {a1 : Int32} {a2 : Int32} {a3 : Int32} {μ : Mem} {P : Int32 → Mem → Prop} (h : qX10_noSet G l a2 μ (fun (r2 : Int32) (μ1 : Mem) => ((¬ r2 = 0) → P (-1001 : Int32) μ1) ∧ ((r2 = 0) → (((a2 &&& (gm_r μ1 78 23)) = 0) → qX10_in G l (a1).toInt64 (1 : Int64) (12 : Int64) μ1 (fun (r6 : Int32) (μ5 : Mem) => ((¬ r6 = 0) → qX10_findPlan G l a1 a2 μ5 (fun (μ8 : Mem) => vp_in ((1024 : Int32) * a1) 13312 ∧ (((gm_r μ8 97 ((1024 : Int32) * a1).toNatClampNeg) < 0) → P (gm_r μ8 97 ((1024 : Int32) * a1).toNatClampNeg) μ8) ∧ ((¬ (gm_r μ8 97 ((1024 : Int32) * a1).toNatClampNeg) < 0) → ((¬ a3 = (-1 : Int32)) → hX10_plan_78 G l P a1 a3 (0 : Int32) (0 : Int32) μ8) ∧ ((a3 = (-1 : Int32)) → P (gm_r μ8 97 ((1024 : Int32) * a1).toNatClampNeg) μ8)))) ∧ ((r6 = 0) → P (-1002 : Int32) μ5))) ∧ ((¬ (a2 &&& (gm_r μ1 78 23)) = 0) → P (-1001 : Int32) μ1)))) : qX10_plan G l a1 a2 a3 μ P := by
  refine Sp.of (by decide) (Nat.le_of_ble_eq_true rfl) (lv := [(0, .ref (ga G 78)), (1, .int a1), (2, .int a2), (3, .int a3)]) rfl ?_
  refine go_aload_n dX10_plan_0 rfl 0 rfl ?_
  refine go_iload_n dX10_plan_1 rfl 2 rfl ?_
  refine go_callV (As := [.int a2]) (rest := []) dX10_plan_2 lX10_220 kX10_noSet rfl (by decide) (Nat.le_of_ble_eq_true rfl) (g_lt rfl) (gs_78 G _ _) rfl (by decide) rfl (gI_go (fun r2 μ1 h => ?_)) h
  refine go_if_ne 17 dX10_plan_5 (by decide) (fun c3 => ?_) (fun c3 => ?_)
  · have h := h.1 c3
    refine go_sipush (v := -1001) dX10_plan_17 (by decide) ?_
    exact go_iret dX10_plan_20 rfl (Nat.le_refl _) (Nat.le_refl _) ⟨_, rfl, h⟩
  · have h := h.2 c3
    refine go_iload_n dX10_plan_8 rfl 2 rfl ?_
    refine go_aload_n dX10_plan_9 rfl 0 rfl ?_
    refine go_get (.int (gm_r μ1 78 23)) dX10_plan_10 fX10_180 (g_lt rfl) (gs_78 G _ _) rfl ?_
    refine go_iand dX10_plan_13 ?_
    refine go_if_eq 21 dX10_plan_14 (by decide) (fun c4 => ?_) (fun c4 => ?_)
    · have h := h.1 c4
      refine go_iload_n dX10_plan_21 rfl 1 rfl ?_
      refine go_i2l dX10_plan_22 ?_
      refine go_lconst (v := 1) dX10_plan_23 (by decide) ?_
      refine go_ldc2_w (v := 12) (g_in 1316 (by decide +kernel) rfl) dX10_plan_24 ?_
      refine go_callS (As := [.long (a1).toInt64, .long (1 : Int64), .long (12 : Int64)]) (rest := []) dX10_plan_27 lX10_99 kX10_in rfl (by decide) (Nat.le_of_ble_eq_true rfl) (by decide) rfl (gI_go (fun r6 μ5 h => ?_)) h
      refine go_if_ne 37 dX10_plan_30 (by decide) (fun c7 => ?_) (fun c7 => ?_)
      · have h := h.1 c7
        refine go_aload_n dX10_plan_37 rfl 0 rfl ?_
        refine go_iload_n dX10_plan_38 rfl 1 rfl ?_
        refine go_iload_n dX10_plan_39 rfl 2 rfl ?_
        refine go_callV (As := [.int a1, .int a2]) (rest := []) dX10_plan_40 lX10_284 kX10_findPlan rfl (by decide) (Nat.le_of_ble_eq_true rfl) (g_lt rfl) (gs_78 G _ _) rfl (by decide) rfl (gV_go (fun μ8 h => ?_)) h
        refine go_aload_n dX10_plan_43 rfl 0 rfl ?_
        refine go_get (.ref (ga G 97)) dX10_plan_44 fX10_70 (g_lt rfl) (gs_78 G _ _) rfl ?_
        refine go_sipush (v := 1024) dX10_plan_47 (by decide) ?_
        refine go_iload_n dX10_plan_50 rfl 1 rfl ?_
        refine go_imul dX10_plan_51 ?_
        obtain ⟨b10, h⟩ := h
        refine go_ialdv ((gm_r μ8 97 ((1024 : Int32) * a1).toNatClampNeg)) dX10_plan_52 (g_lt rfl) (gs_97 G) b10 rfl ?_
        refine go_if_lt 61 dX10_plan_53 (by decide) (fun c11 => ?_) (fun c11 => ?_)
        · have h := h.1 c11
          refine go_aload_n dX10_plan_61 rfl 0 rfl ?_
          refine go_get (.ref (ga G 97)) dX10_plan_62 fX10_70 (g_lt rfl) (gs_78 G _ _) rfl ?_
          refine go_sipush (v := 1024) dX10_plan_65 (by decide) ?_
          refine go_iload_n dX10_plan_68 rfl 1 rfl ?_
          refine go_imul dX10_plan_69 ?_
          refine go_ialdv ((gm_r μ8 97 ((1024 : Int32) * a1).toNatClampNeg)) dX10_plan_70 (g_lt rfl) (gs_97 G) b10 rfl ?_
          exact go_iret dX10_plan_71 rfl (Nat.le_refl _) (Nat.le_refl _) ⟨_, rfl, h⟩
        · have h := h.2 c11
          refine go_iload_n dX10_plan_56 rfl 3 rfl ?_
          refine go_iconst (v := -1) dX10_plan_57 (by decide) ?_
          refine go_icmp_ne 72 dX10_plan_58 (by decide) (fun c12 => ?_) (fun c12 => ?_)
          · have h := h.1 c12
            refine go_iconst (v := 0) dX10_plan_72 (by decide) ?_
            refine go_istore [(0, .ref (ga G 78)), (1, .int a1), (2, .int a2), (3, .int a3), (4, .int (0 : Int32))] [1, 2, 3, 4, 0] dX10_plan_73 (by decide) rfl ?_
            refine go_iconst (v := 0) dX10_plan_75 (by decide) ?_
            refine go_istore [(0, .ref (ga G 78)), (1, .int a1), (2, .int a2), (3, .int a3), (4, .int (0 : Int32)), (5, .int (0 : Int32))] [1, 2, 3, 4, 5, 0] dX10_plan_76 (by decide) rfl ?_
            exact go_sub [0, 1, 3, 4, 5] rfl h
          · have h := h.2 c12
            refine go_aload_n dX10_plan_61 rfl 0 rfl ?_
            refine go_get (.ref (ga G 97)) dX10_plan_62 fX10_70 (g_lt rfl) (gs_78 G _ _) rfl ?_
            refine go_sipush (v := 1024) dX10_plan_65 (by decide) ?_
            refine go_iload_n dX10_plan_68 rfl 1 rfl ?_
            refine go_imul dX10_plan_69 ?_
            refine go_ialdv ((gm_r μ8 97 ((1024 : Int32) * a1).toNatClampNeg)) dX10_plan_70 (g_lt rfl) (gs_97 G) b10 rfl ?_
            exact go_iret dX10_plan_71 rfl (Nat.le_refl _) (Nat.le_refl _) ⟨_, rfl, h⟩
      · have h := h.2 c7
        refine go_sipush (v := -1002) dX10_plan_33 (by decide) ?_
        exact go_iret dX10_plan_36 rfl (Nat.le_refl _) (Nat.le_refl _) ⟨_, rfl, h⟩
    · have h := h.2 c4
      refine go_sipush (v := -1001) dX10_plan_17 (by decide) ?_
      exact go_iret dX10_plan_20 rfl (Nat.le_refl _) (Nat.le_refl _) ⟨_, rfl, h⟩
set_option maxRecDepth 100000 in
theorem eX10_plan_78 {G : gC} {l : Launch} {P : Int32 → Mem → Prop} {x1 : Int32} {x3 : Int32} {x4 : Int32} {x5 : Int32} {μ : Mem} (h : ((x1 ≤ x5) → P (-1 : Int32) μ) ∧ ((¬ x1 ≤ x5) → vp_in (((1024 : Int32) * (x1 - x5)) + x4) 13312 ∧ ∀ v15 : Int32, v15 = (gm_r μ 98 (((1024 : Int32) * (x1 - x5)) + x4).toNatClampNeg) → ((¬ x5 = x3) → hX10_plan_78 G l P x1 x3 (x4 ||| v15) (x5 + (1 : Int32)) μ) ∧ ((x5 = x3) → P v15 μ))) : hX10_plan_78 G l P x1 x3 x4 x5 μ := by
  refine go_iload dX10_plan_78 4 rfl ?_
  refine go_iload_n dX10_plan_80 rfl 1 rfl ?_
  refine go_icmp_ge 124 dX10_plan_81 (by decide) (fun c13 => ?_) (fun c13 => ?_)
  · have h := h.1 c13
    refine go_iconst (v := -1) dX10_plan_124 (by decide) ?_
    exact go_iret dX10_plan_125 rfl (Nat.le_refl _) (Nat.le_refl _) ⟨_, rfl, h⟩
  · have h := h.2 c13
    refine go_aload_n dX10_plan_84 rfl 0 rfl ?_
    refine go_get (.ref (ga G 98)) dX10_plan_85 fX10_73 (g_lt rfl) (gs_78 G _ _) rfl ?_
    refine go_sipush (v := 1024) dX10_plan_88 (by decide) ?_
    refine go_iload_n dX10_plan_91 rfl 1 rfl ?_
    refine go_iload dX10_plan_92 4 rfl ?_
    refine go_isub dX10_plan_94 ?_
    refine go_imul dX10_plan_95 ?_
    refine go_iload dX10_plan_96 3 rfl ?_
    refine go_iadd dX10_plan_98 ?_
    obtain ⟨b14, h⟩ := h
    refine go_ialdv ((gm_r μ 98 (((1024 : Int32) * (x1 - x5)) + x4).toNatClampNeg)) dX10_plan_99 (g_lt rfl) (gs_98 G) b14 rfl ?_
    refine go_topi (fun v15 e_v15 => ?_)
    have h := h v15 e_v15
    refine go_istore [(0, .ref (ga G 78)), (1, .int x1), (3, .int x3), (4, .int x4), (5, .int x5), (6, .int v15)] [1, 2, 3, 4, 5, 0] dX10_plan_100 (by decide) rfl ?_
    refine go_iload dX10_plan_102 4 rfl ?_
    refine go_iload_n dX10_plan_104 rfl 2 rfl ?_
    refine go_icmp_ne 111 dX10_plan_105 (by decide) (fun c16 => ?_) (fun c16 => ?_)
    · have h := h.1 c16
      refine go_iload dX10_plan_111 3 rfl ?_
      refine go_iload dX10_plan_113 5 rfl ?_
      refine go_ior dX10_plan_115 ?_
      refine go_istore [(0, .ref (ga G 78)), (1, .int x1), (3, .int x3), (4, .int (x4 ||| v15)), (5, .int x5), (6, .int v15)] [1, 2, 3, 0, 4, 5] dX10_plan_116 (by decide) rfl ?_
      refine go_iinc (v := (x5 + (1 : Int32))) [(0, .ref (ga G 78)), (1, .int x1), (3, .int x3), (4, .int (x4 ||| v15)), (5, .int (x5 + (1 : Int32))), (6, .int v15)] [1, 2, 3, 4, 0, 5] 4 dX10_plan_118 rfl rfl (by decide) rfl ?_
      refine go_goto 78 dX10_plan_121 (by decide) ?_
      exact go_sub [0, 1, 2, 3, 4] rfl h
    · have h := h.2 c16
      refine go_iload dX10_plan_108 5 rfl ?_
      exact go_iret dX10_plan_110 rfl (Nat.le_refl _) (Nat.le_refl _) ⟨_, rfl, h⟩
set_option maxRecDepth 100000 in
theorem eX10_findAll {G : gC} {l : Launch} {a1 : Int32} {a2 : Int32} {μ : Mem} {P : Mem → Prop} (h : qX10_findComing G l  μ (fun (μ1 : Mem) => hX10_findAll_6 G l P a1 a2 (0 : Int32) μ1)) : qX10_findAll G l a1 a2 μ P := by
  refine Sp.of (by decide) (Nat.le_of_ble_eq_true rfl) (lv := [(0, .ref (ga G 78)), (1, .int a1), (2, .int a2)]) rfl ?_
  refine go_aload_n dX10_findAll_0 rfl 0 rfl ?_
  refine go_callV (As := []) (rest := []) dX10_findAll_1 lX10_226 kX10_findComing rfl (by decide) (Nat.le_of_ble_eq_true rfl) (g_lt rfl) (gs_78 G _ _) rfl (by decide) rfl (gV_go (fun μ1 h => ?_)) h
  refine go_iconst (v := 0) dX10_findAll_4 (by decide) ?_
  refine go_istore_n [(0, .ref (ga G 78)), (1, .int a1), (2, .int a2), (3, .int (0 : Int32))] [1, 2, 3, 0] dX10_findAll_5 rfl (by decide) rfl ?_
  exact h
set_option maxRecDepth 100000 in
theorem eX10_findAll_6 {G : gC} {l : Launch} {P : Mem → Prop} {x1 : Int32} {x2 : Int32} {x3 : Int32} {μ : Mem} (h : (((13312 : Int32) ≤ x3) → hX10_findAll_35 G l P x1 x2 (0 : Int32) (gm_w μ 99 0 (0 : Int32))) ∧ ((¬ (13312 : Int32) ≤ x3) → vp_in x3 13312 ∧ hX10_findAll_6 G l P x1 x2 (x3 + (1 : Int32)) (gm_w μ 99 x3.toNatClampNeg (-1 : Int32)))) : hX10_findAll_6 G l P x1 x2 x3 μ := by
  refine go_iload_n dX10_findAll_6 rfl 3 rfl ?_
  refine go_sipush (v := 13312) dX10_findAll_7 (by decide) ?_
  refine go_icmp_ge 26 dX10_findAll_10 (by decide) (fun c3 => ?_) (fun c3 => ?_)
  · have h := h.1 c3
    refine go_aload_n dX10_findAll_26 rfl 0 rfl ?_
    refine go_get (.ref (ga G 99)) dX10_findAll_27 fX10_76 (g_lt rfl) (gs_78 G _ _) rfl ?_
    refine go_iconst (v := 0) dX10_findAll_30 (by decide) ?_
    refine go_iconst (v := 0) dX10_findAll_31 (by decide) ?_
    refine go_iast dX10_findAll_32 (g_lt rfl) (gs_99 G) (by unfold vp_in; decide) ?_
    refine go_iconst (v := 0) dX10_findAll_33 (by decide) ?_
    refine go_istore_n [(0, .ref (ga G 78)), (1, .int x1), (2, .int x2), (3, .int (0 : Int32))] [1, 2, 3, 0] dX10_findAll_34 rfl (by decide) rfl ?_
    exact h
  · have h := h.2 c3
    refine go_aload_n dX10_findAll_13 rfl 0 rfl ?_
    refine go_get (.ref (ga G 99)) dX10_findAll_14 fX10_76 (g_lt rfl) (gs_78 G _ _) rfl ?_
    refine go_iload_n dX10_findAll_17 rfl 3 rfl ?_
    refine go_iconst (v := -1) dX10_findAll_18 (by decide) ?_
    obtain ⟨b4, h⟩ := h
    refine go_iast dX10_findAll_19 (g_lt rfl) (gs_99 G) b4 ?_
    refine go_iinc (v := (x3 + (1 : Int32))) [(0, .ref (ga G 78)), (1, .int x1), (2, .int x2), (3, .int (x3 + (1 : Int32)))] [1, 2, 3, 0] 3 dX10_findAll_20 rfl rfl (by decide) rfl ?_
    refine go_goto 6 dX10_findAll_23 (by decide) ?_
    exact h
set_option maxRecDepth 100000 in
theorem eX10_findAll_35 {G : gC} {l : Launch} {P : Mem → Prop} {x1 : Int32} {x2 : Int32} {x3 : Int32} {μ : Mem} (h : ((x2 < x3) → P μ) ∧ ((¬ x2 < x3) → ((¬ (x3 &&& (x2 ^^^ (-1 : Int32))) = 0) → hX10_findAll_35 G l P x1 x2 (x3 + (1 : Int32)) μ) ∧ (((x3 &&& (x2 ^^^ (-1 : Int32))) = 0) → qX10_findWorths G l ((gm_r μ 78 23) ||| x3) (x2 &&& (x3 ^^^ (-1 : Int32))) μ (fun (μ7 : Mem) => hX10_findAll_71 G l P x1 x2 x3 (x2 &&& (x3 ^^^ (-1 : Int32))) (x2 &&& (x3 ^^^ (-1 : Int32))) μ7)))) : hX10_findAll_35 G l P x1 x2 x3 μ := by
  refine go_iload_n dX10_findAll_35 rfl 3 rfl ?_
  refine go_iload_n dX10_findAll_36 rfl 2 rfl ?_
  refine go_icmp_gt 201 dX10_findAll_37 (by decide) (fun c5 => ?_) (fun c5 => ?_)
  · have h := h.1 c5
    exact go_vret dX10_findAll_201 rfl (Nat.le_refl _) (Nat.le_refl _) ⟨rfl, h⟩
  · have h := h.2 c5
    refine go_iload_n dX10_findAll_40 rfl 3 rfl ?_
    refine go_iload_n dX10_findAll_41 rfl 2 rfl ?_
    refine go_iconst (v := -1) dX10_findAll_42 (by decide) ?_
    refine go_ixor dX10_findAll_43 ?_
    refine go_iand dX10_findAll_44 ?_
    refine go_if_ne 195 dX10_findAll_45 (by decide) (fun c6 => ?_) (fun c6 => ?_)
    · have h := h.1 c6
      refine go_iinc (v := (x3 + (1 : Int32))) [(0, .ref (ga G 78)), (1, .int x1), (2, .int x2), (3, .int (x3 + (1 : Int32)))] [1, 2, 3, 0] 3 dX10_findAll_195 rfl rfl (by decide) rfl ?_
      refine go_goto 35 dX10_findAll_198 (by decide) ?_
      exact h
    · have h := h.2 c6
      refine go_iload_n dX10_findAll_48 rfl 2 rfl ?_
      refine go_iload_n dX10_findAll_49 rfl 3 rfl ?_
      refine go_iconst (v := -1) dX10_findAll_50 (by decide) ?_
      refine go_ixor dX10_findAll_51 ?_
      refine go_iand dX10_findAll_52 ?_
      refine go_istore [(0, .ref (ga G 78)), (1, .int x1), (2, .int x2), (3, .int x3), (4, .int (x2 &&& (x3 ^^^ (-1 : Int32))))] [1, 2, 3, 4, 0] dX10_findAll_53 (by decide) rfl ?_
      refine go_aload_n dX10_findAll_55 rfl 0 rfl ?_
      refine go_aload_n dX10_findAll_56 rfl 0 rfl ?_
      refine go_get (.int (gm_r μ 78 23)) dX10_findAll_57 fX10_180 (g_lt rfl) (gs_78 G _ _) rfl ?_
      refine go_iload_n dX10_findAll_60 rfl 3 rfl ?_
      refine go_ior dX10_findAll_61 ?_
      refine go_iload dX10_findAll_62 4 rfl ?_
      refine go_callV (As := [.int ((gm_r μ 78 23) ||| x3), .int (x2 &&& (x3 ^^^ (-1 : Int32)))]) (rest := []) dX10_findAll_64 lX10_279 kX10_findWorths rfl (by decide) (Nat.le_of_ble_eq_true rfl) (g_lt rfl) (gs_78 G _ _) rfl (by decide) rfl (gV_go (fun μ7 h => ?_)) h
      refine go_iload dX10_findAll_67 4 rfl ?_
      refine go_istore [(0, .ref (ga G 78)), (1, .int x1), (2, .int x2), (3, .int x3), (4, .int (x2 &&& (x3 ^^^ (-1 : Int32)))), (5, .int (x2 &&& (x3 ^^^ (-1 : Int32))))] [1, 2, 3, 4, 5, 0] dX10_findAll_69 (by decide) rfl ?_
      exact h
set_option maxRecDepth 100000 in
theorem eX10_findAll_71 {G : gC} {l : Launch} {P : Mem → Prop} {x1 : Int32} {x2 : Int32} {x3 : Int32} {x4 : Int32} {x5 : Int32} {μ : Mem} (h : ((x5 ≤ 0) → hX10_findAll_35 G l P x1 x2 (x3 + (1 : Int32)) μ) ∧ ((¬ x5 ≤ 0) → hX10_findAll_79 G l P x1 x2 x3 x4 x5 (0 : Int32) μ)) : hX10_findAll_71 G l P x1 x2 x3 x4 x5 μ := by
  refine go_iload dX10_findAll_71 5 rfl ?_
  refine go_if_le 195 dX10_findAll_73 (by decide) (fun c9 => ?_) (fun c9 => ?_)
  · have h := h.1 c9
    refine go_iinc (v := (x3 + (1 : Int32))) [(0, .ref (ga G 78)), (1, .int x1), (2, .int x2), (3, .int (x3 + (1 : Int32))), (4, .int x4), (5, .int x5)] [1, 2, 3, 0, 4, 5] 3 dX10_findAll_195 rfl rfl (by decide) rfl ?_
    refine go_goto 35 dX10_findAll_198 (by decide) ?_
    exact go_sub [0, 1, 2, 3] rfl h
  · have h := h.2 c9
    refine go_iconst (v := 0) dX10_findAll_76 (by decide) ?_
    refine go_istore [(0, .ref (ga G 78)), (1, .int x1), (2, .int x2), (3, .int x3), (4, .int x4), (5, .int x5), (6, .int (0 : Int32))] [1, 2, 3, 4, 5, 6, 0] dX10_findAll_77 (by decide) rfl ?_
    exact h
set_option maxRecDepth 100000 in
theorem eX10_findAll_79 {G : gC} {l : Launch} {P : Mem → Prop} {x1 : Int32} {x2 : Int32} {x3 : Int32} {x4 : Int32} {x5 : Int32} {x6 : Int32} {μ : Mem} (h : ((x1 ≤ x6) → hX10_findAll_71 G l P x1 x2 x3 x4 ((x5 - (1 : Int32)) &&& x4) μ) ∧ ((¬ x1 ≤ x6) → vp_in x5 1024 ∧ (((gm_r μ 96 x5.toNatClampNeg) < 0) → hX10_findAll_71 G l P x1 x2 x3 x4 ((x5 - (1 : Int32)) &&& x4) μ) ∧ ((¬ (gm_r μ 96 x5.toNatClampNeg) < 0) → vp_in (((1024 : Int32) * x6) + x3) 13312 ∧ ∀ v14 : Int32, v14 = (gm_r μ 99 (((1024 : Int32) * x6) + x3).toNatClampNeg) → ∀ v15 : Int32, v15 = (((1024 : Int32) * (x6 + (1 : Int32))) + (x3 ||| x5)) → ((v14 < 0) → vp_in v15 13312 ∧ hX10_findAll_79 G l P x1 x2 x3 x4 x5 (x6 + (1 : Int32)) (gm_w μ 99 v15.toNatClampNeg (gm_r μ 99 v15.toNatClampNeg))) ∧ ((¬ v14 < 0) → vp_in v15 13312 ∧ (((v14 + (gm_r μ 96 x5.toNatClampNeg)) ≤ (gm_r μ 99 v15.toNatClampNeg)) → hX10_findAll_79 G l P x1 x2 x3 x4 x5 (x6 + (1 : Int32)) (gm_w μ 99 v15.toNatClampNeg (gm_r μ 99 v15.toNatClampNeg))) ∧ ((¬ (v14 + (gm_r μ 96 x5.toNatClampNeg)) ≤ (gm_r μ 99 v15.toNatClampNeg)) → hX10_findAll_79 G l P x1 x2 x3 x4 x5 (x6 + (1 : Int32)) (gm_w μ 99 v15.toNatClampNeg (v14 + (gm_r μ 96 x5.toNatClampNeg)))))))) : hX10_findAll_79 G l P x1 x2 x3 x4 x5 x6 μ := by
  refine go_iload dX10_findAll_79 6 rfl ?_
  refine go_iload_n dX10_findAll_81 rfl 1 rfl ?_
  refine go_icmp_ge 183 dX10_findAll_82 (by decide) (fun c10 => ?_) (fun c10 => ?_)
  · have h := h.1 c10
    refine go_iload dX10_findAll_183 5 rfl ?_
    refine go_iconst (v := 1) dX10_findAll_185 (by decide) ?_
    refine go_isub dX10_findAll_186 ?_
    refine go_iload dX10_findAll_187 4 rfl ?_
    refine go_iand dX10_findAll_189 ?_
    refine go_istore [(0, .ref (ga G 78)), (1, .int x1), (2, .int x2), (3, .int x3), (4, .int x4), (5, .int ((x5 - (1 : Int32)) &&& x4)), (6, .int x6)] [1, 2, 3, 4, 5, 0, 6] dX10_findAll_190 (by decide) rfl ?_
    refine go_goto 71 dX10_findAll_192 (by decide) ?_
    exact go_sub [0, 1, 2, 3, 4, 5] rfl h
  · have h := h.2 c10
    refine go_aload_n dX10_findAll_85 rfl 0 rfl ?_
    refine go_get (.ref (ga G 96)) dX10_findAll_86 fX10_67 (g_lt rfl) (gs_78 G _ _) rfl ?_
    refine go_iload dX10_findAll_89 5 rfl ?_
    obtain ⟨b11, h⟩ := h
    refine go_ialdv ((gm_r μ 96 x5.toNatClampNeg)) dX10_findAll_91 (g_lt rfl) (gs_96 G) b11 rfl ?_
    refine go_if_lt 183 dX10_findAll_92 (by decide) (fun c12 => ?_) (fun c12 => ?_)
    · have h := h.1 c12
      refine go_iload dX10_findAll_183 5 rfl ?_
      refine go_iconst (v := 1) dX10_findAll_185 (by decide) ?_
      refine go_isub dX10_findAll_186 ?_
      refine go_iload dX10_findAll_187 4 rfl ?_
      refine go_iand dX10_findAll_189 ?_
      refine go_istore [(0, .ref (ga G 78)), (1, .int x1), (2, .int x2), (3, .int x3), (4, .int x4), (5, .int ((x5 - (1 : Int32)) &&& x4)), (6, .int x6)] [1, 2, 3, 4, 5, 0, 6] dX10_findAll_190 (by decide) rfl ?_
      refine go_goto 71 dX10_findAll_192 (by decide) ?_
      exact go_sub [0, 1, 2, 3, 4, 5] rfl h
    · have h := h.2 c12
      refine go_aload_n dX10_findAll_95 rfl 0 rfl ?_
      refine go_get (.ref (ga G 99)) dX10_findAll_96 fX10_76 (g_lt rfl) (gs_78 G _ _) rfl ?_
      refine go_sipush (v := 1024) dX10_findAll_99 (by decide) ?_
      refine go_iload dX10_findAll_102 6 rfl ?_
      refine go_imul dX10_findAll_104 ?_
      refine go_iload_n dX10_findAll_105 rfl 3 rfl ?_
      refine go_iadd dX10_findAll_106 ?_
      obtain ⟨b13, h⟩ := h
      refine go_ialdv ((gm_r μ 99 (((1024 : Int32) * x6) + x3).toNatClampNeg)) dX10_findAll_107 (g_lt rfl) (gs_99 G) b13 rfl ?_
      refine go_topi (fun v14 e_v14 => ?_)
      have h := h v14 e_v14
      refine go_istore [(0, .ref (ga G 78)), (1, .int x1), (2, .int x2), (3, .int x3), (4, .int x4), (5, .int x5), (6, .int x6), (7, .int v14)] [1, 2, 3, 4, 5, 6, 7, 0] dX10_findAll_108 (by decide) rfl ?_
      refine go_sipush (v := 1024) dX10_findAll_110 (by decide) ?_
      refine go_iload dX10_findAll_113 6 rfl ?_
      refine go_iconst (v := 1) dX10_findAll_115 (by decide) ?_
      refine go_iadd dX10_findAll_116 ?_
      refine go_imul dX10_findAll_117 ?_
      refine go_iload_n dX10_findAll_118 rfl 3 rfl ?_
      refine go_iload dX10_findAll_119 5 rfl ?_
      refine go_ior dX10_findAll_121 ?_
      refine go_iadd dX10_findAll_122 ?_
      refine go_topi (fun v15 e_v15 => ?_)
      have h := h v15 e_v15
      refine go_istore [(0, .ref (ga G 78)), (1, .int x1), (2, .int x2), (3, .int x3), (4, .int x4), (5, .int x5), (6, .int x6), (7, .int v14), (8, .int v15)] [1, 2, 3, 4, 5, 6, 7, 8, 0] dX10_findAll_123 (by decide) rfl ?_
      refine go_aload_n dX10_findAll_125 rfl 0 rfl ?_
      refine go_get (.ref (ga G 99)) dX10_findAll_126 fX10_76 (g_lt rfl) (gs_78 G _ _) rfl ?_
      refine go_iload dX10_findAll_129 8 rfl ?_
      refine go_iload dX10_findAll_131 7 rfl ?_
      refine go_if_lt 169 dX10_findAll_133 (by decide) (fun c16 => ?_) (fun c16 => ?_)
      · have h := h.1 c16
        refine go_aload_n dX10_findAll_169 rfl 0 rfl ?_
        refine go_get (.ref (ga G 99)) dX10_findAll_170 fX10_76 (g_lt rfl) (gs_78 G _ _) rfl ?_
        refine go_iload dX10_findAll_173 8 rfl ?_
        obtain ⟨b17, h⟩ := h
        refine go_ialdv ((gm_r μ 99 v15.toNatClampNeg)) dX10_findAll_175 (g_lt rfl) (gs_99 G) b17 rfl ?_
        refine go_iast dX10_findAll_176 (g_lt rfl) (gs_99 G) b17 ?_
        refine go_iinc (v := (x6 + (1 : Int32))) [(0, .ref (ga G 78)), (1, .int x1), (2, .int x2), (3, .int x3), (4, .int x4), (5, .int x5), (6, .int (x6 + (1 : Int32))), (7, .int v14), (8, .int v15)] [1, 2, 3, 4, 5, 6, 0, 7, 8] 6 dX10_findAll_177 rfl rfl (by decide) rfl ?_
        refine go_goto 79 dX10_findAll_180 (by decide) ?_
        exact go_sub [0, 1, 2, 3, 4, 5, 6] rfl h
      · have h := h.2 c16
        refine go_iload dX10_findAll_136 7 rfl ?_
        refine go_aload_n dX10_findAll_138 rfl 0 rfl ?_
        refine go_get (.ref (ga G 96)) dX10_findAll_139 fX10_67 (g_lt rfl) (gs_78 G _ _) rfl ?_
        refine go_iload dX10_findAll_142 5 rfl ?_
        refine go_ialdv ((gm_r μ 96 x5.toNatClampNeg)) dX10_findAll_144 (g_lt rfl) (gs_96 G) b11 rfl ?_
        refine go_iadd dX10_findAll_145 ?_
        refine go_aload_n dX10_findAll_146 rfl 0 rfl ?_
        refine go_get (.ref (ga G 99)) dX10_findAll_147 fX10_76 (g_lt rfl) (gs_78 G _ _) rfl ?_
        refine go_iload dX10_findAll_150 8 rfl ?_
        obtain ⟨b18, h⟩ := h
        refine go_ialdv ((gm_r μ 99 v15.toNatClampNeg)) dX10_findAll_152 (g_lt rfl) (gs_99 G) b18 rfl ?_
        refine go_icmp_le 169 dX10_findAll_153 (by decide) (fun c19 => ?_) (fun c19 => ?_)
        · have h := h.1 c19
          refine go_aload_n dX10_findAll_169 rfl 0 rfl ?_
          refine go_get (.ref (ga G 99)) dX10_findAll_170 fX10_76 (g_lt rfl) (gs_78 G _ _) rfl ?_
          refine go_iload dX10_findAll_173 8 rfl ?_
          refine go_ialdv ((gm_r μ 99 v15.toNatClampNeg)) dX10_findAll_175 (g_lt rfl) (gs_99 G) b18 rfl ?_
          refine go_iast dX10_findAll_176 (g_lt rfl) (gs_99 G) b18 ?_
          refine go_iinc (v := (x6 + (1 : Int32))) [(0, .ref (ga G 78)), (1, .int x1), (2, .int x2), (3, .int x3), (4, .int x4), (5, .int x5), (6, .int (x6 + (1 : Int32))), (7, .int v14), (8, .int v15)] [1, 2, 3, 4, 5, 6, 0, 7, 8] 6 dX10_findAll_177 rfl rfl (by decide) rfl ?_
          refine go_goto 79 dX10_findAll_180 (by decide) ?_
          exact go_sub [0, 1, 2, 3, 4, 5, 6] rfl h
        · have h := h.2 c19
          refine go_iload dX10_findAll_156 7 rfl ?_
          refine go_aload_n dX10_findAll_158 rfl 0 rfl ?_
          refine go_get (.ref (ga G 96)) dX10_findAll_159 fX10_67 (g_lt rfl) (gs_78 G _ _) rfl ?_
          refine go_iload dX10_findAll_162 5 rfl ?_
          refine go_ialdv ((gm_r μ 96 x5.toNatClampNeg)) dX10_findAll_164 (g_lt rfl) (gs_96 G) b11 rfl ?_
          refine go_iadd dX10_findAll_165 ?_
          refine go_goto 176 dX10_findAll_166 (by decide) ?_
          refine go_iast dX10_findAll_176 (g_lt rfl) (gs_99 G) b18 ?_
          refine go_iinc (v := (x6 + (1 : Int32))) [(0, .ref (ga G 78)), (1, .int x1), (2, .int x2), (3, .int x3), (4, .int x4), (5, .int x5), (6, .int (x6 + (1 : Int32))), (7, .int v14), (8, .int v15)] [1, 2, 3, 4, 5, 6, 0, 7, 8] 6 dX10_findAll_177 rfl rfl (by decide) rfl ?_
          refine go_goto 79 dX10_findAll_180 (by decide) ?_
          exact go_sub [0, 1, 2, 3, 4, 5, 6] rfl h
set_option maxRecDepth 100000 in
theorem eX10_kind {G : gC} {l : Launch} {a1 : Int32} {a2 : Int32} {a3 : Int32} {μ : Mem} {P : Int32 → Mem → Prop} (h : qX10_in G l (a2).toInt64 (0 : Int64) (255 : Int64) μ (fun (r2 : Int32) (μ1 : Mem) => ((¬ r2 = 0) → qX10_in G l (a1).toInt64 (1 : Int64) (12 : Int64) μ1 (fun (r5 : Int32) (μ4 : Mem) => ((r5 = 0) → P (-1002 : Int32) μ4) ∧ ((¬ r5 = 0) → qX10_in G l (a3).toInt64 (0 : Int64) (1 : Int64) μ4 (fun (r8 : Int32) (μ7 : Mem) => ((¬ r8 = 0) → hX10_kind_48 G l P a1 a2 a3 (0 : Int32) (0 : Int32) μ7) ∧ ((r8 = 0) → P (-1002 : Int32) μ7))))) ∧ ((r2 = 0) → P (-1001 : Int32) μ1))) : qX10_kind G l a1 a2 a3 μ P := by
  refine Sp.of (by decide) (Nat.le_of_ble_eq_true rfl) (lv := [(0, .ref (ga G 78)), (1, .int a1), (2, .int a2), (3, .int a3)]) rfl ?_
  refine go_iload_n dX10_kind_0 rfl 2 rfl ?_
  refine go_i2l dX10_kind_1 ?_
  refine go_lconst (v := 0) dX10_kind_2 (by decide) ?_
  refine go_ldc2_w (v := 255) (g_in 1082 (by decide +kernel) rfl) dX10_kind_3 ?_
  refine go_callS (As := [.long (a2).toInt64, .long (0 : Int64), .long (255 : Int64)]) (rest := []) dX10_kind_6 lX10_99 kX10_in rfl (by decide) (Nat.le_of_ble_eq_true rfl) (by decide) rfl (gI_go (fun r2 μ1 h => ?_)) h
  refine go_if_ne 16 dX10_kind_9 (by decide) (fun c3 => ?_) (fun c3 => ?_)
  · have h := h.1 c3
    refine go_iload_n dX10_kind_16 rfl 1 rfl ?_
    refine go_i2l dX10_kind_17 ?_
    refine go_lconst (v := 1) dX10_kind_18 (by decide) ?_
    refine go_ldc2_w (v := 12) (g_in 1316 (by decide +kernel) rfl) dX10_kind_19 ?_
    refine go_callS (As := [.long (a1).toInt64, .long (1 : Int64), .long (12 : Int64)]) (rest := []) dX10_kind_22 lX10_99 kX10_in rfl (by decide) (Nat.le_of_ble_eq_true rfl) (by decide) rfl (gI_go (fun r5 μ4 h => ?_)) h
    refine go_if_eq 38 dX10_kind_25 (by decide) (fun c6 => ?_) (fun c6 => ?_)
    · have h := h.1 c6
      refine go_sipush (v := -1002) dX10_kind_38 (by decide) ?_
      exact go_iret dX10_kind_41 rfl (Nat.le_refl _) (Nat.le_refl _) ⟨_, rfl, h⟩
    · have h := h.2 c6
      refine go_iload_n dX10_kind_28 rfl 3 rfl ?_
      refine go_i2l dX10_kind_29 ?_
      refine go_lconst (v := 0) dX10_kind_30 (by decide) ?_
      refine go_lconst (v := 1) dX10_kind_31 (by decide) ?_
      refine go_callS (As := [.long (a3).toInt64, .long (0 : Int64), .long (1 : Int64)]) (rest := []) dX10_kind_32 lX10_99 kX10_in rfl (by decide) (Nat.le_of_ble_eq_true rfl) (by decide) rfl (gI_go (fun r8 μ7 h => ?_)) h
      refine go_if_ne 42 dX10_kind_35 (by decide) (fun c9 => ?_) (fun c9 => ?_)
      · have h := h.1 c9
        refine go_iconst (v := 0) dX10_kind_42 (by decide) ?_
        refine go_istore [(0, .ref (ga G 78)), (1, .int a1), (2, .int a2), (3, .int a3), (4, .int (0 : Int32))] [1, 2, 3, 4, 0] dX10_kind_43 (by decide) rfl ?_
        refine go_iconst (v := 0) dX10_kind_45 (by decide) ?_
        refine go_istore [(0, .ref (ga G 78)), (1, .int a1), (2, .int a2), (3, .int a3), (4, .int (0 : Int32)), (5, .int (0 : Int32))] [1, 2, 3, 4, 5, 0] dX10_kind_46 (by decide) rfl ?_
        exact h
      · have h := h.2 c9
        refine go_sipush (v := -1002) dX10_kind_38 (by decide) ?_
        exact go_iret dX10_kind_41 rfl (Nat.le_refl _) (Nat.le_refl _) ⟨_, rfl, h⟩
  · have h := h.2 c3
    refine go_sipush (v := -1001) dX10_kind_12 (by decide) ?_
    exact go_iret dX10_kind_15 rfl (Nat.le_refl _) (Nat.le_refl _) ⟨_, rfl, h⟩
set_option maxRecDepth 100000 in
theorem eX10_kind_48 {G : gC} {l : Launch} {P : Int32 → Mem → Prop} {x1 : Int32} {x2 : Int32} {x3 : Int32} {x4 : Int32} {x5 : Int32} {μ : Mem} (h : (((gm_r μ 78 0) ≤ x5) → qX10_findAll G l x1 x4 μ (fun (μ11 : Mem) => hX10_kind_128 G l P x1 x3 (-1 : Int32) (-1 : Int32) (0 : Int32) μ11)) ∧ ((¬ (gm_r μ 78 0) ≤ x5) → qX10_has G l (gm_r μ 78 23) x5 μ (fun (r14 : Int32) (μ13 : Mem) => ((¬ r14 = 0) → hX10_kind_48 G l P x1 x2 x3 (x4 ||| (0 : Int32)) (x5 + (1 : Int32)) μ13) ∧ ((r14 = 0) → vp_in x5 10 ∧ (((gm_r μ13 80 x5.toNatClampNeg) < 0) → ∀ v18 : Int32, v18 = (x4 ||| ((1 : Int32) <<< (x5 &&& 31))) → hX10_kind_48 G l P x1 x2 x3 v18 (x5 + (1 : Int32)) μ13) ∧ ((¬ (gm_r μ13 80 x5.toNatClampNeg) < 0) → qX10_has G l x2 (gm_r μ13 80 x5.toNatClampNeg) μ13 (fun (r20 : Int32) (μ19 : Mem) => ((¬ r20 = 0) → hX10_kind_48 G l P x1 x2 x3 (x4 ||| (0 : Int32)) (x5 + (1 : Int32)) μ19) ∧ ((r20 = 0) → ∀ v22 : Int32, v22 = (x4 ||| ((1 : Int32) <<< (x5 &&& 31))) → hX10_kind_48 G l P x1 x2 x3 v22 (x5 + (1 : Int32)) μ19))))))) : hX10_kind_48 G l P x1 x2 x3 x4 x5 μ := by
  refine go_iload dX10_kind_48 5 rfl ?_
  refine go_aload_n dX10_kind_50 rfl 0 rfl ?_
  refine go_get (.int (gm_r μ 78 0)) dX10_kind_51 fX10_174 (g_lt rfl) (gs_78 G _ _) rfl ?_
  refine go_icmp_ge 112 dX10_kind_54 (by decide) (fun c10 => ?_) (fun c10 => ?_)
  · have h := h.1 c10
    refine go_aload_n dX10_kind_112 rfl 0 rfl ?_
    refine go_iload_n dX10_kind_113 rfl 1 rfl ?_
    refine go_iload dX10_kind_114 4 rfl ?_
    refine go_callV (As := [.int x1, .int x4]) (rest := []) dX10_kind_116 lX10_287 kX10_findAll rfl (by decide) (Nat.le_of_ble_eq_true rfl) (g_lt rfl) (gs_78 G _ _) rfl (by decide) rfl (gV_go (fun μ11 h => ?_)) h
    refine go_iconst (v := -1) dX10_kind_119 (by decide) ?_
    refine go_istore [(0, .ref (ga G 78)), (1, .int x1), (2, .int x2), (3, .int x3), (4, .int x4), (5, .int (-1 : Int32))] [1, 2, 3, 4, 5, 0] dX10_kind_120 (by decide) rfl ?_
    refine go_iconst (v := -1) dX10_kind_122 (by decide) ?_
    refine go_istore [(0, .ref (ga G 78)), (1, .int x1), (2, .int x2), (3, .int x3), (4, .int x4), (5, .int (-1 : Int32)), (6, .int (-1 : Int32))] [1, 2, 3, 4, 5, 6, 0] dX10_kind_123 (by decide) rfl ?_
    refine go_iconst (v := 0) dX10_kind_125 (by decide) ?_
    refine go_istore [(0, .ref (ga G 78)), (1, .int x1), (2, .int x2), (3, .int x3), (4, .int x4), (5, .int (-1 : Int32)), (6, .int (-1 : Int32)), (7, .int (0 : Int32))] [1, 2, 3, 4, 5, 6, 7, 0] dX10_kind_126 (by decide) rfl ?_
    exact go_sub [0, 1, 3, 5, 6, 7] rfl h
  · have h := h.2 c10
    refine go_iload dX10_kind_57 4 rfl ?_
    refine go_aload_n dX10_kind_59 rfl 0 rfl ?_
    refine go_get (.int (gm_r μ 78 23)) dX10_kind_60 fX10_180 (g_lt rfl) (gs_78 G _ _) rfl ?_
    refine go_iload dX10_kind_63 5 rfl ?_
    refine go_callS (As := [.int (gm_r μ 78 23), .int x5]) (rest := [.int x4]) dX10_kind_65 lX10_143 kX10_has rfl (by decide) (Nat.le_of_ble_eq_true rfl) (by decide) rfl (gI_go (fun r14 μ13 h => ?_)) h
    refine go_if_ne 102 dX10_kind_68 (by decide) (fun c15 => ?_) (fun c15 => ?_)
    · have h := h.1 c15
      refine go_iconst (v := 0) dX10_kind_102 (by decide) ?_
      refine go_ior dX10_kind_103 ?_
      refine go_istore [(0, .ref (ga G 78)), (1, .int x1), (2, .int x2), (3, .int x3), (4, .int (x4 ||| (0 : Int32))), (5, .int x5)] [1, 2, 3, 4, 0, 5] dX10_kind_104 (by decide) rfl ?_
      refine go_iinc (v := (x5 + (1 : Int32))) [(0, .ref (ga G 78)), (1, .int x1), (2, .int x2), (3, .int x3), (4, .int (x4 ||| (0 : Int32))), (5, .int (x5 + (1 : Int32)))] [1, 2, 3, 4, 5, 0] 5 dX10_kind_106 rfl rfl (by decide) rfl ?_
      refine go_goto 48 dX10_kind_109 (by decide) ?_
      exact h
    · have h := h.2 c15
      refine go_aload_n dX10_kind_71 rfl 0 rfl ?_
      refine go_get (.ref (ga G 80)) dX10_kind_72 fX10_13 (g_lt rfl) (gs_78 G _ _) rfl ?_
      refine go_iload dX10_kind_75 5 rfl ?_
      obtain ⟨b16, h⟩ := h
      refine go_ialdv ((gm_r μ13 80 x5.toNatClampNeg)) dX10_kind_77 (g_lt rfl) (gs_80 G) b16 rfl ?_
      refine go_if_lt 95 dX10_kind_78 (by decide) (fun c17 => ?_) (fun c17 => ?_)
      · have h := h.1 c17
        refine go_iconst (v := 1) dX10_kind_95 (by decide) ?_
        refine go_iload dX10_kind_96 5 rfl ?_
        refine go_ishl dX10_kind_98 ?_
        refine go_goto 103 dX10_kind_99 (by decide) ?_
        refine go_ior dX10_kind_103 ?_
        refine go_topi (fun v18 e_v18 => ?_)
        have h := h v18 e_v18
        refine go_istore [(0, .ref (ga G 78)), (1, .int x1), (2, .int x2), (3, .int x3), (4, .int v18), (5, .int x5)] [1, 2, 3, 4, 0, 5] dX10_kind_104 (by decide) rfl ?_
        refine go_iinc (v := (x5 + (1 : Int32))) [(0, .ref (ga G 78)), (1, .int x1), (2, .int x2), (3, .int x3), (4, .int v18), (5, .int (x5 + (1 : Int32)))] [1, 2, 3, 4, 5, 0] 5 dX10_kind_106 rfl rfl (by decide) rfl ?_
        refine go_goto 48 dX10_kind_109 (by decide) ?_
        exact h
      · have h := h.2 c17
        refine go_iload_n dX10_kind_81 rfl 2 rfl ?_
        refine go_aload_n dX10_kind_82 rfl 0 rfl ?_
        refine go_get (.ref (ga G 80)) dX10_kind_83 fX10_13 (g_lt rfl) (gs_78 G _ _) rfl ?_
        refine go_iload dX10_kind_86 5 rfl ?_
        refine go_ialdv ((gm_r μ13 80 x5.toNatClampNeg)) dX10_kind_88 (g_lt rfl) (gs_80 G) b16 rfl ?_
        refine go_callS (As := [.int x2, .int (gm_r μ13 80 x5.toNatClampNeg)]) (rest := [.int x4]) dX10_kind_89 lX10_143 kX10_has rfl (by decide) (Nat.le_of_ble_eq_true rfl) (by decide) rfl (gI_go (fun r20 μ19 h => ?_)) h
        refine go_if_ne 102 dX10_kind_92 (by decide) (fun c21 => ?_) (fun c21 => ?_)
        · have h := h.1 c21
          refine go_iconst (v := 0) dX10_kind_102 (by decide) ?_
          refine go_ior dX10_kind_103 ?_
          refine go_istore [(0, .ref (ga G 78)), (1, .int x1), (2, .int x2), (3, .int x3), (4, .int (x4 ||| (0 : Int32))), (5, .int x5)] [1, 2, 3, 4, 0, 5] dX10_kind_104 (by decide) rfl ?_
          refine go_iinc (v := (x5 + (1 : Int32))) [(0, .ref (ga G 78)), (1, .int x1), (2, .int x2), (3, .int x3), (4, .int (x4 ||| (0 : Int32))), (5, .int (x5 + (1 : Int32)))] [1, 2, 3, 4, 5, 0] 5 dX10_kind_106 rfl rfl (by decide) rfl ?_
          refine go_goto 48 dX10_kind_109 (by decide) ?_
          exact h
        · have h := h.2 c21
          refine go_iconst (v := 1) dX10_kind_95 (by decide) ?_
          refine go_iload dX10_kind_96 5 rfl ?_
          refine go_ishl dX10_kind_98 ?_
          refine go_goto 103 dX10_kind_99 (by decide) ?_
          refine go_ior dX10_kind_103 ?_
          refine go_topi (fun v22 e_v22 => ?_)
          have h := h v22 e_v22
          refine go_istore [(0, .ref (ga G 78)), (1, .int x1), (2, .int x2), (3, .int x3), (4, .int v22), (5, .int x5)] [1, 2, 3, 4, 0, 5] dX10_kind_104 (by decide) rfl ?_
          refine go_iinc (v := (x5 + (1 : Int32))) [(0, .ref (ga G 78)), (1, .int x1), (2, .int x2), (3, .int x3), (4, .int v22), (5, .int (x5 + (1 : Int32)))] [1, 2, 3, 4, 5, 0] 5 dX10_kind_106 rfl rfl (by decide) rfl ?_
          refine go_goto 48 dX10_kind_109 (by decide) ?_
          exact h
set_option maxRecDepth 100000 in
theorem eX10_kind_128 {G : gC} {l : Launch} {P : Int32 → Mem → Prop} {x1 : Int32} {x3 : Int32} {x5 : Int32} {x6 : Int32} {x7 : Int32} {μ : Mem} (h : qX10_all G l  μ (fun (r24 : Int32) (μ23 : Mem) => ((r24 < x7) → ((¬ x3 = 0) → P x6 μ23) ∧ ((x3 = 0) → P x5 μ23)) ∧ ((¬ r24 < x7) → vp_in (((1024 : Int32) * x1) + x7) 13312 ∧ ∀ v28 : Int32, v28 = (gm_r μ23 99 (((1024 : Int32) * x1) + x7).toNatClampNeg) → ((x5 < 0) → hX10_kind_195 G l P x1 x3 x5 x6 x7 v28 (1 : Int32) μ23) ∧ ((¬ x5 < 0) → qX10_ones G l x7 μ23 (fun (r31 : Int32) (μ30 : Mem) => qX10_ones G l x5 μ30 (fun (r33 : Int32) (μ32 : Mem) => ((r33 < r31) → hX10_kind_195 G l P x1 x3 x5 x6 x7 v28 (1 : Int32) μ32) ∧ ((¬ r33 < r31) → qX10_ones G l x7 μ32 (fun (r36 : Int32) (μ35 : Mem) => qX10_ones G l x5 μ35 (fun (r38 : Int32) (μ37 : Mem) => ((¬ r36 = r38) → hX10_kind_195 G l P x1 x3 x5 x6 x7 v28 (0 : Int32) μ37) ∧ ((r36 = r38) → ((v28 ≤ x6) → hX10_kind_195 G l P x1 x3 x5 x6 x7 v28 (0 : Int32) μ37) ∧ ((¬ v28 ≤ x6) → hX10_kind_195 G l P x1 x3 x5 x6 x7 v28 (1 : Int32) μ37))))))))))) : hX10_kind_128 G l P x1 x3 x5 x6 x7 μ := by
  refine go_iload dX10_kind_128 5 rfl ?_
  refine go_aload_n dX10_kind_130 rfl 0 rfl ?_
  refine go_callV (As := []) (rest := [.int x7]) dX10_kind_131 lX10_192 kX10_all rfl (by decide) (Nat.le_of_ble_eq_true rfl) (g_lt rfl) (gs_78 G _ _) rfl (by decide) rfl (gI_go (fun r24 μ23 h => ?_)) h
  refine go_icmp_gt 221 dX10_kind_134 (by decide) (fun c25 => ?_) (fun c25 => ?_)
  · have h := h.1 c25
    refine go_iload_n dX10_kind_221 rfl 2 rfl ?_
    refine go_if_ne 230 dX10_kind_222 (by decide) (fun c26 => ?_) (fun c26 => ?_)
    · have h := h.1 c26
      refine go_iload dX10_kind_230 4 rfl ?_
      exact go_iret dX10_kind_232 rfl (Nat.le_refl _) (Nat.le_refl _) ⟨_, rfl, h⟩
    · have h := h.2 c26
      refine go_iload dX10_kind_225 3 rfl ?_
      refine go_goto 232 dX10_kind_227 (by decide) ?_
      exact go_iret dX10_kind_232 rfl (Nat.le_refl _) (Nat.le_refl _) ⟨_, rfl, h⟩
  · have h := h.2 c25
    refine go_aload_n dX10_kind_137 rfl 0 rfl ?_
    refine go_get (.ref (ga G 99)) dX10_kind_138 fX10_76 (g_lt rfl) (gs_78 G _ _) rfl ?_
    refine go_sipush (v := 1024) dX10_kind_141 (by decide) ?_
    refine go_iload_n dX10_kind_144 rfl 1 rfl ?_
    refine go_imul dX10_kind_145 ?_
    refine go_iload dX10_kind_146 5 rfl ?_
    refine go_iadd dX10_kind_148 ?_
    obtain ⟨b27, h⟩ := h
    refine go_ialdv ((gm_r μ23 99 (((1024 : Int32) * x1) + x7).toNatClampNeg)) dX10_kind_149 (g_lt rfl) (gs_99 G) b27 rfl ?_
    refine go_topi (fun v28 e_v28 => ?_)
    have h := h v28 e_v28
    refine go_istore [(0, .ref (ga G 78)), (1, .int x1), (3, .int x3), (5, .int x5), (6, .int x6), (7, .int x7), (8, .int v28)] [1, 2, 3, 4, 5, 6, 0] dX10_kind_150 (by decide) rfl ?_
    refine go_iload dX10_kind_152 3 rfl ?_
    refine go_if_lt 190 dX10_kind_154 (by decide) (fun c29 => ?_) (fun c29 => ?_)
    · have h := h.1 c29
      refine go_iconst (v := 1) dX10_kind_190 (by decide) ?_
      refine go_goto 195 dX10_kind_191 (by decide) ?_
      exact h
    · have h := h.2 c29
      refine go_iload dX10_kind_157 5 rfl ?_
      refine go_callS (As := [.int x7]) (rest := []) dX10_kind_159 lX10_208 kX10_ones rfl (by decide) (Nat.le_of_ble_eq_true rfl) (by decide) rfl (gI_go (fun r31 μ30 h => ?_)) h
      refine go_iload dX10_kind_162 3 rfl ?_
      refine go_callS (As := [.int x5]) (rest := [.int r31]) dX10_kind_164 lX10_208 kX10_ones rfl (by decide) (Nat.le_of_ble_eq_true rfl) (by decide) rfl (gI_go (fun r33 μ32 h => ?_)) h
      refine go_icmp_gt 190 dX10_kind_167 (by decide) (fun c34 => ?_) (fun c34 => ?_)
      · have h := h.1 c34
        refine go_iconst (v := 1) dX10_kind_190 (by decide) ?_
        refine go_goto 195 dX10_kind_191 (by decide) ?_
        exact h
      · have h := h.2 c34
        refine go_iload dX10_kind_170 5 rfl ?_
        refine go_callS (As := [.int x7]) (rest := []) dX10_kind_172 lX10_208 kX10_ones rfl (by decide) (Nat.le_of_ble_eq_true rfl) (by decide) rfl (gI_go (fun r36 μ35 h => ?_)) h
        refine go_iload dX10_kind_175 3 rfl ?_
        refine go_callS (As := [.int x5]) (rest := [.int r36]) dX10_kind_177 lX10_208 kX10_ones rfl (by decide) (Nat.le_of_ble_eq_true rfl) (by decide) rfl (gI_go (fun r38 μ37 h => ?_)) h
        refine go_icmp_ne 194 dX10_kind_180 (by decide) (fun c39 => ?_) (fun c39 => ?_)
        · have h := h.1 c39
          refine go_iconst (v := 0) dX10_kind_194 (by decide) ?_
          exact h
        · have h := h.2 c39
          refine go_iload dX10_kind_183 6 rfl ?_
          refine go_iload dX10_kind_185 4 rfl ?_
          refine go_icmp_le 194 dX10_kind_187 (by decide) (fun c40 => ?_) (fun c40 => ?_)
          · have h := h.1 c40
            refine go_iconst (v := 0) dX10_kind_194 (by decide) ?_
            exact h
          · have h := h.2 c40
            refine go_iconst (v := 1) dX10_kind_190 (by decide) ?_
            refine go_goto 195 dX10_kind_191 (by decide) ?_
            exact h
set_option maxRecDepth 100000 in
theorem eX10_kind_195 {G : gC} {l : Launch} {P : Int32 → Mem → Prop} {x1 : Int32} {x3 : Int32} {x5 : Int32} {x6 : Int32} {x7 : Int32} {x8 : Int32} {y0 : Int32} {μ : Mem} (h : ((x8 < 0) → hX10_kind_128 G l P x1 x3 x5 x6 (x7 + (1 : Int32)) μ) ∧ ((¬ x8 < 0) → ((y0 = 0) → hX10_kind_128 G l P x1 x3 x5 x6 (x7 + (1 : Int32)) μ) ∧ ((¬ y0 = 0) → hX10_kind_128 G l P x1 x3 x7 x8 (x7 + (1 : Int32)) μ))) : hX10_kind_195 G l P x1 x3 x5 x6 x7 x8 y0 μ := by
  refine go_istore [(0, .ref (ga G 78)), (1, .int x1), (3, .int x3), (5, .int x5), (6, .int x6), (7, .int x7), (8, .int x8), (9, .int y0)] [1, 2, 3, 4, 5, 6, 7, 0] dX10_kind_195 (by decide) rfl ?_
  refine go_iload dX10_kind_197 6 rfl ?_
  refine go_if_lt 215 dX10_kind_199 (by decide) (fun c41 => ?_) (fun c41 => ?_)
  · have h := h.1 c41
    refine go_iinc (v := (x7 + (1 : Int32))) [(0, .ref (ga G 78)), (1, .int x1), (3, .int x3), (5, .int x5), (6, .int x6), (7, .int (x7 + (1 : Int32))), (8, .int x8), (9, .int y0)] [1, 2, 3, 4, 5, 0, 6, 7] 5 dX10_kind_215 rfl rfl (by decide) rfl ?_
    refine go_goto 128 dX10_kind_218 (by decide) ?_
    exact go_sub [0, 1, 2, 3, 4, 5] rfl h
  · have h := h.2 c41
    refine go_iload dX10_kind_202 7 rfl ?_
    refine go_if_eq 215 dX10_kind_204 (by decide) (fun c42 => ?_) (fun c42 => ?_)
    · have h := h.1 c42
      refine go_iinc (v := (x7 + (1 : Int32))) [(0, .ref (ga G 78)), (1, .int x1), (3, .int x3), (5, .int x5), (6, .int x6), (7, .int (x7 + (1 : Int32))), (8, .int x8), (9, .int y0)] [1, 2, 3, 4, 5, 0, 6, 7] 5 dX10_kind_215 rfl rfl (by decide) rfl ?_
      refine go_goto 128 dX10_kind_218 (by decide) ?_
      exact go_sub [0, 1, 2, 3, 4, 5] rfl h
    · have h := h.2 c42
      refine go_iload dX10_kind_207 5 rfl ?_
      refine go_istore [(0, .ref (ga G 78)), (1, .int x1), (3, .int x3), (5, .int x7), (6, .int x6), (7, .int x7), (8, .int x8), (9, .int y0)] [1, 2, 3, 0, 4, 5, 6, 7] dX10_kind_209 (by decide) rfl ?_
      refine go_iload dX10_kind_211 6 rfl ?_
      refine go_istore [(0, .ref (ga G 78)), (1, .int x1), (3, .int x3), (5, .int x7), (6, .int x8), (7, .int x7), (8, .int x8), (9, .int y0)] [1, 2, 3, 4, 0, 5, 6, 7] dX10_kind_213 (by decide) rfl ?_
      refine go_iinc (v := (x7 + (1 : Int32))) [(0, .ref (ga G 78)), (1, .int x1), (3, .int x3), (5, .int x7), (6, .int x8), (7, .int (x7 + (1 : Int32))), (8, .int x8), (9, .int y0)] [1, 2, 3, 4, 5, 0, 6, 7] 5 dX10_kind_215 rfl rfl (by decide) rfl ?_
      refine go_goto 128 dX10_kind_218 (by decide) ?_
      exact go_sub [0, 1, 2, 3, 4, 5] rfl h
set_option maxRecDepth 100000 in
theorem eX10_chapter {G : gC} {l : Launch} {a1 : Int32} {a2 : Int32} {μ : Mem} {P : Int32 → Mem → Prop} (h : qX10_in G l (a1).toInt64 (1 : Int64) (8 : Int64) μ (fun (r2 : Int32) (μ1 : Mem) => ((¬ r2 = 0) → hX10_chapter_21 G l P a1 a2 (0 : Int32) (0 : Int32) μ1) ∧ ((r2 = 0) → P (-1002 : Int32) μ1))) : qX10_chapter G l a1 a2 μ P := by
  refine Sp.of (by decide) (Nat.le_of_ble_eq_true rfl) (lv := [(0, .ref (ga G 78)), (1, .int a1), (2, .int a2)]) rfl ?_
  refine go_iload_n dX10_chapter_0 rfl 1 rfl ?_
  refine go_i2l dX10_chapter_1 ?_
  refine go_lconst (v := 1) dX10_chapter_2 (by decide) ?_
  refine go_ldc2_w (v := 8) (g_in 1078 (by decide +kernel) rfl) dX10_chapter_3 ?_
  refine go_callS (As := [.long (a1).toInt64, .long (1 : Int64), .long (8 : Int64)]) (rest := []) dX10_chapter_6 lX10_99 kX10_in rfl (by decide) (Nat.le_of_ble_eq_true rfl) (by decide) rfl (gI_go (fun r2 μ1 h => ?_)) h
  refine go_if_ne 16 dX10_chapter_9 (by decide) (fun c3 => ?_) (fun c3 => ?_)
  · have h := h.1 c3
    refine go_iconst (v := 0) dX10_chapter_16 (by decide) ?_
    refine go_istore_n [(0, .ref (ga G 78)), (1, .int a1), (2, .int a2), (3, .int (0 : Int32))] [1, 2, 3, 0] dX10_chapter_17 rfl (by decide) rfl ?_
    refine go_iconst (v := 0) dX10_chapter_18 (by decide) ?_
    refine go_istore [(0, .ref (ga G 78)), (1, .int a1), (2, .int a2), (3, .int (0 : Int32)), (4, .int (0 : Int32))] [1, 2, 3, 4, 0] dX10_chapter_19 (by decide) rfl ?_
    exact h
  · have h := h.2 c3
    refine go_sipush (v := -1002) dX10_chapter_12 (by decide) ?_
    exact go_iret dX10_chapter_15 rfl (Nat.le_refl _) (Nat.le_refl _) ⟨_, rfl, h⟩
set_option maxRecDepth 100000 in
theorem eX10_chapter_21 {G : gC} {l : Launch} {P : Int32 → Mem → Prop} {x1 : Int32} {x2 : Int32} {x3 : Int32} {x4 : Int32} {μ : Mem} (h : (((gm_r μ 78 22) ≤ x4) → ((x1 ≤ x3) → qX10_in G l (x2).toInt64 (-1 : Int64) ((x1 - (1 : Int32))).toInt64 μ (fun (r7 : Int32) (μ6 : Mem) => ((¬ r7 = 0) → hX10_chapter_110 G l P x1 x2 x3 (0 : Int32) μ6) ∧ ((r7 = 0) → P (-1001 : Int32) μ6))) ∧ ((¬ x1 ≤ x3) → P (-1003 : Int32) μ)) ∧ ((¬ (gm_r μ 78 22) ≤ x4) → hX10_chapter_33 G l P x1 x2 x3 x4 (0 : Int32) μ)) : hX10_chapter_21 G l P x1 x2 x3 x4 μ := by
  refine go_iload dX10_chapter_21 4 rfl ?_
  refine go_aload_n dX10_chapter_23 rfl 0 rfl ?_
  refine go_get (.int (gm_r μ 78 22)) dX10_chapter_24 fX10_177 (g_lt rfl) (gs_78 G _ _) rfl ?_
  refine go_icmp_ge 79 dX10_chapter_27 (by decide) (fun c4 => ?_) (fun c4 => ?_)
  · have h := h.1 c4
    refine go_iload_n dX10_chapter_79 rfl 3 rfl ?_
    refine go_iload_n dX10_chapter_80 rfl 1 rfl ?_
    refine go_icmp_ge 88 dX10_chapter_81 (by decide) (fun c5 => ?_) (fun c5 => ?_)
    · have h := h.1 c5
      refine go_iload_n dX10_chapter_88 rfl 2 rfl ?_
      refine go_i2l dX10_chapter_89 ?_
      refine go_ldc2_w (v := -1) (g_in 1345 (by decide +kernel) rfl) dX10_chapter_90 ?_
      refine go_iload_n dX10_chapter_93 rfl 1 rfl ?_
      refine go_iconst (v := 1) dX10_chapter_94 (by decide) ?_
      refine go_isub dX10_chapter_95 ?_
      refine go_i2l dX10_chapter_96 ?_
      refine go_callS (As := [.long (x2).toInt64, .long (-1 : Int64), .long ((x1 - (1 : Int32))).toInt64]) (rest := []) dX10_chapter_97 lX10_99 kX10_in rfl (by decide) (Nat.le_of_ble_eq_true rfl) (by decide) rfl (gI_go (fun r7 μ6 h => ?_)) h
      refine go_if_ne 107 dX10_chapter_100 (by decide) (fun c8 => ?_) (fun c8 => ?_)
      · have h := h.1 c8
        refine go_iconst (v := 0) dX10_chapter_107 (by decide) ?_
        refine go_istore [(0, .ref (ga G 78)), (1, .int x1), (2, .int x2), (3, .int x3), (4, .int (0 : Int32))] [1, 2, 3, 4, 0] dX10_chapter_108 (by decide) rfl ?_
        exact h
      · have h := h.2 c8
        refine go_sipush (v := -1001) dX10_chapter_103 (by decide) ?_
        exact go_iret dX10_chapter_106 rfl (Nat.le_refl _) (Nat.le_refl _) ⟨_, rfl, h⟩
    · have h := h.2 c5
      refine go_sipush (v := -1003) dX10_chapter_84 (by decide) ?_
      exact go_iret dX10_chapter_87 rfl (Nat.le_refl _) (Nat.le_refl _) ⟨_, rfl, h⟩
  · have h := h.2 c4
    refine go_iconst (v := 0) dX10_chapter_30 (by decide) ?_
    refine go_istore [(0, .ref (ga G 78)), (1, .int x1), (2, .int x2), (3, .int x3), (4, .int x4), (5, .int (0 : Int32))] [1, 2, 3, 4, 5, 0] dX10_chapter_31 (by decide) rfl ?_
    exact h
set_option maxRecDepth 100000 in
theorem eX10_chapter_110 {G : gC} {l : Launch} {P : Int32 → Mem → Prop} {x1 : Int32} {x2 : Int32} {x3 : Int32} {x4 : Int32} {μ : Mem} (h : ((x1 < x4) → ((¬ x2 = (-1 : Int32)) → hX10_chapter_301 G l P x1 x2 (0 : Int32) (0 : Int32) μ) ∧ ((x2 = (-1 : Int32)) → vp_in ((11 : Int32) * x1) 99 ∧ P (gm_r μ 101 ((11 : Int32) * x1).toNatClampNeg) μ)) ∧ ((¬ x1 < x4) → hX10_chapter_119 G l P x1 x2 x3 x4 (0 : Int32) μ)) : hX10_chapter_110 G l P x1 x2 x3 x4 μ := by
  refine go_iload dX10_chapter_110 4 rfl ?_
  refine go_iload_n dX10_chapter_112 rfl 1 rfl ?_
  refine go_icmp_gt 280 dX10_chapter_113 (by decide) (fun c9 => ?_) (fun c9 => ?_)
  · have h := h.1 c9
    refine go_iload_n dX10_chapter_280 rfl 2 rfl ?_
    refine go_iconst (v := -1) dX10_chapter_281 (by decide) ?_
    refine go_icmp_ne 295 dX10_chapter_282 (by decide) (fun c10 => ?_) (fun c10 => ?_)
    · have h := h.1 c10
      refine go_iconst (v := 0) dX10_chapter_295 (by decide) ?_
      refine go_istore [(0, .ref (ga G 78)), (1, .int x1), (2, .int x2), (3, .int x3), (4, .int (0 : Int32))] [1, 2, 3, 4, 0] dX10_chapter_296 (by decide) rfl ?_
      refine go_iconst (v := 0) dX10_chapter_298 (by decide) ?_
      refine go_istore [(0, .ref (ga G 78)), (1, .int x1), (2, .int x2), (3, .int x3), (4, .int (0 : Int32)), (5, .int (0 : Int32))] [1, 2, 3, 4, 5, 0] dX10_chapter_299 (by decide) rfl ?_
      exact go_sub [0, 1, 2, 4, 5] rfl h
    · have h := h.2 c10
      refine go_aload_n dX10_chapter_285 rfl 0 rfl ?_
      refine go_get (.ref (ga G 101)) dX10_chapter_286 fX10_82 (g_lt rfl) (gs_78 G _ _) rfl ?_
      refine go_bipush (v := 11) dX10_chapter_289 (by decide) ?_
      refine go_iload_n dX10_chapter_291 rfl 1 rfl ?_
      refine go_imul dX10_chapter_292 ?_
      obtain ⟨b11, h⟩ := h
      refine go_ialdv ((gm_r μ 101 ((11 : Int32) * x1).toNatClampNeg)) dX10_chapter_293 (g_lt rfl) (gs_101 G) b11 rfl ?_
      exact go_iret dX10_chapter_294 rfl (Nat.le_refl _) (Nat.le_refl _) ⟨_, rfl, h⟩
  · have h := h.2 c9
    refine go_iconst (v := 0) dX10_chapter_116 (by decide) ?_
    refine go_istore [(0, .ref (ga G 78)), (1, .int x1), (2, .int x2), (3, .int x3), (4, .int x4), (5, .int (0 : Int32))] [1, 2, 3, 4, 5, 0] dX10_chapter_117 (by decide) rfl ?_
    exact h
set_option maxRecDepth 100000 in
theorem eX10_chapter_33 {G : gC} {l : Launch} {P : Int32 → Mem → Prop} {x1 : Int32} {x2 : Int32} {x3 : Int32} {x4 : Int32} {x5 : Int32} {μ : Mem} (h : vp_in x4 12 ∧ (((gm_r μ 92 x4.toNatClampNeg) ≤ x5) → hX10_chapter_21 G l P x1 x2 x3 (x4 + (1 : Int32)) μ) ∧ ((¬ (gm_r μ 92 x4.toNatClampNeg) ≤ x5) → vp_in (((6 : Int32) * x4) + x5) 72 ∧ vp_in x3 10 ∧ hX10_chapter_33 G l P x1 x2 (x3 + (1 : Int32)) x4 (x5 + (1 : Int32)) (gm_w μ 100 x3.toNatClampNeg (gm_r μ 93 (((6 : Int32) * x4) + x5).toNatClampNeg)))) : hX10_chapter_33 G l P x1 x2 x3 x4 x5 μ := by
  refine go_iload dX10_chapter_33 5 rfl ?_
  refine go_aload_n dX10_chapter_35 rfl 0 rfl ?_
  refine go_get (.ref (ga G 92)) dX10_chapter_36 fX10_55 (g_lt rfl) (gs_78 G _ _) rfl ?_
  refine go_iload dX10_chapter_39 4 rfl ?_
  obtain ⟨b12, h⟩ := h
  refine go_ialdv ((gm_r μ 92 x4.toNatClampNeg)) dX10_chapter_41 (g_lt rfl) (gs_92 G) b12 rfl ?_
  refine go_icmp_ge 73 dX10_chapter_42 (by decide) (fun c13 => ?_) (fun c13 => ?_)
  · have h := h.1 c13
    refine go_iinc (v := (x4 + (1 : Int32))) [(0, .ref (ga G 78)), (1, .int x1), (2, .int x2), (3, .int x3), (4, .int (x4 + (1 : Int32))), (5, .int x5)] [1, 2, 3, 4, 0, 5] 4 dX10_chapter_73 rfl rfl (by decide) rfl ?_
    refine go_goto 21 dX10_chapter_76 (by decide) ?_
    exact go_sub [0, 1, 2, 3, 4] rfl h
  · have h := h.2 c13
    refine go_aload_n dX10_chapter_45 rfl 0 rfl ?_
    refine go_get (.ref (ga G 100)) dX10_chapter_46 fX10_79 (g_lt rfl) (gs_78 G _ _) rfl ?_
    refine go_iload_n dX10_chapter_49 rfl 3 rfl ?_
    refine go_aload_n dX10_chapter_50 rfl 0 rfl ?_
    refine go_get (.ref (ga G 93)) dX10_chapter_51 fX10_58 (g_lt rfl) (gs_78 G _ _) rfl ?_
    refine go_bipush (v := 6) dX10_chapter_54 (by decide) ?_
    refine go_iload dX10_chapter_56 4 rfl ?_
    refine go_imul dX10_chapter_58 ?_
    refine go_iload dX10_chapter_59 5 rfl ?_
    refine go_iadd dX10_chapter_61 ?_
    obtain ⟨b14, h⟩ := h
    refine go_ialdv ((gm_r μ 93 (((6 : Int32) * x4) + x5).toNatClampNeg)) dX10_chapter_62 (g_lt rfl) (gs_93 G) b14 rfl ?_
    obtain ⟨b15, h⟩ := h
    refine go_iast dX10_chapter_63 (g_lt rfl) (gs_100 G) b15 ?_
    refine go_iinc (v := (x3 + (1 : Int32))) [(0, .ref (ga G 78)), (1, .int x1), (2, .int x2), (3, .int (x3 + (1 : Int32))), (4, .int x4), (5, .int x5)] [1, 2, 3, 0, 4, 5] 3 dX10_chapter_64 rfl rfl (by decide) rfl ?_
    refine go_iinc (v := (x5 + (1 : Int32))) [(0, .ref (ga G 78)), (1, .int x1), (2, .int x2), (3, .int (x3 + (1 : Int32))), (4, .int x4), (5, .int (x5 + (1 : Int32)))] [1, 2, 3, 4, 5, 0] 5 dX10_chapter_67 rfl rfl (by decide) rfl ?_
    refine go_goto 33 dX10_chapter_70 (by decide) ?_
    exact h
set_option maxRecDepth 100000 in
theorem eX10_chapter_301 {G : gC} {l : Launch} {P : Int32 → Mem → Prop} {x1 : Int32} {x2 : Int32} {x4 : Int32} {x5 : Int32} {μ : Mem} (h : ((x2 ≤ x5) → vp_in (((11 : Int32) * (x1 - x2)) + x4) 99 ∧ P (gm_r μ 102 (((11 : Int32) * (x1 - x2)) + x4).toNatClampNeg) μ) ∧ ((¬ x2 ≤ x5) → vp_in (((11 : Int32) * (x1 - x5)) + x4) 99 ∧ ∀ v19 : Int32, v19 = (x4 + (gm_r μ 102 (((11 : Int32) * (x1 - x5)) + x4).toNatClampNeg)) → hX10_chapter_301 G l P x1 x2 v19 (x5 + (1 : Int32)) μ)) : hX10_chapter_301 G l P x1 x2 x4 x5 μ := by
  refine go_iload dX10_chapter_301 4 rfl ?_
  refine go_iload_n dX10_chapter_303 rfl 2 rfl ?_
  refine go_icmp_ge 333 dX10_chapter_304 (by decide) (fun c16 => ?_) (fun c16 => ?_)
  · have h := h.1 c16
    refine go_aload_n dX10_chapter_333 rfl 0 rfl ?_
    refine go_get (.ref (ga G 102)) dX10_chapter_334 fX10_85 (g_lt rfl) (gs_78 G _ _) rfl ?_
    refine go_bipush (v := 11) dX10_chapter_337 (by decide) ?_
    refine go_iload_n dX10_chapter_339 rfl 1 rfl ?_
    refine go_iload_n dX10_chapter_340 rfl 2 rfl ?_
    refine go_isub dX10_chapter_341 ?_
    refine go_imul dX10_chapter_342 ?_
    refine go_iload dX10_chapter_343 3 rfl ?_
    refine go_iadd dX10_chapter_345 ?_
    obtain ⟨b17, h⟩ := h
    refine go_ialdv ((gm_r μ 102 (((11 : Int32) * (x1 - x2)) + x4).toNatClampNeg)) dX10_chapter_346 (g_lt rfl) (gs_102 G) b17 rfl ?_
    exact go_iret dX10_chapter_347 rfl (Nat.le_refl _) (Nat.le_refl _) ⟨_, rfl, h⟩
  · have h := h.2 c16
    refine go_iload dX10_chapter_307 3 rfl ?_
    refine go_aload_n dX10_chapter_309 rfl 0 rfl ?_
    refine go_get (.ref (ga G 102)) dX10_chapter_310 fX10_85 (g_lt rfl) (gs_78 G _ _) rfl ?_
    refine go_bipush (v := 11) dX10_chapter_313 (by decide) ?_
    refine go_iload_n dX10_chapter_315 rfl 1 rfl ?_
    refine go_iload dX10_chapter_316 4 rfl ?_
    refine go_isub dX10_chapter_318 ?_
    refine go_imul dX10_chapter_319 ?_
    refine go_iload dX10_chapter_320 3 rfl ?_
    refine go_iadd dX10_chapter_322 ?_
    obtain ⟨b18, h⟩ := h
    refine go_ialdv ((gm_r μ 102 (((11 : Int32) * (x1 - x5)) + x4).toNatClampNeg)) dX10_chapter_323 (g_lt rfl) (gs_102 G) b18 rfl ?_
    refine go_iadd dX10_chapter_324 ?_
    refine go_topi (fun v19 e_v19 => ?_)
    have h := h v19 e_v19
    refine go_istore [(0, .ref (ga G 78)), (1, .int x1), (2, .int x2), (4, .int v19), (5, .int x5)] [1, 2, 3, 0, 4] dX10_chapter_325 (by decide) rfl ?_
    refine go_iinc (v := (x5 + (1 : Int32))) [(0, .ref (ga G 78)), (1, .int x1), (2, .int x2), (4, .int v19), (5, .int (x5 + (1 : Int32)))] [1, 2, 3, 4, 0] 4 dX10_chapter_327 rfl rfl (by decide) rfl ?_
    refine go_goto 301 dX10_chapter_330 (by decide) ?_
    exact h
set_option maxRecDepth 100000 in
theorem eX10_chapter_119 {G : gC} {l : Launch} {P : Int32 → Mem → Prop} {x1 : Int32} {x2 : Int32} {x3 : Int32} {x4 : Int32} {x5 : Int32} {μ : Mem} (h : ((x3 < x5) → hX10_chapter_110 G l P x1 x2 x3 (x4 + (1 : Int32)) μ) ∧ ((¬ x3 < x5) → ((¬ x4 = 0) → vp_in (((11 : Int32) * x4) + x5) 99 ∧ hX10_chapter_174 G l P x1 x2 x3 x4 x5 (((11 : Int32) * x4) + x5) (0 : Int32) x5 (gm_w (gm_w μ 101 (((11 : Int32) * x4) + x5).toNatClampNeg (1000000 : Int32)) 102 (((11 : Int32) * x4) + x5).toNatClampNeg (0 : Int32))) ∧ ((x4 = 0) → ((¬ x5 = x3) → vp_in (((11 : Int32) * x4) + x5) 99 ∧ hX10_chapter_174 G l P x1 x2 x3 x4 x5 (((11 : Int32) * x4) + x5) (0 : Int32) x5 (gm_w (gm_w μ 101 (((11 : Int32) * x4) + x5).toNatClampNeg (1000000 : Int32)) 102 (((11 : Int32) * x4) + x5).toNatClampNeg (0 : Int32))) ∧ ((x5 = x3) → vp_in (((11 : Int32) * x4) + x5) 99 ∧ hX10_chapter_174 G l P x1 x2 x3 x4 x5 (((11 : Int32) * x4) + x5) (0 : Int32) x5 (gm_w (gm_w μ 101 (((11 : Int32) * x4) + x5).toNatClampNeg (0 : Int32)) 102 (((11 : Int32) * x4) + x5).toNatClampNeg (0 : Int32)))))) : hX10_chapter_119 G l P x1 x2 x3 x4 x5 μ := by
  refine go_iload dX10_chapter_119 5 rfl ?_
  refine go_iload_n dX10_chapter_121 rfl 3 rfl ?_
  refine go_icmp_gt 274 dX10_chapter_122 (by decide) (fun c20 => ?_) (fun c20 => ?_)
  · have h := h.1 c20
    refine go_iinc (v := (x4 + (1 : Int32))) [(0, .ref (ga G 78)), (1, .int x1), (2, .int x2), (3, .int x3), (4, .int (x4 + (1 : Int32))), (5, .int x5)] [1, 2, 3, 4, 0, 5] 4 dX10_chapter_274 rfl rfl (by decide) rfl ?_
    refine go_goto 110 dX10_chapter_277 (by decide) ?_
    exact go_sub [0, 1, 2, 3, 4] rfl h
  · have h := h.2 c20
    refine go_bipush (v := 11) dX10_chapter_125 (by decide) ?_
    refine go_iload dX10_chapter_127 4 rfl ?_
    refine go_imul dX10_chapter_129 ?_
    refine go_iload dX10_chapter_130 5 rfl ?_
    refine go_iadd dX10_chapter_132 ?_
    refine go_istore [(0, .ref (ga G 78)), (1, .int x1), (2, .int x2), (3, .int x3), (4, .int x4), (5, .int x5), (6, .int (((11 : Int32) * x4) + x5))] [1, 2, 3, 4, 5, 6, 0] dX10_chapter_133 (by decide) rfl ?_
    refine go_aload_n dX10_chapter_135 rfl 0 rfl ?_
    refine go_get (.ref (ga G 101)) dX10_chapter_136 fX10_82 (g_lt rfl) (gs_78 G _ _) rfl ?_
    refine go_iload dX10_chapter_139 6 rfl ?_
    refine go_iload dX10_chapter_141 4 rfl ?_
    refine go_if_ne 156 dX10_chapter_143 (by decide) (fun c21 => ?_) (fun c21 => ?_)
    · have h := h.1 c21
      refine go_ldc (v := 1000000) (g_in 1246 (by decide +kernel) rfl) dX10_chapter_156 ?_
      obtain ⟨b22, h⟩ := h
      refine go_iast dX10_chapter_158 (g_lt rfl) (gs_101 G) b22 ?_
      refine go_aload_n dX10_chapter_159 rfl 0 rfl ?_
      refine go_get (.ref (ga G 102)) dX10_chapter_160 fX10_85 (g_lt rfl) (gs_78 G _ _) rfl ?_
      refine go_iload dX10_chapter_163 6 rfl ?_
      refine go_iconst (v := 0) dX10_chapter_165 (by decide) ?_
      refine go_iast dX10_chapter_166 (g_lt rfl) (gs_102 G) b22 ?_
      refine go_iconst (v := 0) dX10_chapter_167 (by decide) ?_
      refine go_istore [(0, .ref (ga G 78)), (1, .int x1), (2, .int x2), (3, .int x3), (4, .int x4), (5, .int x5), (6, .int (((11 : Int32) * x4) + x5)), (7, .int (0 : Int32))] [1, 2, 3, 4, 5, 6, 7, 0] dX10_chapter_168 (by decide) rfl ?_
      refine go_iload dX10_chapter_170 5 rfl ?_
      refine go_istore [(0, .ref (ga G 78)), (1, .int x1), (2, .int x2), (3, .int x3), (4, .int x4), (5, .int x5), (6, .int (((11 : Int32) * x4) + x5)), (7, .int (0 : Int32)), (8, .int x5)] [1, 2, 3, 4, 5, 6, 7, 8, 0] dX10_chapter_172 (by decide) rfl ?_
      exact h
    · have h := h.2 c21
      refine go_iload dX10_chapter_146 5 rfl ?_
      refine go_iload_n dX10_chapter_148 rfl 3 rfl ?_
      refine go_icmp_ne 156 dX10_chapter_149 (by decide) (fun c23 => ?_) (fun c23 => ?_)
      · have h := h.1 c23
        refine go_ldc (v := 1000000) (g_in 1246 (by decide +kernel) rfl) dX10_chapter_156 ?_
        obtain ⟨b24, h⟩ := h
        refine go_iast dX10_chapter_158 (g_lt rfl) (gs_101 G) b24 ?_
        refine go_aload_n dX10_chapter_159 rfl 0 rfl ?_
        refine go_get (.ref (ga G 102)) dX10_chapter_160 fX10_85 (g_lt rfl) (gs_78 G _ _) rfl ?_
        refine go_iload dX10_chapter_163 6 rfl ?_
        refine go_iconst (v := 0) dX10_chapter_165 (by decide) ?_
        refine go_iast dX10_chapter_166 (g_lt rfl) (gs_102 G) b24 ?_
        refine go_iconst (v := 0) dX10_chapter_167 (by decide) ?_
        refine go_istore [(0, .ref (ga G 78)), (1, .int x1), (2, .int x2), (3, .int x3), (4, .int x4), (5, .int x5), (6, .int (((11 : Int32) * x4) + x5)), (7, .int (0 : Int32))] [1, 2, 3, 4, 5, 6, 7, 0] dX10_chapter_168 (by decide) rfl ?_
        refine go_iload dX10_chapter_170 5 rfl ?_
        refine go_istore [(0, .ref (ga G 78)), (1, .int x1), (2, .int x2), (3, .int x3), (4, .int x4), (5, .int x5), (6, .int (((11 : Int32) * x4) + x5)), (7, .int (0 : Int32)), (8, .int x5)] [1, 2, 3, 4, 5, 6, 7, 8, 0] dX10_chapter_172 (by decide) rfl ?_
        exact h
      · have h := h.2 c23
        refine go_iconst (v := 0) dX10_chapter_152 (by decide) ?_
        refine go_goto 158 dX10_chapter_153 (by decide) ?_
        obtain ⟨b25, h⟩ := h
        refine go_iast dX10_chapter_158 (g_lt rfl) (gs_101 G) b25 ?_
        refine go_aload_n dX10_chapter_159 rfl 0 rfl ?_
        refine go_get (.ref (ga G 102)) dX10_chapter_160 fX10_85 (g_lt rfl) (gs_78 G _ _) rfl ?_
        refine go_iload dX10_chapter_163 6 rfl ?_
        refine go_iconst (v := 0) dX10_chapter_165 (by decide) ?_
        refine go_iast dX10_chapter_166 (g_lt rfl) (gs_102 G) b25 ?_
        refine go_iconst (v := 0) dX10_chapter_167 (by decide) ?_
        refine go_istore [(0, .ref (ga G 78)), (1, .int x1), (2, .int x2), (3, .int x3), (4, .int x4), (5, .int x5), (6, .int (((11 : Int32) * x4) + x5)), (7, .int (0 : Int32))] [1, 2, 3, 4, 5, 6, 7, 0] dX10_chapter_168 (by decide) rfl ?_
        refine go_iload dX10_chapter_170 5 rfl ?_
        refine go_istore [(0, .ref (ga G 78)), (1, .int x1), (2, .int x2), (3, .int x3), (4, .int x4), (5, .int x5), (6, .int (((11 : Int32) * x4) + x5)), (7, .int (0 : Int32)), (8, .int x5)] [1, 2, 3, 4, 5, 6, 7, 8, 0] dX10_chapter_172 (by decide) rfl ?_
        exact h
set_option maxRecDepth 100000 in
theorem eX10_chapter_174 {G : gC} {l : Launch} {P : Int32 → Mem → Prop} {x1 : Int32} {x2 : Int32} {x3 : Int32} {x4 : Int32} {x5 : Int32} {x6 : Int32} {x7 : Int32} {x8 : Int32} {μ : Mem} (h : ((x3 ≤ x8) → hX10_chapter_119 G l P x1 x2 x3 x4 (x5 + (1 : Int32)) μ) ∧ ((¬ x3 ≤ x8) → ((x4 ≤ 0) → hX10_chapter_119 G l P x1 x2 x3 x4 (x5 + (1 : Int32)) μ) ∧ ((¬ x4 ≤ 0) → vp_in x8 10 ∧ vp_in (gm_r μ 100 x8.toNatClampNeg) 10 ∧ ∀ v30 : Int32, v30 = (x7 + (gm_r μ 79 (gm_r μ 100 x8.toNatClampNeg).toNatClampNeg)) → vp_in ((((11 : Int32) * (x4 - (1 : Int32))) + x8) + (1 : Int32)) 99 ∧ ∀ v32 : Int32, v32 = ((v30 * v30) + (gm_r μ 101 ((((11 : Int32) * (x4 - (1 : Int32))) + x8) + (1 : Int32)).toNatClampNeg)) → vp_in x6 99 ∧ (((gm_r μ 101 x6.toNatClampNeg) ≤ v32) → hX10_chapter_174 G l P x1 x2 x3 x4 x5 x6 v30 (x8 + (1 : Int32)) μ) ∧ ((¬ (gm_r μ 101 x6.toNatClampNeg) ≤ v32) → hX10_chapter_174 G l P x1 x2 x3 x4 x5 x6 v30 (x8 + (1 : Int32)) (gm_w (gm_w μ 101 x6.toNatClampNeg v32) 102 x6.toNatClampNeg ((x8 + (1 : Int32)) - x5)))))) : hX10_chapter_174 G l P x1 x2 x3 x4 x5 x6 x7 x8 μ := by
  refine go_iload dX10_chapter_174 8 rfl ?_
  refine go_iload_n dX10_chapter_176 rfl 3 rfl ?_
  refine go_icmp_ge 268 dX10_chapter_177 (by decide) (fun c26 => ?_) (fun c26 => ?_)
  · have h := h.1 c26
    refine go_iinc (v := (x5 + (1 : Int32))) [(0, .ref (ga G 78)), (1, .int x1), (2, .int x2), (3, .int x3), (4, .int x4), (5, .int (x5 + (1 : Int32))), (6, .int x6), (7, .int x7), (8, .int x8)] [1, 2, 3, 4, 5, 0, 6, 7, 8] 5 dX10_chapter_268 rfl rfl (by decide) rfl ?_
    refine go_goto 119 dX10_chapter_271 (by decide) ?_
    exact go_sub [0, 1, 2, 3, 4, 5] rfl h
  · have h := h.2 c26
    refine go_iload dX10_chapter_180 4 rfl ?_
    refine go_if_le 268 dX10_chapter_182 (by decide) (fun c27 => ?_) (fun c27 => ?_)
    · have h := h.1 c27
      refine go_iinc (v := (x5 + (1 : Int32))) [(0, .ref (ga G 78)), (1, .int x1), (2, .int x2), (3, .int x3), (4, .int x4), (5, .int (x5 + (1 : Int32))), (6, .int x6), (7, .int x7), (8, .int x8)] [1, 2, 3, 4, 5, 0, 6, 7, 8] 5 dX10_chapter_268 rfl rfl (by decide) rfl ?_
      refine go_goto 119 dX10_chapter_271 (by decide) ?_
      exact go_sub [0, 1, 2, 3, 4, 5] rfl h
    · have h := h.2 c27
      refine go_iload dX10_chapter_185 7 rfl ?_
      refine go_aload_n dX10_chapter_187 rfl 0 rfl ?_
      refine go_get (.ref (ga G 79)) dX10_chapter_188 fX10_7 (g_lt rfl) (gs_78 G _ _) rfl ?_
      refine go_aload_n dX10_chapter_191 rfl 0 rfl ?_
      refine go_get (.ref (ga G 100)) dX10_chapter_192 fX10_79 (g_lt rfl) (gs_78 G _ _) rfl ?_
      refine go_iload dX10_chapter_195 8 rfl ?_
      obtain ⟨b28, h⟩ := h
      refine go_ialdv ((gm_r μ 100 x8.toNatClampNeg)) dX10_chapter_197 (g_lt rfl) (gs_100 G) b28 rfl ?_
      obtain ⟨b29, h⟩ := h
      refine go_ialdv ((gm_r μ 79 (gm_r μ 100 x8.toNatClampNeg).toNatClampNeg)) dX10_chapter_198 (g_lt rfl) (gs_79 G) b29 rfl ?_
      refine go_iadd dX10_chapter_199 ?_
      refine go_topi (fun v30 e_v30 => ?_)
      have h := h v30 e_v30
      refine go_istore [(0, .ref (ga G 78)), (1, .int x1), (2, .int x2), (3, .int x3), (4, .int x4), (5, .int x5), (6, .int x6), (7, .int v30), (8, .int x8)] [1, 2, 3, 4, 5, 6, 7, 0, 8] dX10_chapter_200 (by decide) rfl ?_
      refine go_iload dX10_chapter_202 7 rfl ?_
      refine go_iload dX10_chapter_204 7 rfl ?_
      refine go_imul dX10_chapter_206 ?_
      refine go_aload_n dX10_chapter_207 rfl 0 rfl ?_
      refine go_get (.ref (ga G 101)) dX10_chapter_208 fX10_82 (g_lt rfl) (gs_78 G _ _) rfl ?_
      refine go_bipush (v := 11) dX10_chapter_211 (by decide) ?_
      refine go_iload dX10_chapter_213 4 rfl ?_
      refine go_iconst (v := 1) dX10_chapter_215 (by decide) ?_
      refine go_isub dX10_chapter_216 ?_
      refine go_imul dX10_chapter_217 ?_
      refine go_iload dX10_chapter_218 8 rfl ?_
      refine go_iadd dX10_chapter_220 ?_
      refine go_iconst (v := 1) dX10_chapter_221 (by decide) ?_
      refine go_iadd dX10_chapter_222 ?_
      obtain ⟨b31, h⟩ := h
      refine go_ialdv ((gm_r μ 101 ((((11 : Int32) * (x4 - (1 : Int32))) + x8) + (1 : Int32)).toNatClampNeg)) dX10_chapter_223 (g_lt rfl) (gs_101 G) b31 rfl ?_
      refine go_iadd dX10_chapter_224 ?_
      refine go_topi (fun v32 e_v32 => ?_)
      have h := h v32 e_v32
      refine go_istore [(0, .ref (ga G 78)), (1, .int x1), (2, .int x2), (3, .int x3), (4, .int x4), (5, .int x5), (6, .int x6), (7, .int v30), (8, .int x8), (9, .int v32)] [1, 2, 3, 4, 5, 6, 7, 8, 9, 0] dX10_chapter_225 (by decide) rfl ?_
      refine go_iload dX10_chapter_227 9 rfl ?_
      refine go_aload_n dX10_chapter_229 rfl 0 rfl ?_
      refine go_get (.ref (ga G 101)) dX10_chapter_230 fX10_82 (g_lt rfl) (gs_78 G _ _) rfl ?_
      refine go_iload dX10_chapter_233 6 rfl ?_
      obtain ⟨b33, h⟩ := h
      refine go_ialdv ((gm_r μ 101 x6.toNatClampNeg)) dX10_chapter_235 (g_lt rfl) (gs_101 G) b33 rfl ?_
      refine go_icmp_ge 262 dX10_chapter_236 (by decide) (fun c34 => ?_) (fun c34 => ?_)
      · have h := h.1 c34
        refine go_iinc (v := (x8 + (1 : Int32))) [(0, .ref (ga G 78)), (1, .int x1), (2, .int x2), (3, .int x3), (4, .int x4), (5, .int x5), (6, .int x6), (7, .int v30), (8, .int (x8 + (1 : Int32))), (9, .int v32)] [1, 2, 3, 4, 5, 6, 7, 8, 0, 9] 8 dX10_chapter_262 rfl rfl (by decide) rfl ?_
        refine go_goto 174 dX10_chapter_265 (by decide) ?_
        exact go_sub [0, 1, 2, 3, 4, 5, 6, 7, 8] rfl h
      · have h := h.2 c34
        refine go_aload_n dX10_chapter_239 rfl 0 rfl ?_
        refine go_get (.ref (ga G 101)) dX10_chapter_240 fX10_82 (g_lt rfl) (gs_78 G _ _) rfl ?_
        refine go_iload dX10_chapter_243 6 rfl ?_
        refine go_iload dX10_chapter_245 9 rfl ?_
        refine go_iast dX10_chapter_247 (g_lt rfl) (gs_101 G) b33 ?_
        refine go_aload_n dX10_chapter_248 rfl 0 rfl ?_
        refine go_get (.ref (ga G 102)) dX10_chapter_249 fX10_85 (g_lt rfl) (gs_78 G _ _) rfl ?_
        refine go_iload dX10_chapter_252 6 rfl ?_
        refine go_iload dX10_chapter_254 8 rfl ?_
        refine go_iconst (v := 1) dX10_chapter_256 (by decide) ?_
        refine go_iadd dX10_chapter_257 ?_
        refine go_iload dX10_chapter_258 5 rfl ?_
        refine go_isub dX10_chapter_260 ?_
        refine go_iast dX10_chapter_261 (g_lt rfl) (gs_102 G) b33 ?_
        refine go_iinc (v := (x8 + (1 : Int32))) [(0, .ref (ga G 78)), (1, .int x1), (2, .int x2), (3, .int x3), (4, .int x4), (5, .int x5), (6, .int x6), (7, .int v30), (8, .int (x8 + (1 : Int32))), (9, .int v32)] [1, 2, 3, 4, 5, 6, 7, 8, 0, 9] 8 dX10_chapter_262 rfl rfl (by decide) rfl ?_
        refine go_goto 174 dX10_chapter_265 (by decide) ?_
        exact go_sub [0, 1, 2, 3, 4, 5, 6, 7, 8] rfl h
set_option maxRecDepth 100000 in
theorem eX10_keep {G : gC} {l : Launch} {a1 : Int32} {μ : Mem} {P : Int32 → Mem → Prop} (h : qX10_in G l (a1).toInt64 (0 : Int64) (1 : Int64) μ (fun (r2 : Int32) (μ1 : Mem) => ((¬ r2 = 0) → vp_in ((110 : Int32) * a1) 220 ∧ vp_in (((110 : Int32) * a1) + (1 : Int32)) 220 ∧ vp_in (((110 : Int32) * a1) + (2 : Int32)) 220 ∧ vp_in (((110 : Int32) * a1) + (3 : Int32)) 220 ∧ hX10_keep_67 G l P a1 ((110 : Int32) * a1) (0 : Int32) (gm_w (gm_w (gm_w (gm_w μ1 103 ((110 : Int32) * a1).toNatClampNeg (gm_r μ1 78 22)) 103 (((110 : Int32) * a1) + (1 : Int32)).toNatClampNeg (gm_r μ1 78 23)) 103 (((110 : Int32) * a1) + (2 : Int32)).toNatClampNeg (gm_r μ1 78 26)) 103 (((110 : Int32) * a1) + (3 : Int32)).toNatClampNeg (gm_r μ1 78 27))) ∧ ((r2 = 0) → P (-1001 : Int32) μ1))) : qX10_keep G l a1 μ P := by
  refine Sp.of (by decide) (Nat.le_of_ble_eq_true rfl) (lv := [(0, .ref (ga G 78)), (1, .int a1)]) rfl ?_
  refine go_iload_n dX10_keep_0 rfl 1 rfl ?_
  refine go_i2l dX10_keep_1 ?_
  refine go_lconst (v := 0) dX10_keep_2 (by decide) ?_
  refine go_lconst (v := 1) dX10_keep_3 (by decide) ?_
  refine go_callS (As := [.long (a1).toInt64, .long (0 : Int64), .long (1 : Int64)]) (rest := []) dX10_keep_4 lX10_99 kX10_in rfl (by decide) (Nat.le_of_ble_eq_true rfl) (by decide) rfl (gI_go (fun r2 μ1 h => ?_)) h
  refine go_if_ne 14 dX10_keep_7 (by decide) (fun c3 => ?_) (fun c3 => ?_)
  · have h := h.1 c3
    refine go_bipush (v := 110) dX10_keep_14 (by decide) ?_
    refine go_iload_n dX10_keep_16 rfl 1 rfl ?_
    refine go_imul dX10_keep_17 ?_
    refine go_istore_n [(0, .ref (ga G 78)), (1, .int a1), (2, .int ((110 : Int32) * a1))] [1, 2, 0] dX10_keep_18 rfl (by decide) rfl ?_
    refine go_aload_n dX10_keep_19 rfl 0 rfl ?_
    refine go_get (.ref (ga G 103)) dX10_keep_20 fX10_88 (g_lt rfl) (gs_78 G _ _) rfl ?_
    refine go_iload_n dX10_keep_23 rfl 2 rfl ?_
    refine go_aload_n dX10_keep_24 rfl 0 rfl ?_
    refine go_get (.int (gm_r μ1 78 22)) dX10_keep_25 fX10_177 (g_lt rfl) (gs_78 G _ _) rfl ?_
    obtain ⟨b4, h⟩ := h
    refine go_iast dX10_keep_28 (g_lt rfl) (gs_103 G) b4 ?_
    refine go_aload_n dX10_keep_29 rfl 0 rfl ?_
    refine go_get (.ref (ga G 103)) dX10_keep_30 fX10_88 (g_lt rfl) (gs_78 G _ _) rfl ?_
    refine go_iload_n dX10_keep_33 rfl 2 rfl ?_
    refine go_iconst (v := 1) dX10_keep_34 (by decide) ?_
    refine go_iadd dX10_keep_35 ?_
    refine go_aload_n dX10_keep_36 rfl 0 rfl ?_
    refine go_get (.int (gm_r μ1 78 23)) dX10_keep_37 fX10_180 (g_lt rfl) (gs_78 G _ _) rfl ?_
    obtain ⟨b5, h⟩ := h
    refine go_iast dX10_keep_40 (g_lt rfl) (gs_103 G) b5 ?_
    refine go_aload_n dX10_keep_41 rfl 0 rfl ?_
    refine go_get (.ref (ga G 103)) dX10_keep_42 fX10_88 (g_lt rfl) (gs_78 G _ _) rfl ?_
    refine go_iload_n dX10_keep_45 rfl 2 rfl ?_
    refine go_iconst (v := 2) dX10_keep_46 (by decide) ?_
    refine go_iadd dX10_keep_47 ?_
    refine go_aload_n dX10_keep_48 rfl 0 rfl ?_
    refine go_get (.int (gm_r μ1 78 26)) dX10_keep_49 fX10_183 (g_lt rfl) (gs_78 G _ _) rfl ?_
    obtain ⟨b6, h⟩ := h
    refine go_iast dX10_keep_52 (g_lt rfl) (gs_103 G) b6 ?_
    refine go_aload_n dX10_keep_53 rfl 0 rfl ?_
    refine go_get (.ref (ga G 103)) dX10_keep_54 fX10_88 (g_lt rfl) (gs_78 G _ _) rfl ?_
    refine go_iload_n dX10_keep_57 rfl 2 rfl ?_
    refine go_iconst (v := 3) dX10_keep_58 (by decide) ?_
    refine go_iadd dX10_keep_59 ?_
    refine go_aload_n dX10_keep_60 rfl 0 rfl ?_
    refine go_get (.int (gm_r μ1 78 27)) dX10_keep_61 fX10_186 (g_lt rfl) (gs_78 G _ _) rfl ?_
    obtain ⟨b7, h⟩ := h
    refine go_iast dX10_keep_64 (g_lt rfl) (gs_103 G) b7 ?_
    refine go_iconst (v := 0) dX10_keep_65 (by decide) ?_
    refine go_istore_n [(0, .ref (ga G 78)), (1, .int a1), (2, .int ((110 : Int32) * a1)), (3, .int (0 : Int32))] [1, 2, 3, 0] dX10_keep_66 rfl (by decide) rfl ?_
    exact h
  · have h := h.2 c3
    refine go_sipush (v := -1001) dX10_keep_10 (by decide) ?_
    exact go_iret dX10_keep_13 rfl (Nat.le_refl _) (Nat.le_refl _) ⟨_, rfl, h⟩
set_option maxRecDepth 100000 in
theorem eX10_keep_67 {G : gC} {l : Launch} {P : Int32 → Mem → Prop} {x1 : Int32} {x2 : Int32} {x3 : Int32} {μ : Mem} (h : (((12 : Int32) ≤ x3) → hX10_keep_97 G l P x1 x2 (0 : Int32) μ) ∧ ((¬ (12 : Int32) ≤ x3) → vp_in x3 12 ∧ vp_in ((x2 + (4 : Int32)) + x3) 220 ∧ hX10_keep_67 G l P x1 x2 (x3 + (1 : Int32)) (gm_w μ 103 ((x2 + (4 : Int32)) + x3).toNatClampNeg (gm_r μ 92 x3.toNatClampNeg)))) : hX10_keep_67 G l P x1 x2 x3 μ := by
  refine go_iload_n dX10_keep_67 rfl 3 rfl ?_
  refine go_bipush (v := 12) dX10_keep_68 (by decide) ?_
  refine go_icmp_ge 95 dX10_keep_70 (by decide) (fun c8 => ?_) (fun c8 => ?_)
  · have h := h.1 c8
    refine go_iconst (v := 0) dX10_keep_95 (by decide) ?_
    refine go_istore_n [(0, .ref (ga G 78)), (1, .int x1), (2, .int x2), (3, .int (0 : Int32))] [1, 2, 3, 0] dX10_keep_96 rfl (by decide) rfl ?_
    exact h
  · have h := h.2 c8
    refine go_aload_n dX10_keep_73 rfl 0 rfl ?_
    refine go_get (.ref (ga G 103)) dX10_keep_74 fX10_88 (g_lt rfl) (gs_78 G _ _) rfl ?_
    refine go_iload_n dX10_keep_77 rfl 2 rfl ?_
    refine go_iconst (v := 4) dX10_keep_78 (by decide) ?_
    refine go_iadd dX10_keep_79 ?_
    refine go_iload_n dX10_keep_80 rfl 3 rfl ?_
    refine go_iadd dX10_keep_81 ?_
    refine go_aload_n dX10_keep_82 rfl 0 rfl ?_
    refine go_get (.ref (ga G 92)) dX10_keep_83 fX10_55 (g_lt rfl) (gs_78 G _ _) rfl ?_
    refine go_iload_n dX10_keep_86 rfl 3 rfl ?_
    obtain ⟨b9, h⟩ := h
    refine go_ialdv ((gm_r μ 92 x3.toNatClampNeg)) dX10_keep_87 (g_lt rfl) (gs_92 G) b9 rfl ?_
    obtain ⟨b10, h⟩ := h
    refine go_iast dX10_keep_88 (g_lt rfl) (gs_103 G) b10 ?_
    refine go_iinc (v := (x3 + (1 : Int32))) [(0, .ref (ga G 78)), (1, .int x1), (2, .int x2), (3, .int (x3 + (1 : Int32)))] [1, 2, 3, 0] 3 dX10_keep_89 rfl rfl (by decide) rfl ?_
    refine go_goto 67 dX10_keep_92 (by decide) ?_
    exact h
set_option maxRecDepth 100000 in
theorem eX10_keep_97 {G : gC} {l : Launch} {P : Int32 → Mem → Prop} {x1 : Int32} {x2 : Int32} {x3 : Int32} {μ : Mem} (h : (((72 : Int32) ≤ x3) → hX10_keep_128 G l P x1 x2 (0 : Int32) μ) ∧ ((¬ (72 : Int32) ≤ x3) → vp_in x3 72 ∧ vp_in ((x2 + (16 : Int32)) + x3) 220 ∧ hX10_keep_97 G l P x1 x2 (x3 + (1 : Int32)) (gm_w μ 103 ((x2 + (16 : Int32)) + x3).toNatClampNeg (gm_r μ 93 x3.toNatClampNeg)))) : hX10_keep_97 G l P x1 x2 x3 μ := by
  refine go_iload_n dX10_keep_97 rfl 3 rfl ?_
  refine go_bipush (v := 72) dX10_keep_98 (by decide) ?_
  refine go_icmp_ge 126 dX10_keep_100 (by decide) (fun c11 => ?_) (fun c11 => ?_)
  · have h := h.1 c11
    refine go_iconst (v := 0) dX10_keep_126 (by decide) ?_
    refine go_istore_n [(0, .ref (ga G 78)), (1, .int x1), (2, .int x2), (3, .int (0 : Int32))] [1, 2, 3, 0] dX10_keep_127 rfl (by decide) rfl ?_
    exact h
  · have h := h.2 c11
    refine go_aload_n dX10_keep_103 rfl 0 rfl ?_
    refine go_get (.ref (ga G 103)) dX10_keep_104 fX10_88 (g_lt rfl) (gs_78 G _ _) rfl ?_
    refine go_iload_n dX10_keep_107 rfl 2 rfl ?_
    refine go_bipush (v := 16) dX10_keep_108 (by decide) ?_
    refine go_iadd dX10_keep_110 ?_
    refine go_iload_n dX10_keep_111 rfl 3 rfl ?_
    refine go_iadd dX10_keep_112 ?_
    refine go_aload_n dX10_keep_113 rfl 0 rfl ?_
    refine go_get (.ref (ga G 93)) dX10_keep_114 fX10_58 (g_lt rfl) (gs_78 G _ _) rfl ?_
    refine go_iload_n dX10_keep_117 rfl 3 rfl ?_
    obtain ⟨b12, h⟩ := h
    refine go_ialdv ((gm_r μ 93 x3.toNatClampNeg)) dX10_keep_118 (g_lt rfl) (gs_93 G) b12 rfl ?_
    obtain ⟨b13, h⟩ := h
    refine go_iast dX10_keep_119 (g_lt rfl) (gs_103 G) b13 ?_
    refine go_iinc (v := (x3 + (1 : Int32))) [(0, .ref (ga G 78)), (1, .int x1), (2, .int x2), (3, .int (x3 + (1 : Int32)))] [1, 2, 3, 0] 3 dX10_keep_120 rfl rfl (by decide) rfl ?_
    refine go_goto 97 dX10_keep_123 (by decide) ?_
    exact h
set_option maxRecDepth 100000 in
theorem eX10_keep_128 {G : gC} {l : Launch} {P : Int32 → Mem → Prop} {x1 : Int32} {x2 : Int32} {x3 : Int32} {μ : Mem} (h : (((6 : Int32) ≤ x3) → hX10_keep_159 G l P x1 x2 (0 : Int32) μ) ∧ ((¬ (6 : Int32) ≤ x3) → vp_in x3 6 ∧ vp_in ((x2 + (88 : Int32)) + x3) 220 ∧ hX10_keep_128 G l P x1 x2 (x3 + (1 : Int32)) (gm_w μ 103 ((x2 + (88 : Int32)) + x3).toNatClampNeg (gm_r μ 94 x3.toNatClampNeg)))) : hX10_keep_128 G l P x1 x2 x3 μ := by
  refine go_iload_n dX10_keep_128 rfl 3 rfl ?_
  refine go_bipush (v := 6) dX10_keep_129 (by decide) ?_
  refine go_icmp_ge 157 dX10_keep_131 (by decide) (fun c14 => ?_) (fun c14 => ?_)
  · have h := h.1 c14
    refine go_iconst (v := 0) dX10_keep_157 (by decide) ?_
    refine go_istore_n [(0, .ref (ga G 78)), (1, .int x1), (2, .int x2), (3, .int (0 : Int32))] [1, 2, 3, 0] dX10_keep_158 rfl (by decide) rfl ?_
    exact h
  · have h := h.2 c14
    refine go_aload_n dX10_keep_134 rfl 0 rfl ?_
    refine go_get (.ref (ga G 103)) dX10_keep_135 fX10_88 (g_lt rfl) (gs_78 G _ _) rfl ?_
    refine go_iload_n dX10_keep_138 rfl 2 rfl ?_
    refine go_bipush (v := 88) dX10_keep_139 (by decide) ?_
    refine go_iadd dX10_keep_141 ?_
    refine go_iload_n dX10_keep_142 rfl 3 rfl ?_
    refine go_iadd dX10_keep_143 ?_
    refine go_aload_n dX10_keep_144 rfl 0 rfl ?_
    refine go_get (.ref (ga G 94)) dX10_keep_145 fX10_61 (g_lt rfl) (gs_78 G _ _) rfl ?_
    refine go_iload_n dX10_keep_148 rfl 3 rfl ?_
    obtain ⟨b15, h⟩ := h
    refine go_ialdv ((gm_r μ 94 x3.toNatClampNeg)) dX10_keep_149 (g_lt rfl) (gs_94 G) b15 rfl ?_
    obtain ⟨b16, h⟩ := h
    refine go_iast dX10_keep_150 (g_lt rfl) (gs_103 G) b16 ?_
    refine go_iinc (v := (x3 + (1 : Int32))) [(0, .ref (ga G 78)), (1, .int x1), (2, .int x2), (3, .int (x3 + (1 : Int32)))] [1, 2, 3, 0] 3 dX10_keep_151 rfl rfl (by decide) rfl ?_
    refine go_goto 128 dX10_keep_154 (by decide) ?_
    exact h
set_option maxRecDepth 100000 in
theorem eX10_keep_159 {G : gC} {l : Launch} {P : Int32 → Mem → Prop} {x1 : Int32} {x2 : Int32} {x3 : Int32} {μ : Mem} (h : (((8 : Int32) ≤ x3) → vp_in x1 2 ∧ P (1 : Int32) (gm_w (gm_w μ 104 x1.toNatClampNeg (gm_r μ 78 1)) 105 x1.toNatClampNeg (1 : Int32))) ∧ ((¬ (8 : Int32) ≤ x3) → vp_in x3 8 ∧ vp_in ((x2 + (94 : Int32)) + x3) 220 ∧ hX10_keep_159 G l P x1 x2 (x3 + (1 : Int32)) (gm_w μ 103 ((x2 + (94 : Int32)) + x3).toNatClampNeg (gm_r μ 83 x3.toNatClampNeg)))) : hX10_keep_159 G l P x1 x2 x3 μ := by
  refine go_iload_n dX10_keep_159 rfl 3 rfl ?_
  refine go_bipush (v := 8) dX10_keep_160 (by decide) ?_
  refine go_icmp_ge 188 dX10_keep_162 (by decide) (fun c17 => ?_) (fun c17 => ?_)
  · have h := h.1 c17
    refine go_aload_n dX10_keep_188 rfl 0 rfl ?_
    refine go_get (.ref (ga G 104)) dX10_keep_189 fX10_91 (g_lt rfl) (gs_78 G _ _) rfl ?_
    refine go_iload_n dX10_keep_192 rfl 1 rfl ?_
    refine go_aload_n dX10_keep_193 rfl 0 rfl ?_
    refine go_get (.int (gm_r μ 78 1)) dX10_keep_194 fX10_189 (g_lt rfl) (gs_78 G _ _) rfl ?_
    obtain ⟨b18, h⟩ := h
    refine go_iast dX10_keep_197 (g_lt rfl) (gs_104 G) b18 ?_
    refine go_aload_n dX10_keep_198 rfl 0 rfl ?_
    refine go_get (.ref (ga G 105)) dX10_keep_199 fX10_94 (g_lt rfl) (gs_78 G _ _) rfl ?_
    refine go_iload_n dX10_keep_202 rfl 1 rfl ?_
    refine go_iconst (v := 1) dX10_keep_203 (by decide) ?_
    refine go_zast dX10_keep_204 (g_lt rfl) (gs_105 G) b18 ?_
    refine go_iconst (v := 1) dX10_keep_205 (by decide) ?_
    exact go_iret dX10_keep_206 rfl (Nat.le_refl _) (Nat.le_refl _) ⟨_, rfl, h⟩
  · have h := h.2 c17
    refine go_aload_n dX10_keep_165 rfl 0 rfl ?_
    refine go_get (.ref (ga G 103)) dX10_keep_166 fX10_88 (g_lt rfl) (gs_78 G _ _) rfl ?_
    refine go_iload_n dX10_keep_169 rfl 2 rfl ?_
    refine go_bipush (v := 94) dX10_keep_170 (by decide) ?_
    refine go_iadd dX10_keep_172 ?_
    refine go_iload_n dX10_keep_173 rfl 3 rfl ?_
    refine go_iadd dX10_keep_174 ?_
    refine go_aload_n dX10_keep_175 rfl 0 rfl ?_
    refine go_get (.ref (ga G 83)) dX10_keep_176 fX10_22 (g_lt rfl) (gs_78 G _ _) rfl ?_
    refine go_iload_n dX10_keep_179 rfl 3 rfl ?_
    obtain ⟨b19, h⟩ := h
    refine go_ialdv ((gm_r μ 83 x3.toNatClampNeg)) dX10_keep_180 (g_lt rfl) (gs_83 G) b19 rfl ?_
    obtain ⟨b20, h⟩ := h
    refine go_iast dX10_keep_181 (g_lt rfl) (gs_103 G) b20 ?_
    refine go_iinc (v := (x3 + (1 : Int32))) [(0, .ref (ga G 78)), (1, .int x1), (2, .int x2), (3, .int (x3 + (1 : Int32)))] [1, 2, 3, 0] 3 dX10_keep_182 rfl rfl (by decide) rfl ?_
    refine go_goto 159 dX10_keep_185 (by decide) ?_
    exact h
set_option maxRecDepth 100000 in
theorem eX10_goBack {G : gC} {l : Launch} {a1 : Int32} {μ : Mem} {P : Int32 → Mem → Prop} (h : qX10_in G l (a1).toInt64 (0 : Int64) (1 : Int64) μ (fun (r2 : Int32) (μ1 : Mem) => ((¬ r2 = 0) → vp_in a1 2 ∧ (((gm_r μ1 105 a1.toNatClampNeg) = 0) → P (-1003 : Int32) μ1) ∧ ((¬ (gm_r μ1 105 a1.toNatClampNeg) = 0) → (((gm_r μ1 104 a1.toNatClampNeg) = (gm_r μ1 78 1)) → vp_in ((110 : Int32) * a1) 220 ∧ vp_in (((110 : Int32) * a1) + (1 : Int32)) 220 ∧ vp_in (((110 : Int32) * a1) + (2 : Int32)) 220 ∧ vp_in (((110 : Int32) * a1) + (3 : Int32)) 220 ∧ hX10_goBack_93 G l P ((110 : Int32) * a1) (0 : Int32) (gm_w (gm_w (gm_w (gm_w μ1 78 22 (gm_r μ1 103 ((110 : Int32) * a1).toNatClampNeg)) 78 23 (gm_r μ1 103 (((110 : Int32) * a1) + (1 : Int32)).toNatClampNeg)) 78 26 (gm_r μ1 103 (((110 : Int32) * a1) + (2 : Int32)).toNatClampNeg)) 78 27 (gm_r μ1 103 (((110 : Int32) * a1) + (3 : Int32)).toNatClampNeg))) ∧ ((¬ (gm_r μ1 104 a1.toNatClampNeg) = (gm_r μ1 78 1)) → P (-1003 : Int32) μ1))) ∧ ((r2 = 0) → P (-1001 : Int32) μ1))) : qX10_goBack G l a1 μ P := by
  refine Sp.of (by decide) (Nat.le_of_ble_eq_true rfl) (lv := [(0, .ref (ga G 78)), (1, .int a1)]) rfl ?_
  refine go_iload_n dX10_goBack_0 rfl 1 rfl ?_
  refine go_i2l dX10_goBack_1 ?_
  refine go_lconst (v := 0) dX10_goBack_2 (by decide) ?_
  refine go_lconst (v := 1) dX10_goBack_3 (by decide) ?_
  refine go_callS (As := [.long (a1).toInt64, .long (0 : Int64), .long (1 : Int64)]) (rest := []) dX10_goBack_4 lX10_99 kX10_in rfl (by decide) (Nat.le_of_ble_eq_true rfl) (by decide) rfl (gI_go (fun r2 μ1 h => ?_)) h
  refine go_if_ne 14 dX10_goBack_7 (by decide) (fun c3 => ?_) (fun c3 => ?_)
  · have h := h.1 c3
    refine go_aload_n dX10_goBack_14 rfl 0 rfl ?_
    refine go_get (.ref (ga G 105)) dX10_goBack_15 fX10_94 (g_lt rfl) (gs_78 G _ _) rfl ?_
    refine go_iload_n dX10_goBack_18 rfl 1 rfl ?_
    obtain ⟨b4, h⟩ := h
    refine go_zaldv ((gm_r μ1 105 a1.toNatClampNeg)) dX10_goBack_19 (g_lt rfl) (gs_105 G) b4 rfl ?_
    refine go_if_eq 36 dX10_goBack_20 (by decide) (fun c5 => ?_) (fun c5 => ?_)
    · have h := h.1 c5
      refine go_sipush (v := -1003) dX10_goBack_36 (by decide) ?_
      exact go_iret dX10_goBack_39 rfl (Nat.le_refl _) (Nat.le_refl _) ⟨_, rfl, h⟩
    · have h := h.2 c5
      refine go_aload_n dX10_goBack_23 rfl 0 rfl ?_
      refine go_get (.ref (ga G 104)) dX10_goBack_24 fX10_91 (g_lt rfl) (gs_78 G _ _) rfl ?_
      refine go_iload_n dX10_goBack_27 rfl 1 rfl ?_
      refine go_ialdv ((gm_r μ1 104 a1.toNatClampNeg)) dX10_goBack_28 (g_lt rfl) (gs_104 G) b4 rfl ?_
      refine go_aload_n dX10_goBack_29 rfl 0 rfl ?_
      refine go_get (.int (gm_r μ1 78 1)) dX10_goBack_30 fX10_189 (g_lt rfl) (gs_78 G _ _) rfl ?_
      refine go_icmp_eq 40 dX10_goBack_33 (by decide) (fun c6 => ?_) (fun c6 => ?_)
      · have h := h.1 c6
        refine go_bipush (v := 110) dX10_goBack_40 (by decide) ?_
        refine go_iload_n dX10_goBack_42 rfl 1 rfl ?_
        refine go_imul dX10_goBack_43 ?_
        refine go_istore_n [(0, .ref (ga G 78)), (1, .int a1), (2, .int ((110 : Int32) * a1))] [1, 2, 0] dX10_goBack_44 rfl (by decide) rfl ?_
        refine go_aload_n dX10_goBack_45 rfl 0 rfl ?_
        refine go_aload_n dX10_goBack_46 rfl 0 rfl ?_
        refine go_get (.ref (ga G 103)) dX10_goBack_47 fX10_88 (g_lt rfl) (gs_78 G _ _) rfl ?_
        refine go_iload_n dX10_goBack_50 rfl 2 rfl ?_
        obtain ⟨b7, h⟩ := h
        refine go_ialdv ((gm_r μ1 103 ((110 : Int32) * a1).toNatClampNeg)) dX10_goBack_51 (g_lt rfl) (gs_103 G) b7 rfl ?_
        refine go_puti dX10_goBack_52 pX10_177 (g_lt rfl) (gs_78 G _ _) (Nat.le_of_ble_eq_true rfl) rfl ?_
        refine go_aload_n dX10_goBack_55 rfl 0 rfl ?_
        refine go_aload_n dX10_goBack_56 rfl 0 rfl ?_
        refine go_get (.ref (ga G 103)) dX10_goBack_57 fX10_88 (g_lt rfl) (gs_78 G _ _) rfl ?_
        refine go_iload_n dX10_goBack_60 rfl 2 rfl ?_
        refine go_iconst (v := 1) dX10_goBack_61 (by decide) ?_
        refine go_iadd dX10_goBack_62 ?_
        obtain ⟨b8, h⟩ := h
        refine go_ialdv ((gm_r μ1 103 (((110 : Int32) * a1) + (1 : Int32)).toNatClampNeg)) dX10_goBack_63 (g_lt rfl) (gs_103 G) b8 rfl ?_
        refine go_puti dX10_goBack_64 pX10_180 (g_lt rfl) (gs_78 G _ _) (Nat.le_of_ble_eq_true rfl) rfl ?_
        refine go_aload_n dX10_goBack_67 rfl 0 rfl ?_
        refine go_aload_n dX10_goBack_68 rfl 0 rfl ?_
        refine go_get (.ref (ga G 103)) dX10_goBack_69 fX10_88 (g_lt rfl) (gs_78 G _ _) rfl ?_
        refine go_iload_n dX10_goBack_72 rfl 2 rfl ?_
        refine go_iconst (v := 2) dX10_goBack_73 (by decide) ?_
        refine go_iadd dX10_goBack_74 ?_
        obtain ⟨b9, h⟩ := h
        refine go_ialdv ((gm_r μ1 103 (((110 : Int32) * a1) + (2 : Int32)).toNatClampNeg)) dX10_goBack_75 (g_lt rfl) (gs_103 G) b9 rfl ?_
        refine go_puti dX10_goBack_76 pX10_183 (g_lt rfl) (gs_78 G _ _) (Nat.le_of_ble_eq_true rfl) rfl ?_
        refine go_aload_n dX10_goBack_79 rfl 0 rfl ?_
        refine go_aload_n dX10_goBack_80 rfl 0 rfl ?_
        refine go_get (.ref (ga G 103)) dX10_goBack_81 fX10_88 (g_lt rfl) (gs_78 G _ _) rfl ?_
        refine go_iload_n dX10_goBack_84 rfl 2 rfl ?_
        refine go_iconst (v := 3) dX10_goBack_85 (by decide) ?_
        refine go_iadd dX10_goBack_86 ?_
        obtain ⟨b10, h⟩ := h
        refine go_ialdv ((gm_r μ1 103 (((110 : Int32) * a1) + (3 : Int32)).toNatClampNeg)) dX10_goBack_87 (g_lt rfl) (gs_103 G) b10 rfl ?_
        refine go_puti dX10_goBack_88 pX10_186 (g_lt rfl) (gs_78 G _ _) (Nat.le_of_ble_eq_true rfl) rfl ?_
        refine go_iconst (v := 0) dX10_goBack_91 (by decide) ?_
        refine go_istore_n [(0, .ref (ga G 78)), (1, .int a1), (2, .int ((110 : Int32) * a1)), (3, .int (0 : Int32))] [1, 2, 3, 0] dX10_goBack_92 rfl (by decide) rfl ?_
        exact go_sub [0, 2, 3] rfl h
      · have h := h.2 c6
        refine go_sipush (v := -1003) dX10_goBack_36 (by decide) ?_
        exact go_iret dX10_goBack_39 rfl (Nat.le_refl _) (Nat.le_refl _) ⟨_, rfl, h⟩
  · have h := h.2 c3
    refine go_sipush (v := -1001) dX10_goBack_10 (by decide) ?_
    exact go_iret dX10_goBack_13 rfl (Nat.le_refl _) (Nat.le_refl _) ⟨_, rfl, h⟩
set_option maxRecDepth 100000 in
theorem eX10_goBack_93 {G : gC} {l : Launch} {P : Int32 → Mem → Prop} {x2 : Int32} {x3 : Int32} {μ : Mem} (h : (((12 : Int32) ≤ x3) → hX10_goBack_123 G l P x2 (0 : Int32) μ) ∧ ((¬ (12 : Int32) ≤ x3) → vp_in ((x2 + (4 : Int32)) + x3) 220 ∧ vp_in x3 12 ∧ hX10_goBack_93 G l P x2 (x3 + (1 : Int32)) (gm_w μ 92 x3.toNatClampNeg (gm_r μ 103 ((x2 + (4 : Int32)) + x3).toNatClampNeg)))) : hX10_goBack_93 G l P x2 x3 μ := by
  refine go_iload_n dX10_goBack_93 rfl 2 rfl ?_
  refine go_bipush (v := 12) dX10_goBack_94 (by decide) ?_
  refine go_icmp_ge 121 dX10_goBack_96 (by decide) (fun c11 => ?_) (fun c11 => ?_)
  · have h := h.1 c11
    refine go_iconst (v := 0) dX10_goBack_121 (by decide) ?_
    refine go_istore_n [(0, .ref (ga G 78)), (2, .int x2), (3, .int (0 : Int32))] [1, 2, 0] dX10_goBack_122 rfl (by decide) rfl ?_
    exact h
  · have h := h.2 c11
    refine go_aload_n dX10_goBack_99 rfl 0 rfl ?_
    refine go_get (.ref (ga G 92)) dX10_goBack_100 fX10_55 (g_lt rfl) (gs_78 G _ _) rfl ?_
    refine go_iload_n dX10_goBack_103 rfl 2 rfl ?_
    refine go_aload_n dX10_goBack_104 rfl 0 rfl ?_
    refine go_get (.ref (ga G 103)) dX10_goBack_105 fX10_88 (g_lt rfl) (gs_78 G _ _) rfl ?_
    refine go_iload_n dX10_goBack_108 rfl 1 rfl ?_
    refine go_iconst (v := 4) dX10_goBack_109 (by decide) ?_
    refine go_iadd dX10_goBack_110 ?_
    refine go_iload_n dX10_goBack_111 rfl 2 rfl ?_
    refine go_iadd dX10_goBack_112 ?_
    obtain ⟨b12, h⟩ := h
    refine go_ialdv ((gm_r μ 103 ((x2 + (4 : Int32)) + x3).toNatClampNeg)) dX10_goBack_113 (g_lt rfl) (gs_103 G) b12 rfl ?_
    obtain ⟨b13, h⟩ := h
    refine go_iast dX10_goBack_114 (g_lt rfl) (gs_92 G) b13 ?_
    refine go_iinc (v := (x3 + (1 : Int32))) [(0, .ref (ga G 78)), (2, .int x2), (3, .int (x3 + (1 : Int32)))] [1, 2, 0] 2 dX10_goBack_115 rfl rfl (by decide) rfl ?_
    refine go_goto 93 dX10_goBack_118 (by decide) ?_
    exact h
set_option maxRecDepth 100000 in
theorem eX10_goBack_123 {G : gC} {l : Launch} {P : Int32 → Mem → Prop} {x2 : Int32} {x3 : Int32} {μ : Mem} (h : (((72 : Int32) ≤ x3) → hX10_goBack_154 G l P x2 (0 : Int32) μ) ∧ ((¬ (72 : Int32) ≤ x3) → vp_in ((x2 + (16 : Int32)) + x3) 220 ∧ vp_in x3 72 ∧ hX10_goBack_123 G l P x2 (x3 + (1 : Int32)) (gm_w μ 93 x3.toNatClampNeg (gm_r μ 103 ((x2 + (16 : Int32)) + x3).toNatClampNeg)))) : hX10_goBack_123 G l P x2 x3 μ := by
  refine go_iload_n dX10_goBack_123 rfl 2 rfl ?_
  refine go_bipush (v := 72) dX10_goBack_124 (by decide) ?_
  refine go_icmp_ge 152 dX10_goBack_126 (by decide) (fun c14 => ?_) (fun c14 => ?_)
  · have h := h.1 c14
    refine go_iconst (v := 0) dX10_goBack_152 (by decide) ?_
    refine go_istore_n [(0, .ref (ga G 78)), (2, .int x2), (3, .int (0 : Int32))] [1, 2, 0] dX10_goBack_153 rfl (by decide) rfl ?_
    exact h
  · have h := h.2 c14
    refine go_aload_n dX10_goBack_129 rfl 0 rfl ?_
    refine go_get (.ref (ga G 93)) dX10_goBack_130 fX10_58 (g_lt rfl) (gs_78 G _ _) rfl ?_
    refine go_iload_n dX10_goBack_133 rfl 2 rfl ?_
    refine go_aload_n dX10_goBack_134 rfl 0 rfl ?_
    refine go_get (.ref (ga G 103)) dX10_goBack_135 fX10_88 (g_lt rfl) (gs_78 G _ _) rfl ?_
    refine go_iload_n dX10_goBack_138 rfl 1 rfl ?_
    refine go_bipush (v := 16) dX10_goBack_139 (by decide) ?_
    refine go_iadd dX10_goBack_141 ?_
    refine go_iload_n dX10_goBack_142 rfl 2 rfl ?_
    refine go_iadd dX10_goBack_143 ?_
    obtain ⟨b15, h⟩ := h
    refine go_ialdv ((gm_r μ 103 ((x2 + (16 : Int32)) + x3).toNatClampNeg)) dX10_goBack_144 (g_lt rfl) (gs_103 G) b15 rfl ?_
    obtain ⟨b16, h⟩ := h
    refine go_iast dX10_goBack_145 (g_lt rfl) (gs_93 G) b16 ?_
    refine go_iinc (v := (x3 + (1 : Int32))) [(0, .ref (ga G 78)), (2, .int x2), (3, .int (x3 + (1 : Int32)))] [1, 2, 0] 2 dX10_goBack_146 rfl rfl (by decide) rfl ?_
    refine go_goto 123 dX10_goBack_149 (by decide) ?_
    exact h
set_option maxRecDepth 100000 in
theorem eX10_goBack_154 {G : gC} {l : Launch} {P : Int32 → Mem → Prop} {x2 : Int32} {x3 : Int32} {μ : Mem} (h : (((6 : Int32) ≤ x3) → hX10_goBack_185 G l P x2 (0 : Int32) μ) ∧ ((¬ (6 : Int32) ≤ x3) → vp_in ((x2 + (88 : Int32)) + x3) 220 ∧ vp_in x3 6 ∧ hX10_goBack_154 G l P x2 (x3 + (1 : Int32)) (gm_w μ 94 x3.toNatClampNeg (gm_r μ 103 ((x2 + (88 : Int32)) + x3).toNatClampNeg)))) : hX10_goBack_154 G l P x2 x3 μ := by
  refine go_iload_n dX10_goBack_154 rfl 2 rfl ?_
  refine go_bipush (v := 6) dX10_goBack_155 (by decide) ?_
  refine go_icmp_ge 183 dX10_goBack_157 (by decide) (fun c17 => ?_) (fun c17 => ?_)
  · have h := h.1 c17
    refine go_iconst (v := 0) dX10_goBack_183 (by decide) ?_
    refine go_istore_n [(0, .ref (ga G 78)), (2, .int x2), (3, .int (0 : Int32))] [1, 2, 0] dX10_goBack_184 rfl (by decide) rfl ?_
    exact h
  · have h := h.2 c17
    refine go_aload_n dX10_goBack_160 rfl 0 rfl ?_
    refine go_get (.ref (ga G 94)) dX10_goBack_161 fX10_61 (g_lt rfl) (gs_78 G _ _) rfl ?_
    refine go_iload_n dX10_goBack_164 rfl 2 rfl ?_
    refine go_aload_n dX10_goBack_165 rfl 0 rfl ?_
    refine go_get (.ref (ga G 103)) dX10_goBack_166 fX10_88 (g_lt rfl) (gs_78 G _ _) rfl ?_
    refine go_iload_n dX10_goBack_169 rfl 1 rfl ?_
    refine go_bipush (v := 88) dX10_goBack_170 (by decide) ?_
    refine go_iadd dX10_goBack_172 ?_
    refine go_iload_n dX10_goBack_173 rfl 2 rfl ?_
    refine go_iadd dX10_goBack_174 ?_
    obtain ⟨b18, h⟩ := h
    refine go_ialdv ((gm_r μ 103 ((x2 + (88 : Int32)) + x3).toNatClampNeg)) dX10_goBack_175 (g_lt rfl) (gs_103 G) b18 rfl ?_
    obtain ⟨b19, h⟩ := h
    refine go_iast dX10_goBack_176 (g_lt rfl) (gs_94 G) b19 ?_
    refine go_iinc (v := (x3 + (1 : Int32))) [(0, .ref (ga G 78)), (2, .int x2), (3, .int (x3 + (1 : Int32)))] [1, 2, 0] 2 dX10_goBack_177 rfl rfl (by decide) rfl ?_
    refine go_goto 154 dX10_goBack_180 (by decide) ?_
    exact h
set_option maxRecDepth 100000 in
theorem eX10_goBack_185 {G : gC} {l : Launch} {P : Int32 → Mem → Prop} {x2 : Int32} {x3 : Int32} {μ : Mem} (h : (((8 : Int32) ≤ x3) → P (1 : Int32) μ) ∧ ((¬ (8 : Int32) ≤ x3) → vp_in ((x2 + (94 : Int32)) + x3) 220 ∧ vp_in x3 8 ∧ hX10_goBack_185 G l P x2 (x3 + (1 : Int32)) (gm_w μ 83 x3.toNatClampNeg (gm_r μ 103 ((x2 + (94 : Int32)) + x3).toNatClampNeg)))) : hX10_goBack_185 G l P x2 x3 μ := by
  refine go_iload_n dX10_goBack_185 rfl 2 rfl ?_
  refine go_bipush (v := 8) dX10_goBack_186 (by decide) ?_
  refine go_icmp_ge 214 dX10_goBack_188 (by decide) (fun c20 => ?_) (fun c20 => ?_)
  · have h := h.1 c20
    refine go_iconst (v := 1) dX10_goBack_214 (by decide) ?_
    exact go_iret dX10_goBack_215 rfl (Nat.le_refl _) (Nat.le_refl _) ⟨_, rfl, h⟩
  · have h := h.2 c20
    refine go_aload_n dX10_goBack_191 rfl 0 rfl ?_
    refine go_get (.ref (ga G 83)) dX10_goBack_192 fX10_22 (g_lt rfl) (gs_78 G _ _) rfl ?_
    refine go_iload_n dX10_goBack_195 rfl 2 rfl ?_
    refine go_aload_n dX10_goBack_196 rfl 0 rfl ?_
    refine go_get (.ref (ga G 103)) dX10_goBack_197 fX10_88 (g_lt rfl) (gs_78 G _ _) rfl ?_
    refine go_iload_n dX10_goBack_200 rfl 1 rfl ?_
    refine go_bipush (v := 94) dX10_goBack_201 (by decide) ?_
    refine go_iadd dX10_goBack_203 ?_
    refine go_iload_n dX10_goBack_204 rfl 2 rfl ?_
    refine go_iadd dX10_goBack_205 ?_
    obtain ⟨b21, h⟩ := h
    refine go_ialdv ((gm_r μ 103 ((x2 + (94 : Int32)) + x3).toNatClampNeg)) dX10_goBack_206 (g_lt rfl) (gs_103 G) b21 rfl ?_
    obtain ⟨b22, h⟩ := h
    refine go_iast dX10_goBack_207 (g_lt rfl) (gs_83 G) b22 ?_
    refine go_iinc (v := (x3 + (1 : Int32))) [(0, .ref (ga G 78)), (2, .int x2), (3, .int (x3 + (1 : Int32)))] [1, 2, 0] 2 dX10_goBack_208 rfl rfl (by decide) rfl ?_
    refine go_goto 185 dX10_goBack_211 (by decide) ?_
    exact h
