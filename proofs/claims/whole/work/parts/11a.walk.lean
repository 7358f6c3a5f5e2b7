set_option maxRecDepth 100000 in
theorem eX8_append {G : gC} {l : Launch} {a1 : Int32} {μ : Mem} {P : Mem → Prop} (h : (((400 : Int32) ≤ (gm_r μ 1 1)) → P μ) ∧ ((¬ (400 : Int32) ≤ (gm_r μ 1 1)) → vp_in (gm_r μ 1 1) 400 ∧ P (gm_w (gm_w μ 2 (gm_r μ 1 1).toNatClampNeg a1) 1 1 ((gm_r μ 1 1) + (1 : Int32))))) : qX8_append G l a1 μ P := by
  refine Sp.of (by decide) (Nat.le_of_ble_eq_true rfl) (lv := [(0, .ref (ga G 1)), (1, .int a1)]) rfl ?_
  refine go_aload_n dX8_append_0 rfl 0 rfl ?_
  refine go_get (.int (gm_r μ 1 1)) dX8_append_1 fX8_15 (g_lt rfl) (gs_1 G _ _) rfl ?_
  refine go_sipush (v := 400) dX8_append_4 (by decide) ?_
  refine go_icmp_ge 30 dX8_append_7 (by decide) (fun c1 => ?_) (fun c1 => ?_)
  · have h := h.1 c1
    exact go_vret dX8_append_30 rfl (Nat.le_refl _) (Nat.le_refl _) ⟨rfl, h⟩
  · have h := h.2 c1
    refine go_aload_n dX8_append_10 rfl 0 rfl ?_
    refine go_get (.ref (ga G 2)) dX8_append_11 fX8_9 (g_lt rfl) (gs_1 G _ _) rfl ?_
    refine go_aload_n dX8_append_14 rfl 0 rfl ?_
    refine go_get (.int (gm_r μ 1 1)) dX8_append_15 fX8_15 (g_lt rfl) (gs_1 G _ _) rfl ?_
    refine go_iload_n dX8_append_18 rfl 1 rfl ?_
    obtain ⟨b2, h⟩ := h
    refine go_iast dX8_append_19 (g_lt rfl) (gs_2 G) b2 ?_
    refine go_aload_n dX8_append_20 rfl 0 rfl ?_
    refine go_dup dX8_append_21 rfl ?_
    refine go_get (.int (gm_r μ 1 1)) dX8_append_22 fX8_15 (g_lt rfl) (gs_1 G _ _) rfl ?_
    refine go_iconst (v := 1) dX8_append_25 (by decide) ?_
    refine go_iadd dX8_append_26 ?_
    refine go_puti dX8_append_27 pX8_15 (g_lt rfl) (gs_1 G _ _) (Nat.le_of_ble_eq_true rfl) rfl ?_
    exact go_vret dX8_append_30 rfl (Nat.le_refl _) (Nat.le_refl _) ⟨rfl, h⟩
set_option maxRecDepth 100000 in
theorem eX9_feed {G : gC} {l : Launch} {a1 : Int32} {a2 : Int64} {μ : Mem} {P : Int32 → Mem → Prop} (h : ((a1 < (1 : Int32)) → P (-1002 : Int32) μ) ∧ ((¬ a1 < (1 : Int32)) → ((a1 ≤ (8 : Int32)) → ((((gm_r μ 1 1) + a1) ≤ (400 : Int32)) → hX9_feed_39 G l P a2 (a1 - (1 : Int32)) μ) ∧ ((¬ ((gm_r μ 1 1) + a1) ≤ (400 : Int32)) → P (-1004 : Int32) μ)) ∧ ((¬ a1 ≤ (8 : Int32)) → P (-1002 : Int32) μ))) : qX9_feed G l a1 a2 μ P := by
  refine Sp.of (by decide) (Nat.le_of_ble_eq_true rfl) (lv := [(0, .ref (ga G 0)), (1, .int a1), (2, .long a2)]) rfl ?_
  refine go_iload_n dX9_feed_0 rfl 1 rfl ?_
  refine go_iconst (v := 1) dX9_feed_1 (by decide) ?_
  refine go_icmp_lt 11 dX9_feed_2 (by decide) (fun c1 => ?_) (fun c1 => ?_)
  · have h := h.1 c1
    refine go_sipush (v := -1002) dX9_feed_11 (by decide) ?_
    exact go_iret dX9_feed_14 rfl (Nat.le_refl _) (Nat.le_refl _) ⟨_, rfl, h⟩
  · have h := h.2 c1
    refine go_iload_n dX9_feed_5 rfl 1 rfl ?_
    refine go_bipush (v := 8) dX9_feed_6 (by decide) ?_
    refine go_icmp_le 15 dX9_feed_8 (by decide) (fun c2 => ?_) (fun c2 => ?_)
    · have h := h.1 c2
      refine go_aload_n dX9_feed_15 rfl 0 rfl ?_
      refine go_get (.ref (ga G 1)) dX9_feed_16 fX9_12 (g_lt rfl) (gs_0 G _ _) rfl ?_
      refine go_get (.int (gm_r μ 1 1)) dX9_feed_19 fX9_84 (g_lt rfl) (gs_1 G _ _) rfl ?_
      refine go_iload_n dX9_feed_22 rfl 1 rfl ?_
      refine go_iadd dX9_feed_23 ?_
      refine go_sipush (v := 400) dX9_feed_24 (by decide) ?_
      refine go_icmp_le 34 dX9_feed_27 (by decide) (fun c3 => ?_) (fun c3 => ?_)
      · have h := h.1 c3
        refine go_iload_n dX9_feed_34 rfl 1 rfl ?_
        refine go_iconst (v := 1) dX9_feed_35 (by decide) ?_
        refine go_isub dX9_feed_36 ?_
        refine go_istore [(0, .ref (ga G 0)), (1, .int a1), (2, .long a2), (4, .int (a1 - (1 : Int32)))] [1, 2, 3, 0] dX9_feed_37 (by decide) rfl ?_
        exact go_sub [0, 2, 3] rfl h
      · have h := h.2 c3
        refine go_sipush (v := -1004) dX9_feed_30 (by decide) ?_
        exact go_iret dX9_feed_33 rfl (Nat.le_refl _) (Nat.le_refl _) ⟨_, rfl, h⟩
    · have h := h.2 c2
      refine go_sipush (v := -1002) dX9_feed_11 (by decide) ?_
      exact go_iret dX9_feed_14 rfl (Nat.le_refl _) (Nat.le_refl _) ⟨_, rfl, h⟩
set_option maxRecDepth 100000 in
theorem eX9_feed_39 {G : gC} {l : Launch} {P : Int32 → Mem → Prop} {x2 : Int64} {x4 : Int32} {μ : Mem} (h : ((x4 < 0) → P (gm_r μ 1 1) μ) ∧ ((¬ x4 < 0) → qX8_append G l ((((x2).toUInt64 >>> ((((8 : Int32) * x4)).toInt64.toUInt64 &&& Int64.toUInt64 63)).toInt64).toInt32 &&& (255 : Int32)) μ (fun (μ5 : Mem) => hX9_feed_39 G l P x2 (x4 + (-1 : Int32)) μ5))) : hX9_feed_39 G l P x2 x4 μ := by
  refine go_iload dX9_feed_39 2 rfl ?_
  refine go_if_lt 69 dX9_feed_41 (by decide) (fun c4 => ?_) (fun c4 => ?_)
  · have h := h.1 c4
    refine go_aload_n dX9_feed_69 rfl 0 rfl ?_
    refine go_get (.ref (ga G 1)) dX9_feed_70 fX9_12 (g_lt rfl) (gs_0 G _ _) rfl ?_
    refine go_get (.int (gm_r μ 1 1)) dX9_feed_73 fX9_84 (g_lt rfl) (gs_1 G _ _) rfl ?_
    exact go_iret dX9_feed_76 rfl (Nat.le_refl _) (Nat.le_refl _) ⟨_, rfl, h⟩
  · have h := h.2 c4
    refine go_aload_n dX9_feed_44 rfl 0 rfl ?_
    refine go_get (.ref (ga G 1)) dX9_feed_45 fX9_12 (g_lt rfl) (gs_0 G _ _) rfl ?_
    refine go_lload_n dX9_feed_48 rfl 1 rfl ?_
    refine go_bipush (v := 8) dX9_feed_49 (by decide) ?_
    refine go_iload dX9_feed_51 2 rfl ?_
    refine go_imul dX9_feed_53 ?_
    refine go_lushr dX9_feed_54 ?_
    refine go_l2i dX9_feed_55 ?_
    refine go_sipush (v := 255) dX9_feed_56 (by decide) ?_
    refine go_iand dX9_feed_59 ?_
    refine go_callV (As := [.int ((((x2).toUInt64 >>> ((((8 : Int32) * x4)).toInt64.toUInt64 &&& Int64.toUInt64 63)).toInt64).toInt32 &&& (255 : Int32))]) (rest := []) dX9_feed_60 lX9_88 kX8_append rfl (by decide) (Nat.le_of_ble_eq_true rfl) (g_lt rfl) (gs_1 G _ _) rfl (by decide) rfl (gV_go (fun μ5 h => ?_)) h
    refine go_iinc (v := (x4 + (-1 : Int32))) [(0, .ref (ga G 0)), (2, .long x2), (4, .int (x4 + (-1 : Int32)))] [1, 2, 0] 2 dX9_feed_63 rfl rfl (by decide) rfl ?_
    refine go_goto 39 dX9_feed_66 (by decide) ?_
    exact h
set_option maxRecDepth 100000 in
theorem eX0_clear {G : gC} {l : Launch}  {μ : Mem} {P : Mem → Prop} (h : P (gm_w (gm_w μ 42 1 (0 : Int32)) 42 3 (0 : Int32))) : qX0_clear G l  μ P := by
  refine Sp.of (by decide) (Nat.le_of_ble_eq_true rfl) (lv := [(0, .ref (ga G 42))]) rfl ?_
  refine go_aload_n dX0_clear_0 rfl 0 rfl ?_
  refine go_iconst (v := 0) dX0_clear_1 (by decide) ?_
  refine go_puti dX0_clear_2 pX0_15 (g_lt rfl) (gs_42 G _ _) (Nat.le_of_ble_eq_true rfl) rfl ?_
  refine go_aload_n dX0_clear_5 rfl 0 rfl ?_
  refine go_iconst (v := 0) dX0_clear_6 (by decide) ?_
  refine go_puti dX0_clear_7 pX0_22 (g_lt rfl) (gs_42 G _ _) (Nat.le_of_ble_eq_true rfl) rfl ?_
  exact go_vret dX0_clear_10 rfl (Nat.le_refl _) (Nat.le_refl _) ⟨rfl, h⟩
set_option maxRecDepth 100000 in
theorem eX4_fail {G : gC} {l : Launch} {a1 : Int32} {a2 : Int32} {μ : Mem} {P : Mem → Prop} (h : P (gm_w (gm_w μ 3 3 a1) 3 4 a2)) : qX4_fail G l a1 a2 μ P := by
  refine Sp.of (by decide) (Nat.le_of_ble_eq_true rfl) (lv := [(0, .ref (ga G 3)), (1, .int a1), (2, .int a2)]) rfl ?_
  refine go_aload_n dX4_fail_0 rfl 0 rfl ?_
  refine go_iload_n dX4_fail_1 rfl 1 rfl ?_
  refine go_puti dX4_fail_2 pX4_31 (g_lt rfl) (gs_3 G _ _) (Nat.le_of_ble_eq_true rfl) rfl ?_
  refine go_aload_n dX4_fail_5 rfl 0 rfl ?_
  refine go_iload_n dX4_fail_6 rfl 2 rfl ?_
  refine go_puti dX4_fail_7 pX4_9 (g_lt rfl) (gs_3 G _ _) (Nat.le_of_ble_eq_true rfl) rfl ?_
  exact go_vret dX4_fail_10 rfl (Nat.le_refl _) (Nat.le_refl _) ⟨rfl, h⟩
set_option maxRecDepth 100000 in
theorem eX7_cell_16 {G : gC} {l : Launch} {a1 : Int32} {a2 : Int32} {μ : Mem} {P : Int32 → Mem → Prop} (h : ((a1 < 0) → P (0 : Int32) μ) ∧ ((¬ a1 < 0) → (((10 : Int32) ≤ a1) → P (0 : Int32) μ) ∧ ((¬ (10 : Int32) ≤ a1) → ((a2 < 0) → P (0 : Int32) μ) ∧ ((¬ a2 < 0) → (((9 : Int32) ≤ a2) → P (0 : Int32) μ) ∧ ((¬ (9 : Int32) ≤ a2) → vp_in a1 10 ∧ vp_in a2 9 ∧ P (gm_r μ (17 + 1 + a1.toNatClampNeg) a2.toNatClampNeg) μ))))) : qX7_cell_16 G l a1 a2 μ P := by
  refine Sp.of (by decide) (Nat.le_of_ble_eq_true rfl) (lv := [(0, .ref (ga G 16)), (1, .int a1), (2, .int a2)]) rfl ?_
  refine go_iload_n dX7_cell_0 rfl 1 rfl ?_
  refine go_if_lt 31 dX7_cell_1 (by decide) (fun c1 => ?_) (fun c1 => ?_)
  · have h := h.1 c1
    refine go_iconst (v := 0) dX7_cell_31 (by decide) ?_
    exact go_iret dX7_cell_32 rfl (Nat.le_refl _) (Nat.le_refl _) ⟨_, rfl, h⟩
  · have h := h.2 c1
    refine go_iload_n dX7_cell_4 rfl 1 rfl ?_
    refine go_bipush (v := 10) dX7_cell_5 (by decide) ?_
    refine go_icmp_ge 31 dX7_cell_7 (by decide) (fun c2 => ?_) (fun c2 => ?_)
    · have h := h.1 c2
      refine go_iconst (v := 0) dX7_cell_31 (by decide) ?_
      exact go_iret dX7_cell_32 rfl (Nat.le_refl _) (Nat.le_refl _) ⟨_, rfl, h⟩
    · have h := h.2 c2
      refine go_iload_n dX7_cell_10 rfl 2 rfl ?_
      refine go_if_lt 31 dX7_cell_11 (by decide) (fun c3 => ?_) (fun c3 => ?_)
      · have h := h.1 c3
        refine go_iconst (v := 0) dX7_cell_31 (by decide) ?_
        exact go_iret dX7_cell_32 rfl (Nat.le_refl _) (Nat.le_refl _) ⟨_, rfl, h⟩
      · have h := h.2 c3
        refine go_iload_n dX7_cell_14 rfl 2 rfl ?_
        refine go_bipush (v := 9) dX7_cell_15 (by decide) ?_
        refine go_icmp_ge 31 dX7_cell_17 (by decide) (fun c4 => ?_) (fun c4 => ?_)
        · have h := h.1 c4
          refine go_iconst (v := 0) dX7_cell_31 (by decide) ?_
          exact go_iret dX7_cell_32 rfl (Nat.le_refl _) (Nat.le_refl _) ⟨_, rfl, h⟩
        · have h := h.2 c4
          refine go_aload_n dX7_cell_20 rfl 0 rfl ?_
          refine go_get (.ref (ga G 17)) dX7_cell_21 fX7_13 (g_lt rfl) (gs_16 G _ _) rfl ?_
          refine go_iload_n dX7_cell_24 rfl 1 rfl ?_
          obtain ⟨b5, h⟩ := h
          refine go_aald dX7_cell_25 (g_lt rfl) (gs_17 G) b5 ?_
          refine go_iload_n dX7_cell_26 rfl 2 rfl ?_
          obtain ⟨b6, h⟩ := h
          refine go_ialdv ((gm_r μ (17 + 1 + a1.toNatClampNeg) a2.toNatClampNeg)) dX7_cell_27 (gl_17 (vp_lt b5)) (gn_17 G (vp_lt b5)) b6 rfl ?_
          refine go_goto 32 dX7_cell_28 (by decide) ?_
          exact go_iret dX7_cell_32 rfl (Nat.le_refl _) (Nat.le_refl _) ⟨_, rfl, h⟩
set_option maxRecDepth 100000 in
theorem eX7_isList {G : gC} {l : Launch} {a1 : Int32} {μ : Mem} {P : Int32 → Mem → Prop} (h : ((a1 < (2 : Int32)) → P (0 : Int32) μ) ∧ ((¬ a1 < (2 : Int32)) → (((7 : Int32) < a1) → P (0 : Int32) μ) ∧ ((¬ (7 : Int32) < a1) → P (1 : Int32) μ))) : qX7_isList G l a1 μ P := by
  refine Sp.of (by decide) (Nat.le_of_ble_eq_true rfl) (lv := [(0, .int a1)]) rfl ?_
  refine go_iload_n dX7_isList_0 rfl 0 rfl ?_
  refine go_iconst (v := 2) dX7_isList_1 (by decide) ?_
  refine go_icmp_lt 15 dX7_isList_2 (by decide) (fun c1 => ?_) (fun c1 => ?_)
  · have h := h.1 c1
    refine go_iconst (v := 0) dX7_isList_15 (by decide) ?_
    exact go_zret dX7_isList_16 rfl (Nat.le_refl _) (Nat.le_refl _) rfl ⟨_, rfl, h⟩
  · have h := h.2 c1
    refine go_iload_n dX7_isList_5 rfl 0 rfl ?_
    refine go_bipush (v := 7) dX7_isList_6 (by decide) ?_
    refine go_icmp_gt 15 dX7_isList_8 (by decide) (fun c2 => ?_) (fun c2 => ?_)
    · have h := h.1 c2
      refine go_iconst (v := 0) dX7_isList_15 (by decide) ?_
      exact go_zret dX7_isList_16 rfl (Nat.le_refl _) (Nat.le_refl _) rfl ⟨_, rfl, h⟩
    · have h := h.2 c2
      refine go_iconst (v := 1) dX7_isList_11 (by decide) ?_
      refine go_goto 16 dX7_isList_12 (by decide) ?_
      exact go_zret dX7_isList_16 rfl (Nat.le_refl _) (Nat.le_refl _) rfl ⟨_, rfl, h⟩
set_option maxRecDepth 100000 in
theorem eX4_faultOf {G : gC} {l : Launch} {a1 : Int32} {a2 : Int32} {a3 : Int32} {μ : Mem} {P : Int32 → Mem → Prop} (h : ((¬ a3 = 0) → (((2 : Int32) < a3) → P (2 : Int32) μ) ∧ ((¬ (2 : Int32) < a3) → vp_in a1 9 ∧ (((gz_greatest.getD a1.toNatClampNeg 0) < a2) → P (2 : Int32) μ) ∧ ((¬ (gz_greatest.getD a1.toNatClampNeg 0) < a2) → ((¬ a1 = 0) → hX4_faultOf_30 G l P a1 a2 μ) ∧ ((a1 = 0) → ((¬ a2 = 0) → hX4_faultOf_30 G l P a1 a2 μ) ∧ ((a2 = 0) → P (2 : Int32) μ))))) ∧ ((a3 = 0) → P (1 : Int32) μ)) : qX4_faultOf G l a1 a2 a3 μ P := by
  refine Sp.of (by decide) (Nat.le_of_ble_eq_true rfl) (lv := [(0, .ref (ga G 3)), (1, .int a1), (2, .int a2), (3, .int a3)]) rfl ?_
  refine go_iload_n dX4_faultOf_0 rfl 3 rfl ?_
  refine go_if_ne 6 dX4_faultOf_1 (by decide) (fun c1 => ?_) (fun c1 => ?_)
  · have h := h.1 c1
    refine go_iload_n dX4_faultOf_6 rfl 3 rfl ?_
    refine go_iconst (v := 2) dX4_faultOf_7 (by decide) ?_
    refine go_icmp_gt 28 dX4_faultOf_8 (by decide) (fun c2 => ?_) (fun c2 => ?_)
    · have h := h.1 c2
      refine go_iconst (v := 2) dX4_faultOf_28 (by decide) ?_
      exact go_iret dX4_faultOf_29 rfl (Nat.le_refl _) (Nat.le_refl _) ⟨_, rfl, h⟩
    · have h := h.2 c2
      refine go_iload_n dX4_faultOf_11 rfl 2 rfl ?_
      refine go_gets dX4_faultOf_12 (fun s hz => hz.2.2.2.1.1) (g_in 445 (by decide +kernel) rfl) ?_
      refine go_iload_n dX4_faultOf_15 rfl 1 rfl ?_
      obtain ⟨b3, h⟩ := h
      refine go_tald (f := fun j => gz_greatest.getD j 0) dX4_faultOf_16 (fun s hz => hz.2.2.2.1.2) b3 ?_
      refine go_icmp_gt 28 dX4_faultOf_17 (by decide) (fun c4 => ?_) (fun c4 => ?_)
      · have h := h.1 c4
        refine go_iconst (v := 2) dX4_faultOf_28 (by decide) ?_
        exact go_iret dX4_faultOf_29 rfl (Nat.le_refl _) (Nat.le_refl _) ⟨_, rfl, h⟩
      · have h := h.2 c4
        refine go_iload_n dX4_faultOf_20 rfl 1 rfl ?_
        refine go_if_ne 30 dX4_faultOf_21 (by decide) (fun c5 => ?_) (fun c5 => ?_)
        · have h := h.1 c5
          exact go_sub [0, 1, 2] rfl h
        · have h := h.2 c5
          refine go_iload_n dX4_faultOf_24 rfl 2 rfl ?_
          refine go_if_ne 30 dX4_faultOf_25 (by decide) (fun c6 => ?_) (fun c6 => ?_)
          · have h := h.1 c6
            exact go_sub [0, 1, 2] rfl h
          · have h := h.2 c6
            refine go_iconst (v := 2) dX4_faultOf_28 (by decide) ?_
            exact go_iret dX4_faultOf_29 rfl (Nat.le_refl _) (Nat.le_refl _) ⟨_, rfl, h⟩
  · have h := h.2 c1
    refine go_iconst (v := 1) dX4_faultOf_4 (by decide) ?_
    exact go_iret dX4_faultOf_5 rfl (Nat.le_refl _) (Nat.le_refl _) ⟨_, rfl, h⟩
set_option maxRecDepth 100000 in
theorem eX4_faultOf_30 {G : gC} {l : Launch} {P : Int32 → Mem → Prop} {x1 : Int32} {x2 : Int32} {μ : Mem} (h : qX7_isList G l x1 μ (fun (r8 : Int32) (μ7 : Mem) => ((r8 = 0) → ((¬ x1 = (3 : Int32)) → hX4_faultOf_80 G l P x1 x2 μ7) ∧ ((x1 = (3 : Int32)) → (¬ (gm_r μ7 3 1) = 0) ∧ ((x2 < (gm_r μ7 16 1)) → hX4_faultOf_80 G l P x1 x2 μ7) ∧ ((¬ x2 < (gm_r μ7 16 1)) → P (4 : Int32) μ7))) ∧ ((¬ r8 = 0) → (¬ (gm_r μ7 3 1) = 0) ∧ qX7_cell_16 G l (gm_r μ7 16 1) x1 μ7 (fun (r15 : Int32) (μ14 : Mem) => ((¬ ((r15 >>> (x2 &&& 31)) &&& (1 : Int32)) = (1 : Int32)) → ((¬ x1 = (3 : Int32)) → hX4_faultOf_80 G l P x1 x2 μ14) ∧ ((x1 = (3 : Int32)) → (¬ (gm_r μ14 3 1) = 0) ∧ ((x2 < (gm_r μ14 16 1)) → hX4_faultOf_80 G l P x1 x2 μ14) ∧ ((¬ x2 < (gm_r μ14 16 1)) → P (4 : Int32) μ14))) ∧ ((((r15 >>> (x2 &&& 31)) &&& (1 : Int32)) = (1 : Int32)) → P (3 : Int32) μ14))))) : hX4_faultOf_30 G l P x1 x2 μ := by
  refine go_iload_n dX4_faultOf_30 rfl 1 rfl ?_
  refine go_callS (As := [.int x1]) (rest := []) dX4_faultOf_31 lX4_82 kX7_isList rfl (by decide) (Nat.le_of_ble_eq_true rfl) (by decide) rfl (gI_go (fun r8 μ7 h => ?_)) h
  refine go_if_eq 62 dX4_faultOf_34 (by decide) (fun c9 => ?_) (fun c9 => ?_)
  · have h := h.1 c9
    refine go_iload_n dX4_faultOf_62 rfl 1 rfl ?_
    refine go_iconst (v := 3) dX4_faultOf_63 (by decide) ?_
    refine go_icmp_ne 80 dX4_faultOf_64 (by decide) (fun c10 => ?_) (fun c10 => ?_)
    · have h := h.1 c10
      exact h
    · have h := h.2 c10
      refine go_iload_n dX4_faultOf_67 rfl 2 rfl ?_
      refine go_aload_n dX4_faultOf_68 rfl 0 rfl ?_
      refine go_get ((if (gm_r μ7 3 1) = 0 then .null else .ref (ga G 16))) dX4_faultOf_69 fX4_19 (g_lt rfl) (gs_3 G _ _) rfl ?_
      obtain ⟨nn11, h⟩ := h
      refine go_nn nn11 ?_
      refine go_get (.int (gm_r μ7 16 1)) dX4_faultOf_72 fX4_23 (g_lt rfl) (gs_16 G _ _) rfl ?_
      refine go_icmp_lt 80 dX4_faultOf_75 (by decide) (fun c12 => ?_) (fun c12 => ?_)
      · have h := h.1 c12
        exact h
      · have h := h.2 c12
        refine go_iconst (v := 4) dX4_faultOf_78 (by decide) ?_
        exact go_iret dX4_faultOf_79 rfl (Nat.le_refl _) (Nat.le_refl _) ⟨_, rfl, h⟩
  · have h := h.2 c9
    refine go_aload_n dX4_faultOf_37 rfl 0 rfl ?_
    refine go_get ((if (gm_r μ7 3 1) = 0 then .null else .ref (ga G 16))) dX4_faultOf_38 fX4_19 (g_lt rfl) (gs_3 G _ _) rfl ?_
    obtain ⟨nn13, h⟩ := h
    refine go_nn nn13 ?_
    refine go_aload_n dX4_faultOf_41 rfl 0 rfl ?_
    refine go_get ((if (gm_r μ7 3 1) = 0 then .null else .ref (ga G 16))) dX4_faultOf_42 fX4_19 (g_lt rfl) (gs_3 G _ _) rfl ?_
    refine go_nn nn13 ?_
    refine go_get (.int (gm_r μ7 16 1)) dX4_faultOf_45 fX4_23 (g_lt rfl) (gs_16 G _ _) rfl ?_
    refine go_iload_n dX4_faultOf_48 rfl 1 rfl ?_
    refine go_callV (As := [.int (gm_r μ7 16 1), .int x1]) (rest := []) dX4_faultOf_49 lX4_108 kX7_cell rfl (by decide) (Nat.le_of_ble_eq_true rfl) (g_lt rfl) (gs_16 G _ _) rfl (by decide) rfl (gI_go (fun r15 μ14 h => ?_)) h
    refine go_iload_n dX4_faultOf_52 rfl 2 rfl ?_
    refine go_ishr dX4_faultOf_53 ?_
    refine go_iconst (v := 1) dX4_faultOf_54 (by decide) ?_
    refine go_iand dX4_faultOf_55 ?_
    refine go_iconst (v := 1) dX4_faultOf_56 (by decide) ?_
    refine go_icmp_ne 62 dX4_faultOf_57 (by decide) (fun c16 => ?_) (fun c16 => ?_)
    · have h := h.1 c16
      refine go_iload_n dX4_faultOf_62 rfl 1 rfl ?_
      refine go_iconst (v := 3) dX4_faultOf_63 (by decide) ?_
      refine go_icmp_ne 80 dX4_faultOf_64 (by decide) (fun c17 => ?_) (fun c17 => ?_)
      · have h := h.1 c17
        exact h
      · have h := h.2 c17
        refine go_iload_n dX4_faultOf_67 rfl 2 rfl ?_
        refine go_aload_n dX4_faultOf_68 rfl 0 rfl ?_
        refine go_get ((if (gm_r μ14 3 1) = 0 then .null else .ref (ga G 16))) dX4_faultOf_69 fX4_19 (g_lt rfl) (gs_3 G _ _) rfl ?_
        obtain ⟨nn18, h⟩ := h
        refine go_nn nn18 ?_
        refine go_get (.int (gm_r μ14 16 1)) dX4_faultOf_72 fX4_23 (g_lt rfl) (gs_16 G _ _) rfl ?_
        refine go_icmp_lt 80 dX4_faultOf_75 (by decide) (fun c19 => ?_) (fun c19 => ?_)
        · have h := h.1 c19
          exact h
        · have h := h.2 c19
          refine go_iconst (v := 4) dX4_faultOf_78 (by decide) ?_
          exact go_iret dX4_faultOf_79 rfl (Nat.le_refl _) (Nat.le_refl _) ⟨_, rfl, h⟩
    · have h := h.2 c16
      refine go_iconst (v := 3) dX4_faultOf_60 (by decide) ?_
      exact go_iret dX4_faultOf_61 rfl (Nat.le_refl _) (Nat.le_refl _) ⟨_, rfl, h⟩
set_option maxRecDepth 100000 in
theorem eX4_faultOf_80 {G : gC} {l : Launch} {P : Int32 → Mem → Prop} {x1 : Int32} {x2 : Int32} {μ : Mem} (h : ((¬ x1 = (4 : Int32)) → ((¬ x1 = (5 : Int32)) → hX4_faultOf_117 G l P x1 x2 μ) ∧ ((x1 = (5 : Int32)) → ((¬ (((gm_r μ 3 6) >>> (x2 &&& 31)) &&& (1 : Int32)) = (1 : Int32)) → hX4_faultOf_117 G l P x1 x2 μ) ∧ (((((gm_r μ 3 6) >>> (x2 &&& 31)) &&& (1 : Int32)) = (1 : Int32)) → P (6 : Int32) μ))) ∧ ((x1 = (4 : Int32)) → (((((gm_r μ 3 5) >>> (x2 &&& 31)) &&& (1 : Int32)) = (1 : Int32)) → P (6 : Int32) μ) ∧ ((¬ (((gm_r μ 3 5) >>> (x2 &&& 31)) &&& (1 : Int32)) = (1 : Int32)) → ((¬ x1 = (5 : Int32)) → hX4_faultOf_117 G l P x1 x2 μ) ∧ ((x1 = (5 : Int32)) → ((¬ (((gm_r μ 3 6) >>> (x2 &&& 31)) &&& (1 : Int32)) = (1 : Int32)) → hX4_faultOf_117 G l P x1 x2 μ) ∧ (((((gm_r μ 3 6) >>> (x2 &&& 31)) &&& (1 : Int32)) = (1 : Int32)) → P (6 : Int32) μ))))) : hX4_faultOf_80 G l P x1 x2 μ := by
  refine go_iload_n dX4_faultOf_80 rfl 1 rfl ?_
  refine go_iconst (v := 4) dX4_faultOf_81 (by decide) ?_
  refine go_icmp_ne 97 dX4_faultOf_82 (by decide) (fun c20 => ?_) (fun c20 => ?_)
  · have h := h.1 c20
    refine go_iload_n dX4_faultOf_97 rfl 1 rfl ?_
    refine go_iconst (v := 5) dX4_faultOf_98 (by decide) ?_
    refine go_icmp_ne 117 dX4_faultOf_99 (by decide) (fun c21 => ?_) (fun c21 => ?_)
    · have h := h.1 c21
      exact h
    · have h := h.2 c21
      refine go_aload_n dX4_faultOf_102 rfl 0 rfl ?_
      refine go_get (.int (gm_r μ 3 6)) dX4_faultOf_103 fX4_37 (g_lt rfl) (gs_3 G _ _) rfl ?_
      refine go_iload_n dX4_faultOf_106 rfl 2 rfl ?_
      refine go_ishr dX4_faultOf_107 ?_
      refine go_iconst (v := 1) dX4_faultOf_108 (by decide) ?_
      refine go_iand dX4_faultOf_109 ?_
      refine go_iconst (v := 1) dX4_faultOf_110 (by decide) ?_
      refine go_icmp_ne 117 dX4_faultOf_111 (by decide) (fun c22 => ?_) (fun c22 => ?_)
      · have h := h.1 c22
        exact h
      · have h := h.2 c22
        refine go_bipush (v := 6) dX4_faultOf_114 (by decide) ?_
        exact go_iret dX4_faultOf_116 rfl (Nat.le_refl _) (Nat.le_refl _) ⟨_, rfl, h⟩
  · have h := h.2 c20
    refine go_aload_n dX4_faultOf_85 rfl 0 rfl ?_
    refine go_get (.int (gm_r μ 3 5)) dX4_faultOf_86 fX4_34 (g_lt rfl) (gs_3 G _ _) rfl ?_
    refine go_iload_n dX4_faultOf_89 rfl 2 rfl ?_
    refine go_ishr dX4_faultOf_90 ?_
    refine go_iconst (v := 1) dX4_faultOf_91 (by decide) ?_
    refine go_iand dX4_faultOf_92 ?_
    refine go_iconst (v := 1) dX4_faultOf_93 (by decide) ?_
    refine go_icmp_eq 114 dX4_faultOf_94 (by decide) (fun c23 => ?_) (fun c23 => ?_)
    · have h := h.1 c23
      refine go_bipush (v := 6) dX4_faultOf_114 (by decide) ?_
      exact go_iret dX4_faultOf_116 rfl (Nat.le_refl _) (Nat.le_refl _) ⟨_, rfl, h⟩
    · have h := h.2 c23
      refine go_iload_n dX4_faultOf_97 rfl 1 rfl ?_
      refine go_iconst (v := 5) dX4_faultOf_98 (by decide) ?_
      refine go_icmp_ne 117 dX4_faultOf_99 (by decide) (fun c24 => ?_) (fun c24 => ?_)
      · have h := h.1 c24
        exact h
      · have h := h.2 c24
        refine go_aload_n dX4_faultOf_102 rfl 0 rfl ?_
        refine go_get (.int (gm_r μ 3 6)) dX4_faultOf_103 fX4_37 (g_lt rfl) (gs_3 G _ _) rfl ?_
        refine go_iload_n dX4_faultOf_106 rfl 2 rfl ?_
        refine go_ishr dX4_faultOf_107 ?_
        refine go_iconst (v := 1) dX4_faultOf_108 (by decide) ?_
        refine go_iand dX4_faultOf_109 ?_
        refine go_iconst (v := 1) dX4_faultOf_110 (by decide) ?_
        refine go_icmp_ne 117 dX4_faultOf_111 (by decide) (fun c25 => ?_) (fun c25 => ?_)
        · have h := h.1 c25
          exact h
        · have h := h.2 c25
          refine go_bipush (v := 6) dX4_faultOf_114 (by decide) ?_
          exact go_iret dX4_faultOf_116 rfl (Nat.le_refl _) (Nat.le_refl _) ⟨_, rfl, h⟩
set_option maxRecDepth 100000 in
theorem eX4_faultOf_117 {G : gC} {l : Launch} {P : Int32 → Mem → Prop} {x1 : Int32} {x2 : Int32} {μ : Mem} (h : ((¬ x1 = (8 : Int32)) → P (0 : Int32) μ) ∧ ((x1 = (8 : Int32)) → ((¬ (((gm_r μ 3 7) >>> (x2 &&& 31)) &&& (1 : Int32)) = (1 : Int32)) → P (0 : Int32) μ) ∧ (((((gm_r μ 3 7) >>> (x2 &&& 31)) &&& (1 : Int32)) = (1 : Int32)) → P (7 : Int32) μ))) : hX4_faultOf_117 G l P x1 x2 μ := by
  refine go_iload_n dX4_faultOf_117 rfl 1 rfl ?_
  refine go_bipush (v := 8) dX4_faultOf_118 (by decide) ?_
  refine go_icmp_ne 140 dX4_faultOf_120 (by decide) (fun c26 => ?_) (fun c26 => ?_)
  · have h := h.1 c26
    refine go_iconst (v := 0) dX4_faultOf_140 (by decide) ?_
    exact go_iret dX4_faultOf_141 rfl (Nat.le_refl _) (Nat.le_refl _) ⟨_, rfl, h⟩
  · have h := h.2 c26
    refine go_aload_n dX4_faultOf_123 rfl 0 rfl ?_
    refine go_get (.int (gm_r μ 3 7)) dX4_faultOf_124 fX4_40 (g_lt rfl) (gs_3 G _ _) rfl ?_
    refine go_iload_n dX4_faultOf_127 rfl 2 rfl ?_
    refine go_ishr dX4_faultOf_128 ?_
    refine go_iconst (v := 1) dX4_faultOf_129 (by decide) ?_
    refine go_iand dX4_faultOf_130 ?_
    refine go_iconst (v := 1) dX4_faultOf_131 (by decide) ?_
    refine go_icmp_ne 140 dX4_faultOf_132 (by decide) (fun c27 => ?_) (fun c27 => ?_)
    · have h := h.1 c27
      refine go_iconst (v := 0) dX4_faultOf_140 (by decide) ?_
      exact go_iret dX4_faultOf_141 rfl (Nat.le_refl _) (Nat.le_refl _) ⟨_, rfl, h⟩
    · have h := h.2 c27
      refine go_bipush (v := 7) dX4_faultOf_135 (by decide) ?_
      refine go_goto 141 dX4_faultOf_137 (by decide) ?_
      exact go_iret dX4_faultOf_141 rfl (Nat.le_refl _) (Nat.le_refl _) ⟨_, rfl, h⟩
set_option maxRecDepth 100000 in
theorem eX8_at {G : gC} {l : Launch} {a1 : Int32} {μ : Mem} {P : Int32 → Mem → Prop} (h : ((a1 < 0) → P (-1 : Int32) μ) ∧ ((¬ a1 < 0) → (((gm_r μ 1 1) ≤ a1) → P (-1 : Int32) μ) ∧ ((¬ (gm_r μ 1 1) ≤ a1) → vp_in a1 400 ∧ P (gm_r μ 2 a1.toNatClampNeg) μ))) : qX8_at G l a1 μ P := by
  refine Sp.of (by decide) (Nat.le_of_ble_eq_true rfl) (lv := [(0, .ref (ga G 1)), (1, .int a1)]) rfl ?_
  refine go_iload_n dX8_at_0 rfl 1 rfl ?_
  refine go_if_lt 21 dX8_at_1 (by decide) (fun c1 => ?_) (fun c1 => ?_)
  · have h := h.1 c1
    refine go_iconst (v := -1) dX8_at_21 (by decide) ?_
    exact go_iret dX8_at_22 rfl (Nat.le_refl _) (Nat.le_refl _) ⟨_, rfl, h⟩
  · have h := h.2 c1
    refine go_iload_n dX8_at_4 rfl 1 rfl ?_
    refine go_aload_n dX8_at_5 rfl 0 rfl ?_
    refine go_get (.int (gm_r μ 1 1)) dX8_at_6 fX8_15 (g_lt rfl) (gs_1 G _ _) rfl ?_
    refine go_icmp_ge 21 dX8_at_9 (by decide) (fun c2 => ?_) (fun c2 => ?_)
    · have h := h.1 c2
      refine go_iconst (v := -1) dX8_at_21 (by decide) ?_
      exact go_iret dX8_at_22 rfl (Nat.le_refl _) (Nat.le_refl _) ⟨_, rfl, h⟩
    · have h := h.2 c2
      refine go_aload_n dX8_at_12 rfl 0 rfl ?_
      refine go_get (.ref (ga G 2)) dX8_at_13 fX8_9 (g_lt rfl) (gs_1 G _ _) rfl ?_
      refine go_iload_n dX8_at_16 rfl 1 rfl ?_
      obtain ⟨b3, h⟩ := h
      refine go_ialdv ((gm_r μ 2 a1.toNatClampNeg)) dX8_at_17 (g_lt rfl) (gs_2 G) b3 rfl ?_
      refine go_goto 22 dX8_at_18 (by decide) ?_
      exact go_iret dX8_at_22 rfl (Nat.le_refl _) (Nat.le_refl _) ⟨_, rfl, h⟩
set_option maxRecDepth 100000 in
theorem eX4_skipBlanks {G : gC} {l : Launch}  {μ : Mem} {P : Mem → Prop} (h : hX4_skipBlanks_0 G l P  μ) : qX4_skipBlanks G l  μ P := by
  refine Sp.of (by decide) (Nat.le_of_ble_eq_true rfl) (lv := [(0, .ref (ga G 3))]) rfl ?_
  exact h
set_option maxRecDepth 100000 in
theorem eX4_skipBlanks_0 {G : gC} {l : Launch} {P : Mem → Prop}  {μ : Mem} (h : (((gm_r μ 1 1) ≤ (gm_r μ 3 2)) → P μ) ∧ ((¬ (gm_r μ 1 1) ≤ (gm_r μ 3 2)) → qX8_at G l (gm_r μ 3 2) μ (fun (r3 : Int32) (μ2 : Mem) => ((¬ r3 = (32 : Int32)) → P μ2) ∧ ((r3 = (32 : Int32)) → hX4_skipBlanks_0 G l P  (gm_w μ2 3 2 ((gm_r μ2 3 2) + (1 : Int32))))))) : hX4_skipBlanks_0 G l P  μ := by
  refine go_aload_n dX4_skipBlanks_0 rfl 0 rfl ?_
  refine go_get (.int (gm_r μ 3 2)) dX4_skipBlanks_1 fX4_28 (g_lt rfl) (gs_3 G _ _) rfl ?_
  refine go_aload_n dX4_skipBlanks_4 rfl 0 rfl ?_
  refine go_get (.ref (ga G 1)) dX4_skipBlanks_5 fX4_15 (g_lt rfl) (gs_3 G _ _) rfl ?_
  refine go_get (.int (gm_r μ 1 1)) dX4_skipBlanks_8 fX4_46 (g_lt rfl) (gs_1 G _ _) rfl ?_
  refine go_icmp_ge 43 dX4_skipBlanks_11 (by decide) (fun c1 => ?_) (fun c1 => ?_)
  · have h := h.1 c1
    exact go_vret dX4_skipBlanks_43 rfl (Nat.le_refl _) (Nat.le_refl _) ⟨rfl, h⟩
  · have h := h.2 c1
    refine go_aload_n dX4_skipBlanks_14 rfl 0 rfl ?_
    refine go_get (.ref (ga G 1)) dX4_skipBlanks_15 fX4_15 (g_lt rfl) (gs_3 G _ _) rfl ?_
    refine go_aload_n dX4_skipBlanks_18 rfl 0 rfl ?_
    refine go_get (.int (gm_r μ 3 2)) dX4_skipBlanks_19 fX4_28 (g_lt rfl) (gs_3 G _ _) rfl ?_
    refine go_callV (As := [.int (gm_r μ 3 2)]) (rest := []) dX4_skipBlanks_22 lX4_54 kX8_at rfl (by decide) (Nat.le_of_ble_eq_true rfl) (g_lt rfl) (gs_1 G _ _) rfl (by decide) rfl (gI_go (fun r3 μ2 h => ?_)) h
    refine go_bipush (v := 32) dX4_skipBlanks_25 (by decide) ?_
    refine go_icmp_ne 43 dX4_skipBlanks_27 (by decide) (fun c4 => ?_) (fun c4 => ?_)
    · have h := h.1 c4
      exact go_vret dX4_skipBlanks_43 rfl (Nat.le_refl _) (Nat.le_refl _) ⟨rfl, h⟩
    · have h := h.2 c4
      refine go_aload_n dX4_skipBlanks_30 rfl 0 rfl ?_
      refine go_dup dX4_skipBlanks_31 rfl ?_
      refine go_get (.int (gm_r μ2 3 2)) dX4_skipBlanks_32 fX4_28 (g_lt rfl) (gs_3 G _ _) rfl ?_
      refine go_iconst (v := 1) dX4_skipBlanks_35 (by decide) ?_
      refine go_iadd dX4_skipBlanks_36 ?_
      refine go_puti dX4_skipBlanks_37 pX4_28 (g_lt rfl) (gs_3 G _ _) (Nat.le_of_ble_eq_true rfl) rfl ?_
      refine go_goto 0 dX4_skipBlanks_40 (by decide) ?_
      exact h
set_option maxRecDepth 100000 in
theorem eX7_include_16 {G : gC} {l : Launch} {a1 : Int32} {a2 : Int32} {a3 : Int32} {μ : Mem} {P : Mem → Prop} (h : ((a1 < 0) → P μ) ∧ ((¬ a1 < 0) → (((10 : Int32) ≤ a1) → P μ) ∧ ((¬ (10 : Int32) ≤ a1) → ((a2 < 0) → P μ) ∧ ((¬ a2 < 0) → (((9 : Int32) ≤ a2) → P μ) ∧ ((¬ (9 : Int32) ≤ a2) → vp_in a1 10 ∧ vp_in a2 9 ∧ P (gm_w μ (17 + 1 + a1.toNatClampNeg) a2.toNatClampNeg ((gm_r μ (17 + 1 + a1.toNatClampNeg) a2.toNatClampNeg) ||| ((1 : Int32) <<< (a3 &&& 31))))))))) : qX7_include_16 G l a1 a2 a3 μ P := by
  refine Sp.of (by decide) (Nat.le_of_ble_eq_true rfl) (lv := [(0, .ref (ga G 16)), (1, .int a1), (2, .int a2), (3, .int a3)]) rfl ?_
  refine go_iload_n dX7_include_0 rfl 1 rfl ?_
  refine go_if_lt 34 dX7_include_1 (by decide) (fun c1 => ?_) (fun c1 => ?_)
  · have h := h.1 c1
    exact go_vret dX7_include_34 rfl (Nat.le_refl _) (Nat.le_refl _) ⟨rfl, h⟩
  · have h := h.2 c1
    refine go_iload_n dX7_include_4 rfl 1 rfl ?_
    refine go_bipush (v := 10) dX7_include_5 (by decide) ?_
    refine go_icmp_ge 34 dX7_include_7 (by decide) (fun c2 => ?_) (fun c2 => ?_)
    · have h := h.1 c2
      exact go_vret dX7_include_34 rfl (Nat.le_refl _) (Nat.le_refl _) ⟨rfl, h⟩
    · have h := h.2 c2
      refine go_iload_n dX7_include_10 rfl 2 rfl ?_
      refine go_if_lt 34 dX7_include_11 (by decide) (fun c3 => ?_) (fun c3 => ?_)
      · have h := h.1 c3
        exact go_vret dX7_include_34 rfl (Nat.le_refl _) (Nat.le_refl _) ⟨rfl, h⟩
      · have h := h.2 c3
        refine go_iload_n dX7_include_14 rfl 2 rfl ?_
        refine go_bipush (v := 9) dX7_include_15 (by decide) ?_
        refine go_icmp_ge 34 dX7_include_17 (by decide) (fun c4 => ?_) (fun c4 => ?_)
        · have h := h.1 c4
          exact go_vret dX7_include_34 rfl (Nat.le_refl _) (Nat.le_refl _) ⟨rfl, h⟩
        · have h := h.2 c4
          refine go_aload_n dX7_include_20 rfl 0 rfl ?_
          refine go_get (.ref (ga G 17)) dX7_include_21 fX7_13 (g_lt rfl) (gs_16 G _ _) rfl ?_
          refine go_iload_n dX7_include_24 rfl 1 rfl ?_
          obtain ⟨b5, h⟩ := h
          refine go_aald dX7_include_25 (g_lt rfl) (gs_17 G) b5 ?_
          refine go_iload_n dX7_include_26 rfl 2 rfl ?_
          refine go_dup2 dX7_include_27 rfl rfl ?_
          obtain ⟨b6, h⟩ := h
          refine go_ialdv ((gm_r μ (17 + 1 + a1.toNatClampNeg) a2.toNatClampNeg)) dX7_include_28 (gl_17 (vp_lt b5)) (gn_17 G (vp_lt b5)) b6 rfl ?_
          refine go_iconst (v := 1) dX7_include_29 (by decide) ?_
          refine go_iload_n dX7_include_30 rfl 3 rfl ?_
          refine go_ishl dX7_include_31 ?_
          refine go_ior dX7_include_32 ?_
          refine go_iast dX7_include_33 (gl_17 (vp_lt b5)) (gn_17 G (vp_lt b5)) b6 ?_
          exact go_vret dX7_include_34 rfl (Nat.le_refl _) (Nat.le_refl _) ⟨rfl, h⟩
set_option maxRecDepth 100000 in
theorem eX7_put_16 {G : gC} {l : Launch} {a1 : Int32} {a2 : Int32} {a3 : Int32} {μ : Mem} {P : Mem → Prop} (h : ((a1 < 0) → P μ) ∧ ((¬ a1 < 0) → (((10 : Int32) ≤ a1) → P μ) ∧ ((¬ (10 : Int32) ≤ a1) → ((a2 < 0) → P μ) ∧ ((¬ a2 < 0) → (((9 : Int32) ≤ a2) → P μ) ∧ ((¬ (9 : Int32) ≤ a2) → vp_in a1 10 ∧ vp_in a2 9 ∧ P (gm_w μ (17 + 1 + a1.toNatClampNeg) a2.toNatClampNeg a3)))))) : qX7_put_16 G l a1 a2 a3 μ P := by
  refine Sp.of (by decide) (Nat.le_of_ble_eq_true rfl) (lv := [(0, .ref (ga G 16)), (1, .int a1), (2, .int a2), (3, .int a3)]) rfl ?_
  refine go_iload_n dX7_put_0 rfl 1 rfl ?_
  refine go_if_lt 29 dX7_put_1 (by decide) (fun c1 => ?_) (fun c1 => ?_)
  · have h := h.1 c1
    exact go_vret dX7_put_29 rfl (Nat.le_refl _) (Nat.le_refl _) ⟨rfl, h⟩
  · have h := h.2 c1
    refine go_iload_n dX7_put_4 rfl 1 rfl ?_
    refine go_bipush (v := 10) dX7_put_5 (by decide) ?_
    refine go_icmp_ge 29 dX7_put_7 (by decide) (fun c2 => ?_) (fun c2 => ?_)
    · have h := h.1 c2
      exact go_vret dX7_put_29 rfl (Nat.le_refl _) (Nat.le_refl _) ⟨rfl, h⟩
    · have h := h.2 c2
      refine go_iload_n dX7_put_10 rfl 2 rfl ?_
      refine go_if_lt 29 dX7_put_11 (by decide) (fun c3 => ?_) (fun c3 => ?_)
      · have h := h.1 c3
        exact go_vret dX7_put_29 rfl (Nat.le_refl _) (Nat.le_refl _) ⟨rfl, h⟩
      · have h := h.2 c3
        refine go_iload_n dX7_put_14 rfl 2 rfl ?_
        refine go_bipush (v := 9) dX7_put_15 (by decide) ?_
        refine go_icmp_ge 29 dX7_put_17 (by decide) (fun c4 => ?_) (fun c4 => ?_)
        · have h := h.1 c4
          exact go_vret dX7_put_29 rfl (Nat.le_refl _) (Nat.le_refl _) ⟨rfl, h⟩
        · have h := h.2 c4
          refine go_aload_n dX7_put_20 rfl 0 rfl ?_
          refine go_get (.ref (ga G 17)) dX7_put_21 fX7_13 (g_lt rfl) (gs_16 G _ _) rfl ?_
          refine go_iload_n dX7_put_24 rfl 1 rfl ?_
          obtain ⟨b5, h⟩ := h
          refine go_aald dX7_put_25 (g_lt rfl) (gs_17 G) b5 ?_
          refine go_iload_n dX7_put_26 rfl 2 rfl ?_
          refine go_iload_n dX7_put_27 rfl 3 rfl ?_
          obtain ⟨b6, h⟩ := h
          refine go_iast dX7_put_28 (gl_17 (vp_lt b5)) (gn_17 G (vp_lt b5)) b6 ?_
          exact go_vret dX7_put_29 rfl (Nat.le_refl _) (Nat.le_refl _) ⟨rfl, h⟩
set_option maxRecDepth 100000 in
theorem eX4_take {G : gC} {l : Launch} {a1 : Int32} {a2 : Int32} {μ : Mem} {P : Mem → Prop} (h : qX7_isList G l a1 μ (fun (r2 : Int32) (μ1 : Mem) => ((r2 = 0) → (¬ (gm_r μ1 3 1) = 0) ∧ qX7_put_16 G l (gm_r μ1 16 1) a1 a2 μ1 (fun (μ5 : Mem) => hX4_take_42 G l P a1 a2 μ5)) ∧ ((¬ r2 = 0) → (¬ (gm_r μ1 3 1) = 0) ∧ qX7_include_16 G l (gm_r μ1 16 1) a1 a2 μ1 (fun (μ8 : Mem) => hX4_take_42 G l P a1 a2 μ8)))) : qX4_take G l a1 a2 μ P := by
  refine Sp.of (by decide) (Nat.le_of_ble_eq_true rfl) (lv := [(0, .ref (ga G 3)), (1, .int a1), (2, .int a2)]) rfl ?_
  refine go_iload_n dX4_take_0 rfl 1 rfl ?_
  refine go_callS (As := [.int a1]) (rest := []) dX4_take_1 lX4_82 kX7_isList rfl (by decide) (Nat.le_of_ble_eq_true rfl) (by decide) rfl (gI_go (fun r2 μ1 h => ?_)) h
  refine go_if_eq 26 dX4_take_4 (by decide) (fun c3 => ?_) (fun c3 => ?_)
  · have h := h.1 c3
    refine go_aload_n dX4_take_26 rfl 0 rfl ?_
    refine go_get ((if (gm_r μ1 3 1) = 0 then .null else .ref (ga G 16))) dX4_take_27 fX4_19 (g_lt rfl) (gs_3 G _ _) rfl ?_
    obtain ⟨nn4, h⟩ := h
    refine go_nn nn4 ?_
    refine go_aload_n dX4_take_30 rfl 0 rfl ?_
    refine go_get ((if (gm_r μ1 3 1) = 0 then .null else .ref (ga G 16))) dX4_take_31 fX4_19 (g_lt rfl) (gs_3 G _ _) rfl ?_
    refine go_nn nn4 ?_
    refine go_get (.int (gm_r μ1 16 1)) dX4_take_34 fX4_23 (g_lt rfl) (gs_16 G _ _) rfl ?_
    refine go_iload_n dX4_take_37 rfl 1 rfl ?_
    refine go_iload_n dX4_take_38 rfl 2 rfl ?_
    refine go_callV (As := [.int (gm_r μ1 16 1), .int a1, .int a2]) (rest := []) dX4_take_39 lX4_116 kX7_put rfl (by decide) (Nat.le_of_ble_eq_true rfl) (g_lt rfl) (gs_16 G _ _) rfl (by decide) rfl (gV_go (fun μ5 h => ?_)) h
    exact h
  · have h := h.2 c3
    refine go_aload_n dX4_take_7 rfl 0 rfl ?_
    refine go_get ((if (gm_r μ1 3 1) = 0 then .null else .ref (ga G 16))) dX4_take_8 fX4_19 (g_lt rfl) (gs_3 G _ _) rfl ?_
    obtain ⟨nn7, h⟩ := h
    refine go_nn nn7 ?_
    refine go_aload_n dX4_take_11 rfl 0 rfl ?_
    refine go_get ((if (gm_r μ1 3 1) = 0 then .null else .ref (ga G 16))) dX4_take_12 fX4_19 (g_lt rfl) (gs_3 G _ _) rfl ?_
    refine go_nn nn7 ?_
    refine go_get (.int (gm_r μ1 16 1)) dX4_take_15 fX4_23 (g_lt rfl) (gs_16 G _ _) rfl ?_
    refine go_iload_n dX4_take_18 rfl 1 rfl ?_
    refine go_iload_n dX4_take_19 rfl 2 rfl ?_
    refine go_callV (As := [.int (gm_r μ1 16 1), .int a1, .int a2]) (rest := []) dX4_take_20 lX4_112 kX7_include rfl (by decide) (Nat.le_of_ble_eq_true rfl) (g_lt rfl) (gs_16 G _ _) rfl (by decide) rfl (gV_go (fun μ8 h => ?_)) h
    refine go_goto 42 dX4_take_23 (by decide) ?_
    exact h
set_option maxRecDepth 100000 in
theorem eX4_take_42 {G : gC} {l : Launch} {P : Mem → Prop} {x1 : Int32} {x2 : Int32} {μ : Mem} (h : ((¬ x1 = (4 : Int32)) → ((¬ x1 = (5 : Int32)) → ((¬ x1 = (8 : Int32)) → P μ) ∧ ((x1 = (8 : Int32)) → (¬ (gm_r μ 3 1) = 0) ∧ qX7_include_16 G l (gm_r μ 16 1) (2 : Int32) x2 (gm_w μ 3 7 ((gm_r μ 3 7) ||| ((1 : Int32) <<< (x2 &&& 31)))) (fun (μ14 : Mem) => P μ14))) ∧ ((x1 = (5 : Int32)) → P (gm_w μ 3 6 ((gm_r μ 3 6) ||| ((1 : Int32) <<< (x2 &&& 31)))))) ∧ ((x1 = (4 : Int32)) → P (gm_w μ 3 5 ((gm_r μ 3 5) ||| ((1 : Int32) <<< (x2 &&& 31)))))) : hX4_take_42 G l P x1 x2 μ := by
  refine go_iload_n dX4_take_42 rfl 1 rfl ?_
  refine go_iconst (v := 4) dX4_take_43 (by decide) ?_
  refine go_icmp_ne 62 dX4_take_44 (by decide) (fun c10 => ?_) (fun c10 => ?_)
  · have h := h.1 c10
    refine go_iload_n dX4_take_62 rfl 1 rfl ?_
    refine go_iconst (v := 5) dX4_take_63 (by decide) ?_
    refine go_icmp_ne 82 dX4_take_64 (by decide) (fun c11 => ?_) (fun c11 => ?_)
    · have h := h.1 c11
      refine go_iload_n dX4_take_82 rfl 1 rfl ?_
      refine go_bipush (v := 8) dX4_take_83 (by decide) ?_
      refine go_icmp_ne 116 dX4_take_85 (by decide) (fun c12 => ?_) (fun c12 => ?_)
      · have h := h.1 c12
        exact go_vret dX4_take_116 rfl (Nat.le_refl _) (Nat.le_refl _) ⟨rfl, h⟩
      · have h := h.2 c12
        refine go_aload_n dX4_take_88 rfl 0 rfl ?_
        refine go_dup dX4_take_89 rfl ?_
        refine go_get (.int (gm_r μ 3 7)) dX4_take_90 fX4_40 (g_lt rfl) (gs_3 G _ _) rfl ?_
        refine go_iconst (v := 1) dX4_take_93 (by decide) ?_
        refine go_iload_n dX4_take_94 rfl 2 rfl ?_
        refine go_ishl dX4_take_95 ?_
        refine go_ior dX4_take_96 ?_
        refine go_puti dX4_take_97 pX4_40 (g_lt rfl) (gs_3 G _ _) (Nat.le_of_ble_eq_true rfl) rfl ?_
        refine go_aload_n dX4_take_100 rfl 0 rfl ?_
        refine go_get ((if (gm_r μ 3 1) = 0 then .null else .ref (ga G 16))) dX4_take_101 fX4_19 (g_lt rfl) (gs_3 G _ _) rfl ?_
        obtain ⟨nn13, h⟩ := h
        refine go_nn nn13 ?_
        refine go_aload_n dX4_take_104 rfl 0 rfl ?_
        refine go_get ((if (gm_r μ 3 1) = 0 then .null else .ref (ga G 16))) dX4_take_105 fX4_19 (g_lt rfl) (gs_3 G _ _) rfl ?_
        refine go_nn nn13 ?_
        refine go_get (.int (gm_r μ 16 1)) dX4_take_108 fX4_23 (g_lt rfl) (gs_16 G _ _) rfl ?_
        refine go_iconst (v := 2) dX4_take_111 (by decide) ?_
        refine go_iload_n dX4_take_112 rfl 2 rfl ?_
        refine go_callV (As := [.int (gm_r μ 16 1), .int (2 : Int32), .int x2]) (rest := []) dX4_take_113 lX4_112 kX7_include rfl (by decide) (Nat.le_of_ble_eq_true rfl) (g_lt rfl) (gs_16 G _ _) rfl (by decide) rfl (gV_go (fun μ14 h => ?_)) h
        exact go_vret dX4_take_116 rfl (Nat.le_refl _) (Nat.le_refl _) ⟨rfl, h⟩
    · have h := h.2 c11
      refine go_aload_n dX4_take_67 rfl 0 rfl ?_
      refine go_dup dX4_take_68 rfl ?_
      refine go_get (.int (gm_r μ 3 6)) dX4_take_69 fX4_37 (g_lt rfl) (gs_3 G _ _) rfl ?_
      refine go_iconst (v := 1) dX4_take_72 (by decide) ?_
      refine go_iload_n dX4_take_73 rfl 2 rfl ?_
      refine go_ishl dX4_take_74 ?_
      refine go_ior dX4_take_75 ?_
      refine go_puti dX4_take_76 pX4_37 (g_lt rfl) (gs_3 G _ _) (Nat.le_of_ble_eq_true rfl) rfl ?_
      refine go_goto 116 dX4_take_79 (by decide) ?_
      exact go_vret dX4_take_116 rfl (Nat.le_refl _) (Nat.le_refl _) ⟨rfl, h⟩
  · have h := h.2 c10
    refine go_aload_n dX4_take_47 rfl 0 rfl ?_
    refine go_dup dX4_take_48 rfl ?_
    refine go_get (.int (gm_r μ 3 5)) dX4_take_49 fX4_34 (g_lt rfl) (gs_3 G _ _) rfl ?_
    refine go_iconst (v := 1) dX4_take_52 (by decide) ?_
    refine go_iload_n dX4_take_53 rfl 2 rfl ?_
    refine go_ishl dX4_take_54 ?_
    refine go_ior dX4_take_55 ?_
    refine go_puti dX4_take_56 pX4_34 (g_lt rfl) (gs_3 G _ _) (Nat.le_of_ble_eq_true rfl) rfl ?_
    refine go_goto 116 dX4_take_59 (by decide) ?_
    exact go_vret dX4_take_116 rfl (Nat.le_refl _) (Nat.le_refl _) ⟨rfl, h⟩
set_option maxRecDepth 100000 in
theorem eX4_readNumber {G : gC} {l : Launch} {a1 : Int32} {μ : Mem} {P : Mem → Prop} (h : qX4_skipBlanks G l  μ (fun (μ1 : Mem) => hX4_readNumber_11 G l P a1 (gm_r μ1 3 2) (0 : Int32) μ1)) : qX4_readNumber G l a1 μ P := by
  refine Sp.of (by decide) (Nat.le_of_ble_eq_true rfl) (lv := [(0, .ref (ga G 3)), (1, .int a1)]) rfl ?_
  refine go_aload_n dX4_readNumber_0 rfl 0 rfl ?_
  refine go_callV (As := []) (rest := []) dX4_readNumber_1 lX4_43 kX4_skipBlanks rfl (by decide) (Nat.le_of_ble_eq_true rfl) (g_lt rfl) (gs_3 G _ _) rfl (by decide) rfl (gV_go (fun μ1 h => ?_)) h
  refine go_aload_n dX4_readNumber_4 rfl 0 rfl ?_
  refine go_get (.int (gm_r μ1 3 2)) dX4_readNumber_5 fX4_28 (g_lt rfl) (gs_3 G _ _) rfl ?_
  refine go_istore_n [(0, .ref (ga G 3)), (1, .int a1), (2, .int (gm_r μ1 3 2))] [1, 2, 0] dX4_readNumber_8 rfl (by decide) rfl ?_
  refine go_iconst (v := 0) dX4_readNumber_9 (by decide) ?_
  refine go_istore_n [(0, .ref (ga G 3)), (1, .int a1), (2, .int (gm_r μ1 3 2)), (3, .int (0 : Int32))] [1, 2, 3, 0] dX4_readNumber_10 rfl (by decide) rfl ?_
  exact h
set_option maxRecDepth 100000 in
theorem eX4_readNumber_11 {G : gC} {l : Launch} {P : Mem → Prop} {x1 : Int32} {x2 : Int32} {x3 : Int32} {μ : Mem} (h : (((gm_r μ 1 1) ≤ (gm_r μ 3 2)) → hX4_readNumber_93 G l P x1 x2 x3 μ) ∧ ((¬ (gm_r μ 1 1) ≤ (gm_r μ 3 2)) → qX8_at G l (gm_r μ 3 2) μ (fun (r5 : Int32) (μ4 : Mem) => ((r5 < (48 : Int32)) → hX4_readNumber_93 G l P x1 x2 x3 μ4) ∧ ((¬ r5 < (48 : Int32)) → qX8_at G l (gm_r μ4 3 2) μ4 (fun (r8 : Int32) (μ7 : Mem) => (((57 : Int32) < r8) → hX4_readNumber_93 G l P x1 x2 x3 μ7) ∧ ((¬ (57 : Int32) < r8) → qX8_at G l (gm_r μ7 3 2) μ7 (fun (r11 : Int32) (μ10 : Mem) => ∀ v12 : Int32, v12 = ((((x3 - x3 / (100 : Int32) * (100 : Int32)) * (10 : Int32)) + r11) - (48 : Int32)) → hX4_readNumber_11 G l P x1 x2 v12 (gm_w μ10 3 2 ((gm_r μ10 3 2) + (1 : Int32)))))))))) : hX4_readNumber_11 G l P x1 x2 x3 μ := by
  refine go_aload_n dX4_readNumber_11 rfl 0 rfl ?_
  refine go_get (.int (gm_r μ 3 2)) dX4_readNumber_12 fX4_28 (g_lt rfl) (gs_3 G _ _) rfl ?_
  refine go_aload_n dX4_readNumber_15 rfl 0 rfl ?_
  refine go_get (.ref (ga G 1)) dX4_readNumber_16 fX4_15 (g_lt rfl) (gs_3 G _ _) rfl ?_
  refine go_get (.int (gm_r μ 1 1)) dX4_readNumber_19 fX4_46 (g_lt rfl) (gs_1 G _ _) rfl ?_
  refine go_icmp_ge 93 dX4_readNumber_22 (by decide) (fun c3 => ?_) (fun c3 => ?_)
  · have h := h.1 c3
    exact h
  · have h := h.2 c3
    refine go_aload_n dX4_readNumber_25 rfl 0 rfl ?_
    refine go_get (.ref (ga G 1)) dX4_readNumber_26 fX4_15 (g_lt rfl) (gs_3 G _ _) rfl ?_
    refine go_aload_n dX4_readNumber_29 rfl 0 rfl ?_
    refine go_get (.int (gm_r μ 3 2)) dX4_readNumber_30 fX4_28 (g_lt rfl) (gs_3 G _ _) rfl ?_
    refine go_callV (As := [.int (gm_r μ 3 2)]) (rest := []) dX4_readNumber_33 lX4_54 kX8_at rfl (by decide) (Nat.le_of_ble_eq_true rfl) (g_lt rfl) (gs_1 G _ _) rfl (by decide) rfl (gI_go (fun r5 μ4 h => ?_)) h
    refine go_bipush (v := 48) dX4_readNumber_36 (by decide) ?_
    refine go_icmp_lt 93 dX4_readNumber_38 (by decide) (fun c6 => ?_) (fun c6 => ?_)
    · have h := h.1 c6
      exact h
    · have h := h.2 c6
      refine go_aload_n dX4_readNumber_41 rfl 0 rfl ?_
      refine go_get (.ref (ga G 1)) dX4_readNumber_42 fX4_15 (g_lt rfl) (gs_3 G _ _) rfl ?_
      refine go_aload_n dX4_readNumber_45 rfl 0 rfl ?_
      refine go_get (.int (gm_r μ4 3 2)) dX4_readNumber_46 fX4_28 (g_lt rfl) (gs_3 G _ _) rfl ?_
      refine go_callV (As := [.int (gm_r μ4 3 2)]) (rest := []) dX4_readNumber_49 lX4_54 kX8_at rfl (by decide) (Nat.le_of_ble_eq_true rfl) (g_lt rfl) (gs_1 G _ _) rfl (by decide) rfl (gI_go (fun r8 μ7 h => ?_)) h
      refine go_bipush (v := 57) dX4_readNumber_52 (by decide) ?_
      refine go_icmp_gt 93 dX4_readNumber_54 (by decide) (fun c9 => ?_) (fun c9 => ?_)
      · have h := h.1 c9
        exact h
      · have h := h.2 c9
        refine go_iload_n dX4_readNumber_57 rfl 3 rfl ?_
        refine go_bipush (v := 100) dX4_readNumber_58 (by decide) ?_
        refine go_irem dX4_readNumber_60 (by decide) ?_
        refine go_bipush (v := 10) dX4_readNumber_61 (by decide) ?_
        refine go_imul dX4_readNumber_63 ?_
        refine go_aload_n dX4_readNumber_64 rfl 0 rfl ?_
        refine go_get (.ref (ga G 1)) dX4_readNumber_65 fX4_15 (g_lt rfl) (gs_3 G _ _) rfl ?_
        refine go_aload_n dX4_readNumber_68 rfl 0 rfl ?_
        refine go_get (.int (gm_r μ7 3 2)) dX4_readNumber_69 fX4_28 (g_lt rfl) (gs_3 G _ _) rfl ?_
        refine go_callV (As := [.int (gm_r μ7 3 2)]) (rest := [.int ((x3 - x3 / (100 : Int32) * (100 : Int32)) * (10 : Int32))]) dX4_readNumber_72 lX4_54 kX8_at rfl (by decide) (Nat.le_of_ble_eq_true rfl) (g_lt rfl) (gs_1 G _ _) rfl (by decide) rfl (gI_go (fun r11 μ10 h => ?_)) h
        refine go_iadd dX4_readNumber_75 ?_
        refine go_bipush (v := 48) dX4_readNumber_76 (by decide) ?_
        refine go_isub dX4_readNumber_78 ?_
        refine go_topi (fun v12 e_v12 => ?_)
        have h := h v12 e_v12
        refine go_istore_n [(0, .ref (ga G 3)), (1, .int x1), (2, .int x2), (3, .int v12)] [1, 2, 3, 0] dX4_readNumber_79 rfl (by decide) rfl ?_
        refine go_aload_n dX4_readNumber_80 rfl 0 rfl ?_
        refine go_dup dX4_readNumber_81 rfl ?_
        refine go_get (.int (gm_r μ10 3 2)) dX4_readNumber_82 fX4_28 (g_lt rfl) (gs_3 G _ _) rfl ?_
        refine go_iconst (v := 1) dX4_readNumber_85 (by decide) ?_
        refine go_iadd dX4_readNumber_86 ?_
        refine go_puti dX4_readNumber_87 pX4_28 (g_lt rfl) (gs_3 G _ _) (Nat.le_of_ble_eq_true rfl) rfl ?_
        refine go_goto 11 dX4_readNumber_90 (by decide) ?_
        exact h
set_option maxRecDepth 100000 in
theorem eX4_readNumber_93 {G : gC} {l : Launch} {P : Mem → Prop} {x1 : Int32} {x2 : Int32} {x3 : Int32} {μ : Mem} (h : qX4_faultOf G l x1 x3 ((gm_r μ 3 2) - x2) μ (fun (r14 : Int32) (μ13 : Mem) => ((r14 = 0) → qX4_take G l x1 x3 μ13 (fun (μ16 : Mem) => P μ16)) ∧ ((¬ r14 = 0) → qX4_fail G l r14 x2 μ13 (fun (μ18 : Mem) => P μ18)))) : hX4_readNumber_93 G l P x1 x2 x3 μ := by
  refine go_aload_n dX4_readNumber_93 rfl 0 rfl ?_
  refine go_iload_n dX4_readNumber_94 rfl 1 rfl ?_
  refine go_iload_n dX4_readNumber_95 rfl 3 rfl ?_
  refine go_aload_n dX4_readNumber_96 rfl 0 rfl ?_
  refine go_get (.int (gm_r μ 3 2)) dX4_readNumber_97 fX4_28 (g_lt rfl) (gs_3 G _ _) rfl ?_
  refine go_iload_n dX4_readNumber_100 rfl 2 rfl ?_
  refine go_isub dX4_readNumber_101 ?_
  refine go_callV (As := [.int x1, .int x3, .int ((gm_r μ 3 2) - x2)]) (rest := []) dX4_readNumber_102 lX4_97 kX4_faultOf rfl (by decide) (Nat.le_of_ble_eq_true rfl) (g_lt rfl) (gs_3 G _ _) rfl (by decide) rfl (gI_go (fun r14 μ13 h => ?_)) h
  refine go_istore [(0, .ref (ga G 3)), (1, .int x1), (2, .int x2), (3, .int x3), (4, .int r14)] [1, 2, 3, 4, 0] dX4_readNumber_105 (by decide) rfl ?_
  refine go_iload dX4_readNumber_107 4 rfl ?_
  refine go_if_eq 120 dX4_readNumber_109 (by decide) (fun c15 => ?_) (fun c15 => ?_)
  · have h := h.1 c15
    refine go_aload_n dX4_readNumber_120 rfl 0 rfl ?_
    refine go_iload_n dX4_readNumber_121 rfl 1 rfl ?_
    refine go_iload_n dX4_readNumber_122 rfl 3 rfl ?_
    refine go_callV (As := [.int x1, .int x3]) (rest := []) dX4_readNumber_123 lX4_101 kX4_take rfl (by decide) (Nat.le_of_ble_eq_true rfl) (g_lt rfl) (gs_3 G _ _) rfl (by decide) rfl (gV_go (fun μ16 h => ?_)) h
    exact go_vret dX4_readNumber_126 rfl (Nat.le_refl _) (Nat.le_refl _) ⟨rfl, h⟩
  · have h := h.2 c15
    refine go_aload_n dX4_readNumber_112 rfl 0 rfl ?_
    refine go_iload dX4_readNumber_113 4 rfl ?_
    refine go_iload_n dX4_readNumber_115 rfl 2 rfl ?_
    refine go_callV (As := [.int r14, .int x2]) (rest := []) dX4_readNumber_116 lX4_61 kX4_fail rfl (by decide) (Nat.le_of_ble_eq_true rfl) (g_lt rfl) (gs_3 G _ _) rfl (by decide) rfl (gV_go (fun μ18 h => ?_)) h
    exact go_vret dX4_readNumber_119 rfl (Nat.le_refl _) (Nat.le_refl _) ⟨rfl, h⟩
set_option maxRecDepth 100000 in
theorem eX4_takeComma {G : gC} {l : Launch} {a1 : Int32} {μ : Mem} {P : Int32 → Mem → Prop} (h : qX4_skipBlanks G l  μ (fun (μ1 : Mem) => qX7_isList G l a1 μ1 (fun (r4 : Int32) (μ3 : Mem) => ((r4 = 0) → P (0 : Int32) μ3) ∧ ((¬ r4 = 0) → qX8_at G l (gm_r μ3 3 2) μ3 (fun (r7 : Int32) (μ6 : Mem) => ((r7 = (44 : Int32)) → P (1 : Int32) (gm_w μ6 3 2 ((gm_r μ6 3 2) + (1 : Int32)))) ∧ ((¬ r7 = (44 : Int32)) → P (0 : Int32) μ6)))))) : qX4_takeComma G l a1 μ P := by
  refine Sp.of (by decide) (Nat.le_of_ble_eq_true rfl) (lv := [(0, .ref (ga G 3)), (1, .int a1)]) rfl ?_
  refine go_aload_n dX4_takeComma_0 rfl 0 rfl ?_
  refine go_callV (As := []) (rest := []) dX4_takeComma_1 lX4_43 kX4_skipBlanks rfl (by decide) (Nat.le_of_ble_eq_true rfl) (g_lt rfl) (gs_3 G _ _) rfl (by decide) rfl (gV_go (fun μ1 h => ?_)) h
  refine go_iload_n dX4_takeComma_4 rfl 1 rfl ?_
  refine go_callS (As := [.int a1]) (rest := []) dX4_takeComma_5 lX4_82 kX7_isList rfl (by decide) (Nat.le_of_ble_eq_true rfl) (by decide) rfl (gI_go (fun r4 μ3 h => ?_)) h
  refine go_if_eq 27 dX4_takeComma_8 (by decide) (fun c5 => ?_) (fun c5 => ?_)
  · have h := h.1 c5
    refine go_iconst (v := 0) dX4_takeComma_27 (by decide) ?_
    exact go_zret dX4_takeComma_28 rfl (Nat.le_refl _) (Nat.le_refl _) rfl ⟨_, rfl, h⟩
  · have h := h.2 c5
    refine go_aload_n dX4_takeComma_11 rfl 0 rfl ?_
    refine go_get (.ref (ga G 1)) dX4_takeComma_12 fX4_15 (g_lt rfl) (gs_3 G _ _) rfl ?_
    refine go_aload_n dX4_takeComma_15 rfl 0 rfl ?_
    refine go_get (.int (gm_r μ3 3 2)) dX4_takeComma_16 fX4_28 (g_lt rfl) (gs_3 G _ _) rfl ?_
    refine go_callV (As := [.int (gm_r μ3 3 2)]) (rest := []) dX4_takeComma_19 lX4_54 kX8_at rfl (by decide) (Nat.le_of_ble_eq_true rfl) (g_lt rfl) (gs_1 G _ _) rfl (by decide) rfl (gI_go (fun r7 μ6 h => ?_)) h
    refine go_bipush (v := 44) dX4_takeComma_22 (by decide) ?_
    refine go_icmp_eq 29 dX4_takeComma_24 (by decide) (fun c8 => ?_) (fun c8 => ?_)
    · have h := h.1 c8
      refine go_aload_n dX4_takeComma_29 rfl 0 rfl ?_
      refine go_dup dX4_takeComma_30 rfl ?_
      refine go_get (.int (gm_r μ6 3 2)) dX4_takeComma_31 fX4_28 (g_lt rfl) (gs_3 G _ _) rfl ?_
      refine go_iconst (v := 1) dX4_takeComma_34 (by decide) ?_
      refine go_iadd dX4_takeComma_35 ?_
      refine go_puti dX4_takeComma_36 pX4_28 (g_lt rfl) (gs_3 G _ _) (Nat.le_of_ble_eq_true rfl) rfl ?_
      refine go_iconst (v := 1) dX4_takeComma_39 (by decide) ?_
      exact go_zret dX4_takeComma_40 rfl (Nat.le_refl _) (Nat.le_refl _) rfl ⟨_, rfl, h⟩
    · have h := h.2 c8
      refine go_iconst (v := 0) dX4_takeComma_27 (by decide) ?_
      exact go_zret dX4_takeComma_28 rfl (Nat.le_refl _) (Nat.le_refl _) rfl ⟨_, rfl, h⟩
set_option maxRecDepth 100000 in
theorem eX4_isWord {G : gC} {l : Launch} {a1 : Int32} {a2 : Int32} {μ : Mem} {P : Int32 → Mem → Prop} (h : hX4_isWord_2 G l P a1 a2 (0 : Int32) μ) : qX4_isWord G l a1 a2 μ P := by
  refine Sp.of (by decide) (Nat.le_of_ble_eq_true rfl) (lv := [(0, .ref (ga G 3)), (1, .int a1), (2, .int a2)]) rfl ?_
  refine go_iconst (v := 0) dX4_isWord_0 (by decide) ?_
  refine go_istore_n [(0, .ref (ga G 3)), (1, .int a1), (2, .int a2), (3, .int (0 : Int32))] [1, 2, 3, 0] dX4_isWord_1 rfl (by decide) rfl ?_
  exact h
set_option maxRecDepth 100000 in
theorem eX4_isWord_2 {G : gC} {l : Launch} {P : Int32 → Mem → Prop} {x1 : Int32} {x2 : Int32} {x3 : Int32} {μ : Mem} (h : (((5 : Int32) ≤ x3) → (((5 : Int32) < (x2 - (gm_r μ 3 2))) → P (0 : Int32) μ) ∧ ((¬ (5 : Int32) < (x2 - (gm_r μ 3 2))) → P (1 : Int32) μ)) ∧ ((¬ (5 : Int32) ≤ x3) → ((x2 ≤ ((gm_r μ 3 2) + x3)) → qJ0_charAt G l ((x1 * (5 : Int32)) + x3) μ (fun (r5 : Int32) (μ4 : Mem) => (((32 : Int32) = r5) → hX4_isWord_2 G l P x1 x2 (x3 + (1 : Int32)) μ4) ∧ ((¬ (32 : Int32) = r5) → P (0 : Int32) μ4))) ∧ ((¬ x2 ≤ ((gm_r μ 3 2) + x3)) → qX8_at G l ((gm_r μ 3 2) + x3) μ (fun (r8 : Int32) (μ7 : Mem) => qJ0_charAt G l ((x1 * (5 : Int32)) + x3) μ7 (fun (r10 : Int32) (μ9 : Mem) => ((r8 = r10) → hX4_isWord_2 G l P x1 x2 (x3 + (1 : Int32)) μ9) ∧ ((¬ r8 = r10) → P (0 : Int32) μ9)))))) : hX4_isWord_2 G l P x1 x2 x3 μ := by
  refine go_iload_n dX4_isWord_2 rfl 3 rfl ?_
  refine go_iconst (v := 5) dX4_isWord_3 (by decide) ?_
  refine go_icmp_ge 60 dX4_isWord_4 (by decide) (fun c1 => ?_) (fun c1 => ?_)
  · have h := h.1 c1
    refine go_iload_n dX4_isWord_60 rfl 2 rfl ?_
    refine go_aload_n dX4_isWord_61 rfl 0 rfl ?_
    refine go_get (.int (gm_r μ 3 2)) dX4_isWord_62 fX4_28 (g_lt rfl) (gs_3 G _ _) rfl ?_
    refine go_isub dX4_isWord_65 ?_
    refine go_iconst (v := 5) dX4_isWord_66 (by decide) ?_
    refine go_icmp_gt 74 dX4_isWord_67 (by decide) (fun c2 => ?_) (fun c2 => ?_)
    · have h := h.1 c2
      refine go_iconst (v := 0) dX4_isWord_74 (by decide) ?_
      exact go_zret dX4_isWord_75 rfl (Nat.le_refl _) (Nat.le_refl _) rfl ⟨_, rfl, h⟩
    · have h := h.2 c2
      refine go_iconst (v := 1) dX4_isWord_70 (by decide) ?_
      refine go_goto 75 dX4_isWord_71 (by decide) ?_
      exact go_zret dX4_isWord_75 rfl (Nat.le_refl _) (Nat.le_refl _) rfl ⟨_, rfl, h⟩
  · have h := h.2 c1
    refine go_aload_n dX4_isWord_7 rfl 0 rfl ?_
    refine go_get (.int (gm_r μ 3 2)) dX4_isWord_8 fX4_28 (g_lt rfl) (gs_3 G _ _) rfl ?_
    refine go_iload_n dX4_isWord_11 rfl 3 rfl ?_
    refine go_iadd dX4_isWord_12 ?_
    refine go_iload_n dX4_isWord_13 rfl 2 rfl ?_
    refine go_icmp_ge 33 dX4_isWord_14 (by decide) (fun c3 => ?_) (fun c3 => ?_)
    · have h := h.1 c3
      refine go_bipush (v := 32) dX4_isWord_33 (by decide) ?_
      refine go_istore [(0, .ref (ga G 3)), (1, .int x1), (2, .int x2), (3, .int x3), (4, .int (32 : Int32))] [1, 2, 3, 4, 0] dX4_isWord_35 (by decide) rfl ?_
      refine go_iload dX4_isWord_37 4 rfl ?_
      refine go_ldcS dX4_isWord_39 rfl ?_
      refine go_iload_n dX4_isWord_41 rfl 1 rfl ?_
      refine go_iconst (v := 5) dX4_isWord_42 (by decide) ?_
      refine go_imul dX4_isWord_43 ?_
      refine go_iload_n dX4_isWord_44 rfl 3 rfl ?_
      refine go_iadd dX4_isWord_45 ?_
      refine go_callVS (As := [.int ((x1 * (5 : Int32)) + x3)]) (rest := [.int (32 : Int32)]) dX4_isWord_46 lX4_91 kJ0_charAt_5068e rfl rfl (by decide) (Nat.le_of_ble_eq_true rfl) (by decide) rfl (gI_go (fun r5 μ4 h => ?_)) h
      refine go_icmp_eq 54 dX4_isWord_49 (by decide) (fun c6 => ?_) (fun c6 => ?_)
      · have h := h.1 c6
        refine go_iinc (v := (x3 + (1 : Int32))) [(0, .ref (ga G 3)), (1, .int x1), (2, .int x2), (3, .int (x3 + (1 : Int32))), (4, .int (32 : Int32))] [1, 2, 3, 0, 4] 3 dX4_isWord_54 rfl rfl (by decide) rfl ?_
        refine go_goto 2 dX4_isWord_57 (by decide) ?_
        exact go_sub [0, 1, 2, 3] rfl h
      · have h := h.2 c6
        refine go_iconst (v := 0) dX4_isWord_52 (by decide) ?_
        exact go_zret dX4_isWord_53 rfl (Nat.le_refl _) (Nat.le_refl _) rfl ⟨_, rfl, h⟩
    · have h := h.2 c3
      refine go_aload_n dX4_isWord_17 rfl 0 rfl ?_
      refine go_get (.ref (ga G 1)) dX4_isWord_18 fX4_15 (g_lt rfl) (gs_3 G _ _) rfl ?_
      refine go_aload_n dX4_isWord_21 rfl 0 rfl ?_
      refine go_get (.int (gm_r μ 3 2)) dX4_isWord_22 fX4_28 (g_lt rfl) (gs_3 G _ _) rfl ?_
      refine go_iload_n dX4_isWord_25 rfl 3 rfl ?_
      refine go_iadd dX4_isWord_26 ?_
      refine go_callV (As := [.int ((gm_r μ 3 2) + x3)]) (rest := []) dX4_isWord_27 lX4_54 kX8_at rfl (by decide) (Nat.le_of_ble_eq_true rfl) (g_lt rfl) (gs_1 G _ _) rfl (by decide) rfl (gI_go (fun r8 μ7 h => ?_)) h
      refine go_goto 35 dX4_isWord_30 (by decide) ?_
      refine go_istore [(0, .ref (ga G 3)), (1, .int x1), (2, .int x2), (3, .int x3), (4, .int r8)] [1, 2, 3, 4, 0] dX4_isWord_35 (by decide) rfl ?_
      refine go_iload dX4_isWord_37 4 rfl ?_
      refine go_ldcS dX4_isWord_39 rfl ?_
      refine go_iload_n dX4_isWord_41 rfl 1 rfl ?_
      refine go_iconst (v := 5) dX4_isWord_42 (by decide) ?_
      refine go_imul dX4_isWord_43 ?_
      refine go_iload_n dX4_isWord_44 rfl 3 rfl ?_
      refine go_iadd dX4_isWord_45 ?_
      refine go_callVS (As := [.int ((x1 * (5 : Int32)) + x3)]) (rest := [.int r8]) dX4_isWord_46 lX4_91 kJ0_charAt_5068e rfl rfl (by decide) (Nat.le_of_ble_eq_true rfl) (by decide) rfl (gI_go (fun r10 μ9 h => ?_)) h
      refine go_icmp_eq 54 dX4_isWord_49 (by decide) (fun c11 => ?_) (fun c11 => ?_)
      · have h := h.1 c11
        refine go_iinc (v := (x3 + (1 : Int32))) [(0, .ref (ga G 3)), (1, .int x1), (2, .int x2), (3, .int (x3 + (1 : Int32))), (4, .int r8)] [1, 2, 3, 0, 4] 3 dX4_isWord_54 rfl rfl (by decide) rfl ?_
        refine go_goto 2 dX4_isWord_57 (by decide) ?_
        exact go_sub [0, 1, 2, 3] rfl h
      · have h := h.2 c11
        refine go_iconst (v := 0) dX4_isWord_52 (by decide) ?_
        exact go_zret dX4_isWord_53 rfl (Nat.le_refl _) (Nat.le_refl _) rfl ⟨_, rfl, h⟩
set_option maxRecDepth 100000 in
theorem eX4_takeWord {G : gC} {l : Launch}  {μ : Mem} {P : Int32 → Mem → Prop} (h : hX4_takeWord_5 G l P (gm_r μ 3 2) μ) : qX4_takeWord G l  μ P := by
  refine Sp.of (by decide) (Nat.le_of_ble_eq_true rfl) (lv := [(0, .ref (ga G 3))]) rfl ?_
  refine go_aload_n dX4_takeWord_0 rfl 0 rfl ?_
  refine go_get (.int (gm_r μ 3 2)) dX4_takeWord_1 fX4_28 (g_lt rfl) (gs_3 G _ _) rfl ?_
  refine go_istore_n [(0, .ref (ga G 3)), (1, .int (gm_r μ 3 2))] [1, 0] dX4_takeWord_4 rfl (by decide) rfl ?_
  exact h
set_option maxRecDepth 100000 in
theorem eX4_takeWord_5 {G : gC} {l : Launch} {P : Int32 → Mem → Prop} {x1 : Int32} {μ : Mem} (h : (((gm_r μ 1 1) ≤ x1) → hX4_takeWord_50 G l P x1 (0 : Int32) μ) ∧ ((¬ (gm_r μ 1 1) ≤ x1) → qX8_at G l x1 μ (fun (r3 : Int32) (μ2 : Mem) => ((r3 < (97 : Int32)) → hX4_takeWord_50 G l P x1 (0 : Int32) μ2) ∧ ((¬ r3 < (97 : Int32)) → qX8_at G l x1 μ2 (fun (r6 : Int32) (μ5 : Mem) => (((122 : Int32) < r6) → hX4_takeWord_50 G l P x1 (0 : Int32) μ5) ∧ ((¬ (122 : Int32) < r6) → hX4_takeWord_5 G l P (x1 + (1 : Int32)) μ5)))))) : hX4_takeWord_5 G l P x1 μ := by
  refine go_iload_n dX4_takeWord_5 rfl 1 rfl ?_
  refine go_aload_n dX4_takeWord_6 rfl 0 rfl ?_
  refine go_get (.ref (ga G 1)) dX4_takeWord_7 fX4_15 (g_lt rfl) (gs_3 G _ _) rfl ?_
  refine go_get (.int (gm_r μ 1 1)) dX4_takeWord_10 fX4_46 (g_lt rfl) (gs_1 G _ _) rfl ?_
  refine go_icmp_ge 48 dX4_takeWord_13 (by decide) (fun c1 => ?_) (fun c1 => ?_)
  · have h := h.1 c1
    refine go_iconst (v := 0) dX4_takeWord_48 (by decide) ?_
    refine go_istore_n [(0, .ref (ga G 3)), (1, .int x1), (2, .int (0 : Int32))] [1, 2, 0] dX4_takeWord_49 rfl (by decide) rfl ?_
    exact h
  · have h := h.2 c1
    refine go_aload_n dX4_takeWord_16 rfl 0 rfl ?_
    refine go_get (.ref (ga G 1)) dX4_takeWord_17 fX4_15 (g_lt rfl) (gs_3 G _ _) rfl ?_
    refine go_iload_n dX4_takeWord_20 rfl 1 rfl ?_
    refine go_callV (As := [.int x1]) (rest := []) dX4_takeWord_21 lX4_54 kX8_at rfl (by decide) (Nat.le_of_ble_eq_true rfl) (g_lt rfl) (gs_1 G _ _) rfl (by decide) rfl (gI_go (fun r3 μ2 h => ?_)) h
    refine go_bipush (v := 97) dX4_takeWord_24 (by decide) ?_
    refine go_icmp_lt 48 dX4_takeWord_26 (by decide) (fun c4 => ?_) (fun c4 => ?_)
    · have h := h.1 c4
      refine go_iconst (v := 0) dX4_takeWord_48 (by decide) ?_
      refine go_istore_n [(0, .ref (ga G 3)), (1, .int x1), (2, .int (0 : Int32))] [1, 2, 0] dX4_takeWord_49 rfl (by decide) rfl ?_
      exact h
    · have h := h.2 c4
      refine go_aload_n dX4_takeWord_29 rfl 0 rfl ?_
      refine go_get (.ref (ga G 1)) dX4_takeWord_30 fX4_15 (g_lt rfl) (gs_3 G _ _) rfl ?_
      refine go_iload_n dX4_takeWord_33 rfl 1 rfl ?_
      refine go_callV (As := [.int x1]) (rest := []) dX4_takeWord_34 lX4_54 kX8_at rfl (by decide) (Nat.le_of_ble_eq_true rfl) (g_lt rfl) (gs_1 G _ _) rfl (by decide) rfl (gI_go (fun r6 μ5 h => ?_)) h
      refine go_bipush (v := 122) dX4_takeWord_37 (by decide) ?_
      refine go_icmp_gt 48 dX4_takeWord_39 (by decide) (fun c7 => ?_) (fun c7 => ?_)
      · have h := h.1 c7
        refine go_iconst (v := 0) dX4_takeWord_48 (by decide) ?_
        refine go_istore_n [(0, .ref (ga G 3)), (1, .int x1), (2, .int (0 : Int32))] [1, 2, 0] dX4_takeWord_49 rfl (by decide) rfl ?_
        exact h
      · have h := h.2 c7
        refine go_iinc (v := (x1 + (1 : Int32))) [(0, .ref (ga G 3)), (1, .int (x1 + (1 : Int32)))] [1, 0] 1 dX4_takeWord_42 rfl rfl (by decide) rfl ?_
        refine go_goto 5 dX4_takeWord_45 (by decide) ?_
        exact h
set_option maxRecDepth 100000 in
theorem eX4_takeWord_50 {G : gC} {l : Launch} {P : Int32 → Mem → Prop} {x1 : Int32} {x2 : Int32} {μ : Mem} (h : (((9 : Int32) ≤ x2) → P (-1 : Int32) μ) ∧ ((¬ (9 : Int32) ≤ x2) → qX4_isWord G l x2 x1 μ (fun (r10 : Int32) (μ9 : Mem) => ((r10 = 0) → hX4_takeWord_50 G l P x1 (x2 + (1 : Int32)) μ9) ∧ ((¬ r10 = 0) → P x2 (gm_w μ9 3 2 x1))))) : hX4_takeWord_50 G l P x1 x2 μ := by
  refine go_iload_n dX4_takeWord_50 rfl 2 rfl ?_
  refine go_bipush (v := 9) dX4_takeWord_51 (by decide) ?_
  refine go_icmp_ge 78 dX4_takeWord_53 (by decide) (fun c8 => ?_) (fun c8 => ?_)
  · have h := h.1 c8
    refine go_iconst (v := -1) dX4_takeWord_78 (by decide) ?_
    exact go_iret dX4_takeWord_79 rfl (Nat.le_refl _) (Nat.le_refl _) ⟨_, rfl, h⟩
  · have h := h.2 c8
    refine go_aload_n dX4_takeWord_56 rfl 0 rfl ?_
    refine go_iload_n dX4_takeWord_57 rfl 2 rfl ?_
    refine go_iload_n dX4_takeWord_58 rfl 1 rfl ?_
    refine go_callV (As := [.int x2, .int x1]) (rest := []) dX4_takeWord_59 lX4_85 kX4_isWord rfl (by decide) (Nat.le_of_ble_eq_true rfl) (g_lt rfl) (gs_3 G _ _) rfl (by decide) rfl (gI_go (fun r10 μ9 h => ?_)) h
    refine go_if_eq 72 dX4_takeWord_62 (by decide) (fun c11 => ?_) (fun c11 => ?_)
    · have h := h.1 c11
      refine go_iinc (v := (x2 + (1 : Int32))) [(0, .ref (ga G 3)), (1, .int x1), (2, .int (x2 + (1 : Int32)))] [1, 2, 0] 2 dX4_takeWord_72 rfl rfl (by decide) rfl ?_
      refine go_goto 50 dX4_takeWord_75 (by decide) ?_
      exact h
    · have h := h.2 c11
      refine go_aload_n dX4_takeWord_65 rfl 0 rfl ?_
      refine go_iload_n dX4_takeWord_66 rfl 1 rfl ?_
      refine go_puti dX4_takeWord_67 pX4_28 (g_lt rfl) (gs_3 G _ _) (Nat.le_of_ble_eq_true rfl) rfl ?_
      refine go_iload_n dX4_takeWord_70 rfl 2 rfl ?_
      exact go_iret dX4_takeWord_71 rfl (Nat.le_refl _) (Nat.le_refl _) ⟨_, rfl, h⟩
set_option maxRecDepth 100000 in
theorem eX4_readPart {G : gC} {l : Launch} {a1 : Int32} {μ : Mem} {P : Int32 → Mem → Prop} (h : qX4_takeWord G l  μ (fun (r2 : Int32) (μ1 : Mem) => ((a1 < r2) → qX4_readNumber G l r2 μ1 (fun (μ4 : Mem) => hX4_readPart_31 G l P r2 (0 : Int32) μ4)) ∧ ((¬ a1 < r2) → qX4_fail G l (1 : Int32) (gm_r μ 3 2) μ1 (fun (μ6 : Mem) => P a1 μ6)))) : qX4_readPart G l a1 μ P := by
  refine Sp.of (by decide) (Nat.le_of_ble_eq_true rfl) (lv := [(0, .ref (ga G 3)), (1, .int a1)]) rfl ?_
  refine go_aload_n dX4_readPart_0 rfl 0 rfl ?_
  refine go_get (.int (gm_r μ 3 2)) dX4_readPart_1 fX4_28 (g_lt rfl) (gs_3 G _ _) rfl ?_
  refine go_istore_n [(0, .ref (ga G 3)), (1, .int a1), (2, .int (gm_r μ 3 2))] [1, 2, 0] dX4_readPart_4 rfl (by decide) rfl ?_
  refine go_aload_n dX4_readPart_5 rfl 0 rfl ?_
  refine go_callV (As := []) (rest := []) dX4_readPart_6 lX4_57 kX4_takeWord rfl (by decide) (Nat.le_of_ble_eq_true rfl) (g_lt rfl) (gs_3 G _ _) rfl (by decide) rfl (gI_go (fun r2 μ1 h => ?_)) h
  refine go_istore_n [(0, .ref (ga G 3)), (1, .int a1), (2, .int (gm_r μ 3 2)), (3, .int r2)] [1, 2, 3, 0] dX4_readPart_9 rfl (by decide) rfl ?_
  refine go_iload_n dX4_readPart_10 rfl 3 rfl ?_
  refine go_iload_n dX4_readPart_11 rfl 1 rfl ?_
  refine go_icmp_gt 23 dX4_readPart_12 (by decide) (fun c3 => ?_) (fun c3 => ?_)
  · have h := h.1 c3
    refine go_aload_n dX4_readPart_23 rfl 0 rfl ?_
    refine go_iload_n dX4_readPart_24 rfl 3 rfl ?_
    refine go_callV (As := [.int r2]) (rest := []) dX4_readPart_25 lX4_69 kX4_readNumber rfl (by decide) (Nat.le_of_ble_eq_true rfl) (g_lt rfl) (gs_3 G _ _) rfl (by decide) rfl (gV_go (fun μ4 h => ?_)) h
    refine go_iconst (v := 0) dX4_readPart_28 (by decide) ?_
    refine go_istore [(0, .ref (ga G 3)), (1, .int a1), (2, .int (gm_r μ 3 2)), (3, .int r2), (4, .int (0 : Int32))] [1, 2, 3, 4, 0] dX4_readPart_29 (by decide) rfl ?_
    exact go_sub [0, 3, 4] rfl h
  · have h := h.2 c3
    refine go_aload_n dX4_readPart_15 rfl 0 rfl ?_
    refine go_iconst (v := 1) dX4_readPart_16 (by decide) ?_
    refine go_iload_n dX4_readPart_17 rfl 2 rfl ?_
    refine go_callV (As := [.int (1 : Int32), .int (gm_r μ 3 2)]) (rest := []) dX4_readPart_18 lX4_61 kX4_fail rfl (by decide) (Nat.le_of_ble_eq_true rfl) (g_lt rfl) (gs_3 G _ _) rfl (by decide) rfl (gV_go (fun μ6 h => ?_)) h
    refine go_iload_n dX4_readPart_21 rfl 1 rfl ?_
    exact go_iret dX4_readPart_22 rfl (Nat.le_refl _) (Nat.le_refl _) ⟨_, rfl, h⟩
set_option maxRecDepth 100000 in
theorem eX4_readPart_31 {G : gC} {l : Launch} {P : Int32 → Mem → Prop} {x3 : Int32} {x4 : Int32} {μ : Mem} (h : (((10 : Int32) ≤ x4) → P x3 μ) ∧ ((¬ (10 : Int32) ≤ x4) → ((¬ (gm_r μ 3 3) = 0) → P x3 μ) ∧ (((gm_r μ 3 3) = 0) → qX4_takeComma G l x3 μ (fun (r11 : Int32) (μ10 : Mem) => ((r11 = 0) → P x3 μ10) ∧ ((¬ r11 = 0) → qX4_readNumber G l x3 μ10 (fun (μ13 : Mem) => hX4_readPart_31 G l P x3 (x4 + (1 : Int32)) μ13)))))) : hX4_readPart_31 G l P x3 x4 μ := by
  refine go_iload dX4_readPart_31 2 rfl ?_
  refine go_bipush (v := 10) dX4_readPart_33 (by decide) ?_
  refine go_icmp_ge 64 dX4_readPart_35 (by decide) (fun c8 => ?_) (fun c8 => ?_)
  · have h := h.1 c8
    refine go_iload_n dX4_readPart_64 rfl 1 rfl ?_
    exact go_iret dX4_readPart_65 rfl (Nat.le_refl _) (Nat.le_refl _) ⟨_, rfl, h⟩
  · have h := h.2 c8
    refine go_aload_n dX4_readPart_38 rfl 0 rfl ?_
    refine go_get (.int (gm_r μ 3 3)) dX4_readPart_39 fX4_31 (g_lt rfl) (gs_3 G _ _) rfl ?_
    refine go_if_ne 64 dX4_readPart_42 (by decide) (fun c9 => ?_) (fun c9 => ?_)
    · have h := h.1 c9
      refine go_iload_n dX4_readPart_64 rfl 1 rfl ?_
      exact go_iret dX4_readPart_65 rfl (Nat.le_refl _) (Nat.le_refl _) ⟨_, rfl, h⟩
    · have h := h.2 c9
      refine go_aload_n dX4_readPart_45 rfl 0 rfl ?_
      refine go_iload_n dX4_readPart_46 rfl 1 rfl ?_
      refine go_callV (As := [.int x3]) (rest := []) dX4_readPart_47 lX4_78 kX4_takeComma rfl (by decide) (Nat.le_of_ble_eq_true rfl) (g_lt rfl) (gs_3 G _ _) rfl (by decide) rfl (gI_go (fun r11 μ10 h => ?_)) h
      refine go_if_eq 64 dX4_readPart_50 (by decide) (fun c12 => ?_) (fun c12 => ?_)
      · have h := h.1 c12
        refine go_iload_n dX4_readPart_64 rfl 1 rfl ?_
        exact go_iret dX4_readPart_65 rfl (Nat.le_refl _) (Nat.le_refl _) ⟨_, rfl, h⟩
      · have h := h.2 c12
        refine go_aload_n dX4_readPart_53 rfl 0 rfl ?_
        refine go_iload_n dX4_readPart_54 rfl 1 rfl ?_
        refine go_callV (As := [.int x3]) (rest := []) dX4_readPart_55 lX4_69 kX4_readNumber rfl (by decide) (Nat.le_of_ble_eq_true rfl) (g_lt rfl) (gs_3 G _ _) rfl (by decide) rfl (gV_go (fun μ13 h => ?_)) h
        refine go_iinc (v := (x4 + (1 : Int32))) [(0, .ref (ga G 3)), (3, .int x3), (4, .int (x4 + (1 : Int32)))] [1, 2, 0] 2 dX4_readPart_58 rfl rfl (by decide) rfl ?_
        refine go_goto 31 dX4_readPart_61 (by decide) ?_
        exact h
set_option maxRecDepth 100000 in
theorem eX7_clearScene_16 {G : gC} {l : Launch} {a1 : Int32} {μ : Mem} {P : Mem → Prop} (h : hX7_clearScene_16_2 G l P a1 (0 : Int32) μ) : qX7_clearScene_16 G l a1 μ P := by
  refine Sp.of (by decide) (Nat.le_of_ble_eq_true rfl) (lv := [(0, .ref (ga G 16)), (1, .int a1)]) rfl ?_
  refine go_iconst (v := 0) dX7_clearScene_0 (by decide) ?_
  refine go_istore_n [(0, .ref (ga G 16)), (1, .int a1), (2, .int (0 : Int32))] [1, 2, 0] dX7_clearScene_1 rfl (by decide) rfl ?_
  exact h
set_option maxRecDepth 100000 in
theorem eX7_clearScene_16_2 {G : gC} {l : Launch} {P : Mem → Prop} {x1 : Int32} {x2 : Int32} {μ : Mem} (h : (((9 : Int32) ≤ x2) → P μ) ∧ ((¬ (9 : Int32) ≤ x2) → ((¬ x2 = (8 : Int32)) → qX7_put_16 G l x1 x2 (0 : Int32) μ (fun (μ3 : Mem) => hX7_clearScene_16_2 G l P x1 (x2 + (1 : Int32)) μ3)) ∧ ((x2 = (8 : Int32)) → qX7_put_16 G l x1 x2 (-1 : Int32) μ (fun (μ5 : Mem) => hX7_clearScene_16_2 G l P x1 (x2 + (1 : Int32)) μ5)))) : hX7_clearScene_16_2 G l P x1 x2 μ := by
  refine go_iload_n dX7_clearScene_2 rfl 2 rfl ?_
  refine go_bipush (v := 9) dX7_clearScene_3 (by decide) ?_
  refine go_icmp_ge 31 dX7_clearScene_5 (by decide) (fun c1 => ?_) (fun c1 => ?_)
  · have h := h.1 c1
    exact go_vret dX7_clearScene_31 rfl (Nat.le_refl _) (Nat.le_refl _) ⟨rfl, h⟩
  · have h := h.2 c1
    refine go_aload_n dX7_clearScene_8 rfl 0 rfl ?_
    refine go_iload_n dX7_clearScene_9 rfl 1 rfl ?_
    refine go_iload_n dX7_clearScene_10 rfl 2 rfl ?_
    refine go_iload_n dX7_clearScene_11 rfl 2 rfl ?_
    refine go_bipush (v := 8) dX7_clearScene_12 (by decide) ?_
    refine go_icmp_ne 21 dX7_clearScene_14 (by decide) (fun c2 => ?_) (fun c2 => ?_)
    · have h := h.1 c2
      refine go_iconst (v := 0) dX7_clearScene_21 (by decide) ?_
      refine go_callV (As := [.int x1, .int x2, .int (0 : Int32)]) (rest := []) dX7_clearScene_22 lX7_20 kX7_put rfl (by decide) (Nat.le_of_ble_eq_true rfl) (g_lt rfl) (gs_16 G _ _) rfl (by decide) rfl (gV_go (fun μ3 h => ?_)) h
      refine go_iinc (v := (x2 + (1 : Int32))) [(0, .ref (ga G 16)), (1, .int x1), (2, .int (x2 + (1 : Int32)))] [1, 2, 0] 2 dX7_clearScene_25 rfl rfl (by decide) rfl ?_
      refine go_goto 2 dX7_clearScene_28 (by decide) ?_
      exact h
    · have h := h.2 c2
      refine go_iconst (v := -1) dX7_clearScene_17 (by decide) ?_
      refine go_goto 22 dX7_clearScene_18 (by decide) ?_
      refine go_callV (As := [.int x1, .int x2, .int (-1 : Int32)]) (rest := []) dX7_clearScene_22 lX7_20 kX7_put rfl (by decide) (Nat.le_of_ble_eq_true rfl) (g_lt rfl) (gs_16 G _ _) rfl (by decide) rfl (gV_go (fun μ5 h => ?_)) h
      refine go_iinc (v := (x2 + (1 : Int32))) [(0, .ref (ga G 16)), (1, .int x1), (2, .int (x2 + (1 : Int32)))] [1, 2, 0] 2 dX7_clearScene_25 rfl rfl (by decide) rfl ?_
      refine go_goto 2 dX7_clearScene_28 (by decide) ?_
      exact h
set_option maxRecDepth 100000 in
theorem eX7_closeScene_16 {G : gC} {l : Launch}  {μ : Mem} {P : Mem → Prop} (h : (((10 : Int32) ≤ (gm_r μ 16 1)) → P μ) ∧ ((¬ (10 : Int32) ≤ (gm_r μ 16 1)) → P (gm_w μ 16 1 ((gm_r μ 16 1) + (1 : Int32))))) : qX7_closeScene_16 G l  μ P := by
  refine Sp.of (by decide) (Nat.le_of_ble_eq_true rfl) (lv := [(0, .ref (ga G 16))]) rfl ?_
  refine go_aload_n dX7_closeScene_0 rfl 0 rfl ?_
  refine go_get (.int (gm_r μ 16 1)) dX7_closeScene_1 fX7_16 (g_lt rfl) (gs_16 G _ _) rfl ?_
  refine go_bipush (v := 10) dX7_closeScene_4 (by decide) ?_
  refine go_icmp_ge 19 dX7_closeScene_6 (by decide) (fun c1 => ?_) (fun c1 => ?_)
  · have h := h.1 c1
    exact go_vret dX7_closeScene_19 rfl (Nat.le_refl _) (Nat.le_refl _) ⟨rfl, h⟩
  · have h := h.2 c1
    refine go_aload_n dX7_closeScene_9 rfl 0 rfl ?_
    refine go_dup dX7_closeScene_10 rfl ?_
    refine go_get (.int (gm_r μ 16 1)) dX7_closeScene_11 fX7_16 (g_lt rfl) (gs_16 G _ _) rfl ?_
    refine go_iconst (v := 1) dX7_closeScene_14 (by decide) ?_
    refine go_iadd dX7_closeScene_15 ?_
    refine go_puti dX7_closeScene_16 pX7_16 (g_lt rfl) (gs_16 G _ _) (Nat.le_of_ble_eq_true rfl) rfl ?_
    exact go_vret dX7_closeScene_19 rfl (Nat.le_refl _) (Nat.le_refl _) ⟨rfl, h⟩
set_option maxRecDepth 100000 in
theorem eX4_readClause {G : gC} {l : Launch}  {μ : Mem} {P : Mem → Prop} (h : qX4_takeWord G l  μ (fun (r2 : Int32) (μ1 : Mem) => ((r2 = 0) → (¬ (gm_r μ1 3 1) = 0) ∧ (((gm_r μ1 16 1) < (10 : Int32)) → qX7_clearScene_16 G l (gm_r μ1 16 1) μ1 (fun (μ6 : Mem) => qX4_readNumber G l (0 : Int32) μ6 (fun (μ8 : Mem) => hX4_readClause_61 G l P (0 : Int32) (0 : Int32) μ8))) ∧ ((¬ (gm_r μ1 16 1) < (10 : Int32)) → qX4_fail G l (5 : Int32) (gm_r μ 3 2) μ1 (fun (μ10 : Mem) => P μ10))) ∧ ((¬ r2 = 0) → qX4_fail G l (1 : Int32) (gm_r μ 3 2) μ1 (fun (μ12 : Mem) => P μ12)))) : qX4_readClause G l  μ P := by
  refine Sp.of (by decide) (Nat.le_of_ble_eq_true rfl) (lv := [(0, .ref (ga G 3))]) rfl ?_
  refine go_aload_n dX4_readClause_0 rfl 0 rfl ?_
  refine go_get (.int (gm_r μ 3 2)) dX4_readClause_1 fX4_28 (g_lt rfl) (gs_3 G _ _) rfl ?_
  refine go_istore_n [(0, .ref (ga G 3)), (1, .int (gm_r μ 3 2))] [1, 0] dX4_readClause_4 rfl (by decide) rfl ?_
  refine go_aload_n dX4_readClause_5 rfl 0 rfl ?_
  refine go_callV (As := []) (rest := []) dX4_readClause_6 lX4_57 kX4_takeWord rfl (by decide) (Nat.le_of_ble_eq_true rfl) (g_lt rfl) (gs_3 G _ _) rfl (by decide) rfl (gI_go (fun r2 μ1 h => ?_)) h
  refine go_if_eq 19 dX4_readClause_9 (by decide) (fun c3 => ?_) (fun c3 => ?_)
  · have h := h.1 c3
    refine go_aload_n dX4_readClause_19 rfl 0 rfl ?_
    refine go_get ((if (gm_r μ1 3 1) = 0 then .null else .ref (ga G 16))) dX4_readClause_20 fX4_19 (g_lt rfl) (gs_3 G _ _) rfl ?_
    obtain ⟨nn4, h⟩ := h
    refine go_nn nn4 ?_
    refine go_get (.int (gm_r μ1 16 1)) dX4_readClause_23 fX4_23 (g_lt rfl) (gs_16 G _ _) rfl ?_
    refine go_bipush (v := 10) dX4_readClause_26 (by decide) ?_
    refine go_icmp_lt 38 dX4_readClause_28 (by decide) (fun c5 => ?_) (fun c5 => ?_)
    · have h := h.1 c5
      refine go_aload_n dX4_readClause_38 rfl 0 rfl ?_
      refine go_get ((if (gm_r μ1 3 1) = 0 then .null else .ref (ga G 16))) dX4_readClause_39 fX4_19 (g_lt rfl) (gs_3 G _ _) rfl ?_
      refine go_nn nn4 ?_
      refine go_aload_n dX4_readClause_42 rfl 0 rfl ?_
      refine go_get ((if (gm_r μ1 3 1) = 0 then .null else .ref (ga G 16))) dX4_readClause_43 fX4_19 (g_lt rfl) (gs_3 G _ _) rfl ?_
      refine go_nn nn4 ?_
      refine go_get (.int (gm_r μ1 16 1)) dX4_readClause_46 fX4_23 (g_lt rfl) (gs_16 G _ _) rfl ?_
      refine go_callV (As := [.int (gm_r μ1 16 1)]) (rest := []) dX4_readClause_49 lX4_65 kX7_clearScene rfl (by decide) (Nat.le_of_ble_eq_true rfl) (g_lt rfl) (gs_16 G _ _) rfl (by decide) rfl (gV_go (fun μ6 h => ?_)) h
      refine go_aload_n dX4_readClause_52 rfl 0 rfl ?_
      refine go_iconst (v := 0) dX4_readClause_53 (by decide) ?_
      refine go_callV (As := [.int (0 : Int32)]) (rest := []) dX4_readClause_54 lX4_69 kX4_readNumber rfl (by decide) (Nat.le_of_ble_eq_true rfl) (g_lt rfl) (gs_3 G _ _) rfl (by decide) rfl (gV_go (fun μ8 h => ?_)) h
      refine go_iconst (v := 0) dX4_readClause_57 (by decide) ?_
      refine go_istore_n [(0, .ref (ga G 3)), (1, .int (gm_r μ 3 2)), (2, .int (0 : Int32))] [1, 2, 0] dX4_readClause_58 rfl (by decide) rfl ?_
      refine go_iconst (v := 0) dX4_readClause_59 (by decide) ?_
      refine go_istore_n [(0, .ref (ga G 3)), (1, .int (gm_r μ 3 2)), (2, .int (0 : Int32)), (3, .int (0 : Int32))] [1, 2, 3, 0] dX4_readClause_60 rfl (by decide) rfl ?_
      exact go_sub [0, 2, 3] rfl h
    · have h := h.2 c5
      refine go_aload_n dX4_readClause_31 rfl 0 rfl ?_
      refine go_iconst (v := 5) dX4_readClause_32 (by decide) ?_
      refine go_iload_n dX4_readClause_33 rfl 1 rfl ?_
      refine go_callV (As := [.int (5 : Int32), .int (gm_r μ 3 2)]) (rest := []) dX4_readClause_34 lX4_61 kX4_fail rfl (by decide) (Nat.le_of_ble_eq_true rfl) (g_lt rfl) (gs_3 G _ _) rfl (by decide) rfl (gV_go (fun μ10 h => ?_)) h
      exact go_vret dX4_readClause_37 rfl (Nat.le_refl _) (Nat.le_refl _) ⟨rfl, h⟩
  · have h := h.2 c3
    refine go_aload_n dX4_readClause_12 rfl 0 rfl ?_
    refine go_iconst (v := 1) dX4_readClause_13 (by decide) ?_
    refine go_iload_n dX4_readClause_14 rfl 1 rfl ?_
    refine go_callV (As := [.int (1 : Int32), .int (gm_r μ 3 2)]) (rest := []) dX4_readClause_15 lX4_61 kX4_fail rfl (by decide) (Nat.le_of_ble_eq_true rfl) (g_lt rfl) (gs_3 G _ _) rfl (by decide) rfl (gV_go (fun μ12 h => ?_)) h
    exact go_vret dX4_readClause_18 rfl (Nat.le_refl _) (Nat.le_refl _) ⟨rfl, h⟩
set_option maxRecDepth 100000 in
theorem eX4_readClause_61 {G : gC} {l : Launch} {P : Mem → Prop} {x2 : Int32} {x3 : Int32} {μ : Mem} (h : (((9 : Int32) ≤ x3) → P μ) ∧ ((¬ (9 : Int32) ≤ x3) → ((¬ (gm_r μ 3 3) = 0) → P μ) ∧ (((gm_r μ 3 3) = 0) → qX4_skipBlanks G l  μ (fun (μ16 : Mem) => qX8_at G l (gm_r μ16 3 2) μ16 (fun (r19 : Int32) (μ18 : Mem) => ((¬ r19 = (59 : Int32)) → qX4_readPart G l x2 μ18 (fun (r22 : Int32) (μ21 : Mem) => hX4_readClause_61 G l P r22 (x3 + (1 : Int32)) μ21)) ∧ ((r19 = (59 : Int32)) → (¬ (gm_r μ18 3 1) = 0) ∧ qX7_closeScene_16 G l  (gm_w μ18 3 2 ((gm_r μ18 3 2) + (1 : Int32))) (fun (μ24 : Mem) => P μ24))))))) : hX4_readClause_61 G l P x2 x3 μ := by
  refine go_iload_n dX4_readClause_61 rfl 2 rfl ?_
  refine go_bipush (v := 9) dX4_readClause_62 (by decide) ?_
  refine go_icmp_ge 124 dX4_readClause_64 (by decide) (fun c14 => ?_) (fun c14 => ?_)
  · have h := h.1 c14
    exact go_vret dX4_readClause_124 rfl (Nat.le_refl _) (Nat.le_refl _) ⟨rfl, h⟩
  · have h := h.2 c14
    refine go_aload_n dX4_readClause_67 rfl 0 rfl ?_
    refine go_get (.int (gm_r μ 3 3)) dX4_readClause_68 fX4_31 (g_lt rfl) (gs_3 G _ _) rfl ?_
    refine go_if_ne 124 dX4_readClause_71 (by decide) (fun c15 => ?_) (fun c15 => ?_)
    · have h := h.1 c15
      exact go_vret dX4_readClause_124 rfl (Nat.le_refl _) (Nat.le_refl _) ⟨rfl, h⟩
    · have h := h.2 c15
      refine go_aload_n dX4_readClause_74 rfl 0 rfl ?_
      refine go_callV (As := []) (rest := []) dX4_readClause_75 lX4_43 kX4_skipBlanks rfl (by decide) (Nat.le_of_ble_eq_true rfl) (g_lt rfl) (gs_3 G _ _) rfl (by decide) rfl (gV_go (fun μ16 h => ?_)) h
      refine go_aload_n dX4_readClause_78 rfl 0 rfl ?_
      refine go_get (.ref (ga G 1)) dX4_readClause_79 fX4_15 (g_lt rfl) (gs_3 G _ _) rfl ?_
      refine go_aload_n dX4_readClause_82 rfl 0 rfl ?_
      refine go_get (.int (gm_r μ16 3 2)) dX4_readClause_83 fX4_28 (g_lt rfl) (gs_3 G _ _) rfl ?_
      refine go_callV (As := [.int (gm_r μ16 3 2)]) (rest := []) dX4_readClause_86 lX4_54 kX8_at rfl (by decide) (Nat.le_of_ble_eq_true rfl) (g_lt rfl) (gs_1 G _ _) rfl (by decide) rfl (gI_go (fun r19 μ18 h => ?_)) h
      refine go_bipush (v := 59) dX4_readClause_89 (by decide) ?_
      refine go_icmp_ne 112 dX4_readClause_91 (by decide) (fun c20 => ?_) (fun c20 => ?_)
      · have h := h.1 c20
        refine go_aload_n dX4_readClause_112 rfl 0 rfl ?_
        refine go_iload_n dX4_readClause_113 rfl 1 rfl ?_
        refine go_callV (As := [.int x2]) (rest := []) dX4_readClause_114 lX4_75 kX4_readPart rfl (by decide) (Nat.le_of_ble_eq_true rfl) (g_lt rfl) (gs_3 G _ _) rfl (by decide) rfl (gI_go (fun r22 μ21 h => ?_)) h
        refine go_istore_n [(0, .ref (ga G 3)), (2, .int r22), (3, .int x3)] [1, 0, 2] dX4_readClause_117 rfl (by decide) rfl ?_
        refine go_iinc (v := (x3 + (1 : Int32))) [(0, .ref (ga G 3)), (2, .int r22), (3, .int (x3 + (1 : Int32)))] [1, 2, 0] 2 dX4_readClause_118 rfl rfl (by decide) rfl ?_
        refine go_goto 61 dX4_readClause_121 (by decide) ?_
        exact h
      · have h := h.2 c20
        refine go_aload_n dX4_readClause_94 rfl 0 rfl ?_
        refine go_dup dX4_readClause_95 rfl ?_
        refine go_get (.int (gm_r μ18 3 2)) dX4_readClause_96 fX4_28 (g_lt rfl) (gs_3 G _ _) rfl ?_
        refine go_iconst (v := 1) dX4_readClause_99 (by decide) ?_
        refine go_iadd dX4_readClause_100 ?_
        refine go_puti dX4_readClause_101 pX4_28 (g_lt rfl) (gs_3 G _ _) (Nat.le_of_ble_eq_true rfl) rfl ?_
        refine go_aload_n dX4_readClause_104 rfl 0 rfl ?_
        refine go_get ((if (gm_r μ18 3 1) = 0 then .null else .ref (ga G 16))) dX4_readClause_105 fX4_19 (g_lt rfl) (gs_3 G _ _) rfl ?_
        obtain ⟨nn23, h⟩ := h
        refine go_nn nn23 ?_
        refine go_callV (As := []) (rest := []) dX4_readClause_108 lX4_72 kX7_closeScene rfl (by decide) (Nat.le_of_ble_eq_true rfl) (g_lt rfl) (gs_16 G _ _) rfl (by decide) rfl (gV_go (fun μ24 h => ?_)) h
        exact go_vret dX4_readClause_111 rfl (Nat.le_refl _) (Nat.le_refl _) ⟨rfl, h⟩
set_option maxRecDepth 100000 in
theorem eX4_read {G : gC} {l : Launch}  {μ : Mem} {P : Int32 → Mem → Prop} (h : (¬ (1 : Int32) = 0) ∧ hX4_read_45 G l P (0 : Int32) (gm_w (gm_w (gm_w (gm_w (gm_w (gm_w (gm_w (gm_w μ 3 1 (1 : Int32)) 16 1 (0 : Int32)) 3 2 (0 : Int32)) 3 3 (0 : Int32)) 3 4 (-1 : Int32)) 3 5 (0 : Int32)) 3 6 (0 : Int32)) 3 7 (0 : Int32))) : qX4_read G l  μ P := by
  refine Sp.of (by decide) (Nat.le_of_ble_eq_true rfl) (lv := [(0, .ref (ga G 3)), (1, .ref (ga G 16))]) rfl ?_
  refine go_aload_n dX4_read_0 rfl 0 rfl ?_
  refine go_aload_n dX4_read_1 rfl 1 rfl ?_
  refine go_putv 1 dX4_read_2 pX4_19 rfl rfl (g_lt rfl) (gs_3 G _ _) (Nat.le_of_ble_eq_true rfl) (by rw [gs_3]; rfl) ?_
  refine go_aload_n dX4_read_5 rfl 0 rfl ?_
  refine go_get ((if (1 : Int32) = 0 then .null else .ref (ga G 16))) dX4_read_6 fX4_19 (g_lt rfl) (gs_3 G _ _) rfl ?_
  obtain ⟨nn1, h⟩ := h
  refine go_nn nn1 ?_
  refine go_iconst (v := 0) dX4_read_9 (by decide) ?_
  refine go_puti dX4_read_10 pX4_23 (g_lt rfl) (gs_16 G _ _) (Nat.le_of_ble_eq_true rfl) rfl ?_
  refine go_aload_n dX4_read_13 rfl 0 rfl ?_
  refine go_iconst (v := 0) dX4_read_14 (by decide) ?_
  refine go_puti dX4_read_15 pX4_28 (g_lt rfl) (gs_3 G _ _) (Nat.le_of_ble_eq_true rfl) rfl ?_
  refine go_aload_n dX4_read_18 rfl 0 rfl ?_
  refine go_iconst (v := 0) dX4_read_19 (by decide) ?_
  refine go_puti dX4_read_20 pX4_31 (g_lt rfl) (gs_3 G _ _) (Nat.le_of_ble_eq_true rfl) rfl ?_
  refine go_aload_n dX4_read_23 rfl 0 rfl ?_
  refine go_iconst (v := -1) dX4_read_24 (by decide) ?_
  refine go_puti dX4_read_25 pX4_9 (g_lt rfl) (gs_3 G _ _) (Nat.le_of_ble_eq_true rfl) rfl ?_
  refine go_aload_n dX4_read_28 rfl 0 rfl ?_
  refine go_iconst (v := 0) dX4_read_29 (by decide) ?_
  refine go_puti dX4_read_30 pX4_34 (g_lt rfl) (gs_3 G _ _) (Nat.le_of_ble_eq_true rfl) rfl ?_
  refine go_aload_n dX4_read_33 rfl 0 rfl ?_
  refine go_iconst (v := 0) dX4_read_34 (by decide) ?_
  refine go_puti dX4_read_35 pX4_37 (g_lt rfl) (gs_3 G _ _) (Nat.le_of_ble_eq_true rfl) rfl ?_
  refine go_aload_n dX4_read_38 rfl 0 rfl ?_
  refine go_iconst (v := 0) dX4_read_39 (by decide) ?_
  refine go_puti dX4_read_40 pX4_40 (g_lt rfl) (gs_3 G _ _) (Nat.le_of_ble_eq_true rfl) rfl ?_
  refine go_iconst (v := 0) dX4_read_43 (by decide) ?_
  refine go_istore_n [(0, .ref (ga G 3)), (1, .ref (ga G 16)), (2, .int (0 : Int32))] [1, 2, 0] dX4_read_44 rfl (by decide) rfl ?_
  exact go_sub [0, 2] rfl h
set_option maxRecDepth 100000 in
theorem eX4_read_45 {G : gC} {l : Launch} {P : Int32 → Mem → Prop} {x2 : Int32} {μ : Mem} (h : (((10 : Int32) < x2) → P (gm_r μ 3 3) μ) ∧ ((¬ (10 : Int32) < x2) → ((¬ (gm_r μ 3 3) = 0) → P (gm_r μ 3 3) μ) ∧ (((gm_r μ 3 3) = 0) → qX4_skipBlanks G l  μ (fun (μ4 : Mem) => (((gm_r μ4 3 2) < (gm_r μ4 1 1)) → qX4_readClause G l  μ4 (fun (μ7 : Mem) => hX4_read_45 G l P (x2 + (1 : Int32)) μ7)) ∧ ((¬ (gm_r μ4 3 2) < (gm_r μ4 1 1)) → P (0 : Int32) μ4))))) : hX4_read_45 G l P x2 μ := by
  refine go_iload_n dX4_read_45 rfl 1 rfl ?_
  refine go_bipush (v := 10) dX4_read_46 (by decide) ?_
  refine go_icmp_gt 88 dX4_read_48 (by decide) (fun c2 => ?_) (fun c2 => ?_)
  · have h := h.1 c2
    refine go_aload_n dX4_read_88 rfl 0 rfl ?_
    refine go_get (.int (gm_r μ 3 3)) dX4_read_89 fX4_31 (g_lt rfl) (gs_3 G _ _) rfl ?_
    exact go_iret dX4_read_92 rfl (Nat.le_refl _) (Nat.le_refl _) ⟨_, rfl, h⟩
  · have h := h.2 c2
    refine go_aload_n dX4_read_51 rfl 0 rfl ?_
    refine go_get (.int (gm_r μ 3 3)) dX4_read_52 fX4_31 (g_lt rfl) (gs_3 G _ _) rfl ?_
    refine go_if_ne 88 dX4_read_55 (by decide) (fun c3 => ?_) (fun c3 => ?_)
    · have h := h.1 c3
      refine go_aload_n dX4_read_88 rfl 0 rfl ?_
      refine go_get (.int (gm_r μ 3 3)) dX4_read_89 fX4_31 (g_lt rfl) (gs_3 G _ _) rfl ?_
      exact go_iret dX4_read_92 rfl (Nat.le_refl _) (Nat.le_refl _) ⟨_, rfl, h⟩
    · have h := h.2 c3
      refine go_aload_n dX4_read_58 rfl 0 rfl ?_
      refine go_callV (As := []) (rest := []) dX4_read_59 lX4_43 kX4_skipBlanks rfl (by decide) (Nat.le_of_ble_eq_true rfl) (g_lt rfl) (gs_3 G _ _) rfl (by decide) rfl (gV_go (fun μ4 h => ?_)) h
      refine go_aload_n dX4_read_62 rfl 0 rfl ?_
      refine go_get (.int (gm_r μ4 3 2)) dX4_read_63 fX4_28 (g_lt rfl) (gs_3 G _ _) rfl ?_
      refine go_aload_n dX4_read_66 rfl 0 rfl ?_
      refine go_get (.ref (ga G 1)) dX4_read_67 fX4_15 (g_lt rfl) (gs_3 G _ _) rfl ?_
      refine go_get (.int (gm_r μ4 1 1)) dX4_read_70 fX4_46 (g_lt rfl) (gs_1 G _ _) rfl ?_
      refine go_icmp_lt 78 dX4_read_73 (by decide) (fun c6 => ?_) (fun c6 => ?_)
      · have h := h.1 c6
        refine go_aload_n dX4_read_78 rfl 0 rfl ?_
        refine go_callV (As := []) (rest := []) dX4_read_79 lX4_51 kX4_readClause rfl (by decide) (Nat.le_of_ble_eq_true rfl) (g_lt rfl) (gs_3 G _ _) rfl (by decide) rfl (gV_go (fun μ7 h => ?_)) h
        refine go_iinc (v := (x2 + (1 : Int32))) [(0, .ref (ga G 3)), (2, .int (x2 + (1 : Int32)))] [1, 0] 1 dX4_read_82 rfl rfl (by decide) rfl ?_
        refine go_goto 45 dX4_read_85 (by decide) ?_
        exact h
      · have h := h.2 c6
        refine go_iconst (v := 0) dX4_read_76 (by decide) ?_
        exact go_iret dX4_read_77 rfl (Nat.le_refl _) (Nat.le_refl _) ⟨_, rfl, h⟩
set_option maxRecDepth 100000 in
theorem eX7_become {G : gC} {l : Launch}  {μ : Mem} {P : Mem → Prop} (h : hX7_become_2 G l P (0 : Int32) μ) : qX7_become G l  μ P := by
  refine Sp.of (by decide) (Nat.le_of_ble_eq_true rfl) (lv := [(0, .ref (ga G 4)), (1, .ref (ga G 16))]) rfl ?_
  refine go_iconst (v := 0) dX7_become_0 (by decide) ?_
  refine go_istore_n [(0, .ref (ga G 4)), (1, .ref (ga G 16)), (2, .int (0 : Int32))] [1, 2, 0] dX7_become_1 rfl (by decide) rfl ?_
  exact h
set_option maxRecDepth 100000 in
theorem eX7_become_2 {G : gC} {l : Launch} {P : Mem → Prop} {x2 : Int32} {μ : Mem} (h : (((10 : Int32) ≤ x2) → P (gm_w μ 4 1 (gm_r μ 16 1))) ∧ ((¬ (10 : Int32) ≤ x2) → vp_in x2 10 ∧ hX7_become_2 G l P (x2 + (1 : Int32)) (gm_row μ (5 + 1 + x2.toNatClampNeg) (va_cpy (μ.2.1 (17 + 1 + x2.toNatClampNeg)) (μ.2.1 (5 + 1 + x2.toNatClampNeg)) 0 0 9)))) : hX7_become_2 G l P x2 μ := by
  refine go_iload_n dX7_become_2 rfl 2 rfl ?_
  refine go_bipush (v := 10) dX7_become_3 (by decide) ?_
  refine go_icmp_ge 33 dX7_become_5 (by decide) (fun c1 => ?_) (fun c1 => ?_)
  · have h := h.1 c1
    refine go_aload_n dX7_become_33 rfl 0 rfl ?_
    refine go_aload_n dX7_become_34 rfl 1 rfl ?_
    refine go_get (.int (gm_r μ 16 1)) dX7_become_35 fX7_16 (g_lt rfl) (gs_16 G _ _) rfl ?_
    refine go_puti dX7_become_38 pX7_16 (g_lt rfl) (gs_4 G _ _) (Nat.le_of_ble_eq_true rfl) rfl ?_
    exact go_vret dX7_become_41 rfl (Nat.le_refl _) (Nat.le_refl _) ⟨rfl, h⟩
  · have h := h.2 c1
    refine go_aload_n dX7_become_8 rfl 1 rfl ?_
    refine go_get (.ref (ga G 17)) dX7_become_9 fX7_13 (g_lt rfl) (gs_16 G _ _) rfl ?_
    refine go_iload_n dX7_become_12 rfl 2 rfl ?_
    obtain ⟨b2, h⟩ := h
    refine go_aald dX7_become_13 (g_lt rfl) (gs_17 G) b2 ?_
    refine go_iconst (v := 0) dX7_become_14 (by decide) ?_
    refine go_aload_n dX7_become_15 rfl 0 rfl ?_
    refine go_get (.ref (ga G 5)) dX7_become_16 fX7_13 (g_lt rfl) (gs_4 G _ _) rfl ?_
    refine go_iload_n dX7_become_19 rfl 2 rfl ?_
    refine go_aald dX7_become_20 (g_lt rfl) (gs_5 G) b2 ?_
    refine go_iconst (v := 0) dX7_become_21 (by decide) ?_
    refine go_bipush (v := 9) dX7_become_22 (by decide) ?_
    refine go_copy (a := (17 + 1 + x2.toNatClampNeg)) (o := (5 + 1 + x2.toNatClampNeg)) (nn := 9) dX7_become_24 (g_in 479 (by decide +kernel) rfl) (g_in 481 (by decide +kernel) rfl) (g_in 480 (by decide +kernel) rfl) (g_in 79 (by decide +kernel) rfl) (fun hn => ⟨(gl_17 (vp_lt b2)) hn, (gl_5 (vp_lt b2)) hn⟩) (gn_17 G (vp_lt b2)) (gn_5 G (vp_lt b2)) (by omega) rfl (by decide) (by decide) (by decide) (by decide) (by decide) ?_
    refine go_iinc (v := (x2 + (1 : Int32))) [(0, .ref (ga G 4)), (1, .ref (ga G 16)), (2, .int (x2 + (1 : Int32)))] [1, 2, 0] 2 dX7_become_27 rfl rfl (by decide) rfl ?_
    refine go_goto 2 dX7_become_30 (by decide) ?_
    exact h
set_option maxRecDepth 100000 in
theorem eX2_forget {G : gC} {l : Launch}  {μ : Mem} {P : Mem → Prop} (h : 144 ≤ μ.1 ∧ P (gm_w (gm_w μ 106 7 (-1 : Int32)) 106 9 (-1 : Int32))) : qX2_forget G l  μ P := by
  refine Sp.of (by decide) (Nat.le_of_ble_eq_true rfl) (lv := [(0, .ref (ga G 106))]) rfl ?_
  refine go_aload_n dX2_forget_0 rfl 0 rfl ?_
  refine go_iconst (v := -1) dX2_forget_1 (by decide) ?_
  obtain ⟨n1, h⟩ := h
  refine go_puti dX2_forget_2 pX2_23 (g_lt2 n1 rfl) (gs_106 G _ _) (Nat.le_of_ble_eq_true rfl) rfl ?_
  refine go_aload_n dX2_forget_5 rfl 0 rfl ?_
  refine go_iconst (v := -1) dX2_forget_6 (by decide) ?_
  refine go_puti dX2_forget_7 pX2_30 (g_lt2 n1 rfl) (gs_106 G _ _) (Nat.le_of_ble_eq_true rfl) rfl ?_
  exact go_vret dX2_forget_10 rfl (Nat.le_refl _) (Nat.le_refl _) ⟨rfl, h⟩
set_option maxRecDepth 100000 in
theorem eX9_forgetPlans {G : gC} {l : Launch}  {μ : Mem} {P : Mem → Prop} (h : (((gm_r μ 0 11) = 0) → P μ) ∧ ((¬ (gm_r μ 0 11) = 0) → 144 ≤ μ.1 ∧ qX2_forget G l  μ (fun (μ3 : Mem) => P μ3))) : qX9_forgetPlans G l  μ P := by
  refine Sp.of (by decide) (Nat.le_of_ble_eq_true rfl) (lv := [(0, .ref (ga G 0))]) rfl ?_
  refine go_aload_n dX9_forgetPlans_0 rfl 0 rfl ?_
  refine go_get ((if (gm_r μ 0 11) = 0 then .null else .ref (ga G 106))) dX9_forgetPlans_1 fX9_288 (g_lt rfl) (gs_0 G _ _) rfl ?_
  refine go_ifnullN 14 dX9_forgetPlans_4 (by decide) (fun c1 => ?_) (fun c1 => ?_)
  · have h := h.1 c1
    exact go_vret dX9_forgetPlans_14 rfl (Nat.le_refl _) (Nat.le_refl _) ⟨rfl, h⟩
  · have h := h.2 c1
    refine go_aload_n dX9_forgetPlans_7 rfl 0 rfl ?_
    refine go_get ((if (gm_r μ 0 11) = 0 then .null else .ref (ga G 106))) dX9_forgetPlans_8 fX9_288 (g_lt rfl) (gs_0 G _ _) rfl ?_
    refine go_nn c1 ?_
    obtain ⟨n2, h⟩ := h
    refine go_callV (As := []) (rest := []) dX9_forgetPlans_11 lX9_295 kX2_forget rfl (by decide) (Nat.le_of_ble_eq_true rfl) (g_lt2 n2 rfl) (gs_106 G _ _) rfl (by decide) rfl (gV_go (fun μ3 h => ?_)) h
    exact go_vret dX9_forgetPlans_14 rfl (Nat.le_refl _) (Nat.le_refl _) ⟨rfl, h⟩
set_option maxRecDepth 100000 in
theorem eX9_story {G : gC} {l : Launch}  {μ : Mem} {P : Int32 → Mem → Prop} (h : qX4_read G l  μ (fun (r2 : Int32) (μ1 : Mem) => ((r2 = 0) → qX7_become G l  (gm_w μ1 1 1 (0 : Int32)) (fun (μ4 : Mem) => qX0_clear G l  μ4 (fun (μ6 : Mem) => qX9_forgetPlans G l  (gm_w (gm_w (gm_w μ6 77 0 (0 : Int32)) 77 1 (0 : Int32)) 30 2 (0 : Int32)) (fun (μ8 : Mem) => P (gm_r μ8 4 1) μ8)))) ∧ ((¬ r2 = 0) → P ((-10 : Int32) - r2) (gm_w μ1 1 1 (0 : Int32))))) : qX9_story G l  μ P := by
  refine Sp.of (by decide) (Nat.le_of_ble_eq_true rfl) (lv := [(0, .ref (ga G 0))]) rfl ?_
  refine go_aload_n dX9_story_0 rfl 0 rfl ?_
  refine go_get (.ref (ga G 3)) dX9_story_1 fX9_21 (g_lt rfl) (gs_0 G _ _) rfl ?_
  refine go_aload_n dX9_story_4 rfl 0 rfl ?_
  refine go_get (.ref (ga G 16)) dX9_story_5 fX9_32 (g_lt rfl) (gs_0 G _ _) rfl ?_
  refine go_callV (As := [.ref (ga G 16)]) (rest := []) dX9_story_8 lX9_92 kX4_read rfl (by decide) (Nat.le_of_ble_eq_true rfl) (g_lt rfl) (gs_3 G _ _) rfl (by decide) rfl (gI_go (fun r2 μ1 h => ?_)) h
  refine go_istore_n [(0, .ref (ga G 0)), (1, .int r2)] [1, 0] dX9_story_11 rfl (by decide) rfl ?_
  refine go_aload_n dX9_story_12 rfl 0 rfl ?_
  refine go_get (.ref (ga G 1)) dX9_story_13 fX9_12 (g_lt rfl) (gs_0 G _ _) rfl ?_
  refine go_iconst (v := 0) dX9_story_16 (by decide) ?_
  refine go_puti dX9_story_17 pX9_84 (g_lt rfl) (gs_1 G _ _) (Nat.le_of_ble_eq_true rfl) rfl ?_
  refine go_iload_n dX9_story_20 rfl 1 rfl ?_
  refine go_if_eq 29 dX9_story_21 (by decide) (fun c3 => ?_) (fun c3 => ?_)
  · have h := h.1 c3
    refine go_aload_n dX9_story_29 rfl 0 rfl ?_
    refine go_get (.ref (ga G 4)) dX9_story_30 fX9_28 (g_lt rfl) (gs_0 G _ _) rfl ?_
    refine go_aload_n dX9_story_33 rfl 0 rfl ?_
    refine go_get (.ref (ga G 16)) dX9_story_34 fX9_32 (g_lt rfl) (gs_0 G _ _) rfl ?_
    refine go_callV (As := [.ref (ga G 16)]) (rest := []) dX9_story_37 lX9_96 kX7_become rfl (by decide) (Nat.le_of_ble_eq_true rfl) (g_lt rfl) (gs_4 G _ _) rfl (by decide) rfl (gV_go (fun μ4 h => ?_)) h
    refine go_aload_n dX9_story_40 rfl 0 rfl ?_
    refine go_get (.ref (ga G 42)) dX9_story_41 fX9_56 (g_lt rfl) (gs_0 G _ _) rfl ?_
    refine go_callV (As := []) (rest := []) dX9_story_44 lX9_99 kX0_clear rfl (by decide) (Nat.le_of_ble_eq_true rfl) (g_lt rfl) (gs_42 G _ _) rfl (by decide) rfl (gV_go (fun μ6 h => ?_)) h
    refine go_aload_n dX9_story_47 rfl 0 rfl ?_
    refine go_get (.ref (ga G 77)) dX9_story_48 fX9_80 (g_lt rfl) (gs_0 G _ _) rfl ?_
    refine go_iconst (v := 0) dX9_story_51 (by decide) ?_
    refine go_iconst (v := 0) dX9_story_52 (by decide) ?_
    refine go_zast dX9_story_53 (g_lt rfl) (gs_77 G) (by unfold vp_in; decide) ?_
    refine go_aload_n dX9_story_54 rfl 0 rfl ?_
    refine go_get (.ref (ga G 77)) dX9_story_55 fX9_80 (g_lt rfl) (gs_0 G _ _) rfl ?_
    refine go_iconst (v := 1) dX9_story_58 (by decide) ?_
    refine go_iconst (v := 0) dX9_story_59 (by decide) ?_
    refine go_zast dX9_story_60 (g_lt rfl) (gs_77 G) (by unfold vp_in; decide) ?_
    refine go_aload_n dX9_story_61 rfl 0 rfl ?_
    refine go_get (.ref (ga G 30)) dX9_story_62 fX9_49 (g_lt rfl) (gs_0 G _ _) rfl ?_
    refine go_iconst (v := 0) dX9_story_65 (by decide) ?_
    refine go_putv (0 : Int32) dX9_story_66 pX9_102 rfl rfl (g_lt rfl) (gs_30 G _ _) (Nat.le_of_ble_eq_true rfl) rfl ?_
    refine go_aload_n dX9_story_69 rfl 0 rfl ?_
    refine go_callV (As := []) (rest := []) dX9_story_70 lX9_106 kX9_forgetPlans rfl (by decide) (Nat.le_of_ble_eq_true rfl) (g_lt rfl) (gs_0 G _ _) rfl (by decide) rfl (gV_go (fun μ8 h => ?_)) h
    refine go_aload_n dX9_story_73 rfl 0 rfl ?_
    refine go_get (.ref (ga G 4)) dX9_story_74 fX9_28 (g_lt rfl) (gs_0 G _ _) rfl ?_
    refine go_get (.int (gm_r μ8 4 1)) dX9_story_77 fX9_109 (g_lt rfl) (gs_4 G _ _) rfl ?_
    exact go_iret dX9_story_80 rfl (Nat.le_refl _) (Nat.le_refl _) ⟨_, rfl, h⟩
  · have h := h.2 c3
    refine go_bipush (v := -10) dX9_story_24 (by decide) ?_
    refine go_iload_n dX9_story_26 rfl 1 rfl ?_
    refine go_isub dX9_story_27 ?_
    exact go_iret dX9_story_28 rfl (Nat.le_refl _) (Nat.le_refl _) ⟨_, rfl, h⟩
set_option maxRecDepth 100000 in
theorem eX9_fault {G : gC} {l : Launch}  {μ : Mem} {P : Int32 → Mem → Prop} (h : P (gm_r μ 3 4) μ) : qX9_fault G l  μ P := by
  refine Sp.of (by decide) (Nat.le_of_ble_eq_true rfl) (lv := [(0, .ref (ga G 0))]) rfl ?_
  refine go_aload_n dX9_fault_0 rfl 0 rfl ?_
  refine go_get (.ref (ga G 3)) dX9_fault_1 fX9_21 (g_lt rfl) (gs_0 G _ _) rfl ?_
  refine go_get (.int (gm_r μ 3 4)) dX9_fault_4 fX9_112 (g_lt rfl) (gs_3 G _ _) rfl ?_
  exact go_iret dX9_fault_7 rfl (Nat.le_refl _) (Nat.le_refl _) ⟨_, rfl, h⟩
set_option maxRecDepth 100000 in
theorem eX0_end {G : gC} {l : Launch} {a1 : Int32} {μ : Mem} {P : Int32 → Mem → Prop} (h : ((a1 < 0) → P (gm_r μ 42 1) μ) ∧ ((¬ a1 < 0) → (((gm_r μ 42 3) ≤ a1) → P (gm_r μ 42 1) μ) ∧ ((¬ (gm_r μ 42 3) ≤ a1) → vp_in a1 12 ∧ P (gm_r μ 44 a1.toNatClampNeg) μ))) : qX0_end G l a1 μ P := by
  refine Sp.of (by decide) (Nat.le_of_ble_eq_true rfl) (lv := [(0, .ref (ga G 42)), (1, .int a1)]) rfl ?_
  refine go_iload_n dX0_end_0 rfl 1 rfl ?_
  refine go_if_lt 21 dX0_end_1 (by decide) (fun c1 => ?_) (fun c1 => ?_)
  · have h := h.1 c1
    refine go_aload_n dX0_end_21 rfl 0 rfl ?_
    refine go_get (.int (gm_r μ 42 1)) dX0_end_22 fX0_15 (g_lt rfl) (gs_42 G _ _) rfl ?_
    exact go_iret dX0_end_25 rfl (Nat.le_refl _) (Nat.le_refl _) ⟨_, rfl, h⟩
  · have h := h.2 c1
    refine go_iload_n dX0_end_4 rfl 1 rfl ?_
    refine go_aload_n dX0_end_5 rfl 0 rfl ?_
    refine go_get (.int (gm_r μ 42 3)) dX0_end_6 fX0_22 (g_lt rfl) (gs_42 G _ _) rfl ?_
    refine go_icmp_ge 21 dX0_end_9 (by decide) (fun c2 => ?_) (fun c2 => ?_)
    · have h := h.1 c2
      refine go_aload_n dX0_end_21 rfl 0 rfl ?_
      refine go_get (.int (gm_r μ 42 1)) dX0_end_22 fX0_15 (g_lt rfl) (gs_42 G _ _) rfl ?_
      exact go_iret dX0_end_25 rfl (Nat.le_refl _) (Nat.le_refl _) ⟨_, rfl, h⟩
    · have h := h.2 c2
      refine go_aload_n dX0_end_12 rfl 0 rfl ?_
      refine go_get (.ref (ga G 44)) dX0_end_13 fX0_19 (g_lt rfl) (gs_42 G _ _) rfl ?_
      refine go_iload_n dX0_end_16 rfl 1 rfl ?_
      obtain ⟨b3, h⟩ := h
      refine go_ialdv ((gm_r μ 44 a1.toNatClampNeg)) dX0_end_17 (g_lt rfl) (gs_44 G) b3 rfl ?_
      refine go_goto 25 dX0_end_18 (by decide) ?_
      exact go_iret dX0_end_25 rfl (Nat.le_refl _) (Nat.le_refl _) ⟨_, rfl, h⟩
set_option maxRecDepth 100000 in
theorem eX0_setFrom {G : gC} {l : Launch} {a1 : Int32} {a2 : Int32} {μ : Mem} {P : Int32 → Mem → Prop} (h : hX0_setFrom_5 G l P a2 (0 : Int32) a1 μ) : qX0_setFrom G l a1 a2 μ P := by
  refine Sp.of (by decide) (Nat.le_of_ble_eq_true rfl) (lv := [(0, .ref (ga G 42)), (1, .int a1), (2, .int a2)]) rfl ?_
  refine go_iconst (v := 0) dX0_setFrom_0 (by decide) ?_
  refine go_istore_n [(0, .ref (ga G 42)), (1, .int a1), (2, .int a2), (3, .int (0 : Int32))] [1, 2, 3, 0] dX0_setFrom_1 rfl (by decide) rfl ?_
  refine go_iload_n dX0_setFrom_2 rfl 1 rfl ?_
  refine go_istore [(0, .ref (ga G 42)), (1, .int a1), (2, .int a2), (3, .int (0 : Int32)), (4, .int a1)] [1, 2, 3, 4, 0] dX0_setFrom_3 (by decide) rfl ?_
  exact go_sub [0, 2, 3, 4] rfl h
set_option maxRecDepth 100000 in
theorem eX0_setFrom_5 {G : gC} {l : Launch} {P : Int32 → Mem → Prop} {x2 : Int32} {x3 : Int32} {x4 : Int32} {μ : Mem} (h : ((x2 ≤ x4) → P x3 μ) ∧ ((¬ x2 ≤ x4) → (((10 : Int32) ≤ x4) → P x3 μ) ∧ ((¬ (10 : Int32) ≤ x4) → vp_in x4 10 ∧ ∀ v4 : Int32, v4 = (x3 ||| ((1 : Int32) <<< ((gm_r μ 43 x4.toNatClampNeg) &&& 31))) → hX0_setFrom_5 G l P x2 v4 (x4 + (1 : Int32)) μ))) : hX0_setFrom_5 G l P x2 x3 x4 μ := by
  refine go_iload dX0_setFrom_5 3 rfl ?_
  refine go_iload_n dX0_setFrom_7 rfl 1 rfl ?_
  refine go_icmp_ge 36 dX0_setFrom_8 (by decide) (fun c1 => ?_) (fun c1 => ?_)
  · have h := h.1 c1
    refine go_iload_n dX0_setFrom_36 rfl 2 rfl ?_
    exact go_iret dX0_setFrom_37 rfl (Nat.le_refl _) (Nat.le_refl _) ⟨_, rfl, h⟩
  · have h := h.2 c1
    refine go_iload dX0_setFrom_11 3 rfl ?_
    refine go_bipush (v := 10) dX0_setFrom_13 (by decide) ?_
    refine go_icmp_ge 36 dX0_setFrom_15 (by decide) (fun c2 => ?_) (fun c2 => ?_)
    · have h := h.1 c2
      refine go_iload_n dX0_setFrom_36 rfl 2 rfl ?_
      exact go_iret dX0_setFrom_37 rfl (Nat.le_refl _) (Nat.le_refl _) ⟨_, rfl, h⟩
    · have h := h.2 c2
      refine go_iload_n dX0_setFrom_18 rfl 2 rfl ?_
      refine go_iconst (v := 1) dX0_setFrom_19 (by decide) ?_
      refine go_aload_n dX0_setFrom_20 rfl 0 rfl ?_
      refine go_get (.ref (ga G 43)) dX0_setFrom_21 fX0_9 (g_lt rfl) (gs_42 G _ _) rfl ?_
      refine go_iload dX0_setFrom_24 3 rfl ?_
      obtain ⟨b3, h⟩ := h
      refine go_ialdv ((gm_r μ 43 x4.toNatClampNeg)) dX0_setFrom_26 (g_lt rfl) (gs_43 G) b3 rfl ?_
      refine go_ishl dX0_setFrom_27 ?_
      refine go_ior dX0_setFrom_28 ?_
      refine go_topi (fun v4 e_v4 => ?_)
      have h := h v4 e_v4
      refine go_istore_n [(0, .ref (ga G 42)), (2, .int x2), (3, .int v4), (4, .int x4)] [1, 2, 0, 3] dX0_setFrom_29 rfl (by decide) rfl ?_
      refine go_iinc (v := (x4 + (1 : Int32))) [(0, .ref (ga G 42)), (2, .int x2), (3, .int v4), (4, .int (x4 + (1 : Int32)))] [1, 2, 3, 0] 3 dX0_setFrom_30 rfl rfl (by decide) rfl ?_
      refine go_goto 5 dX0_setFrom_33 (by decide) ?_
      exact h
set_option maxRecDepth 100000 in
theorem eX0_start {G : gC} {l : Launch} {a1 : Int32} {μ : Mem} {P : Int32 → Mem → Prop} (h : ((a1 < (1 : Int32)) → P (0 : Int32) μ) ∧ ((¬ a1 < (1 : Int32)) → ((a1 ≤ (gm_r μ 42 3)) → vp_in (a1 - (1 : Int32)) 12 ∧ P (gm_r μ 44 (a1 - (1 : Int32)).toNatClampNeg) μ) ∧ ((¬ a1 ≤ (gm_r μ 42 3)) → P (0 : Int32) μ))) : qX0_start G l a1 μ P := by
  refine Sp.of (by decide) (Nat.le_of_ble_eq_true rfl) (lv := [(0, .ref (ga G 42)), (1, .int a1)]) rfl ?_
  refine go_iload_n dX0_start_0 rfl 1 rfl ?_
  refine go_iconst (v := 1) dX0_start_1 (by decide) ?_
  refine go_icmp_lt 13 dX0_start_2 (by decide) (fun c1 => ?_) (fun c1 => ?_)
  · have h := h.1 c1
    refine go_iconst (v := 0) dX0_start_13 (by decide) ?_
    refine go_goto 25 dX0_start_14 (by decide) ?_
    exact go_iret dX0_start_25 rfl (Nat.le_refl _) (Nat.le_refl _) ⟨_, rfl, h⟩
  · have h := h.2 c1
    refine go_iload_n dX0_start_5 rfl 1 rfl ?_
    refine go_aload_n dX0_start_6 rfl 0 rfl ?_
    refine go_get (.int (gm_r μ 42 3)) dX0_start_7 fX0_22 (g_lt rfl) (gs_42 G _ _) rfl ?_
    refine go_icmp_le 17 dX0_start_10 (by decide) (fun c2 => ?_) (fun c2 => ?_)
    · have h := h.1 c2
      refine go_aload_n dX0_start_17 rfl 0 rfl ?_
      refine go_get (.ref (ga G 44)) dX0_start_18 fX0_19 (g_lt rfl) (gs_42 G _ _) rfl ?_
      refine go_iload_n dX0_start_21 rfl 1 rfl ?_
      refine go_iconst (v := 1) dX0_start_22 (by decide) ?_
      refine go_isub dX0_start_23 ?_
      obtain ⟨b3, h⟩ := h
      refine go_ialdv ((gm_r μ 44 (a1 - (1 : Int32)).toNatClampNeg)) dX0_start_24 (g_lt rfl) (gs_44 G) b3 rfl ?_
      exact go_iret dX0_start_25 rfl (Nat.le_refl _) (Nat.le_refl _) ⟨_, rfl, h⟩
    · have h := h.2 c2
      refine go_iconst (v := 0) dX0_start_13 (by decide) ?_
      refine go_goto 25 dX0_start_14 (by decide) ?_
      exact go_iret dX0_start_25 rfl (Nat.le_refl _) (Nat.le_refl _) ⟨_, rfl, h⟩
set_option maxRecDepth 100000 in
theorem eX0_setOf {G : gC} {l : Launch} {a1 : Int32} {μ : Mem} {P : Int32 → Mem → Prop} (h : qX0_start G l a1 μ (fun (r2 : Int32) (μ1 : Mem) => qX0_end G l a1 μ1 (fun (r4 : Int32) (μ3 : Mem) => qX0_setFrom G l r2 r4 μ3 (fun (r6 : Int32) (μ5 : Mem) => P r6 μ5)))) : qX0_setOf G l a1 μ P := by
  refine Sp.of (by decide) (Nat.le_of_ble_eq_true rfl) (lv := [(0, .ref (ga G 42)), (1, .int a1)]) rfl ?_
  refine go_aload_n dX0_setOf_0 rfl 0 rfl ?_
  refine go_aload_n dX0_setOf_1 rfl 0 rfl ?_
  refine go_iload_n dX0_setOf_2 rfl 1 rfl ?_
  refine go_callV (As := [.int a1]) (rest := [.ref (ga G 42)]) dX0_setOf_3 lX0_48 kX0_start rfl (by decide) (Nat.le_of_ble_eq_true rfl) (g_lt rfl) (gs_42 G _ _) rfl (by decide) rfl (gI_go (fun r2 μ1 h => ?_)) h
  refine go_aload_n dX0_setOf_6 rfl 0 rfl ?_
  refine go_iload_n dX0_setOf_7 rfl 1 rfl ?_
  refine go_callV (As := [.int a1]) (rest := [.int r2, .ref (ga G 42)]) dX0_setOf_8 lX0_56 kX0_end rfl (by decide) (Nat.le_of_ble_eq_true rfl) (g_lt rfl) (gs_42 G _ _) rfl (by decide) rfl (gI_go (fun r4 μ3 h => ?_)) h
  refine go_callV (As := [.int r2, .int r4]) (rest := []) dX0_setOf_11 lX0_59 kX0_setFrom rfl (by decide) (Nat.le_of_ble_eq_true rfl) (g_lt rfl) (gs_42 G _ _) rfl (by decide) rfl (gI_go (fun r6 μ5 h => ?_)) h
  exact go_iret dX0_setOf_14 rfl (Nat.le_refl _) (Nat.le_refl _) ⟨_, rfl, h⟩
set_option maxRecDepth 100000 in
theorem eX0_numberOf {G : gC} {l : Launch} {a1 : Int32} {μ : Mem} {P : Int32 → Mem → Prop} (h : hX0_numberOf_2 G l P a1 (0 : Int32) μ) : qX0_numberOf G l a1 μ P := by
  refine Sp.of (by decide) (Nat.le_of_ble_eq_true rfl) (lv := [(0, .ref (ga G 42)), (1, .int a1)]) rfl ?_
  refine go_iconst (v := 0) dX0_numberOf_0 (by decide) ?_
  refine go_istore_n [(0, .ref (ga G 42)), (1, .int a1), (2, .int (0 : Int32))] [1, 2, 0] dX0_numberOf_1 rfl (by decide) rfl ?_
  exact h
set_option maxRecDepth 100000 in
theorem eX0_numberOf_2 {G : gC} {l : Launch} {P : Int32 → Mem → Prop} {x1 : Int32} {x2 : Int32} {μ : Mem} (h : (((gm_r μ 42 3) ≤ x2) → P (-1 : Int32) μ) ∧ ((¬ (gm_r μ 42 3) ≤ x2) → qX0_setOf G l x2 μ (fun (r3 : Int32) (μ2 : Mem) => ((¬ ((r3 >>> (x1 &&& 31)) &&& (1 : Int32)) = (1 : Int32)) → hX0_numberOf_2 G l P x1 (x2 + (1 : Int32)) μ2) ∧ ((((r3 >>> (x1 &&& 31)) &&& (1 : Int32)) = (1 : Int32)) → P x2 μ2)))) : hX0_numberOf_2 G l P x1 x2 μ := by
  refine go_iload_n dX0_numberOf_2 rfl 2 rfl ?_
  refine go_aload_n dX0_numberOf_3 rfl 0 rfl ?_
  refine go_get (.int (gm_r μ 42 3)) dX0_numberOf_4 fX0_22 (g_lt rfl) (gs_42 G _ _) rfl ?_
  refine go_icmp_ge 31 dX0_numberOf_7 (by decide) (fun c1 => ?_) (fun c1 => ?_)
  · have h := h.1 c1
    refine go_iconst (v := -1) dX0_numberOf_31 (by decide) ?_
    exact go_iret dX0_numberOf_32 rfl (Nat.le_refl _) (Nat.le_refl _) ⟨_, rfl, h⟩
  · have h := h.2 c1
    refine go_aload_n dX0_numberOf_10 rfl 0 rfl ?_
    refine go_iload_n dX0_numberOf_11 rfl 2 rfl ?_
    refine go_callV (As := [.int x2]) (rest := []) dX0_numberOf_12 lX0_63 kX0_setOf rfl (by decide) (Nat.le_of_ble_eq_true rfl) (g_lt rfl) (gs_42 G _ _) rfl (by decide) rfl (gI_go (fun r3 μ2 h => ?_)) h
    refine go_iload_n dX0_numberOf_15 rfl 1 rfl ?_
    refine go_ishr dX0_numberOf_16 ?_
    refine go_iconst (v := 1) dX0_numberOf_17 (by decide) ?_
    refine go_iand dX0_numberOf_18 ?_
    refine go_iconst (v := 1) dX0_numberOf_19 (by decide) ?_
    refine go_icmp_ne 25 dX0_numberOf_20 (by decide) (fun c4 => ?_) (fun c4 => ?_)
    · have h := h.1 c4
      refine go_iinc (v := (x2 + (1 : Int32))) [(0, .ref (ga G 42)), (1, .int x1), (2, .int (x2 + (1 : Int32)))] [1, 2, 0] 2 dX0_numberOf_25 rfl rfl (by decide) rfl ?_
      refine go_goto 2 dX0_numberOf_28 (by decide) ?_
      exact h
    · have h := h.2 c4
      refine go_iload_n dX0_numberOf_23 rfl 2 rfl ?_
      exact go_iret dX0_numberOf_24 rfl (Nat.le_refl _) (Nat.le_refl _) ⟨_, rfl, h⟩
set_option maxRecDepth 100000 in
theorem eX7_cell {G : gC} {l : Launch} {a1 : Int32} {a2 : Int32} {μ : Mem} {P : Int32 → Mem → Prop} (h : ((a1 < 0) → P (0 : Int32) μ) ∧ ((¬ a1 < 0) → (((10 : Int32) ≤ a1) → P (0 : Int32) μ) ∧ ((¬ (10 : Int32) ≤ a1) → ((a2 < 0) → P (0 : Int32) μ) ∧ ((¬ a2 < 0) → (((9 : Int32) ≤ a2) → P (0 : Int32) μ) ∧ ((¬ (9 : Int32) ≤ a2) → vp_in a1 10 ∧ vp_in a2 9 ∧ P (gm_r μ (5 + 1 + a1.toNatClampNeg) a2.toNatClampNeg) μ))))) : qX7_cell G l a1 a2 μ P := by
  refine Sp.of (by decide) (Nat.le_of_ble_eq_true rfl) (lv := [(0, .ref (ga G 4)), (1, .int a1), (2, .int a2)]) rfl ?_
  refine go_iload_n dX7_cell_0 rfl 1 rfl ?_
  refine go_if_lt 31 dX7_cell_1 (by decide) (fun c1 => ?_) (fun c1 => ?_)
  · have h := h.1 c1
    refine go_iconst (v := 0) dX7_cell_31 (by decide) ?_
    exact go_iret dX7_cell_32 rfl (Nat.le_refl _) (Nat.le_refl _) ⟨_, rfl, h⟩
  · have h := h.2 c1
    refine go_iload_n dX7_cell_4 rfl 1 rfl ?_
    refine go_bipush (v := 10) dX7_cell_5 (by decide) ?_
    refine go_icmp_ge 31 dX7_cell_7 (by decide) (fun c2 => ?_) (fun c2 => ?_)
    · have h := h.1 c2
      refine go_iconst (v := 0) dX7_cell_31 (by decide) ?_
      exact go_iret dX7_cell_32 rfl (Nat.le_refl _) (Nat.le_refl _) ⟨_, rfl, h⟩
    · have h := h.2 c2
      refine go_iload_n dX7_cell_10 rfl 2 rfl ?_
      refine go_if_lt 31 dX7_cell_11 (by decide) (fun c3 => ?_) (fun c3 => ?_)
      · have h := h.1 c3
        refine go_iconst (v := 0) dX7_cell_31 (by decide) ?_
        exact go_iret dX7_cell_32 rfl (Nat.le_refl _) (Nat.le_refl _) ⟨_, rfl, h⟩
      · have h := h.2 c3
        refine go_iload_n dX7_cell_14 rfl 2 rfl ?_
        refine go_bipush (v := 9) dX7_cell_15 (by decide) ?_
        refine go_icmp_ge 31 dX7_cell_17 (by decide) (fun c4 => ?_) (fun c4 => ?_)
        · have h := h.1 c4
          refine go_iconst (v := 0) dX7_cell_31 (by decide) ?_
          exact go_iret dX7_cell_32 rfl (Nat.le_refl _) (Nat.le_refl _) ⟨_, rfl, h⟩
        · have h := h.2 c4
          refine go_aload_n dX7_cell_20 rfl 0 rfl ?_
          refine go_get (.ref (ga G 5)) dX7_cell_21 fX7_13 (g_lt rfl) (gs_4 G _ _) rfl ?_
          refine go_iload_n dX7_cell_24 rfl 1 rfl ?_
          obtain ⟨b5, h⟩ := h
          refine go_aald dX7_cell_25 (g_lt rfl) (gs_5 G) b5 ?_
          refine go_iload_n dX7_cell_26 rfl 2 rfl ?_
          obtain ⟨b6, h⟩ := h
          refine go_ialdv ((gm_r μ (5 + 1 + a1.toNatClampNeg) a2.toNatClampNeg)) dX7_cell_27 (gl_5 (vp_lt b5)) (gn_5 G (vp_lt b5)) b6 rfl ?_
          refine go_goto 32 dX7_cell_28 (by decide) ?_
          exact go_iret dX7_cell_32 rfl (Nat.le_refl _) (Nat.le_refl _) ⟨_, rfl, h⟩
set_option maxRecDepth 100000 in
theorem eX9_isScene {G : gC} {l : Launch} {a1 : Int32} {μ : Mem} {P : Int32 → Mem → Prop} (h : ((a1 < 0) → P (0 : Int32) μ) ∧ ((¬ a1 < 0) → (((gm_r μ 4 1) ≤ a1) → P (0 : Int32) μ) ∧ ((¬ (gm_r μ 4 1) ≤ a1) → P (1 : Int32) μ))) : qX9_isScene G l a1 μ P := by
  refine Sp.of (by decide) (Nat.le_of_ble_eq_true rfl) (lv := [(0, .ref (ga G 0)), (1, .int a1)]) rfl ?_
  refine go_iload_n dX9_isScene_0 rfl 1 rfl ?_
  refine go_if_lt 19 dX9_isScene_1 (by decide) (fun c1 => ?_) (fun c1 => ?_)
  · have h := h.1 c1
    refine go_iconst (v := 0) dX9_isScene_19 (by decide) ?_
    exact go_zret dX9_isScene_20 rfl (Nat.le_refl _) (Nat.le_refl _) rfl ⟨_, rfl, h⟩
  · have h := h.2 c1
    refine go_iload_n dX9_isScene_4 rfl 1 rfl ?_
    refine go_aload_n dX9_isScene_5 rfl 0 rfl ?_
    refine go_get (.ref (ga G 4)) dX9_isScene_6 fX9_28 (g_lt rfl) (gs_0 G _ _) rfl ?_
    refine go_get (.int (gm_r μ 4 1)) dX9_isScene_9 fX9_109 (g_lt rfl) (gs_4 G _ _) rfl ?_
    refine go_icmp_ge 19 dX9_isScene_12 (by decide) (fun c2 => ?_) (fun c2 => ?_)
    · have h := h.1 c2
      refine go_iconst (v := 0) dX9_isScene_19 (by decide) ?_
      exact go_zret dX9_isScene_20 rfl (Nat.le_refl _) (Nat.le_refl _) rfl ⟨_, rfl, h⟩
    · have h := h.2 c2
      refine go_iconst (v := 1) dX9_isScene_15 (by decide) ?_
      refine go_goto 20 dX9_isScene_16 (by decide) ?_
      exact go_zret dX9_isScene_20 rfl (Nat.le_refl _) (Nat.le_refl _) rfl ⟨_, rfl, h⟩
set_option maxRecDepth 100000 in
theorem eX9_scene {G : gC} {l : Launch} {a1 : Int32} {a2 : Int32} {μ : Mem} {P : Int32 → Mem → Prop} (h : qX9_isScene G l a1 μ (fun (r2 : Int32) (μ1 : Mem) => ((¬ r2 = 0) → ((a2 < 0) → P (-1002 : Int32) μ1) ∧ ((¬ a2 < 0) → ((a2 ≤ (9 : Int32)) → ((¬ a2 = (9 : Int32)) → qX7_cell G l a1 a2 μ1 (fun (r8 : Int32) (μ7 : Mem) => P r8 μ7)) ∧ ((a2 = (9 : Int32)) → qX0_numberOf G l a1 μ1 (fun (r10 : Int32) (μ9 : Mem) => P r10 μ9))) ∧ ((¬ a2 ≤ (9 : Int32)) → P (-1002 : Int32) μ1))) ∧ ((r2 = 0) → P (-1001 : Int32) μ1))) : qX9_scene G l a1 a2 μ P := by
  refine Sp.of (by decide) (Nat.le_of_ble_eq_true rfl) (lv := [(0, .ref (ga G 0)), (1, .int a1), (2, .int a2)]) rfl ?_
  refine go_aload_n dX9_scene_0 rfl 0 rfl ?_
  refine go_iload_n dX9_scene_1 rfl 1 rfl ?_
  refine go_callV (As := [.int a1]) (rest := []) dX9_scene_2 lX9_115 kX9_isScene rfl (by decide) (Nat.le_of_ble_eq_true rfl) (g_lt rfl) (gs_0 G _ _) rfl (by decide) rfl (gI_go (fun r2 μ1 h => ?_)) h
  refine go_if_ne 12 dX9_scene_5 (by decide) (fun c3 => ?_) (fun c3 => ?_)
  · have h := h.1 c3
    refine go_iload_n dX9_scene_12 rfl 2 rfl ?_
    refine go_if_lt 22 dX9_scene_13 (by decide) (fun c4 => ?_) (fun c4 => ?_)
    · have h := h.1 c4
      refine go_sipush (v := -1002) dX9_scene_22 (by decide) ?_
      exact go_iret dX9_scene_25 rfl (Nat.le_refl _) (Nat.le_refl _) ⟨_, rfl, h⟩
    · have h := h.2 c4
      refine go_iload_n dX9_scene_16 rfl 2 rfl ?_
      refine go_bipush (v := 9) dX9_scene_17 (by decide) ?_
      refine go_icmp_le 26 dX9_scene_19 (by decide) (fun c5 => ?_) (fun c5 => ?_)
      · have h := h.1 c5
        refine go_iload_n dX9_scene_26 rfl 2 rfl ?_
        refine go_bipush (v := 9) dX9_scene_27 (by decide) ?_
        refine go_icmp_ne 43 dX9_scene_29 (by decide) (fun c6 => ?_) (fun c6 => ?_)
        · have h := h.1 c6
          refine go_aload_n dX9_scene_43 rfl 0 rfl ?_
          refine go_get (.ref (ga G 4)) dX9_scene_44 fX9_28 (g_lt rfl) (gs_0 G _ _) rfl ?_
          refine go_iload_n dX9_scene_47 rfl 1 rfl ?_
          refine go_iload_n dX9_scene_48 rfl 2 rfl ?_
          refine go_callV (As := [.int a1, .int a2]) (rest := []) dX9_scene_49 lX9_123 kX7_cell rfl (by decide) (Nat.le_of_ble_eq_true rfl) (g_lt rfl) (gs_4 G _ _) rfl (by decide) rfl (gI_go (fun r8 μ7 h => ?_)) h
          exact go_iret dX9_scene_52 rfl (Nat.le_refl _) (Nat.le_refl _) ⟨_, rfl, h⟩
        · have h := h.2 c6
          refine go_aload_n dX9_scene_32 rfl 0 rfl ?_
          refine go_get (.ref (ga G 42)) dX9_scene_33 fX9_56 (g_lt rfl) (gs_0 G _ _) rfl ?_
          refine go_iload_n dX9_scene_36 rfl 1 rfl ?_
          refine go_callV (As := [.int a1]) (rest := []) dX9_scene_37 lX9_119 kX0_numberOf rfl (by decide) (Nat.le_of_ble_eq_true rfl) (g_lt rfl) (gs_42 G _ _) rfl (by decide) rfl (gI_go (fun r10 μ9 h => ?_)) h
          refine go_goto 52 dX9_scene_40 (by decide) ?_
          exact go_iret dX9_scene_52 rfl (Nat.le_refl _) (Nat.le_refl _) ⟨_, rfl, h⟩
      · have h := h.2 c5
        refine go_sipush (v := -1002) dX9_scene_22 (by decide) ?_
        exact go_iret dX9_scene_25 rfl (Nat.le_refl _) (Nat.le_refl _) ⟨_, rfl, h⟩
  · have h := h.2 c3
    refine go_sipush (v := -1001) dX9_scene_8 (by decide) ?_
    exact go_iret dX9_scene_11 rfl (Nat.le_refl _) (Nat.le_refl _) ⟨_, rfl, h⟩
set_option maxRecDepth 100000 in
theorem eX5_isNever {G : gC} {l : Launch} {a1 : Int32} {a2 : Int32} {μ : Mem} {P : Int32 → Mem → Prop} (h : ((a1 < 0) → P (0 : Int32) μ) ∧ ((¬ a1 < 0) → (((8 : Int32) ≤ a1) → P (0 : Int32) μ) ∧ ((¬ (8 : Int32) ≤ a1) → vp_in a1 8 ∧ ((¬ (((gm_r μ 29 a1.toNatClampNeg) >>> (a2 &&& 31)) &&& (1 : Int32)) = (1 : Int32)) → P (0 : Int32) μ) ∧ (((((gm_r μ 29 a1.toNatClampNeg) >>> (a2 &&& 31)) &&& (1 : Int32)) = (1 : Int32)) → P (1 : Int32) μ)))) : qX5_isNever G l a1 a2 μ P := by
  refine Sp.of (by decide) (Nat.le_of_ble_eq_true rfl) (lv := [(0, .ref (ga G 28)), (1, .int a1), (2, .int a2)]) rfl ?_
  refine go_iload_n dX5_isNever_0 rfl 1 rfl ?_
  refine go_if_lt 28 dX5_isNever_1 (by decide) (fun c1 => ?_) (fun c1 => ?_)
  · have h := h.1 c1
    refine go_iconst (v := 0) dX5_isNever_28 (by decide) ?_
    exact go_zret dX5_isNever_29 rfl (Nat.le_refl _) (Nat.le_refl _) rfl ⟨_, rfl, h⟩
  · have h := h.2 c1
    refine go_iload_n dX5_isNever_4 rfl 1 rfl ?_
    refine go_bipush (v := 8) dX5_isNever_5 (by decide) ?_
    refine go_icmp_ge 28 dX5_isNever_7 (by decide) (fun c2 => ?_) (fun c2 => ?_)
    · have h := h.1 c2
      refine go_iconst (v := 0) dX5_isNever_28 (by decide) ?_
      exact go_zret dX5_isNever_29 rfl (Nat.le_refl _) (Nat.le_refl _) rfl ⟨_, rfl, h⟩
    · have h := h.2 c2
      refine go_aload_n dX5_isNever_10 rfl 0 rfl ?_
      refine go_get (.ref (ga G 29)) dX5_isNever_11 fX5_9 (g_lt rfl) (gs_28 G _ _) rfl ?_
      refine go_iload_n dX5_isNever_14 rfl 1 rfl ?_
      obtain ⟨b3, h⟩ := h
      refine go_ialdv ((gm_r μ 29 a1.toNatClampNeg)) dX5_isNever_15 (g_lt rfl) (gs_29 G) b3 rfl ?_
      refine go_iload_n dX5_isNever_16 rfl 2 rfl ?_
      refine go_ishr dX5_isNever_17 ?_
      refine go_iconst (v := 1) dX5_isNever_18 (by decide) ?_
      refine go_iand dX5_isNever_19 ?_
      refine go_iconst (v := 1) dX5_isNever_20 (by decide) ?_
      refine go_icmp_ne 28 dX5_isNever_21 (by decide) (fun c4 => ?_) (fun c4 => ?_)
      · have h := h.1 c4
        refine go_iconst (v := 0) dX5_isNever_28 (by decide) ?_
        exact go_zret dX5_isNever_29 rfl (Nat.le_refl _) (Nat.le_refl _) rfl ⟨_, rfl, h⟩
      · have h := h.2 c4
        refine go_iconst (v := 1) dX5_isNever_24 (by decide) ?_
        refine go_goto 29 dX5_isNever_25 (by decide) ?_
        exact go_zret dX5_isNever_29 rfl (Nat.le_refl _) (Nat.le_refl _) rfl ⟨_, rfl, h⟩
set_option maxRecDepth 100000 in
theorem eX5_turnNever {G : gC} {l : Launch} {a1 : Int32} {a2 : Int32} {μ : Mem} {P : Mem → Prop} (h : ((a1 < 0) → P μ) ∧ ((¬ a1 < 0) → (((8 : Int32) ≤ a1) → P μ) ∧ ((¬ (8 : Int32) ≤ a1) → ((a2 < 0) → P μ) ∧ ((¬ a2 < 0) → ((a2 < (8 : Int32)) → qX5_isNever G l a1 a2 μ (fun (r6 : Int32) (μ5 : Mem) => ((r6 = 0) → hX5_turnNever_40 G l P a1 a2 (1 : Int32) (gm_r μ 28 2) μ5) ∧ ((¬ r6 = 0) → hX5_turnNever_40 G l P a1 a2 (-1 : Int32) (gm_r μ 28 2) μ5))) ∧ ((¬ a2 < (8 : Int32)) → P μ))))) : qX5_turnNever G l a1 a2 μ P := by
  refine Sp.of (by decide) (Nat.le_of_ble_eq_true rfl) (lv := [(0, .ref (ga G 28)), (1, .int a1), (2, .int a2)]) rfl ?_
  refine go_iload_n dX5_turnNever_0 rfl 1 rfl ?_
  refine go_if_lt 20 dX5_turnNever_1 (by decide) (fun c1 => ?_) (fun c1 => ?_)
  · have h := h.1 c1
    exact go_vret dX5_turnNever_20 rfl (Nat.le_refl _) (Nat.le_refl _) ⟨rfl, h⟩
  · have h := h.2 c1
    refine go_iload_n dX5_turnNever_4 rfl 1 rfl ?_
    refine go_bipush (v := 8) dX5_turnNever_5 (by decide) ?_
    refine go_icmp_ge 20 dX5_turnNever_7 (by decide) (fun c2 => ?_) (fun c2 => ?_)
    · have h := h.1 c2
      exact go_vret dX5_turnNever_20 rfl (Nat.le_refl _) (Nat.le_refl _) ⟨rfl, h⟩
    · have h := h.2 c2
      refine go_iload_n dX5_turnNever_10 rfl 2 rfl ?_
      refine go_if_lt 20 dX5_turnNever_11 (by decide) (fun c3 => ?_) (fun c3 => ?_)
      · have h := h.1 c3
        exact go_vret dX5_turnNever_20 rfl (Nat.le_refl _) (Nat.le_refl _) ⟨rfl, h⟩
      · have h := h.2 c3
        refine go_iload_n dX5_turnNever_14 rfl 2 rfl ?_
        refine go_bipush (v := 8) dX5_turnNever_15 (by decide) ?_
        refine go_icmp_lt 21 dX5_turnNever_17 (by decide) (fun c4 => ?_) (fun c4 => ?_)
        · have h := h.1 c4
          refine go_aload_n dX5_turnNever_21 rfl 0 rfl ?_
          refine go_dup dX5_turnNever_22 rfl ?_
          refine go_get (.int (gm_r μ 28 2)) dX5_turnNever_23 fX5_15 (g_lt rfl) (gs_28 G _ _) rfl ?_
          refine go_aload_n dX5_turnNever_26 rfl 0 rfl ?_
          refine go_iload_n dX5_turnNever_27 rfl 1 rfl ?_
          refine go_iload_n dX5_turnNever_28 rfl 2 rfl ?_
          refine go_callV (As := [.int a1, .int a2]) (rest := [.int (gm_r μ 28 2), .ref (ga G 28)]) dX5_turnNever_29 lX5_23 kX5_isNever rfl (by decide) (Nat.le_of_ble_eq_true rfl) (g_lt rfl) (gs_28 G _ _) rfl (by decide) rfl (gI_go (fun r6 μ5 h => ?_)) h
          refine go_if_eq 39 dX5_turnNever_32 (by decide) (fun c7 => ?_) (fun c7 => ?_)
          · have h := h.1 c7
            refine go_iconst (v := 1) dX5_turnNever_39 (by decide) ?_
            exact h
          · have h := h.2 c7
            refine go_iconst (v := -1) dX5_turnNever_35 (by decide) ?_
            refine go_goto 40 dX5_turnNever_36 (by decide) ?_
            exact h
        · have h := h.2 c4
          exact go_vret dX5_turnNever_20 rfl (Nat.le_refl _) (Nat.le_refl _) ⟨rfl, h⟩
set_option maxRecDepth 100000 in
theorem eX5_turnNever_40 {G : gC} {l : Launch} {P : Mem → Prop} {x1 : Int32} {x2 : Int32} {y0 : Int32} {y1 : Int32} {μ : Mem} (h : vp_in x1 8 ∧ vp_in x2 8 ∧ P (gm_w (gm_w (gm_w μ 28 2 (y1 + y0)) 29 x1.toNatClampNeg ((gm_r μ 29 x1.toNatClampNeg) ^^^ ((1 : Int32) <<< (x2 &&& 31)))) 29 x2.toNatClampNeg ((gm_r (gm_w (gm_w μ 28 2 (y1 + y0)) 29 x1.toNatClampNeg ((gm_r μ 29 x1.toNatClampNeg) ^^^ ((1 : Int32) <<< (x2 &&& 31)))) 29 x2.toNatClampNeg) ^^^ ((1 : Int32) <<< (x1 &&& 31))))) : hX5_turnNever_40 G l P x1 x2 y0 y1 μ := by
  refine go_iadd dX5_turnNever_40 ?_
  refine go_puti dX5_turnNever_41 pX5_15 (g_lt rfl) (gs_28 G _ _) (Nat.le_of_ble_eq_true rfl) rfl ?_
  refine go_aload_n dX5_turnNever_44 rfl 0 rfl ?_
  refine go_get (.ref (ga G 29)) dX5_turnNever_45 fX5_9 (g_lt rfl) (gs_28 G _ _) rfl ?_
  refine go_iload_n dX5_turnNever_48 rfl 1 rfl ?_
  refine go_dup2 dX5_turnNever_49 rfl rfl ?_
  obtain ⟨b8, h⟩ := h
  refine go_ialdv ((gm_r μ 29 x1.toNatClampNeg)) dX5_turnNever_50 (g_lt rfl) (gs_29 G) b8 rfl ?_
  refine go_iconst (v := 1) dX5_turnNever_51 (by decide) ?_
  refine go_iload_n dX5_turnNever_52 rfl 2 rfl ?_
  refine go_ishl dX5_turnNever_53 ?_
  refine go_ixor dX5_turnNever_54 ?_
  refine go_iast dX5_turnNever_55 (g_lt rfl) (gs_29 G) b8 ?_
  refine go_aload_n dX5_turnNever_56 rfl 0 rfl ?_
  refine go_get (.ref (ga G 29)) dX5_turnNever_57 fX5_9 (g_lt rfl) (gs_28 G _ _) rfl ?_
  refine go_iload_n dX5_turnNever_60 rfl 2 rfl ?_
  refine go_dup2 dX5_turnNever_61 rfl rfl ?_
  obtain ⟨b9, h⟩ := h
  refine go_ialdv ((gm_r (gm_w (gm_w μ 28 2 (y1 + y0)) 29 x1.toNatClampNeg ((gm_r μ 29 x1.toNatClampNeg) ^^^ ((1 : Int32) <<< (x2 &&& 31)))) 29 x2.toNatClampNeg)) dX5_turnNever_62 (g_lt rfl) (gs_29 G) b9 rfl ?_
  refine go_iconst (v := 1) dX5_turnNever_63 (by decide) ?_
  refine go_iload_n dX5_turnNever_64 rfl 1 rfl ?_
  refine go_ishl dX5_turnNever_65 ?_
  refine go_ixor dX5_turnNever_66 ?_
  refine go_iast dX5_turnNever_67 (g_lt rfl) (gs_29 G) b9 ?_
  exact go_vret dX5_turnNever_68 rfl (Nat.le_refl _) (Nat.le_refl _) ⟨rfl, h⟩
set_option maxRecDepth 100000 in
theorem eX9_never {G : gC} {l : Launch} {a1 : Int32} {a2 : Int32} {a3 : Int32} {μ : Mem} {P : Int32 → Mem → Prop} (h : ((a1 < 0) → P (-1001 : Int32) μ) ∧ ((¬ a1 < 0) → (((8 : Int32) ≤ a1) → P (-1001 : Int32) μ) ∧ ((¬ (8 : Int32) ≤ a1) → ((a2 < 0) → P (-1001 : Int32) μ) ∧ ((¬ a2 < 0) → (((8 : Int32) ≤ a2) → P (-1001 : Int32) μ) ∧ ((¬ (8 : Int32) ≤ a2) → ((¬ a1 = a2) → qX5_isNever G l a1 a2 μ (fun (r7 : Int32) (μ6 : Mem) => ((r7 = a3) → ((r7 = 0) → P (0 : Int32) μ6) ∧ ((¬ r7 = 0) → P (1 : Int32) μ6)) ∧ ((¬ r7 = a3) → qX5_turnNever G l a1 a2 μ6 (fun (μ10 : Mem) => qX9_forgetPlans G l  (gm_w μ10 30 2 (0 : Int32)) (fun (μ12 : Mem) => ((r7 = 0) → P (0 : Int32) μ12) ∧ ((¬ r7 = 0) → P (1 : Int32) μ12)))))) ∧ ((a1 = a2) → P (-1001 : Int32) μ)))))) : qX9_never G l a1 a2 a3 μ P := by
  refine Sp.of (by decide) (Nat.le_of_ble_eq_true rfl) (lv := [(0, .ref (ga G 0)), (1, .int a1), (2, .int a2), (3, .int a3)]) rfl ?_
  refine go_iload_n dX9_never_0 rfl 1 rfl ?_
  refine go_if_lt 25 dX9_never_1 (by decide) (fun c1 => ?_) (fun c1 => ?_)
  · have h := h.1 c1
    refine go_sipush (v := -1001) dX9_never_25 (by decide) ?_
    exact go_iret dX9_never_28 rfl (Nat.le_refl _) (Nat.le_refl _) ⟨_, rfl, h⟩
  · have h := h.2 c1
    refine go_iload_n dX9_never_4 rfl 1 rfl ?_
    refine go_bipush (v := 8) dX9_never_5 (by decide) ?_
    refine go_icmp_ge 25 dX9_never_7 (by decide) (fun c2 => ?_) (fun c2 => ?_)
    · have h := h.1 c2
      refine go_sipush (v := -1001) dX9_never_25 (by decide) ?_
      exact go_iret dX9_never_28 rfl (Nat.le_refl _) (Nat.le_refl _) ⟨_, rfl, h⟩
    · have h := h.2 c2
      refine go_iload_n dX9_never_10 rfl 2 rfl ?_
      refine go_if_lt 25 dX9_never_11 (by decide) (fun c3 => ?_) (fun c3 => ?_)
      · have h := h.1 c3
        refine go_sipush (v := -1001) dX9_never_25 (by decide) ?_
        exact go_iret dX9_never_28 rfl (Nat.le_refl _) (Nat.le_refl _) ⟨_, rfl, h⟩
      · have h := h.2 c3
        refine go_iload_n dX9_never_14 rfl 2 rfl ?_
        refine go_bipush (v := 8) dX9_never_15 (by decide) ?_
        refine go_icmp_ge 25 dX9_never_17 (by decide) (fun c4 => ?_) (fun c4 => ?_)
        · have h := h.1 c4
          refine go_sipush (v := -1001) dX9_never_25 (by decide) ?_
          exact go_iret dX9_never_28 rfl (Nat.le_refl _) (Nat.le_refl _) ⟨_, rfl, h⟩
        · have h := h.2 c4
          refine go_iload_n dX9_never_20 rfl 1 rfl ?_
          refine go_iload_n dX9_never_21 rfl 2 rfl ?_
          refine go_icmp_ne 29 dX9_never_22 (by decide) (fun c5 => ?_) (fun c5 => ?_)
          · have h := h.1 c5
            refine go_aload_n dX9_never_29 rfl 0 rfl ?_
            refine go_get (.ref (ga G 28)) dX9_never_30 fX9_40 (g_lt rfl) (gs_0 G _ _) rfl ?_
            refine go_iload_n dX9_never_33 rfl 1 rfl ?_
            refine go_iload_n dX9_never_34 rfl 2 rfl ?_
            refine go_callV (As := [.int a1, .int a2]) (rest := []) dX9_never_35 lX9_127 kX5_isNever rfl (by decide) (Nat.le_of_ble_eq_true rfl) (g_lt rfl) (gs_28 G _ _) rfl (by decide) rfl (gI_go (fun r7 μ6 h => ?_)) h
            refine go_istore [(0, .ref (ga G 0)), (1, .int a1), (2, .int a2), (3, .int a3), (4, .int r7)] [1, 2, 3, 4, 0] dX9_never_38 (by decide) rfl ?_
            refine go_iload dX9_never_40 4 rfl ?_
            refine go_iload_n dX9_never_42 rfl 3 rfl ?_
            refine go_icmp_eq 67 dX9_never_43 (by decide) (fun c8 => ?_) (fun c8 => ?_)
            · have h := h.1 c8
              refine go_iload dX9_never_67 4 rfl ?_
              refine go_if_eq 76 dX9_never_69 (by decide) (fun c9 => ?_) (fun c9 => ?_)
              · have h := h.1 c9
                refine go_iconst (v := 0) dX9_never_76 (by decide) ?_
                exact go_iret dX9_never_77 rfl (Nat.le_refl _) (Nat.le_refl _) ⟨_, rfl, h⟩
              · have h := h.2 c9
                refine go_iconst (v := 1) dX9_never_72 (by decide) ?_
                refine go_goto 77 dX9_never_73 (by decide) ?_
                exact go_iret dX9_never_77 rfl (Nat.le_refl _) (Nat.le_refl _) ⟨_, rfl, h⟩
            · have h := h.2 c8
              refine go_aload_n dX9_never_46 rfl 0 rfl ?_
              refine go_get (.ref (ga G 28)) dX9_never_47 fX9_40 (g_lt rfl) (gs_0 G _ _) rfl ?_
              refine go_iload_n dX9_never_50 rfl 1 rfl ?_
              refine go_iload_n dX9_never_51 rfl 2 rfl ?_
              refine go_callV (As := [.int a1, .int a2]) (rest := []) dX9_never_52 lX9_131 kX5_turnNever rfl (by decide) (Nat.le_of_ble_eq_true rfl) (g_lt rfl) (gs_28 G _ _) rfl (by decide) rfl (gV_go (fun μ10 h => ?_)) h
              refine go_aload_n dX9_never_55 rfl 0 rfl ?_
              refine go_get (.ref (ga G 30)) dX9_never_56 fX9_49 (g_lt rfl) (gs_0 G _ _) rfl ?_
              refine go_iconst (v := 0) dX9_never_59 (by decide) ?_
              refine go_putv (0 : Int32) dX9_never_60 pX9_102 rfl rfl (g_lt rfl) (gs_30 G _ _) (Nat.le_of_ble_eq_true rfl) rfl ?_
              refine go_aload_n dX9_never_63 rfl 0 rfl ?_
              refine go_callV (As := []) (rest := []) dX9_never_64 lX9_106 kX9_forgetPlans rfl (by decide) (Nat.le_of_ble_eq_true rfl) (g_lt rfl) (gs_0 G _ _) rfl (by decide) rfl (gV_go (fun μ12 h => ?_)) h
              refine go_iload dX9_never_67 4 rfl ?_
              refine go_if_eq 76 dX9_never_69 (by decide) (fun c14 => ?_) (fun c14 => ?_)
              · have h := h.1 c14
                refine go_iconst (v := 0) dX9_never_76 (by decide) ?_
                exact go_iret dX9_never_77 rfl (Nat.le_refl _) (Nat.le_refl _) ⟨_, rfl, h⟩
              · have h := h.2 c14
                refine go_iconst (v := 1) dX9_never_72 (by decide) ?_
                refine go_goto 77 dX9_never_73 (by decide) ?_
                exact go_iret dX9_never_77 rfl (Nat.le_refl _) (Nat.le_refl _) ⟨_, rfl, h⟩
          · have h := h.2 c5
            refine go_sipush (v := -1001) dX9_never_25 (by decide) ?_
            exact go_iret dX9_never_28 rfl (Nat.le_refl _) (Nat.le_refl _) ⟨_, rfl, h⟩
set_option maxRecDepth 100000 in
theorem eJ6_bitCount_0f7a4 {G : gC} {l : Launch} {a1 : Int32} {μ : Mem} {P : Int32 → Mem → Prop} (h : ∀ v1 : Int32, v1 = (a1 - (((a1).toUInt32 >>> (((1 : Int32)).toUInt32 &&& Int32.toUInt32 31)).toInt32 &&& (1431655765 : Int32))) → ∀ v2 : Int32, v2 = ((v1 &&& (858993459 : Int32)) + (((v1).toUInt32 >>> (((2 : Int32)).toUInt32 &&& Int32.toUInt32 31)).toInt32 &&& (858993459 : Int32))) → ∀ v3 : Int32, v3 = ((v2 + ((v2).toUInt32 >>> (((4 : Int32)).toUInt32 &&& Int32.toUInt32 31)).toInt32) &&& (252645135 : Int32)) → ∀ v4 : Int32, v4 = (v3 + ((v3).toUInt32 >>> (((8 : Int32)).toUInt32 &&& Int32.toUInt32 31)).toInt32) → ∀ v5 : Int32, v5 = (v4 + ((v4).toUInt32 >>> (((16 : Int32)).toUInt32 &&& Int32.toUInt32 31)).toInt32) → P (v5 &&& (63 : Int32)) μ) : qJ6_bitCount_0f7a4 G l a1 μ P := by
  refine Sp.of (by decide) (Nat.le_of_ble_eq_true rfl) (lv := [(0, .int a1)]) rfl ?_
  refine go_iload_n dJ6_bitCount_0f7a4_0 rfl 0 rfl ?_
  refine go_iload_n dJ6_bitCount_0f7a4_1 rfl 0 rfl ?_
  refine go_iconst (v := 1) dJ6_bitCount_0f7a4_2 (by decide) ?_
  refine go_iushr dJ6_bitCount_0f7a4_3 ?_
  refine go_ldc_w (v := 1431655765) (g_in 569 (by decide +kernel) rfl) dJ6_bitCount_0f7a4_4 ?_
  refine go_iand dJ6_bitCount_0f7a4_7 ?_
  refine go_isub dJ6_bitCount_0f7a4_8 ?_
  refine go_topi (fun v1 e_v1 => ?_)
  have h := h v1 e_v1
  refine go_istore_n [(0, .int v1)] [0] dJ6_bitCount_0f7a4_9 rfl (by decide) rfl ?_
  refine go_iload_n dJ6_bitCount_0f7a4_10 rfl 0 rfl ?_
  refine go_ldc_w (v := 858993459) (g_in 570 (by decide +kernel) rfl) dJ6_bitCount_0f7a4_11 ?_
  refine go_iand dJ6_bitCount_0f7a4_14 ?_
  refine go_iload_n dJ6_bitCount_0f7a4_15 rfl 0 rfl ?_
  refine go_iconst (v := 2) dJ6_bitCount_0f7a4_16 (by decide) ?_
  refine go_iushr dJ6_bitCount_0f7a4_17 ?_
  refine go_ldc_w (v := 858993459) (g_in 570 (by decide +kernel) rfl) dJ6_bitCount_0f7a4_18 ?_
  refine go_iand dJ6_bitCount_0f7a4_21 ?_
  refine go_iadd dJ6_bitCount_0f7a4_22 ?_
  refine go_topi (fun v2 e_v2 => ?_)
  have h := h v2 e_v2
  refine go_istore_n [(0, .int v2)] [0] dJ6_bitCount_0f7a4_23 rfl (by decide) rfl ?_
  refine go_iload_n dJ6_bitCount_0f7a4_24 rfl 0 rfl ?_
  refine go_iload_n dJ6_bitCount_0f7a4_25 rfl 0 rfl ?_
  refine go_iconst (v := 4) dJ6_bitCount_0f7a4_26 (by decide) ?_
  refine go_iushr dJ6_bitCount_0f7a4_27 ?_
  refine go_iadd dJ6_bitCount_0f7a4_28 ?_
  refine go_ldc_w (v := 252645135) (g_in 571 (by decide +kernel) rfl) dJ6_bitCount_0f7a4_29 ?_
  refine go_iand dJ6_bitCount_0f7a4_32 ?_
  refine go_topi (fun v3 e_v3 => ?_)
  have h := h v3 e_v3
  refine go_istore_n [(0, .int v3)] [0] dJ6_bitCount_0f7a4_33 rfl (by decide) rfl ?_
  refine go_iload_n dJ6_bitCount_0f7a4_34 rfl 0 rfl ?_
  refine go_iload_n dJ6_bitCount_0f7a4_35 rfl 0 rfl ?_
  refine go_bipush (v := 8) dJ6_bitCount_0f7a4_36 (by decide) ?_
  refine go_iushr dJ6_bitCount_0f7a4_38 ?_
  refine go_iadd dJ6_bitCount_0f7a4_39 ?_
  refine go_topi (fun v4 e_v4 => ?_)
  have h := h v4 e_v4
  refine go_istore_n [(0, .int v4)] [0] dJ6_bitCount_0f7a4_40 rfl (by decide) rfl ?_
  refine go_iload_n dJ6_bitCount_0f7a4_41 rfl 0 rfl ?_
  refine go_iload_n dJ6_bitCount_0f7a4_42 rfl 0 rfl ?_
  refine go_bipush (v := 16) dJ6_bitCount_0f7a4_43 (by decide) ?_
  refine go_iushr dJ6_bitCount_0f7a4_45 ?_
  refine go_iadd dJ6_bitCount_0f7a4_46 ?_
  refine go_topi (fun v5 e_v5 => ?_)
  have h := h v5 e_v5
  refine go_istore_n [(0, .int v5)] [0] dJ6_bitCount_0f7a4_47 rfl (by decide) rfl ?_
  refine go_iload_n dJ6_bitCount_0f7a4_48 rfl 0 rfl ?_
  refine go_bipush (v := 63) dJ6_bitCount_0f7a4_49 (by decide) ?_
  refine go_iand dJ6_bitCount_0f7a4_51 ?_
  exact go_iret dJ6_bitCount_0f7a4_52 rfl (Nat.le_refl _) (Nat.le_refl _) ⟨_, rfl, h⟩
set_option maxRecDepth 100000 in
theorem eX0_printed {G : gC} {l : Launch}  {μ : Mem} {P : Int32 → Mem → Prop} (h : qX0_start G l (gm_r μ 42 3) μ (fun (r2 : Int32) (μ1 : Mem) => P r2 μ1)) : qX0_printed G l  μ P := by
  refine Sp.of (by decide) (Nat.le_of_ble_eq_true rfl) (lv := [(0, .ref (ga G 42))]) rfl ?_
  refine go_aload_n dX0_printed_0 rfl 0 rfl ?_
  refine go_aload_n dX0_printed_1 rfl 0 rfl ?_
  refine go_get (.int (gm_r μ 42 3)) dX0_printed_2 fX0_22 (g_lt rfl) (gs_42 G _ _) rfl ?_
  refine go_callV (As := [.int (gm_r μ 42 3)]) (rest := []) dX0_printed_5 lX0_48 kX0_start rfl (by decide) (Nat.le_of_ble_eq_true rfl) (g_lt rfl) (gs_42 G _ _) rfl (by decide) rfl (gI_go (fun r2 μ1 h => ?_)) h
  exact go_iret dX0_printed_8 rfl (Nat.le_refl _) (Nat.le_refl _) ⟨_, rfl, h⟩
set_option maxRecDepth 100000 in
theorem eX0_drafted {G : gC} {l : Launch}  {μ : Mem} {P : Int32 → Mem → Prop} (h : qX0_printed G l  μ (fun (r2 : Int32) (μ1 : Mem) => P ((gm_r μ 42 1) - r2) μ1)) : qX0_drafted G l  μ P := by
  refine Sp.of (by decide) (Nat.le_of_ble_eq_true rfl) (lv := [(0, .ref (ga G 42))]) rfl ?_
  refine go_aload_n dX0_drafted_0 rfl 0 rfl ?_
  refine go_get (.int (gm_r μ 42 1)) dX0_drafted_1 fX0_15 (g_lt rfl) (gs_42 G _ _) rfl ?_
  refine go_aload_n dX0_drafted_4 rfl 0 rfl ?_
  refine go_callV (As := []) (rest := [.int (gm_r μ 42 1)]) dX0_drafted_5 lX0_52 kX0_printed rfl (by decide) (Nat.le_of_ble_eq_true rfl) (g_lt rfl) (gs_42 G _ _) rfl (by decide) rfl (gI_go (fun r2 μ1 h => ?_)) h
  refine go_isub dX0_drafted_8 ?_
  exact go_iret dX0_drafted_9 rfl (Nat.le_refl _) (Nat.le_refl _) ⟨_, rfl, h⟩
set_option maxRecDepth 100000 in
theorem eX7_all {G : gC} {l : Launch}  {μ : Mem} {P : Int32 → Mem → Prop} (h : P (((1 : Int32) <<< ((gm_r μ 4 1) &&& 31)) - (1 : Int32)) μ) : qX7_all G l  μ P := by
  refine Sp.of (by decide) (Nat.le_of_ble_eq_true rfl) (lv := [(0, .ref (ga G 4))]) rfl ?_
  refine go_iconst (v := 1) dX7_all_0 (by decide) ?_
  refine go_aload_n dX7_all_1 rfl 0 rfl ?_
  refine go_get (.int (gm_r μ 4 1)) dX7_all_2 fX7_16 (g_lt rfl) (gs_4 G _ _) rfl ?_
  refine go_ishl dX7_all_5 ?_
  refine go_iconst (v := 1) dX7_all_6 (by decide) ?_
  refine go_isub dX7_all_7 ?_
  exact go_iret dX7_all_8 rfl (Nat.le_refl _) (Nat.le_refl _) ⟨_, rfl, h⟩
set_option maxRecDepth 100000 in
theorem eX7_sum {G : gC} {l : Launch} {a1 : Int32} {a2 : Int32} {μ : Mem} {P : Int32 → Mem → Prop} (h : hX7_sum_5 G l P a1 a2 (0 : Int32) (0 : Int32) μ) : qX7_sum G l a1 a2 μ P := by
  refine Sp.of (by decide) (Nat.le_of_ble_eq_true rfl) (lv := [(0, .ref (ga G 4)), (1, .int a1), (2, .int a2)]) rfl ?_
  refine go_iconst (v := 0) dX7_sum_0 (by decide) ?_
  refine go_istore_n [(0, .ref (ga G 4)), (1, .int a1), (2, .int a2), (3, .int (0 : Int32))] [1, 2, 3, 0] dX7_sum_1 rfl (by decide) rfl ?_
  refine go_iconst (v := 0) dX7_sum_2 (by decide) ?_
  refine go_istore [(0, .ref (ga G 4)), (1, .int a1), (2, .int a2), (3, .int (0 : Int32)), (4, .int (0 : Int32))] [1, 2, 3, 4, 0] dX7_sum_3 (by decide) rfl ?_
  exact h
set_option maxRecDepth 100000 in
theorem eX7_sum_5 {G : gC} {l : Launch} {P : Int32 → Mem → Prop} {x1 : Int32} {x2 : Int32} {x3 : Int32} {x4 : Int32} {μ : Mem} (h : (((gm_r μ 4 1) ≤ x4) → P x3 μ) ∧ ((¬ (gm_r μ 4 1) ≤ x4) → ((¬ ((x1 >>> (x4 &&& 31)) &&& (1 : Int32)) = (1 : Int32)) → hX7_sum_5 G l P x1 x2 x3 (x4 + (1 : Int32)) μ) ∧ ((((x1 >>> (x4 &&& 31)) &&& (1 : Int32)) = (1 : Int32)) → vp_in x4 10 ∧ vp_in x2 9 ∧ ∀ v5 : Int32, v5 = (x3 + (gm_r μ (5 + 1 + x4.toNatClampNeg) x2.toNatClampNeg)) → hX7_sum_5 G l P x1 x2 v5 (x4 + (1 : Int32)) μ))) : hX7_sum_5 G l P x1 x2 x3 x4 μ := by
  refine go_iload dX7_sum_5 4 rfl ?_
  refine go_aload_n dX7_sum_7 rfl 0 rfl ?_
  refine go_get (.int (gm_r μ 4 1)) dX7_sum_8 fX7_16 (g_lt rfl) (gs_4 G _ _) rfl ?_
  refine go_icmp_ge 42 dX7_sum_11 (by decide) (fun c1 => ?_) (fun c1 => ?_)
  · have h := h.1 c1
    refine go_iload_n dX7_sum_42 rfl 3 rfl ?_
    exact go_iret dX7_sum_43 rfl (Nat.le_refl _) (Nat.le_refl _) ⟨_, rfl, h⟩
  · have h := h.2 c1
    refine go_iload_n dX7_sum_14 rfl 1 rfl ?_
    refine go_iload dX7_sum_15 4 rfl ?_
    refine go_ishr dX7_sum_17 ?_
    refine go_iconst (v := 1) dX7_sum_18 (by decide) ?_
    refine go_iand dX7_sum_19 ?_
    refine go_iconst (v := 1) dX7_sum_20 (by decide) ?_
    refine go_icmp_ne 36 dX7_sum_21 (by decide) (fun c2 => ?_) (fun c2 => ?_)
    · have h := h.1 c2
      refine go_iinc (v := (x4 + (1 : Int32))) [(0, .ref (ga G 4)), (1, .int x1), (2, .int x2), (3, .int x3), (4, .int (x4 + (1 : Int32)))] [1, 2, 3, 4, 0] 4 dX7_sum_36 rfl rfl (by decide) rfl ?_
      refine go_goto 5 dX7_sum_39 (by decide) ?_
      exact h
    · have h := h.2 c2
      refine go_iload_n dX7_sum_24 rfl 3 rfl ?_
      refine go_aload_n dX7_sum_25 rfl 0 rfl ?_
      refine go_get (.ref (ga G 5)) dX7_sum_26 fX7_13 (g_lt rfl) (gs_4 G _ _) rfl ?_
      refine go_iload dX7_sum_29 4 rfl ?_
      obtain ⟨b3, h⟩ := h
      refine go_aald dX7_sum_31 (g_lt rfl) (gs_5 G) b3 ?_
      refine go_iload_n dX7_sum_32 rfl 2 rfl ?_
      obtain ⟨b4, h⟩ := h
      refine go_ialdv ((gm_r μ (5 + 1 + x4.toNatClampNeg) x2.toNatClampNeg)) dX7_sum_33 (gl_5 (vp_lt b3)) (gn_5 G (vp_lt b3)) b4 rfl ?_
      refine go_iadd dX7_sum_34 ?_
      refine go_topi (fun v5 e_v5 => ?_)
      have h := h v5 e_v5
      refine go_istore_n [(0, .ref (ga G 4)), (1, .int x1), (2, .int x2), (3, .int v5), (4, .int x4)] [1, 2, 3, 0, 4] dX7_sum_35 rfl (by decide) rfl ?_
      refine go_iinc (v := (x4 + (1 : Int32))) [(0, .ref (ga G 4)), (1, .int x1), (2, .int x2), (3, .int v5), (4, .int (x4 + (1 : Int32)))] [1, 2, 3, 4, 0] 4 dX7_sum_36 rfl rfl (by decide) rfl ?_
      refine go_goto 5 dX7_sum_39 (by decide) ?_
      exact h
set_option maxRecDepth 100000 in
theorem eX7_union {G : gC} {l : Launch} {a1 : Int32} {a2 : Int32} {μ : Mem} {P : Int32 → Mem → Prop} (h : hX7_union_5 G l P a1 a2 (0 : Int32) (0 : Int32) μ) : qX7_union G l a1 a2 μ P := by
  refine Sp.of (by decide) (Nat.le_of_ble_eq_true rfl) (lv := [(0, .ref (ga G 4)), (1, .int a1), (2, .int a2)]) rfl ?_
  refine go_iconst (v := 0) dX7_union_0 (by decide) ?_
  refine go_istore_n [(0, .ref (ga G 4)), (1, .int a1), (2, .int a2), (3, .int (0 : Int32))] [1, 2, 3, 0] dX7_union_1 rfl (by decide) rfl ?_
  refine go_iconst (v := 0) dX7_union_2 (by decide) ?_
  refine go_istore [(0, .ref (ga G 4)), (1, .int a1), (2, .int a2), (3, .int (0 : Int32)), (4, .int (0 : Int32))] [1, 2, 3, 4, 0] dX7_union_3 (by decide) rfl ?_
  exact h
set_option maxRecDepth 100000 in
theorem eX7_union_5 {G : gC} {l : Launch} {P : Int32 → Mem → Prop} {x1 : Int32} {x2 : Int32} {x3 : Int32} {x4 : Int32} {μ : Mem} (h : (((gm_r μ 4 1) ≤ x4) → P x3 μ) ∧ ((¬ (gm_r μ 4 1) ≤ x4) → ((¬ ((x1 >>> (x4 &&& 31)) &&& (1 : Int32)) = (1 : Int32)) → hX7_union_5 G l P x1 x2 x3 (x4 + (1 : Int32)) μ) ∧ ((((x1 >>> (x4 &&& 31)) &&& (1 : Int32)) = (1 : Int32)) → vp_in x4 10 ∧ vp_in x2 9 ∧ ∀ v5 : Int32, v5 = (x3 ||| (gm_r μ (5 + 1 + x4.toNatClampNeg) x2.toNatClampNeg)) → hX7_union_5 G l P x1 x2 v5 (x4 + (1 : Int32)) μ))) : hX7_union_5 G l P x1 x2 x3 x4 μ := by
  refine go_iload dX7_union_5 4 rfl ?_
  refine go_aload_n dX7_union_7 rfl 0 rfl ?_
  refine go_get (.int (gm_r μ 4 1)) dX7_union_8 fX7_16 (g_lt rfl) (gs_4 G _ _) rfl ?_
  refine go_icmp_ge 42 dX7_union_11 (by decide) (fun c1 => ?_) (fun c1 => ?_)
  · have h := h.1 c1
    refine go_iload_n dX7_union_42 rfl 3 rfl ?_
    exact go_iret dX7_union_43 rfl (Nat.le_refl _) (Nat.le_refl _) ⟨_, rfl, h⟩
  · have h := h.2 c1
    refine go_iload_n dX7_union_14 rfl 1 rfl ?_
    refine go_iload dX7_union_15 4 rfl ?_
    refine go_ishr dX7_union_17 ?_
    refine go_iconst (v := 1) dX7_union_18 (by decide) ?_
    refine go_iand dX7_union_19 ?_
    refine go_iconst (v := 1) dX7_union_20 (by decide) ?_
    refine go_icmp_ne 36 dX7_union_21 (by decide) (fun c2 => ?_) (fun c2 => ?_)
    · have h := h.1 c2
      refine go_iinc (v := (x4 + (1 : Int32))) [(0, .ref (ga G 4)), (1, .int x1), (2, .int x2), (3, .int x3), (4, .int (x4 + (1 : Int32)))] [1, 2, 3, 4, 0] 4 dX7_union_36 rfl rfl (by decide) rfl ?_
      refine go_goto 5 dX7_union_39 (by decide) ?_
      exact h
    · have h := h.2 c2
      refine go_iload_n dX7_union_24 rfl 3 rfl ?_
      refine go_aload_n dX7_union_25 rfl 0 rfl ?_
      refine go_get (.ref (ga G 5)) dX7_union_26 fX7_13 (g_lt rfl) (gs_4 G _ _) rfl ?_
      refine go_iload dX7_union_29 4 rfl ?_
      obtain ⟨b3, h⟩ := h
      refine go_aald dX7_union_31 (g_lt rfl) (gs_5 G) b3 ?_
      refine go_iload_n dX7_union_32 rfl 2 rfl ?_
      obtain ⟨b4, h⟩ := h
      refine go_ialdv ((gm_r μ (5 + 1 + x4.toNatClampNeg) x2.toNatClampNeg)) dX7_union_33 (gl_5 (vp_lt b3)) (gn_5 G (vp_lt b3)) b4 rfl ?_
      refine go_ior dX7_union_34 ?_
      refine go_topi (fun v5 e_v5 => ?_)
      have h := h v5 e_v5
      refine go_istore_n [(0, .ref (ga G 4)), (1, .int x1), (2, .int x2), (3, .int v5), (4, .int x4)] [1, 2, 3, 0, 4] dX7_union_35 rfl (by decide) rfl ?_
      refine go_iinc (v := (x4 + (1 : Int32))) [(0, .ref (ga G 4)), (1, .int x1), (2, .int x2), (3, .int v5), (4, .int (x4 + (1 : Int32)))] [1, 2, 3, 4, 0] 4 dX7_union_36 rfl rfl (by decide) rfl ?_
      refine go_goto 5 dX7_union_39 (by decide) ?_
      exact h
set_option maxRecDepth 100000 in
theorem eX9_count {G : gC} {l : Launch} {a1 : Int32} {μ : Mem} {P : Int32 → Mem → Prop} (h : ((a1.toInt < 0 ∨ 7 < a1.toInt) → P (-1002 : Int32) μ) ∧ ((a1 = (0 : Int32)) → P (gm_r μ 4 1) μ) ∧ ((a1 = (1 : Int32)) → qX0_printed G l  μ (fun (r2 : Int32) (μ1 : Mem) => P r2 μ1)) ∧ ((a1 = (2 : Int32)) → P (gm_r μ 42 3) μ) ∧ ((a1 = (3 : Int32)) → qX0_drafted G l  μ (fun (r4 : Int32) (μ3 : Mem) => P r4 μ3)) ∧ ((a1 = (4 : Int32)) → qX7_all G l  μ (fun (r6 : Int32) (μ5 : Mem) => qX7_sum G l r6 (0 : Int32) μ5 (fun (r8 : Int32) (μ7 : Mem) => P r8 μ7))) ∧ ((a1 = (5 : Int32)) → P (gm_r μ 1 1) μ) ∧ ((a1 = (6 : Int32)) → P (gm_r μ 28 2) μ) ∧ ((a1 = (7 : Int32)) → qX7_all G l  μ (fun (r10 : Int32) (μ9 : Mem) => qX7_union G l r10 (4 : Int32) μ9 (fun (r12 : Int32) (μ11 : Mem) => qJ6_bitCount_0f7a4 G l r12 μ11 (fun (r14 : Int32) (μ13 : Mem) => P r14 μ13))))) : qX9_count G l a1 μ P := by
  refine Sp.of (by decide) (Nat.le_of_ble_eq_true rfl) (lv := [(0, .ref (ga G 0)), (1, .int a1)]) rfl ?_
  refine go_iload_n dX9_count_0 rfl 1 rfl ?_
  by_cases c15 : a1.toInt < 0 ∨ 7 < a1.toInt
  · have h := h.1 c15
    refine go_tableOut 131 dX9_count_1 c15 (by decide) ?_
    refine go_sipush (v := -1002) dX9_count_131 (by decide) ?_
    exact go_iret dX9_count_134 rfl (Nat.le_refl _) (Nat.le_refl _) ⟨_, rfl, h⟩
  · rcases (show a1.toInt = 0 ∨ a1.toInt = 1 ∨ a1.toInt = 2 ∨ a1.toInt = 3 ∨ a1.toInt = 4 ∨ a1.toInt = 5 ∨ a1.toInt = 6 ∨ a1.toInt = 7 by omega) with c15e | c15e | c15e | c15e | c15e | c15e | c15e | c15e
    · have h := h.2.1 (sw_eq (0 : Int32) rfl c15e)
      refine go_tableIn 48 dX9_count_1 (by omega) (by omega) (by rw [c15e]; rfl) (by decide) ?_
      refine go_aload_n dX9_count_48 rfl 0 rfl ?_
      refine go_get (.ref (ga G 4)) dX9_count_49 fX9_28 (g_lt rfl) (gs_0 G _ _) rfl ?_
      refine go_get (.int (gm_r μ 4 1)) dX9_count_52 fX9_109 (g_lt rfl) (gs_4 G _ _) rfl ?_
      exact go_iret dX9_count_55 rfl (Nat.le_refl _) (Nat.le_refl _) ⟨_, rfl, h⟩
    · have h := h.2.2.1 (sw_eq (1 : Int32) rfl c15e)
      refine go_tableIn 56 dX9_count_1 (by omega) (by omega) (by rw [c15e]; rfl) (by decide) ?_
      refine go_aload_n dX9_count_56 rfl 0 rfl ?_
      refine go_get (.ref (ga G 42)) dX9_count_57 fX9_56 (g_lt rfl) (gs_0 G _ _) rfl ?_
      refine go_callV (As := []) (rest := []) dX9_count_60 lX9_135 kX0_printed rfl (by decide) (Nat.le_of_ble_eq_true rfl) (g_lt rfl) (gs_42 G _ _) rfl (by decide) rfl (gI_go (fun r2 μ1 h => ?_)) h
      exact go_iret dX9_count_63 rfl (Nat.le_refl _) (Nat.le_refl _) ⟨_, rfl, h⟩
    · have h := h.2.2.2.1 (sw_eq (2 : Int32) rfl c15e)
      refine go_tableIn 64 dX9_count_1 (by omega) (by omega) (by rw [c15e]; rfl) (by decide) ?_
      refine go_aload_n dX9_count_64 rfl 0 rfl ?_
      refine go_get (.ref (ga G 42)) dX9_count_65 fX9_56 (g_lt rfl) (gs_0 G _ _) rfl ?_
      refine go_get (.int (gm_r μ 42 3)) dX9_count_68 fX9_139 (g_lt rfl) (gs_42 G _ _) rfl ?_
      exact go_iret dX9_count_71 rfl (Nat.le_refl _) (Nat.le_refl _) ⟨_, rfl, h⟩
    · have h := h.2.2.2.2.1 (sw_eq (3 : Int32) rfl c15e)
      refine go_tableIn 72 dX9_count_1 (by omega) (by omega) (by rw [c15e]; rfl) (by decide) ?_
      refine go_aload_n dX9_count_72 rfl 0 rfl ?_
      refine go_get (.ref (ga G 42)) dX9_count_73 fX9_56 (g_lt rfl) (gs_0 G _ _) rfl ?_
      refine go_callV (As := []) (rest := []) dX9_count_76 lX9_142 kX0_drafted rfl (by decide) (Nat.le_of_ble_eq_true rfl) (g_lt rfl) (gs_42 G _ _) rfl (by decide) rfl (gI_go (fun r4 μ3 h => ?_)) h
      exact go_iret dX9_count_79 rfl (Nat.le_refl _) (Nat.le_refl _) ⟨_, rfl, h⟩
    · have h := h.2.2.2.2.2.1 (sw_eq (4 : Int32) rfl c15e)
      refine go_tableIn 80 dX9_count_1 (by omega) (by omega) (by rw [c15e]; rfl) (by decide) ?_
      refine go_aload_n dX9_count_80 rfl 0 rfl ?_
      refine go_get (.ref (ga G 4)) dX9_count_81 fX9_28 (g_lt rfl) (gs_0 G _ _) rfl ?_
      refine go_aload_n dX9_count_84 rfl 0 rfl ?_
      refine go_get (.ref (ga G 4)) dX9_count_85 fX9_28 (g_lt rfl) (gs_0 G _ _) rfl ?_
      refine go_callV (As := []) (rest := [.ref (ga G 4)]) dX9_count_88 lX9_145 kX7_all rfl (by decide) (Nat.le_of_ble_eq_true rfl) (g_lt rfl) (gs_4 G _ _) rfl (by decide) rfl (gI_go (fun r6 μ5 h => ?_)) h
      refine go_iconst (v := 0) dX9_count_91 (by decide) ?_
      refine go_callV (As := [.int r6, .int (0 : Int32)]) (rest := []) dX9_count_92 lX9_148 kX7_sum rfl (by decide) (Nat.le_of_ble_eq_true rfl) (g_lt rfl) (gs_4 G _ _) rfl (by decide) rfl (gI_go (fun r8 μ7 h => ?_)) h
      exact go_iret dX9_count_95 rfl (Nat.le_refl _) (Nat.le_refl _) ⟨_, rfl, h⟩
    · have h := h.2.2.2.2.2.2.1 (sw_eq (5 : Int32) rfl c15e)
      refine go_tableIn 96 dX9_count_1 (by omega) (by omega) (by rw [c15e]; rfl) (by decide) ?_
      refine go_aload_n dX9_count_96 rfl 0 rfl ?_
      refine go_get (.ref (ga G 1)) dX9_count_97 fX9_12 (g_lt rfl) (gs_0 G _ _) rfl ?_
      refine go_get (.int (gm_r μ 1 1)) dX9_count_100 fX9_84 (g_lt rfl) (gs_1 G _ _) rfl ?_
      exact go_iret dX9_count_103 rfl (Nat.le_refl _) (Nat.le_refl _) ⟨_, rfl, h⟩
    · have h := h.2.2.2.2.2.2.2.1 (sw_eq (6 : Int32) rfl c15e)
      refine go_tableIn 104 dX9_count_1 (by omega) (by omega) (by rw [c15e]; rfl) (by decide) ?_
      refine go_aload_n dX9_count_104 rfl 0 rfl ?_
      refine go_get (.ref (ga G 28)) dX9_count_105 fX9_40 (g_lt rfl) (gs_0 G _ _) rfl ?_
      refine go_get (.int (gm_r μ 28 2)) dX9_count_108 fX9_151 (g_lt rfl) (gs_28 G _ _) rfl ?_
      exact go_iret dX9_count_111 rfl (Nat.le_refl _) (Nat.le_refl _) ⟨_, rfl, h⟩
    · have h := h.2.2.2.2.2.2.2.2 (sw_eq (7 : Int32) rfl c15e)
      refine go_tableIn 112 dX9_count_1 (by omega) (by omega) (by rw [c15e]; rfl) (by decide) ?_
      refine go_aload_n dX9_count_112 rfl 0 rfl ?_
      refine go_get (.ref (ga G 4)) dX9_count_113 fX9_28 (g_lt rfl) (gs_0 G _ _) rfl ?_
      refine go_aload_n dX9_count_116 rfl 0 rfl ?_
      refine go_get (.ref (ga G 4)) dX9_count_117 fX9_28 (g_lt rfl) (gs_0 G _ _) rfl ?_
      refine go_callV (As := []) (rest := [.ref (ga G 4)]) dX9_count_120 lX9_145 kX7_all rfl (by decide) (Nat.le_of_ble_eq_true rfl) (g_lt rfl) (gs_4 G _ _) rfl (by decide) rfl (gI_go (fun r10 μ9 h => ?_)) h
      refine go_iconst (v := 4) dX9_count_123 (by decide) ?_
      refine go_callV (As := [.int r10, .int (4 : Int32)]) (rest := []) dX9_count_124 lX9_154 kX7_union rfl (by decide) (Nat.le_of_ble_eq_true rfl) (g_lt rfl) (gs_4 G _ _) rfl (by decide) rfl (gI_go (fun r12 μ11 h => ?_)) h
      refine go_callS (As := [.int r12]) (rest := []) dX9_count_127 lX9_157 kJ6_bitCount_0f7a4 rfl (by decide) (Nat.le_of_ble_eq_true rfl) (by decide) rfl (gI_go (fun r14 μ13 h => ?_)) h
      exact go_iret dX9_count_130 rfl (Nat.le_refl _) (Nat.le_refl _) ⟨_, rfl, h⟩
set_option maxRecDepth 100000 in
theorem eX5_mayTell {G : gC} {l : Launch} {a1 : Int32} {a2 : Int32} {μ : Mem} {P : Int32 → Mem → Prop} (h : hX5_mayTell_2 G l P a1 a2 (0 : Int32) μ) : qX5_mayTell G l a1 a2 μ P := by
  refine Sp.of (by decide) (Nat.le_of_ble_eq_true rfl) (lv := [(0, .ref (ga G 28)), (1, .int a1), (2, .int a2)]) rfl ?_
  refine go_iconst (v := 0) dX5_mayTell_0 (by decide) ?_
  refine go_istore_n [(0, .ref (ga G 28)), (1, .int a1), (2, .int a2), (3, .int (0 : Int32))] [1, 2, 3, 0] dX5_mayTell_1 rfl (by decide) rfl ?_
  exact h
set_option maxRecDepth 100000 in
theorem eX5_mayTell_2 {G : gC} {l : Launch} {P : Int32 → Mem → Prop} {x1 : Int32} {x2 : Int32} {x3 : Int32} {μ : Mem} (h : (((8 : Int32) ≤ x3) → P (1 : Int32) μ) ∧ ((¬ (8 : Int32) ≤ x3) → (((x1 >>> (x3 &&& 31)) = 0) → P (1 : Int32) μ) ∧ ((¬ (x1 >>> (x3 &&& 31)) = 0) → ((¬ ((x1 >>> (x3 &&& 31)) &&& (1 : Int32)) = (1 : Int32)) → hX5_mayTell_2 G l P x1 x2 (x3 + (1 : Int32)) μ) ∧ ((((x1 >>> (x3 &&& 31)) &&& (1 : Int32)) = (1 : Int32)) → vp_in x3 8 ∧ ((((gm_r μ 29 x3.toNatClampNeg) &&& (x2 ||| x1)) = 0) → hX5_mayTell_2 G l P x1 x2 (x3 + (1 : Int32)) μ) ∧ ((¬ ((gm_r μ 29 x3.toNatClampNeg) &&& (x2 ||| x1)) = 0) → P (0 : Int32) μ))))) : hX5_mayTell_2 G l P x1 x2 x3 μ := by
  refine go_iload_n dX5_mayTell_2 rfl 3 rfl ?_
  refine go_bipush (v := 8) dX5_mayTell_3 (by decide) ?_
  refine go_icmp_ge 44 dX5_mayTell_5 (by decide) (fun c1 => ?_) (fun c1 => ?_)
  · have h := h.1 c1
    refine go_iconst (v := 1) dX5_mayTell_44 (by decide) ?_
    exact go_zret dX5_mayTell_45 rfl (Nat.le_refl _) (Nat.le_refl _) rfl ⟨_, rfl, h⟩
  · have h := h.2 c1
    refine go_iload_n dX5_mayTell_8 rfl 1 rfl ?_
    refine go_iload_n dX5_mayTell_9 rfl 3 rfl ?_
    refine go_ishr dX5_mayTell_10 ?_
    refine go_if_eq 44 dX5_mayTell_11 (by decide) (fun c2 => ?_) (fun c2 => ?_)
    · have h := h.1 c2
      refine go_iconst (v := 1) dX5_mayTell_44 (by decide) ?_
      exact go_zret dX5_mayTell_45 rfl (Nat.le_refl _) (Nat.le_refl _) rfl ⟨_, rfl, h⟩
    · have h := h.2 c2
      refine go_iload_n dX5_mayTell_14 rfl 1 rfl ?_
      refine go_iload_n dX5_mayTell_15 rfl 3 rfl ?_
      refine go_ishr dX5_mayTell_16 ?_
      refine go_iconst (v := 1) dX5_mayTell_17 (by decide) ?_
      refine go_iand dX5_mayTell_18 ?_
      refine go_iconst (v := 1) dX5_mayTell_19 (by decide) ?_
      refine go_icmp_ne 38 dX5_mayTell_20 (by decide) (fun c3 => ?_) (fun c3 => ?_)
      · have h := h.1 c3
        refine go_iinc (v := (x3 + (1 : Int32))) [(0, .ref (ga G 28)), (1, .int x1), (2, .int x2), (3, .int (x3 + (1 : Int32)))] [1, 2, 3, 0] 3 dX5_mayTell_38 rfl rfl (by decide) rfl ?_
        refine go_goto 2 dX5_mayTell_41 (by decide) ?_
        exact h
      · have h := h.2 c3
        refine go_aload_n dX5_mayTell_23 rfl 0 rfl ?_
        refine go_get (.ref (ga G 29)) dX5_mayTell_24 fX5_9 (g_lt rfl) (gs_28 G _ _) rfl ?_
        refine go_iload_n dX5_mayTell_27 rfl 3 rfl ?_
        obtain ⟨b4, h⟩ := h
        refine go_ialdv ((gm_r μ 29 x3.toNatClampNeg)) dX5_mayTell_28 (g_lt rfl) (gs_29 G) b4 rfl ?_
        refine go_iload_n dX5_mayTell_29 rfl 2 rfl ?_
        refine go_iload_n dX5_mayTell_30 rfl 1 rfl ?_
        refine go_ior dX5_mayTell_31 ?_
        refine go_iand dX5_mayTell_32 ?_
        refine go_if_eq 38 dX5_mayTell_33 (by decide) (fun c5 => ?_) (fun c5 => ?_)
        · have h := h.1 c5
          refine go_iinc (v := (x3 + (1 : Int32))) [(0, .ref (ga G 28)), (1, .int x1), (2, .int x2), (3, .int (x3 + (1 : Int32)))] [1, 2, 3, 0] 3 dX5_mayTell_38 rfl rfl (by decide) rfl ?_
          refine go_goto 2 dX5_mayTell_41 (by decide) ?_
          exact h
        · have h := h.2 c5
          refine go_iconst (v := 0) dX5_mayTell_36 (by decide) ?_
          exact go_zret dX5_mayTell_37 rfl (Nat.le_refl _) (Nat.le_refl _) rfl ⟨_, rfl, h⟩
set_option maxRecDepth 100000 in
theorem eX5_nextWhere {G : gC} {l : Launch} {a1 : Int32} {a2 : Int32} {a3 : Int32} {a4 : Int32} {μ : Mem} {P : Int32 → Mem → Prop} (h : hX5_nextWhere_6 G l P a1 a2 a3 a4 (0 : Int32) (0 : Int32) μ) : qX5_nextWhere G l a1 a2 a3 a4 μ P := by
  refine Sp.of (by decide) (Nat.le_of_ble_eq_true rfl) (lv := [(0, .ref (ga G 28)), (1, .int a1), (2, .int a2), (3, .int a3), (4, .int a4)]) rfl ?_
  refine go_iconst (v := 0) dX5_nextWhere_0 (by decide) ?_
  refine go_istore [(0, .ref (ga G 28)), (1, .int a1), (2, .int a2), (3, .int a3), (4, .int a4), (5, .int (0 : Int32))] [1, 2, 3, 4, 5, 0] dX5_nextWhere_1 (by decide) rfl ?_
  refine go_iconst (v := 0) dX5_nextWhere_3 (by decide) ?_
  refine go_istore [(0, .ref (ga G 28)), (1, .int a1), (2, .int a2), (3, .int a3), (4, .int a4), (5, .int (0 : Int32)), (6, .int (0 : Int32))] [1, 2, 3, 4, 5, 6, 0] dX5_nextWhere_4 (by decide) rfl ?_
  exact h
set_option maxRecDepth 100000 in
theorem eX5_nextWhere_6 {G : gC} {l : Launch} {P : Int32 → Mem → Prop} {x1 : Int32} {x2 : Int32} {x3 : Int32} {x4 : Int32} {x5 : Int32} {x6 : Int32} {μ : Mem} (h : (((gm_r μ 4 1) ≤ x6) → P x5 μ) ∧ ((¬ (gm_r μ 4 1) ≤ x6) → vp_in x6 10 ∧ ((¬ ((x1 >>> (x6 &&& 31)) &&& (1 : Int32)) = 0) → hX5_nextWhere_6 G l P x1 x2 x3 x4 x5 (x6 + (1 : Int32)) μ) ∧ ((((x1 >>> (x6 &&& 31)) &&& (1 : Int32)) = 0) → ((¬ ((gm_r μ (5 + 1 + x6.toNatClampNeg) 3) &&& (x1 ^^^ (-1 : Int32))) = 0) → hX5_nextWhere_6 G l P x1 x2 x3 x4 x5 (x6 + (1 : Int32)) μ) ∧ ((((gm_r μ (5 + 1 + x6.toNatClampNeg) 3) &&& (x1 ^^^ (-1 : Int32))) = 0) → ((¬ ((gm_r μ (5 + 1 + x6.toNatClampNeg) 5) &&& ((x2 ||| (gm_r μ (5 + 1 + x6.toNatClampNeg) 4)) ^^^ (-1 : Int32))) = 0) → hX5_nextWhere_6 G l P x1 x2 x3 x4 x5 (x6 + (1 : Int32)) μ) ∧ ((((gm_r μ (5 + 1 + x6.toNatClampNeg) 5) &&& ((x2 ||| (gm_r μ (5 + 1 + x6.toNatClampNeg) 4)) ^^^ (-1 : Int32))) = 0) → ((¬ ((gm_r μ (5 + 1 + x6.toNatClampNeg) 7) &&& (x3 ^^^ (-1 : Int32))) = 0) → hX5_nextWhere_6 G l P x1 x2 x3 x4 x5 (x6 + (1 : Int32)) μ) ∧ ((((gm_r μ (5 + 1 + x6.toNatClampNeg) 7) &&& (x3 ^^^ (-1 : Int32))) = 0) → ((¬ ((gm_r μ (5 + 1 + x6.toNatClampNeg) 2) &&& x4) = 0) → hX5_nextWhere_6 G l P x1 x2 x3 x4 x5 (x6 + (1 : Int32)) μ) ∧ ((((gm_r μ (5 + 1 + x6.toNatClampNeg) 2) &&& x4) = 0) → qX5_mayTell G l (gm_r μ (5 + 1 + x6.toNatClampNeg) 6) x3 μ (fun (r9 : Int32) (μ8 : Mem) => ((r9 = 0) → hX5_nextWhere_6 G l P x1 x2 x3 x4 x5 (x6 + (1 : Int32)) μ8) ∧ ((¬ r9 = 0) → ∀ v11 : Int32, v11 = (x5 ||| ((1 : Int32) <<< (x6 &&& 31))) → hX5_nextWhere_6 G l P x1 x2 x3 x4 v11 (x6 + (1 : Int32)) μ8))))))))) : hX5_nextWhere_6 G l P x1 x2 x3 x4 x5 x6 μ := by
  refine go_iload dX5_nextWhere_6 6 rfl ?_
  refine go_aload_n dX5_nextWhere_8 rfl 0 rfl ?_
  refine go_get (.ref (ga G 4)) dX5_nextWhere_9 fX5_19 (g_lt rfl) (gs_28 G _ _) rfl ?_
  refine go_get (.int (gm_r μ 4 1)) dX5_nextWhere_12 fX5_41 (g_lt rfl) (gs_4 G _ _) rfl ?_
  refine go_icmp_ge 116 dX5_nextWhere_15 (by decide) (fun c1 => ?_) (fun c1 => ?_)
  · have h := h.1 c1
    refine go_iload dX5_nextWhere_116 5 rfl ?_
    exact go_iret dX5_nextWhere_118 rfl (Nat.le_refl _) (Nat.le_refl _) ⟨_, rfl, h⟩
  · have h := h.2 c1
    refine go_aload_n dX5_nextWhere_18 rfl 0 rfl ?_
    refine go_get (.ref (ga G 4)) dX5_nextWhere_19 fX5_19 (g_lt rfl) (gs_28 G _ _) rfl ?_
    refine go_get (.ref (ga G 5)) dX5_nextWhere_22 fX5_44 (g_lt rfl) (gs_4 G _ _) rfl ?_
    refine go_iload dX5_nextWhere_25 6 rfl ?_
    obtain ⟨b2, h⟩ := h
    refine go_aald dX5_nextWhere_27 (g_lt rfl) (gs_5 G) b2 ?_
    refine go_astore [(0, .ref (ga G 28)), (1, .int x1), (2, .int x2), (3, .int x3), (4, .int x4), (5, .int x5), (6, .int x6), (7, .ref (ga G (5 + 1 + x6.toNatClampNeg)))] [1, 2, 3, 4, 5, 6, 7, 0] dX5_nextWhere_28 (by decide) rfl ?_
    refine go_iload_n dX5_nextWhere_30 rfl 1 rfl ?_
    refine go_iload dX5_nextWhere_31 6 rfl ?_
    refine go_ishr dX5_nextWhere_33 ?_
    refine go_iconst (v := 1) dX5_nextWhere_34 (by decide) ?_
    refine go_iand dX5_nextWhere_35 ?_
    refine go_if_ne 110 dX5_nextWhere_36 (by decide) (fun c3 => ?_) (fun c3 => ?_)
    · have h := h.1 c3
      refine go_iinc (v := (x6 + (1 : Int32))) [(0, .ref (ga G 28)), (1, .int x1), (2, .int x2), (3, .int x3), (4, .int x4), (5, .int x5), (6, .int (x6 + (1 : Int32))), (7, .ref (ga G (5 + 1 + x6.toNatClampNeg)))] [1, 2, 3, 4, 5, 6, 0, 7] 6 dX5_nextWhere_110 rfl rfl (by decide) rfl ?_
      refine go_goto 6 dX5_nextWhere_113 (by decide) ?_
      exact go_sub [0, 1, 2, 3, 4, 5, 6] rfl h
    · have h := h.2 c3
      refine go_aload dX5_nextWhere_39 7 rfl ?_
      refine go_iconst (v := 3) dX5_nextWhere_41 (by decide) ?_
      refine go_ialdv ((gm_r μ (5 + 1 + x6.toNatClampNeg) 3)) dX5_nextWhere_42 (gl_5 (vp_lt b2)) (gn_5 G (vp_lt b2)) (by unfold vp_in; decide) rfl ?_
      refine go_iload_n dX5_nextWhere_43 rfl 1 rfl ?_
      refine go_iconst (v := -1) dX5_nextWhere_44 (by decide) ?_
      refine go_ixor dX5_nextWhere_45 ?_
      refine go_iand dX5_nextWhere_46 ?_
      refine go_if_ne 110 dX5_nextWhere_47 (by decide) (fun c4 => ?_) (fun c4 => ?_)
      · have h := h.1 c4
        refine go_iinc (v := (x6 + (1 : Int32))) [(0, .ref (ga G 28)), (1, .int x1), (2, .int x2), (3, .int x3), (4, .int x4), (5, .int x5), (6, .int (x6 + (1 : Int32))), (7, .ref (ga G (5 + 1 + x6.toNatClampNeg)))] [1, 2, 3, 4, 5, 6, 0, 7] 6 dX5_nextWhere_110 rfl rfl (by decide) rfl ?_
        refine go_goto 6 dX5_nextWhere_113 (by decide) ?_
        exact go_sub [0, 1, 2, 3, 4, 5, 6] rfl h
      · have h := h.2 c4
        refine go_aload dX5_nextWhere_50 7 rfl ?_
        refine go_iconst (v := 5) dX5_nextWhere_52 (by decide) ?_
        refine go_ialdv ((gm_r μ (5 + 1 + x6.toNatClampNeg) 5)) dX5_nextWhere_53 (gl_5 (vp_lt b2)) (gn_5 G (vp_lt b2)) (by unfold vp_in; decide) rfl ?_
        refine go_iload_n dX5_nextWhere_54 rfl 2 rfl ?_
        refine go_aload dX5_nextWhere_55 7 rfl ?_
        refine go_iconst (v := 4) dX5_nextWhere_57 (by decide) ?_
        refine go_ialdv ((gm_r μ (5 + 1 + x6.toNatClampNeg) 4)) dX5_nextWhere_58 (gl_5 (vp_lt b2)) (gn_5 G (vp_lt b2)) (by unfold vp_in; decide) rfl ?_
        refine go_ior dX5_nextWhere_59 ?_
        refine go_iconst (v := -1) dX5_nextWhere_60 (by decide) ?_
        refine go_ixor dX5_nextWhere_61 ?_
        refine go_iand dX5_nextWhere_62 ?_
        refine go_if_ne 110 dX5_nextWhere_63 (by decide) (fun c5 => ?_) (fun c5 => ?_)
        · have h := h.1 c5
          refine go_iinc (v := (x6 + (1 : Int32))) [(0, .ref (ga G 28)), (1, .int x1), (2, .int x2), (3, .int x3), (4, .int x4), (5, .int x5), (6, .int (x6 + (1 : Int32))), (7, .ref (ga G (5 + 1 + x6.toNatClampNeg)))] [1, 2, 3, 4, 5, 6, 0, 7] 6 dX5_nextWhere_110 rfl rfl (by decide) rfl ?_
          refine go_goto 6 dX5_nextWhere_113 (by decide) ?_
          exact go_sub [0, 1, 2, 3, 4, 5, 6] rfl h
        · have h := h.2 c5
          refine go_aload dX5_nextWhere_66 7 rfl ?_
          refine go_bipush (v := 7) dX5_nextWhere_68 (by decide) ?_
          refine go_ialdv ((gm_r μ (5 + 1 + x6.toNatClampNeg) 7)) dX5_nextWhere_70 (gl_5 (vp_lt b2)) (gn_5 G (vp_lt b2)) (by unfold vp_in; decide) rfl ?_
          refine go_iload_n dX5_nextWhere_71 rfl 3 rfl ?_
          refine go_iconst (v := -1) dX5_nextWhere_72 (by decide) ?_
          refine go_ixor dX5_nextWhere_73 ?_
          refine go_iand dX5_nextWhere_74 ?_
          refine go_if_ne 110 dX5_nextWhere_75 (by decide) (fun c6 => ?_) (fun c6 => ?_)
          · have h := h.1 c6
            refine go_iinc (v := (x6 + (1 : Int32))) [(0, .ref (ga G 28)), (1, .int x1), (2, .int x2), (3, .int x3), (4, .int x4), (5, .int x5), (6, .int (x6 + (1 : Int32))), (7, .ref (ga G (5 + 1 + x6.toNatClampNeg)))] [1, 2, 3, 4, 5, 6, 0, 7] 6 dX5_nextWhere_110 rfl rfl (by decide) rfl ?_
            refine go_goto 6 dX5_nextWhere_113 (by decide) ?_
            exact go_sub [0, 1, 2, 3, 4, 5, 6] rfl h
          · have h := h.2 c6
            refine go_aload dX5_nextWhere_78 7 rfl ?_
            refine go_iconst (v := 2) dX5_nextWhere_80 (by decide) ?_
            refine go_ialdv ((gm_r μ (5 + 1 + x6.toNatClampNeg) 2)) dX5_nextWhere_81 (gl_5 (vp_lt b2)) (gn_5 G (vp_lt b2)) (by unfold vp_in; decide) rfl ?_
            refine go_iload dX5_nextWhere_82 4 rfl ?_
            refine go_iand dX5_nextWhere_84 ?_
            refine go_if_ne 110 dX5_nextWhere_85 (by decide) (fun c7 => ?_) (fun c7 => ?_)
            · have h := h.1 c7
              refine go_iinc (v := (x6 + (1 : Int32))) [(0, .ref (ga G 28)), (1, .int x1), (2, .int x2), (3, .int x3), (4, .int x4), (5, .int x5), (6, .int (x6 + (1 : Int32))), (7, .ref (ga G (5 + 1 + x6.toNatClampNeg)))] [1, 2, 3, 4, 5, 6, 0, 7] 6 dX5_nextWhere_110 rfl rfl (by decide) rfl ?_
              refine go_goto 6 dX5_nextWhere_113 (by decide) ?_
              exact go_sub [0, 1, 2, 3, 4, 5, 6] rfl h
            · have h := h.2 c7
              refine go_aload_n dX5_nextWhere_88 rfl 0 rfl ?_
              refine go_aload dX5_nextWhere_89 7 rfl ?_
              refine go_bipush (v := 6) dX5_nextWhere_91 (by decide) ?_
              refine go_ialdv ((gm_r μ (5 + 1 + x6.toNatClampNeg) 6)) dX5_nextWhere_93 (gl_5 (vp_lt b2)) (gn_5 G (vp_lt b2)) (by unfold vp_in; decide) rfl ?_
              refine go_iload_n dX5_nextWhere_94 rfl 3 rfl ?_
              refine go_callV (As := [.int (gm_r μ (5 + 1 + x6.toNatClampNeg) 6), .int x3]) (rest := []) dX5_nextWhere_95 lX5_48 kX5_mayTell rfl (by decide) (Nat.le_of_ble_eq_true rfl) (g_lt rfl) (gs_28 G _ _) rfl (by decide) rfl (gI_go (fun r9 μ8 h => ?_)) h
              refine go_if_eq 110 dX5_nextWhere_98 (by decide) (fun c10 => ?_) (fun c10 => ?_)
              · have h := h.1 c10
                refine go_iinc (v := (x6 + (1 : Int32))) [(0, .ref (ga G 28)), (1, .int x1), (2, .int x2), (3, .int x3), (4, .int x4), (5, .int x5), (6, .int (x6 + (1 : Int32))), (7, .ref (ga G (5 + 1 + x6.toNatClampNeg)))] [1, 2, 3, 4, 5, 6, 0, 7] 6 dX5_nextWhere_110 rfl rfl (by decide) rfl ?_
                refine go_goto 6 dX5_nextWhere_113 (by decide) ?_
                exact go_sub [0, 1, 2, 3, 4, 5, 6] rfl h
              · have h := h.2 c10
                refine go_iload dX5_nextWhere_101 5 rfl ?_
                refine go_iconst (v := 1) dX5_nextWhere_103 (by decide) ?_
                refine go_iload dX5_nextWhere_104 6 rfl ?_
                refine go_ishl dX5_nextWhere_106 ?_
                refine go_ior dX5_nextWhere_107 ?_
                refine go_topi (fun v11 e_v11 => ?_)
                have h := h v11 e_v11
                refine go_istore [(0, .ref (ga G 28)), (1, .int x1), (2, .int x2), (3, .int x3), (4, .int x4), (5, .int v11), (6, .int x6), (7, .ref (ga G (5 + 1 + x6.toNatClampNeg)))] [1, 2, 3, 4, 5, 0, 6, 7] dX5_nextWhere_108 (by decide) rfl ?_
                refine go_iinc (v := (x6 + (1 : Int32))) [(0, .ref (ga G 28)), (1, .int x1), (2, .int x2), (3, .int x3), (4, .int x4), (5, .int v11), (6, .int (x6 + (1 : Int32))), (7, .ref (ga G (5 + 1 + x6.toNatClampNeg)))] [1, 2, 3, 4, 5, 6, 0, 7] 6 dX5_nextWhere_110 rfl rfl (by decide) rfl ?_
                refine go_goto 6 dX5_nextWhere_113 (by decide) ?_
                exact go_sub [0, 1, 2, 3, 4, 5, 6] rfl h
set_option maxRecDepth 100000 in
theorem eX7_deadIn {G : gC} {l : Launch} {a1 : Int32} {μ : Mem} {P : Int32 → Mem → Prop} (h : hX7_deadIn_4 G l P a1 (0 : Int32) (0 : Int32) μ) : qX7_deadIn G l a1 μ P := by
  refine Sp.of (by decide) (Nat.le_of_ble_eq_true rfl) (lv := [(0, .ref (ga G 4)), (1, .int a1)]) rfl ?_
  refine go_iconst (v := 0) dX7_deadIn_0 (by decide) ?_
  refine go_istore_n [(0, .ref (ga G 4)), (1, .int a1), (2, .int (0 : Int32))] [1, 2, 0] dX7_deadIn_1 rfl (by decide) rfl ?_
  refine go_iconst (v := 0) dX7_deadIn_2 (by decide) ?_
  refine go_istore_n [(0, .ref (ga G 4)), (1, .int a1), (2, .int (0 : Int32)), (3, .int (0 : Int32))] [1, 2, 3, 0] dX7_deadIn_3 rfl (by decide) rfl ?_
  exact h
set_option maxRecDepth 100000 in
theorem eX7_deadIn_4 {G : gC} {l : Launch} {P : Int32 → Mem → Prop} {x1 : Int32} {x2 : Int32} {x3 : Int32} {μ : Mem} (h : (((gm_r μ 4 1) ≤ x3) → P x2 μ) ∧ ((¬ (gm_r μ 4 1) ≤ x3) → ((¬ ((x1 >>> (x3 &&& 31)) &&& (1 : Int32)) = (1 : Int32)) → hX7_deadIn_4 G l P x1 x2 (x3 + (1 : Int32)) μ) ∧ ((((x1 >>> (x3 &&& 31)) &&& (1 : Int32)) = (1 : Int32)) → vp_in x3 10 ∧ (((gm_r μ (5 + 1 + x3.toNatClampNeg) 8) = (-1 : Int32)) → hX7_deadIn_4 G l P x1 x2 (x3 + (1 : Int32)) μ) ∧ ((¬ (gm_r μ (5 + 1 + x3.toNatClampNeg) 8) = (-1 : Int32)) → ∀ v5 : Int32, v5 = (x2 ||| ((1 : Int32) <<< ((gm_r μ (5 + 1 + x3.toNatClampNeg) 8) &&& 31))) → hX7_deadIn_4 G l P x1 v5 (x3 + (1 : Int32)) μ)))) : hX7_deadIn_4 G l P x1 x2 x3 μ := by
  refine go_iload_n dX7_deadIn_4 rfl 3 rfl ?_
  refine go_aload_n dX7_deadIn_5 rfl 0 rfl ?_
  refine go_get (.int (gm_r μ 4 1)) dX7_deadIn_6 fX7_16 (g_lt rfl) (gs_4 G _ _) rfl ?_
  refine go_icmp_ge 54 dX7_deadIn_9 (by decide) (fun c1 => ?_) (fun c1 => ?_)
  · have h := h.1 c1
    refine go_iload_n dX7_deadIn_54 rfl 2 rfl ?_
    exact go_iret dX7_deadIn_55 rfl (Nat.le_refl _) (Nat.le_refl _) ⟨_, rfl, h⟩
  · have h := h.2 c1
    refine go_iload_n dX7_deadIn_12 rfl 1 rfl ?_
    refine go_iload_n dX7_deadIn_13 rfl 3 rfl ?_
    refine go_ishr dX7_deadIn_14 ?_
    refine go_iconst (v := 1) dX7_deadIn_15 (by decide) ?_
    refine go_iand dX7_deadIn_16 ?_
    refine go_iconst (v := 1) dX7_deadIn_17 (by decide) ?_
    refine go_icmp_ne 48 dX7_deadIn_18 (by decide) (fun c2 => ?_) (fun c2 => ?_)
    · have h := h.1 c2
      refine go_iinc (v := (x3 + (1 : Int32))) [(0, .ref (ga G 4)), (1, .int x1), (2, .int x2), (3, .int (x3 + (1 : Int32)))] [1, 2, 3, 0] 3 dX7_deadIn_48 rfl rfl (by decide) rfl ?_
      refine go_goto 4 dX7_deadIn_51 (by decide) ?_
      exact h
    · have h := h.2 c2
      refine go_aload_n dX7_deadIn_21 rfl 0 rfl ?_
      refine go_get (.ref (ga G 5)) dX7_deadIn_22 fX7_13 (g_lt rfl) (gs_4 G _ _) rfl ?_
      refine go_iload_n dX7_deadIn_25 rfl 3 rfl ?_
      obtain ⟨b3, h⟩ := h
      refine go_aald dX7_deadIn_26 (g_lt rfl) (gs_5 G) b3 ?_
      refine go_bipush (v := 8) dX7_deadIn_27 (by decide) ?_
      refine go_ialdv ((gm_r μ (5 + 1 + x3.toNatClampNeg) 8)) dX7_deadIn_29 (gl_5 (vp_lt b3)) (gn_5 G (vp_lt b3)) (by unfold vp_in; decide) rfl ?_
      refine go_iconst (v := -1) dX7_deadIn_30 (by decide) ?_
      refine go_icmp_eq 48 dX7_deadIn_31 (by decide) (fun c4 => ?_) (fun c4 => ?_)
      · have h := h.1 c4
        refine go_iinc (v := (x3 + (1 : Int32))) [(0, .ref (ga G 4)), (1, .int x1), (2, .int x2), (3, .int (x3 + (1 : Int32)))] [1, 2, 3, 0] 3 dX7_deadIn_48 rfl rfl (by decide) rfl ?_
        refine go_goto 4 dX7_deadIn_51 (by decide) ?_
        exact h
      · have h := h.2 c4
        refine go_iload_n dX7_deadIn_34 rfl 2 rfl ?_
        refine go_iconst (v := 1) dX7_deadIn_35 (by decide) ?_
        refine go_aload_n dX7_deadIn_36 rfl 0 rfl ?_
        refine go_get (.ref (ga G 5)) dX7_deadIn_37 fX7_13 (g_lt rfl) (gs_4 G _ _) rfl ?_
        refine go_iload_n dX7_deadIn_40 rfl 3 rfl ?_
        refine go_aald dX7_deadIn_41 (g_lt rfl) (gs_5 G) b3 ?_
        refine go_bipush (v := 8) dX7_deadIn_42 (by decide) ?_
        refine go_ialdv ((gm_r μ (5 + 1 + x3.toNatClampNeg) 8)) dX7_deadIn_44 (gl_5 (vp_lt b3)) (gn_5 G (vp_lt b3)) (by unfold vp_in; decide) rfl ?_
        refine go_ishl dX7_deadIn_45 ?_
        refine go_ior dX7_deadIn_46 ?_
        refine go_topi (fun v5 e_v5 => ?_)
        have h := h v5 e_v5
        refine go_istore_n [(0, .ref (ga G 4)), (1, .int x1), (2, .int v5), (3, .int x3)] [1, 2, 0, 3] dX7_deadIn_47 rfl (by decide) rfl ?_
        refine go_iinc (v := (x3 + (1 : Int32))) [(0, .ref (ga G 4)), (1, .int x1), (2, .int v5), (3, .int (x3 + (1 : Int32)))] [1, 2, 3, 0] 3 dX7_deadIn_48 rfl rfl (by decide) rfl ?_
        refine go_goto 4 dX7_deadIn_51 (by decide) ?_
        exact h
set_option maxRecDepth 100000 in
theorem eX5_nextBehind {G : gC} {l : Launch} {a1 : Int32} {μ : Mem} {P : Int32 → Mem → Prop} (h : qX7_union G l a1 (4 : Int32) μ (fun (r2 : Int32) (μ1 : Mem) => qX7_union G l a1 (6 : Int32) μ1 (fun (r4 : Int32) (μ3 : Mem) => qX7_deadIn G l a1 μ3 (fun (r6 : Int32) (μ5 : Mem) => qX5_nextWhere G l a1 r2 r4 r6 μ5 (fun (r8 : Int32) (μ7 : Mem) => P r8 μ7))))) : qX5_nextBehind G l a1 μ P := by
  refine Sp.of (by decide) (Nat.le_of_ble_eq_true rfl) (lv := [(0, .ref (ga G 28)), (1, .int a1)]) rfl ?_
  refine go_aload_n dX5_nextBehind_0 rfl 0 rfl ?_
  refine go_iload_n dX5_nextBehind_1 rfl 1 rfl ?_
  refine go_aload_n dX5_nextBehind_2 rfl 0 rfl ?_
  refine go_get (.ref (ga G 4)) dX5_nextBehind_3 fX5_19 (g_lt rfl) (gs_28 G _ _) rfl ?_
  refine go_iload_n dX5_nextBehind_6 rfl 1 rfl ?_
  refine go_iconst (v := 4) dX5_nextBehind_7 (by decide) ?_
  refine go_callV (As := [.int a1, .int (4 : Int32)]) (rest := [.int a1, .ref (ga G 28)]) dX5_nextBehind_8 lX5_29 kX7_union rfl (by decide) (Nat.le_of_ble_eq_true rfl) (g_lt rfl) (gs_4 G _ _) rfl (by decide) rfl (gI_go (fun r2 μ1 h => ?_)) h
  refine go_aload_n dX5_nextBehind_11 rfl 0 rfl ?_
  refine go_get (.ref (ga G 4)) dX5_nextBehind_12 fX5_19 (g_lt rfl) (gs_28 G _ _) rfl ?_
  refine go_iload_n dX5_nextBehind_15 rfl 1 rfl ?_
  refine go_bipush (v := 6) dX5_nextBehind_16 (by decide) ?_
  refine go_callV (As := [.int a1, .int (6 : Int32)]) (rest := [.int r2, .int a1, .ref (ga G 28)]) dX5_nextBehind_18 lX5_29 kX7_union rfl (by decide) (Nat.le_of_ble_eq_true rfl) (g_lt rfl) (gs_4 G _ _) rfl (by decide) rfl (gI_go (fun r4 μ3 h => ?_)) h
  refine go_aload_n dX5_nextBehind_21 rfl 0 rfl ?_
  refine go_get (.ref (ga G 4)) dX5_nextBehind_22 fX5_19 (g_lt rfl) (gs_28 G _ _) rfl ?_
  refine go_iload_n dX5_nextBehind_25 rfl 1 rfl ?_
  refine go_callV (As := [.int a1]) (rest := [.int r4, .int r2, .int a1, .ref (ga G 28)]) dX5_nextBehind_26 lX5_33 kX7_deadIn rfl (by decide) (Nat.le_of_ble_eq_true rfl) (g_lt rfl) (gs_4 G _ _) rfl (by decide) rfl (gI_go (fun r6 μ5 h => ?_)) h
  refine go_callV (As := [.int a1, .int r2, .int r4, .int r6]) (rest := []) dX5_nextBehind_29 lX5_37 kX5_nextWhere rfl (by decide) (Nat.le_of_ble_eq_true rfl) (g_lt rfl) (gs_28 G _ _) rfl (by decide) rfl (gI_go (fun r8 μ7 h => ?_)) h
  exact go_iret dX5_nextBehind_32 rfl (Nat.le_refl _) (Nat.le_refl _) ⟨_, rfl, h⟩
set_option maxRecDepth 100000 in
theorem eX9_areScenes {G : gC} {l : Launch} {a1 : Int32} {μ : Mem} {P : Int32 → Mem → Prop} (h : qX7_all G l  μ (fun (r2 : Int32) (μ1 : Mem) => ((¬ (a1 &&& (r2 ^^^ (-1 : Int32))) = 0) → P (0 : Int32) μ1) ∧ (((a1 &&& (r2 ^^^ (-1 : Int32))) = 0) → P (1 : Int32) μ1))) : qX9_areScenes G l a1 μ P := by
  refine Sp.of (by decide) (Nat.le_of_ble_eq_true rfl) (lv := [(0, .ref (ga G 0)), (1, .int a1)]) rfl ?_
  refine go_iload_n dX9_areScenes_0 rfl 1 rfl ?_
  refine go_aload_n dX9_areScenes_1 rfl 0 rfl ?_
  refine go_get (.ref (ga G 4)) dX9_areScenes_2 fX9_28 (g_lt rfl) (gs_0 G _ _) rfl ?_
  refine go_callV (As := []) (rest := [.int a1]) dX9_areScenes_5 lX9_145 kX7_all rfl (by decide) (Nat.le_of_ble_eq_true rfl) (g_lt rfl) (gs_4 G _ _) rfl (by decide) rfl (gI_go (fun r2 μ1 h => ?_)) h
  refine go_iconst (v := -1) dX9_areScenes_8 (by decide) ?_
  refine go_ixor dX9_areScenes_9 ?_
  refine go_iand dX9_areScenes_10 ?_
  refine go_if_ne 18 dX9_areScenes_11 (by decide) (fun c3 => ?_) (fun c3 => ?_)
  · have h := h.1 c3
    refine go_iconst (v := 0) dX9_areScenes_18 (by decide) ?_
    exact go_zret dX9_areScenes_19 rfl (Nat.le_refl _) (Nat.le_refl _) rfl ⟨_, rfl, h⟩
  · have h := h.2 c3
    refine go_iconst (v := 1) dX9_areScenes_14 (by decide) ?_
    refine go_goto 19 dX9_areScenes_15 (by decide) ?_
    exact go_zret dX9_areScenes_19 rfl (Nat.le_refl _) (Nat.le_refl _) rfl ⟨_, rfl, h⟩
set_option maxRecDepth 100000 in
theorem eX9_may {G : gC} {l : Launch} {a1 : Int32} {a2 : Int32} {μ : Mem} {P : Int32 → Mem → Prop} (h : qX9_isScene G l a1 μ (fun (r2 : Int32) (μ1 : Mem) => ((r2 = 0) → P (-1001 : Int32) μ1) ∧ ((¬ r2 = 0) → qX9_areScenes G l a2 μ1 (fun (r5 : Int32) (μ4 : Mem) => ((¬ r5 = 0) → qX5_nextBehind G l a2 μ4 (fun (r8 : Int32) (μ7 : Mem) => P ((r8 >>> (a1 &&& 31)) &&& (1 : Int32)) μ7)) ∧ ((r5 = 0) → P (-1001 : Int32) μ4))))) : qX9_may G l a1 a2 μ P := by
  refine Sp.of (by decide) (Nat.le_of_ble_eq_true rfl) (lv := [(0, .ref (ga G 0)), (1, .int a1), (2, .int a2)]) rfl ?_
  refine go_aload_n dX9_may_0 rfl 0 rfl ?_
  refine go_iload_n dX9_may_1 rfl 1 rfl ?_
  refine go_callV (As := [.int a1]) (rest := []) dX9_may_2 lX9_115 kX9_isScene rfl (by decide) (Nat.le_of_ble_eq_true rfl) (g_lt rfl) (gs_0 G _ _) rfl (by decide) rfl (gI_go (fun r2 μ1 h => ?_)) h
  refine go_if_eq 16 dX9_may_5 (by decide) (fun c3 => ?_) (fun c3 => ?_)
  · have h := h.1 c3
    refine go_sipush (v := -1001) dX9_may_16 (by decide) ?_
    exact go_iret dX9_may_19 rfl (Nat.le_refl _) (Nat.le_refl _) ⟨_, rfl, h⟩
  · have h := h.2 c3
    refine go_aload_n dX9_may_8 rfl 0 rfl ?_
    refine go_iload_n dX9_may_9 rfl 2 rfl ?_
    refine go_callV (As := [.int a2]) (rest := []) dX9_may_10 lX9_162 kX9_areScenes rfl (by decide) (Nat.le_of_ble_eq_true rfl) (g_lt rfl) (gs_0 G _ _) rfl (by decide) rfl (gI_go (fun r5 μ4 h => ?_)) h
    refine go_if_ne 20 dX9_may_13 (by decide) (fun c6 => ?_) (fun c6 => ?_)
    · have h := h.1 c6
      refine go_aload_n dX9_may_20 rfl 0 rfl ?_
      refine go_get (.ref (ga G 28)) dX9_may_21 fX9_40 (g_lt rfl) (gs_0 G _ _) rfl ?_
      refine go_iload_n dX9_may_24 rfl 2 rfl ?_
      refine go_callV (As := [.int a2]) (rest := []) dX9_may_25 lX9_165 kX5_nextBehind rfl (by decide) (Nat.le_of_ble_eq_true rfl) (g_lt rfl) (gs_28 G _ _) rfl (by decide) rfl (gI_go (fun r8 μ7 h => ?_)) h
      refine go_iload_n dX9_may_28 rfl 1 rfl ?_
      refine go_ishr dX9_may_29 ?_
      refine go_iconst (v := 1) dX9_may_30 (by decide) ?_
      refine go_iand dX9_may_31 ?_
      exact go_iret dX9_may_32 rfl (Nat.le_refl _) (Nat.le_refl _) ⟨_, rfl, h⟩
    · have h := h.2 c6
      refine go_sipush (v := -1001) dX9_may_16 (by decide) ?_
      exact go_iret dX9_may_19 rfl (Nat.le_refl _) (Nat.le_refl _) ⟨_, rfl, h⟩
set_option maxRecDepth 100000 in
theorem eX9_next {G : gC} {l : Launch} {a1 : Int32} {μ : Mem} {P : Int32 → Mem → Prop} (h : qX9_areScenes G l a1 μ (fun (r2 : Int32) (μ1 : Mem) => ((r2 = 0) → P (-1001 : Int32) μ1) ∧ ((¬ r2 = 0) → qX5_nextBehind G l a1 μ1 (fun (r5 : Int32) (μ4 : Mem) => P r5 μ4)))) : qX9_next G l a1 μ P := by
  refine Sp.of (by decide) (Nat.le_of_ble_eq_true rfl) (lv := [(0, .ref (ga G 0)), (1, .int a1)]) rfl ?_
  refine go_aload_n dX9_next_0 rfl 0 rfl ?_
  refine go_iload_n dX9_next_1 rfl 1 rfl ?_
  refine go_callV (As := [.int a1]) (rest := []) dX9_next_2 lX9_162 kX9_areScenes rfl (by decide) (Nat.le_of_ble_eq_true rfl) (g_lt rfl) (gs_0 G _ _) rfl (by decide) rfl (gI_go (fun r2 μ1 h => ?_)) h
  refine go_if_eq 19 dX9_next_5 (by decide) (fun c3 => ?_) (fun c3 => ?_)
  · have h := h.1 c3
    refine go_sipush (v := -1001) dX9_next_19 (by decide) ?_
    exact go_iret dX9_next_22 rfl (Nat.le_refl _) (Nat.le_refl _) ⟨_, rfl, h⟩
  · have h := h.2 c3
    refine go_aload_n dX9_next_8 rfl 0 rfl ?_
    refine go_get (.ref (ga G 28)) dX9_next_9 fX9_40 (g_lt rfl) (gs_0 G _ _) rfl ?_
    refine go_iload_n dX9_next_12 rfl 1 rfl ?_
    refine go_callV (As := [.int a1]) (rest := []) dX9_next_13 lX9_165 kX5_nextBehind rfl (by decide) (Nat.le_of_ble_eq_true rfl) (g_lt rfl) (gs_28 G _ _) rfl (by decide) rfl (gI_go (fun r5 μ4 h => ?_)) h
    refine go_goto 22 dX9_next_16 (by decide) ?_
    exact go_iret dX9_next_22 rfl (Nat.le_refl _) (Nat.le_refl _) ⟨_, rfl, h⟩
set_option maxRecDepth 100000 in
theorem eX6_addUp {G : gC} {l : Launch} {a1 : Int32} {a2 : Int32} {μ : Mem} {P : Mem → Prop} (h : vp_in a1 10 ∧ qX7_deadIn G l a2 μ (fun (r3 : Int32) (μ2 : Mem) => hX6_addUp_23 G l P a2 (a1.toNatClampNeg) r3 (0 : Int32) μ2)) : qX6_addUp G l a1 a2 μ P := by
  refine Sp.of (by decide) (Nat.le_of_ble_eq_true rfl) (lv := [(0, .ref (ga G 30)), (1, .int a1), (2, .int a2)]) rfl ?_
  refine go_aload_n dX6_addUp_0 rfl 0 rfl ?_
  refine go_get (.ref (ga G 4)) dX6_addUp_1 fX6_49 (g_lt rfl) (gs_30 G _ _) rfl ?_
  refine go_get (.ref (ga G 5)) dX6_addUp_4 fX6_95 (g_lt rfl) (gs_4 G _ _) rfl ?_
  refine go_iload_n dX6_addUp_7 rfl 1 rfl ?_
  obtain ⟨b1, h⟩ := h
  refine go_aald dX6_addUp_8 (g_lt rfl) (gs_5 G) b1 ?_
  refine go_astore_n [(0, .ref (ga G 30)), (1, .int a1), (2, .int a2), (3, .ref (ga G (5 + 1 + a1.toNatClampNeg)))] [1, 2, 3, 0] dX6_addUp_9 rfl (by decide) rfl ?_
  refine go_aload_n dX6_addUp_10 rfl 0 rfl ?_
  refine go_get (.ref (ga G 4)) dX6_addUp_11 fX6_49 (g_lt rfl) (gs_30 G _ _) rfl ?_
  refine go_iload_n dX6_addUp_14 rfl 2 rfl ?_
  refine go_callV (As := [.int a2]) (rest := []) dX6_addUp_15 lX6_99 kX7_deadIn rfl (by decide) (Nat.le_of_ble_eq_true rfl) (g_lt rfl) (gs_4 G _ _) rfl (by decide) rfl (gI_go (fun r3 μ2 h => ?_)) h
  refine go_istore [(0, .ref (ga G 30)), (1, .int a1), (2, .int a2), (3, .ref (ga G (5 + 1 + a1.toNatClampNeg))), (4, .int r3)] [1, 2, 3, 4, 0] dX6_addUp_18 (by decide) rfl ?_
  refine go_iconst (v := 0) dX6_addUp_20 (by decide) ?_
  refine go_istore [(0, .ref (ga G 30)), (1, .int a1), (2, .int a2), (3, .ref (ga G (5 + 1 + a1.toNatClampNeg))), (4, .int r3), (5, .int (0 : Int32))] [1, 2, 3, 4, 5, 0] dX6_addUp_21 (by decide) rfl ?_
  exact go_sub [0, 2, 3, 4, 5] rfl h
set_option maxRecDepth 100000 in
theorem eX6_addUp_23 {G : gC} {l : Launch} {P : Mem → Prop} {x2 : Int32} {x3 : Nat} {x4 : Int32} {x5 : Int32} {μ : Mem} (h : x3 < 10 ∧ ((x2 ≤ x5) → P μ) ∧ ((¬ x2 ≤ x5) → vp_in x5 1024 ∧ vp_in (x5 ||| x2) 1024 ∧ hX6_addUp_23 G l P x2 (x3) x4 (x5 + (1 : Int32)) (gm_w (gm_w (gm_w (gm_w (gm_w (gm_w μ 31 (x5 ||| x2).toNatClampNeg ((gm_r μ 31 x5.toNatClampNeg) + (gm_r μ (5 + 1 + x3) 0))) 32 (x5 ||| x2).toNatClampNeg ((gm_r μ 32 x5.toNatClampNeg) + (gm_r (gm_w μ 31 (x5 ||| x2).toNatClampNeg ((gm_r μ 31 x5.toNatClampNeg) + (gm_r μ (5 + 1 + x3) 0))) (5 + 1 + x3) 1))) 33 (x5 ||| x2).toNatClampNeg ((gm_r μ 33 x5.toNatClampNeg) ||| (gm_r (gm_w (gm_w μ 31 (x5 ||| x2).toNatClampNeg ((gm_r μ 31 x5.toNatClampNeg) + (gm_r μ (5 + 1 + x3) 0))) 32 (x5 ||| x2).toNatClampNeg ((gm_r μ 32 x5.toNatClampNeg) + (gm_r (gm_w μ 31 (x5 ||| x2).toNatClampNeg ((gm_r μ 31 x5.toNatClampNeg) + (gm_r μ (5 + 1 + x3) 0))) (5 + 1 + x3) 1))) (5 + 1 + x3) 4))) 34 (x5 ||| x2).toNatClampNeg ((gm_r μ 34 x5.toNatClampNeg) ||| (gm_r (gm_w (gm_w (gm_w μ 31 (x5 ||| x2).toNatClampNeg ((gm_r μ 31 x5.toNatClampNeg) + (gm_r μ (5 + 1 + x3) 0))) 32 (x5 ||| x2).toNatClampNeg ((gm_r μ 32 x5.toNatClampNeg) + (gm_r (gm_w μ 31 (x5 ||| x2).toNatClampNeg ((gm_r μ 31 x5.toNatClampNeg) + (gm_r μ (5 + 1 + x3) 0))) (5 + 1 + x3) 1))) 33 (x5 ||| x2).toNatClampNeg ((gm_r μ 33 x5.toNatClampNeg) ||| (gm_r (gm_w (gm_w μ 31 (x5 ||| x2).toNatClampNeg ((gm_r μ 31 x5.toNatClampNeg) + (gm_r μ (5 + 1 + x3) 0))) 32 (x5 ||| x2).toNatClampNeg ((gm_r μ 32 x5.toNatClampNeg) + (gm_r (gm_w μ 31 (x5 ||| x2).toNatClampNeg ((gm_r μ 31 x5.toNatClampNeg) + (gm_r μ (5 + 1 + x3) 0))) (5 + 1 + x3) 1))) (5 + 1 + x3) 4))) (5 + 1 + x3) 5))) 35 (x5 ||| x2).toNatClampNeg ((gm_r μ 35 x5.toNatClampNeg) ||| (gm_r (gm_w (gm_w (gm_w (gm_w μ 31 (x5 ||| x2).toNatClampNeg ((gm_r μ 31 x5.toNatClampNeg) + (gm_r μ (5 + 1 + x3) 0))) 32 (x5 ||| x2).toNatClampNeg ((gm_r μ 32 x5.toNatClampNeg) + (gm_r (gm_w μ 31 (x5 ||| x2).toNatClampNeg ((gm_r μ 31 x5.toNatClampNeg) + (gm_r μ (5 + 1 + x3) 0))) (5 + 1 + x3) 1))) 33 (x5 ||| x2).toNatClampNeg ((gm_r μ 33 x5.toNatClampNeg) ||| (gm_r (gm_w (gm_w μ 31 (x5 ||| x2).toNatClampNeg ((gm_r μ 31 x5.toNatClampNeg) + (gm_r μ (5 + 1 + x3) 0))) 32 (x5 ||| x2).toNatClampNeg ((gm_r μ 32 x5.toNatClampNeg) + (gm_r (gm_w μ 31 (x5 ||| x2).toNatClampNeg ((gm_r μ 31 x5.toNatClampNeg) + (gm_r μ (5 + 1 + x3) 0))) (5 + 1 + x3) 1))) (5 + 1 + x3) 4))) 34 (x5 ||| x2).toNatClampNeg ((gm_r μ 34 x5.toNatClampNeg) ||| (gm_r (gm_w (gm_w (gm_w μ 31 (x5 ||| x2).toNatClampNeg ((gm_r μ 31 x5.toNatClampNeg) + (gm_r μ (5 + 1 + x3) 0))) 32 (x5 ||| x2).toNatClampNeg ((gm_r μ 32 x5.toNatClampNeg) + (gm_r (gm_w μ 31 (x5 ||| x2).toNatClampNeg ((gm_r μ 31 x5.toNatClampNeg) + (gm_r μ (5 + 1 + x3) 0))) (5 + 1 + x3) 1))) 33 (x5 ||| x2).toNatClampNeg ((gm_r μ 33 x5.toNatClampNeg) ||| (gm_r (gm_w (gm_w μ 31 (x5 ||| x2).toNatClampNeg ((gm_r μ 31 x5.toNatClampNeg) + (gm_r μ (5 + 1 + x3) 0))) 32 (x5 ||| x2).toNatClampNeg ((gm_r μ 32 x5.toNatClampNeg) + (gm_r (gm_w μ 31 (x5 ||| x2).toNatClampNeg ((gm_r μ 31 x5.toNatClampNeg) + (gm_r μ (5 + 1 + x3) 0))) (5 + 1 + x3) 1))) (5 + 1 + x3) 4))) (5 + 1 + x3) 5))) (5 + 1 + x3) 6))) 36 (x5 ||| x2).toNatClampNeg ((gm_r μ 36 x5.toNatClampNeg) ||| x4)))) : hX6_addUp_23 G l P x2 x3 x4 x5 μ := by
  obtain ⟨hx3, h⟩ := h
  refine go_iload dX6_addUp_23 4 rfl ?_
  refine go_iload_n dX6_addUp_25 rfl 1 rfl ?_
  refine go_icmp_ge 149 dX6_addUp_26 (by decide) (fun c4 => ?_) (fun c4 => ?_)
  · have h := h.1 c4
    exact go_vret dX6_addUp_149 rfl (Nat.le_refl _) (Nat.le_refl _) ⟨rfl, h⟩
  · have h := h.2 c4
    refine go_iload dX6_addUp_29 4 rfl ?_
    refine go_iload_n dX6_addUp_31 rfl 1 rfl ?_
    refine go_ior dX6_addUp_32 ?_
    refine go_istore [(0, .ref (ga G 30)), (2, .int x2), (3, .ref (ga G (5 + 1 + x3))), (4, .int x4), (5, .int x5), (6, .int (x5 ||| x2))] [1, 2, 3, 4, 5, 0] dX6_addUp_33 (by decide) rfl ?_
    refine go_aload_n dX6_addUp_35 rfl 0 rfl ?_
    refine go_get (.ref (ga G 31)) dX6_addUp_36 fX6_15 (g_lt rfl) (gs_30 G _ _) rfl ?_
    refine go_iload dX6_addUp_39 5 rfl ?_
    refine go_aload_n dX6_addUp_41 rfl 0 rfl ?_
    refine go_get (.ref (ga G 31)) dX6_addUp_42 fX6_15 (g_lt rfl) (gs_30 G _ _) rfl ?_
    refine go_iload dX6_addUp_45 4 rfl ?_
    obtain ⟨b5, h⟩ := h
    refine go_ialdv ((gm_r μ 31 x5.toNatClampNeg)) dX6_addUp_47 (g_lt rfl) (gs_31 G) b5 rfl ?_
    refine go_aload_n dX6_addUp_48 rfl 2 rfl ?_
    refine go_iconst (v := 0) dX6_addUp_49 (by decide) ?_
    refine go_ialdv ((gm_r μ (5 + 1 + x3) 0)) dX6_addUp_50 (gl_5 hx3) (gn_5 G hx3) (by unfold vp_in; decide) rfl ?_
    refine go_iadd dX6_addUp_51 ?_
    obtain ⟨b6, h⟩ := h
    refine go_iast dX6_addUp_52 (g_lt rfl) (gs_31 G) b6 ?_
    refine go_aload_n dX6_addUp_53 rfl 0 rfl ?_
    refine go_get (.ref (ga G 32)) dX6_addUp_54 fX6_19 (g_lt rfl) (gs_30 G _ _) rfl ?_
    refine go_iload dX6_addUp_57 5 rfl ?_
    refine go_aload_n dX6_addUp_59 rfl 0 rfl ?_
    refine go_get (.ref (ga G 32)) dX6_addUp_60 fX6_19 (g_lt rfl) (gs_30 G _ _) rfl ?_
    refine go_iload dX6_addUp_63 4 rfl ?_
    refine go_ialdv ((gm_r μ 32 x5.toNatClampNeg)) dX6_addUp_65 (g_lt rfl) (gs_32 G) b5 rfl ?_
    refine go_aload_n dX6_addUp_66 rfl 2 rfl ?_
    refine go_iconst (v := 1) dX6_addUp_67 (by decide) ?_
    refine go_ialdv ((gm_r (gm_w μ 31 (x5 ||| x2).toNatClampNeg ((gm_r μ 31 x5.toNatClampNeg) + (gm_r μ (5 + 1 + x3) 0))) (5 + 1 + x3) 1)) dX6_addUp_68 (gl_5 hx3) (gn_5 G hx3) (by unfold vp_in; decide) rfl ?_
    refine go_iadd dX6_addUp_69 ?_
    refine go_iast dX6_addUp_70 (g_lt rfl) (gs_32 G) b6 ?_
    refine go_aload_n dX6_addUp_71 rfl 0 rfl ?_
    refine go_get (.ref (ga G 33)) dX6_addUp_72 fX6_22 (g_lt rfl) (gs_30 G _ _) rfl ?_
    refine go_iload dX6_addUp_75 5 rfl ?_
    refine go_aload_n dX6_addUp_77 rfl 0 rfl ?_
    refine go_get (.ref (ga G 33)) dX6_addUp_78 fX6_22 (g_lt rfl) (gs_30 G _ _) rfl ?_
    refine go_iload dX6_addUp_81 4 rfl ?_
    refine go_ialdv ((gm_r μ 33 x5.toNatClampNeg)) dX6_addUp_83 (g_lt rfl) (gs_33 G) b5 rfl ?_
    refine go_aload_n dX6_addUp_84 rfl 2 rfl ?_
    refine go_iconst (v := 4) dX6_addUp_85 (by decide) ?_
    refine go_ialdv ((gm_r (gm_w (gm_w μ 31 (x5 ||| x2).toNatClampNeg ((gm_r μ 31 x5.toNatClampNeg) + (gm_r μ (5 + 1 + x3) 0))) 32 (x5 ||| x2).toNatClampNeg ((gm_r μ 32 x5.toNatClampNeg) + (gm_r (gm_w μ 31 (x5 ||| x2).toNatClampNeg ((gm_r μ 31 x5.toNatClampNeg) + (gm_r μ (5 + 1 + x3) 0))) (5 + 1 + x3) 1))) (5 + 1 + x3) 4)) dX6_addUp_86 (gl_5 hx3) (gn_5 G hx3) (by unfold vp_in; decide) rfl ?_
    refine go_ior dX6_addUp_87 ?_
    refine go_iast dX6_addUp_88 (g_lt rfl) (gs_33 G) b6 ?_
    refine go_aload_n dX6_addUp_89 rfl 0 rfl ?_
    refine go_get (.ref (ga G 34)) dX6_addUp_90 fX6_25 (g_lt rfl) (gs_30 G _ _) rfl ?_
    refine go_iload dX6_addUp_93 5 rfl ?_
    refine go_aload_n dX6_addUp_95 rfl 0 rfl ?_
    refine go_get (.ref (ga G 34)) dX6_addUp_96 fX6_25 (g_lt rfl) (gs_30 G _ _) rfl ?_
    refine go_iload dX6_addUp_99 4 rfl ?_
    refine go_ialdv ((gm_r μ 34 x5.toNatClampNeg)) dX6_addUp_101 (g_lt rfl) (gs_34 G) b5 rfl ?_
    refine go_aload_n dX6_addUp_102 rfl 2 rfl ?_
    refine go_iconst (v := 5) dX6_addUp_103 (by decide) ?_
    refine go_ialdv ((gm_r (gm_w (gm_w (gm_w μ 31 (x5 ||| x2).toNatClampNeg ((gm_r μ 31 x5.toNatClampNeg) + (gm_r μ (5 + 1 + x3) 0))) 32 (x5 ||| x2).toNatClampNeg ((gm_r μ 32 x5.toNatClampNeg) + (gm_r (gm_w μ 31 (x5 ||| x2).toNatClampNeg ((gm_r μ 31 x5.toNatClampNeg) + (gm_r μ (5 + 1 + x3) 0))) (5 + 1 + x3) 1))) 33 (x5 ||| x2).toNatClampNeg ((gm_r μ 33 x5.toNatClampNeg) ||| (gm_r (gm_w (gm_w μ 31 (x5 ||| x2).toNatClampNeg ((gm_r μ 31 x5.toNatClampNeg) + (gm_r μ (5 + 1 + x3) 0))) 32 (x5 ||| x2).toNatClampNeg ((gm_r μ 32 x5.toNatClampNeg) + (gm_r (gm_w μ 31 (x5 ||| x2).toNatClampNeg ((gm_r μ 31 x5.toNatClampNeg) + (gm_r μ (5 + 1 + x3) 0))) (5 + 1 + x3) 1))) (5 + 1 + x3) 4))) (5 + 1 + x3) 5)) dX6_addUp_104 (gl_5 hx3) (gn_5 G hx3) (by unfold vp_in; decide) rfl ?_
    refine go_ior dX6_addUp_105 ?_
    refine go_iast dX6_addUp_106 (g_lt rfl) (gs_34 G) b6 ?_
    refine go_aload_n dX6_addUp_107 rfl 0 rfl ?_
    refine go_get (.ref (ga G 35)) dX6_addUp_108 fX6_28 (g_lt rfl) (gs_30 G _ _) rfl ?_
    refine go_iload dX6_addUp_111 5 rfl ?_
    refine go_aload_n dX6_addUp_113 rfl 0 rfl ?_
    refine go_get (.ref (ga G 35)) dX6_addUp_114 fX6_28 (g_lt rfl) (gs_30 G _ _) rfl ?_
    refine go_iload dX6_addUp_117 4 rfl ?_
    refine go_ialdv ((gm_r μ 35 x5.toNatClampNeg)) dX6_addUp_119 (g_lt rfl) (gs_35 G) b5 rfl ?_
    refine go_aload_n dX6_addUp_120 rfl 2 rfl ?_
    refine go_bipush (v := 6) dX6_addUp_121 (by decide) ?_
    refine go_ialdv ((gm_r (gm_w (gm_w (gm_w (gm_w μ 31 (x5 ||| x2).toNatClampNeg ((gm_r μ 31 x5.toNatClampNeg) + (gm_r μ (5 + 1 + x3) 0))) 32 (x5 ||| x2).toNatClampNeg ((gm_r μ 32 x5.toNatClampNeg) + (gm_r (gm_w μ 31 (x5 ||| x2).toNatClampNeg ((gm_r μ 31 x5.toNatClampNeg) + (gm_r μ (5 + 1 + x3) 0))) (5 + 1 + x3) 1))) 33 (x5 ||| x2).toNatClampNeg ((gm_r μ 33 x5.toNatClampNeg) ||| (gm_r (gm_w (gm_w μ 31 (x5 ||| x2).toNatClampNeg ((gm_r μ 31 x5.toNatClampNeg) + (gm_r μ (5 + 1 + x3) 0))) 32 (x5 ||| x2).toNatClampNeg ((gm_r μ 32 x5.toNatClampNeg) + (gm_r (gm_w μ 31 (x5 ||| x2).toNatClampNeg ((gm_r μ 31 x5.toNatClampNeg) + (gm_r μ (5 + 1 + x3) 0))) (5 + 1 + x3) 1))) (5 + 1 + x3) 4))) 34 (x5 ||| x2).toNatClampNeg ((gm_r μ 34 x5.toNatClampNeg) ||| (gm_r (gm_w (gm_w (gm_w μ 31 (x5 ||| x2).toNatClampNeg ((gm_r μ 31 x5.toNatClampNeg) + (gm_r μ (5 + 1 + x3) 0))) 32 (x5 ||| x2).toNatClampNeg ((gm_r μ 32 x5.toNatClampNeg) + (gm_r (gm_w μ 31 (x5 ||| x2).toNatClampNeg ((gm_r μ 31 x5.toNatClampNeg) + (gm_r μ (5 + 1 + x3) 0))) (5 + 1 + x3) 1))) 33 (x5 ||| x2).toNatClampNeg ((gm_r μ 33 x5.toNatClampNeg) ||| (gm_r (gm_w (gm_w μ 31 (x5 ||| x2).toNatClampNeg ((gm_r μ 31 x5.toNatClampNeg) + (gm_r μ (5 + 1 + x3) 0))) 32 (x5 ||| x2).toNatClampNeg ((gm_r μ 32 x5.toNatClampNeg) + (gm_r (gm_w μ 31 (x5 ||| x2).toNatClampNeg ((gm_r μ 31 x5.toNatClampNeg) + (gm_r μ (5 + 1 + x3) 0))) (5 + 1 + x3) 1))) (5 + 1 + x3) 4))) (5 + 1 + x3) 5))) (5 + 1 + x3) 6)) dX6_addUp_123 (gl_5 hx3) (gn_5 G hx3) (by unfold vp_in; decide) rfl ?_
    refine go_ior dX6_addUp_124 ?_
    refine go_iast dX6_addUp_125 (g_lt rfl) (gs_35 G) b6 ?_
    refine go_aload_n dX6_addUp_126 rfl 0 rfl ?_
    refine go_get (.ref (ga G 36)) dX6_addUp_127 fX6_31 (g_lt rfl) (gs_30 G _ _) rfl ?_
    refine go_iload dX6_addUp_130 5 rfl ?_
    refine go_aload_n dX6_addUp_132 rfl 0 rfl ?_
    refine go_get (.ref (ga G 36)) dX6_addUp_133 fX6_31 (g_lt rfl) (gs_30 G _ _) rfl ?_
    refine go_iload dX6_addUp_136 4 rfl ?_
    refine go_ialdv ((gm_r μ 36 x5.toNatClampNeg)) dX6_addUp_138 (g_lt rfl) (gs_36 G) b5 rfl ?_
    refine go_iload dX6_addUp_139 3 rfl ?_
    refine go_ior dX6_addUp_141 ?_
    refine go_iast dX6_addUp_142 (g_lt rfl) (gs_36 G) b6 ?_
    refine go_iinc (v := (x5 + (1 : Int32))) [(0, .ref (ga G 30)), (2, .int x2), (3, .ref (ga G (5 + 1 + x3))), (4, .int x4), (5, .int (x5 + (1 : Int32))), (6, .int (x5 ||| x2))] [1, 2, 3, 4, 0, 5] 4 dX6_addUp_143 rfl rfl (by decide) rfl ?_
    refine go_goto 23 dX6_addUp_146 (by decide) ?_
    exact go_sub [0, 1, 2, 3, 4] rfl h
set_option maxRecDepth 100000 in
theorem eX6_spread {G : gC} {l : Launch} {a1 : Int32} {μ : Mem} {P : Mem → Prop} (h : hX6_spread_2 G l P a1 (0 : Int32) μ) : qX6_spread G l a1 μ P := by
  refine Sp.of (by decide) (Nat.le_of_ble_eq_true rfl) (lv := [(0, .ref (ga G 30)), (1, .int a1)]) rfl ?_
  refine go_iconst (v := 0) dX6_spread_0 (by decide) ?_
  refine go_istore_n [(0, .ref (ga G 30)), (1, .int a1), (2, .int (0 : Int32))] [1, 2, 0] dX6_spread_1 rfl (by decide) rfl ?_
  exact h
set_option maxRecDepth 100000 in
theorem eX6_spread_2 {G : gC} {l : Launch} {P : Mem → Prop} {x1 : Int32} {x2 : Int32} {μ : Mem} (h : (((gm_r μ 4 1) ≤ x2) → P μ) ∧ ((¬ (gm_r μ 4 1) ≤ x2) → vp_in x1 1024 ∧ ((¬ (((gm_r μ 38 x1.toNatClampNeg) >>> (x2 &&& 31)) &&& (1 : Int32)) = (1 : Int32)) → hX6_spread_2 G l P x1 (x2 + (1 : Int32)) μ) ∧ (((((gm_r μ 38 x1.toNatClampNeg) >>> (x2 &&& 31)) &&& (1 : Int32)) = (1 : Int32)) → ∀ v4 : Int32, v4 = (x1 ||| ((1 : Int32) <<< (x2 &&& 31))) → vp_in v4 1024 ∧ ((¬ (gm_r μ 39 v4.toNatClampNeg) = 0) → hX6_spread_2 G l P x1 (x2 + (1 : Int32)) (gm_w (gm_w μ 40 v4.toNatClampNeg (if (gm_r μ 40 x1.toNatClampNeg) < (gm_r μ 40 v4.toNatClampNeg) then (gm_r μ 40 x1.toNatClampNeg) else (gm_r μ 40 v4.toNatClampNeg))) 39 v4.toNatClampNeg ((gm_r μ 39 v4.toNatClampNeg) + (gm_r μ 39 x1.toNatClampNeg)))) ∧ (((gm_r μ 39 v4.toNatClampNeg) = 0) → hX6_spread_2 G l P x1 (x2 + (1 : Int32)) (gm_w (gm_w μ 40 v4.toNatClampNeg (gm_r μ 40 x1.toNatClampNeg)) 39 v4.toNatClampNeg ((gm_r μ 39 v4.toNatClampNeg) + (gm_r μ 39 x1.toNatClampNeg))))))) : hX6_spread_2 G l P x1 x2 μ := by
  refine go_iload_n dX6_spread_2 rfl 2 rfl ?_
  refine go_aload_n dX6_spread_3 rfl 0 rfl ?_
  refine go_get (.ref (ga G 4)) dX6_spread_4 fX6_49 (g_lt rfl) (gs_30 G _ _) rfl ?_
  refine go_get (.int (gm_r μ 4 1)) dX6_spread_7 fX6_57 (g_lt rfl) (gs_4 G _ _) rfl ?_
  refine go_icmp_ge 93 dX6_spread_10 (by decide) (fun c1 => ?_) (fun c1 => ?_)
  · have h := h.1 c1
    exact go_vret dX6_spread_93 rfl (Nat.le_refl _) (Nat.le_refl _) ⟨rfl, h⟩
  · have h := h.2 c1
    refine go_aload_n dX6_spread_13 rfl 0 rfl ?_
    refine go_get (.ref (ga G 38)) dX6_spread_14 fX6_37 (g_lt rfl) (gs_30 G _ _) rfl ?_
    refine go_iload_n dX6_spread_17 rfl 1 rfl ?_
    obtain ⟨b2, h⟩ := h
    refine go_ialdv ((gm_r μ 38 x1.toNatClampNeg)) dX6_spread_18 (g_lt rfl) (gs_38 G) b2 rfl ?_
    refine go_iload_n dX6_spread_19 rfl 2 rfl ?_
    refine go_ishr dX6_spread_20 ?_
    refine go_iconst (v := 1) dX6_spread_21 (by decide) ?_
    refine go_iand dX6_spread_22 ?_
    refine go_iconst (v := 1) dX6_spread_23 (by decide) ?_
    refine go_icmp_ne 87 dX6_spread_24 (by decide) (fun c3 => ?_) (fun c3 => ?_)
    · have h := h.1 c3
      refine go_iinc (v := (x2 + (1 : Int32))) [(0, .ref (ga G 30)), (1, .int x1), (2, .int (x2 + (1 : Int32)))] [1, 2, 0] 2 dX6_spread_87 rfl rfl (by decide) rfl ?_
      refine go_goto 2 dX6_spread_90 (by decide) ?_
      exact h
    · have h := h.2 c3
      refine go_iload_n dX6_spread_27 rfl 1 rfl ?_
      refine go_iconst (v := 1) dX6_spread_28 (by decide) ?_
      refine go_iload_n dX6_spread_29 rfl 2 rfl ?_
      refine go_ishl dX6_spread_30 ?_
      refine go_ior dX6_spread_31 ?_
      refine go_topi (fun v4 e_v4 => ?_)
      have h := h v4 e_v4
      refine go_istore_n [(0, .ref (ga G 30)), (1, .int x1), (2, .int x2), (3, .int v4)] [1, 2, 3, 0] dX6_spread_32 rfl (by decide) rfl ?_
      refine go_aload_n dX6_spread_33 rfl 0 rfl ?_
      refine go_get (.ref (ga G 40)) dX6_spread_34 fX6_43 (g_lt rfl) (gs_30 G _ _) rfl ?_
      refine go_iload_n dX6_spread_37 rfl 3 rfl ?_
      refine go_aload_n dX6_spread_38 rfl 0 rfl ?_
      refine go_get (.ref (ga G 39)) dX6_spread_39 fX6_40 (g_lt rfl) (gs_30 G _ _) rfl ?_
      refine go_iload_n dX6_spread_42 rfl 3 rfl ?_
      obtain ⟨b5, h⟩ := h
      refine go_ialdv ((gm_r μ 39 v4.toNatClampNeg)) dX6_spread_43 (g_lt rfl) (gs_39 G) b5 rfl ?_
      refine go_if_ne 56 dX6_spread_44 (by decide) (fun c6 => ?_) (fun c6 => ?_)
      · have h := h.1 c6
        refine go_aload_n dX6_spread_56 rfl 0 rfl ?_
        refine go_get (.ref (ga G 40)) dX6_spread_57 fX6_43 (g_lt rfl) (gs_30 G _ _) rfl ?_
        refine go_iload_n dX6_spread_60 rfl 3 rfl ?_
        refine go_ialdv ((gm_r μ 40 v4.toNatClampNeg)) dX6_spread_61 (g_lt rfl) (gs_40 G) b5 rfl ?_
        refine go_aload_n dX6_spread_62 rfl 0 rfl ?_
        refine go_get (.ref (ga G 40)) dX6_spread_63 fX6_43 (g_lt rfl) (gs_30 G _ _) rfl ?_
        refine go_iload_n dX6_spread_66 rfl 1 rfl ?_
        refine go_ialdv ((gm_r μ 40 x1.toNatClampNeg)) dX6_spread_67 (g_lt rfl) (gs_40 G) b2 rfl ?_
        refine go_mmin dX6_spread_68 (g_in 627 (by decide +kernel) rfl) (g_in 628 (by decide +kernel) rfl) (g_in 81 (by decide +kernel) rfl) (g_in 629 (by decide +kernel) rfl) (by decide) (by decide) (Nat.le_of_ble_eq_true rfl) (Nat.le_refl _) (Nat.le_refl _) ?_
        refine go_iast dX6_spread_71 (g_lt rfl) (gs_40 G) b5 ?_
        refine go_aload_n dX6_spread_72 rfl 0 rfl ?_
        refine go_get (.ref (ga G 39)) dX6_spread_73 fX6_40 (g_lt rfl) (gs_30 G _ _) rfl ?_
        refine go_iload_n dX6_spread_76 rfl 3 rfl ?_
        refine go_dup2 dX6_spread_77 rfl rfl ?_
        refine go_ialdv ((gm_r μ 39 v4.toNatClampNeg)) dX6_spread_78 (g_lt rfl) (gs_39 G) b5 rfl ?_
        refine go_aload_n dX6_spread_79 rfl 0 rfl ?_
        refine go_get (.ref (ga G 39)) dX6_spread_80 fX6_40 (g_lt rfl) (gs_30 G _ _) rfl ?_
        refine go_iload_n dX6_spread_83 rfl 1 rfl ?_
        refine go_ialdv ((gm_r μ 39 x1.toNatClampNeg)) dX6_spread_84 (g_lt rfl) (gs_39 G) b2 rfl ?_
        refine go_iadd dX6_spread_85 ?_
        refine go_iast dX6_spread_86 (g_lt rfl) (gs_39 G) b5 ?_
        refine go_iinc (v := (x2 + (1 : Int32))) [(0, .ref (ga G 30)), (1, .int x1), (2, .int (x2 + (1 : Int32))), (3, .int v4)] [1, 2, 0, 3] 2 dX6_spread_87 rfl rfl (by decide) rfl ?_
        refine go_goto 2 dX6_spread_90 (by decide) ?_
        exact go_sub [0, 1, 2] rfl h
      · have h := h.2 c6
        refine go_aload_n dX6_spread_47 rfl 0 rfl ?_
        refine go_get (.ref (ga G 40)) dX6_spread_48 fX6_43 (g_lt rfl) (gs_30 G _ _) rfl ?_
        refine go_iload_n dX6_spread_51 rfl 1 rfl ?_
        refine go_ialdv ((gm_r μ 40 x1.toNatClampNeg)) dX6_spread_52 (g_lt rfl) (gs_40 G) b2 rfl ?_
        refine go_goto 71 dX6_spread_53 (by decide) ?_
        refine go_iast dX6_spread_71 (g_lt rfl) (gs_40 G) b5 ?_
        refine go_aload_n dX6_spread_72 rfl 0 rfl ?_
        refine go_get (.ref (ga G 39)) dX6_spread_73 fX6_40 (g_lt rfl) (gs_30 G _ _) rfl ?_
        refine go_iload_n dX6_spread_76 rfl 3 rfl ?_
        refine go_dup2 dX6_spread_77 rfl rfl ?_
        refine go_ialdv ((gm_r μ 39 v4.toNatClampNeg)) dX6_spread_78 (g_lt rfl) (gs_39 G) b5 rfl ?_
        refine go_aload_n dX6_spread_79 rfl 0 rfl ?_
        refine go_get (.ref (ga G 39)) dX6_spread_80 fX6_40 (g_lt rfl) (gs_30 G _ _) rfl ?_
        refine go_iload_n dX6_spread_83 rfl 1 rfl ?_
        refine go_ialdv ((gm_r μ 39 x1.toNatClampNeg)) dX6_spread_84 (g_lt rfl) (gs_39 G) b2 rfl ?_
        refine go_iadd dX6_spread_85 ?_
        refine go_iast dX6_spread_86 (g_lt rfl) (gs_39 G) b5 ?_
        refine go_iinc (v := (x2 + (1 : Int32))) [(0, .ref (ga G 30)), (1, .int x1), (2, .int (x2 + (1 : Int32))), (3, .int v4)] [1, 2, 0, 3] 2 dX6_spread_87 rfl rfl (by decide) rfl ?_
        refine go_goto 2 dX6_spread_90 (by decide) ?_
        exact go_sub [0, 1, 2] rfl h
set_option maxRecDepth 100000 in
theorem eX6_build {G : gC} {l : Launch}  {μ : Mem} {P : Mem → Prop} (h : hX6_build_15 G l P (0 : Int32) (gm_w μ 30 3 ((1 : Int32) <<< ((gm_r μ 4 1) &&& 31)))) : qX6_build G l  μ P := by
  refine Sp.of (by decide) (Nat.le_of_ble_eq_true rfl) (lv := [(0, .ref (ga G 30))]) rfl ?_
  refine go_aload_n dX6_build_0 rfl 0 rfl ?_
  refine go_iconst (v := 1) dX6_build_1 (by decide) ?_
  refine go_aload_n dX6_build_2 rfl 0 rfl ?_
  refine go_get (.ref (ga G 4)) dX6_build_3 fX6_49 (g_lt rfl) (gs_30 G _ _) rfl ?_
  refine go_get (.int (gm_r μ 4 1)) dX6_build_6 fX6_57 (g_lt rfl) (gs_4 G _ _) rfl ?_
  refine go_ishl dX6_build_9 ?_
  refine go_puti dX6_build_10 pX6_63 (g_lt rfl) (gs_30 G _ _) (Nat.le_of_ble_eq_true rfl) rfl ?_
  refine go_iconst (v := 0) dX6_build_13 (by decide) ?_
  refine go_istore_n [(0, .ref (ga G 30)), (1, .int (0 : Int32))] [1, 0] dX6_build_14 rfl (by decide) rfl ?_
  exact h
set_option maxRecDepth 100000 in
theorem eX6_build_15 {G : gC} {l : Launch} {P : Mem → Prop} {x1 : Int32} {μ : Mem} (h : (((gm_r μ 4 1) ≤ x1) → hX6_build_42 G l P (0 : Int32) μ) ∧ ((¬ (gm_r μ 4 1) ≤ x1) → qX6_addUp G l x1 ((1 : Int32) <<< (x1 &&& 31)) μ (fun (μ2 : Mem) => hX6_build_15 G l P (x1 + (1 : Int32)) μ2))) : hX6_build_15 G l P x1 μ := by
  refine go_iload_n dX6_build_15 rfl 1 rfl ?_
  refine go_aload_n dX6_build_16 rfl 0 rfl ?_
  refine go_get (.ref (ga G 4)) dX6_build_17 fX6_49 (g_lt rfl) (gs_30 G _ _) rfl ?_
  refine go_get (.int (gm_r μ 4 1)) dX6_build_20 fX6_57 (g_lt rfl) (gs_4 G _ _) rfl ?_
  refine go_icmp_ge 40 dX6_build_23 (by decide) (fun c1 => ?_) (fun c1 => ?_)
  · have h := h.1 c1
    refine go_iconst (v := 0) dX6_build_40 (by decide) ?_
    refine go_istore_n [(0, .ref (ga G 30)), (1, .int (0 : Int32))] [1, 0] dX6_build_41 rfl (by decide) rfl ?_
    exact h
  · have h := h.2 c1
    refine go_aload_n dX6_build_26 rfl 0 rfl ?_
    refine go_iload_n dX6_build_27 rfl 1 rfl ?_
    refine go_iconst (v := 1) dX6_build_28 (by decide) ?_
    refine go_iload_n dX6_build_29 rfl 1 rfl ?_
    refine go_ishl dX6_build_30 ?_
    refine go_callV (As := [.int x1, .int ((1 : Int32) <<< (x1 &&& 31))]) (rest := []) dX6_build_31 lX6_66 kX6_addUp rfl (by decide) (Nat.le_of_ble_eq_true rfl) (g_lt rfl) (gs_30 G _ _) rfl (by decide) rfl (gV_go (fun μ2 h => ?_)) h
    refine go_iinc (v := (x1 + (1 : Int32))) [(0, .ref (ga G 30)), (1, .int (x1 + (1 : Int32)))] [1, 0] 1 dX6_build_34 rfl rfl (by decide) rfl ?_
    refine go_goto 15 dX6_build_37 (by decide) ?_
    exact h
set_option maxRecDepth 100000 in
theorem eX6_build_42 {G : gC} {l : Launch} {P : Mem → Prop} {x1 : Int32} {μ : Mem} (h : (((gm_r μ 30 3) ≤ x1) → hX6_build_133 G l P (0 : Int32) μ) ∧ ((¬ (gm_r μ 30 3) ≤ x1) → vp_in x1 1024 ∧ qX5_nextWhere G l x1 (gm_r μ 33 x1.toNatClampNeg) (gm_r μ 35 x1.toNatClampNeg) (gm_r μ 36 x1.toNatClampNeg) (gm_w μ 37 x1.toNatClampNeg ((gm_r μ 33 x1.toNatClampNeg) &&& ((gm_r μ 34 x1.toNatClampNeg) ^^^ (-1 : Int32)))) (fun (r7 : Int32) (μ6 : Mem) => ((¬ x1 = 0) → hX6_build_42 G l P (x1 + (1 : Int32)) (gm_w (gm_w (gm_w μ6 38 x1.toNatClampNeg r7) 39 x1.toNatClampNeg (0 : Int32)) 40 x1.toNatClampNeg (-1 : Int32))) ∧ ((x1 = 0) → hX6_build_42 G l P (x1 + (1 : Int32)) (gm_w (gm_w (gm_w μ6 38 x1.toNatClampNeg r7) 39 x1.toNatClampNeg (1 : Int32)) 40 x1.toNatClampNeg (-1 : Int32)))))) : hX6_build_42 G l P x1 μ := by
  refine go_iload_n dX6_build_42 rfl 1 rfl ?_
  refine go_aload_n dX6_build_43 rfl 0 rfl ?_
  refine go_get (.int (gm_r μ 30 3)) dX6_build_44 fX6_63 (g_lt rfl) (gs_30 G _ _) rfl ?_
  refine go_icmp_ge 131 dX6_build_47 (by decide) (fun c4 => ?_) (fun c4 => ?_)
  · have h := h.1 c4
    refine go_iconst (v := 0) dX6_build_131 (by decide) ?_
    refine go_istore_n [(0, .ref (ga G 30)), (1, .int (0 : Int32))] [1, 0] dX6_build_132 rfl (by decide) rfl ?_
    exact h
  · have h := h.2 c4
    refine go_aload_n dX6_build_50 rfl 0 rfl ?_
    refine go_get (.ref (ga G 37)) dX6_build_51 fX6_34 (g_lt rfl) (gs_30 G _ _) rfl ?_
    refine go_iload_n dX6_build_54 rfl 1 rfl ?_
    refine go_aload_n dX6_build_55 rfl 0 rfl ?_
    refine go_get (.ref (ga G 33)) dX6_build_56 fX6_22 (g_lt rfl) (gs_30 G _ _) rfl ?_
    refine go_iload_n dX6_build_59 rfl 1 rfl ?_
    obtain ⟨b5, h⟩ := h
    refine go_ialdv ((gm_r μ 33 x1.toNatClampNeg)) dX6_build_60 (g_lt rfl) (gs_33 G) b5 rfl ?_
    refine go_aload_n dX6_build_61 rfl 0 rfl ?_
    refine go_get (.ref (ga G 34)) dX6_build_62 fX6_25 (g_lt rfl) (gs_30 G _ _) rfl ?_
    refine go_iload_n dX6_build_65 rfl 1 rfl ?_
    refine go_ialdv ((gm_r μ 34 x1.toNatClampNeg)) dX6_build_66 (g_lt rfl) (gs_34 G) b5 rfl ?_
    refine go_iconst (v := -1) dX6_build_67 (by decide) ?_
    refine go_ixor dX6_build_68 ?_
    refine go_iand dX6_build_69 ?_
    refine go_iast dX6_build_70 (g_lt rfl) (gs_37 G) b5 ?_
    refine go_aload_n dX6_build_71 rfl 0 rfl ?_
    refine go_get (.ref (ga G 38)) dX6_build_72 fX6_37 (g_lt rfl) (gs_30 G _ _) rfl ?_
    refine go_iload_n dX6_build_75 rfl 1 rfl ?_
    refine go_aload_n dX6_build_76 rfl 0 rfl ?_
    refine go_get (.ref (ga G 28)) dX6_build_77 fX6_53 (g_lt rfl) (gs_30 G _ _) rfl ?_
    refine go_iload_n dX6_build_80 rfl 1 rfl ?_
    refine go_aload_n dX6_build_81 rfl 0 rfl ?_
    refine go_get (.ref (ga G 33)) dX6_build_82 fX6_22 (g_lt rfl) (gs_30 G _ _) rfl ?_
    refine go_iload_n dX6_build_85 rfl 1 rfl ?_
    refine go_ialdv ((gm_r μ 33 x1.toNatClampNeg)) dX6_build_86 (g_lt rfl) (gs_33 G) b5 rfl ?_
    refine go_aload_n dX6_build_87 rfl 0 rfl ?_
    refine go_get (.ref (ga G 35)) dX6_build_88 fX6_28 (g_lt rfl) (gs_30 G _ _) rfl ?_
    refine go_iload_n dX6_build_91 rfl 1 rfl ?_
    refine go_ialdv ((gm_r μ 35 x1.toNatClampNeg)) dX6_build_92 (g_lt rfl) (gs_35 G) b5 rfl ?_
    refine go_aload_n dX6_build_93 rfl 0 rfl ?_
    refine go_get (.ref (ga G 36)) dX6_build_94 fX6_31 (g_lt rfl) (gs_30 G _ _) rfl ?_
    refine go_iload_n dX6_build_97 rfl 1 rfl ?_
    refine go_ialdv ((gm_r μ 36 x1.toNatClampNeg)) dX6_build_98 (g_lt rfl) (gs_36 G) b5 rfl ?_
    refine go_callV (As := [.int x1, .int (gm_r μ 33 x1.toNatClampNeg), .int (gm_r μ 35 x1.toNatClampNeg), .int (gm_r μ 36 x1.toNatClampNeg)]) (rest := [.int x1, .ref (ga G 38)]) dX6_build_99 lX6_70 kX5_nextWhere rfl (by decide) (Nat.le_of_ble_eq_true rfl) (g_lt rfl) (gs_28 G _ _) rfl (by decide) rfl (gI_go (fun r7 μ6 h => ?_)) h
    refine go_iast dX6_build_102 (g_lt rfl) (gs_38 G) b5 ?_
    refine go_aload_n dX6_build_103 rfl 0 rfl ?_
    refine go_get (.ref (ga G 39)) dX6_build_104 fX6_40 (g_lt rfl) (gs_30 G _ _) rfl ?_
    refine go_iload_n dX6_build_107 rfl 1 rfl ?_
    refine go_iload_n dX6_build_108 rfl 1 rfl ?_
    refine go_if_ne 116 dX6_build_109 (by decide) (fun c8 => ?_) (fun c8 => ?_)
    · have h := h.1 c8
      refine go_iconst (v := 0) dX6_build_116 (by decide) ?_
      refine go_iast dX6_build_117 (g_lt rfl) (gs_39 G) b5 ?_
      refine go_aload_n dX6_build_118 rfl 0 rfl ?_
      refine go_get (.ref (ga G 40)) dX6_build_119 fX6_43 (g_lt rfl) (gs_30 G _ _) rfl ?_
      refine go_iload_n dX6_build_122 rfl 1 rfl ?_
      refine go_iconst (v := -1) dX6_build_123 (by decide) ?_
      refine go_iast dX6_build_124 (g_lt rfl) (gs_40 G) b5 ?_
      refine go_iinc (v := (x1 + (1 : Int32))) [(0, .ref (ga G 30)), (1, .int (x1 + (1 : Int32)))] [1, 0] 1 dX6_build_125 rfl rfl (by decide) rfl ?_
      refine go_goto 42 dX6_build_128 (by decide) ?_
      exact h
    · have h := h.2 c8
      refine go_iconst (v := 1) dX6_build_112 (by decide) ?_
      refine go_goto 117 dX6_build_113 (by decide) ?_
      refine go_iast dX6_build_117 (g_lt rfl) (gs_39 G) b5 ?_
      refine go_aload_n dX6_build_118 rfl 0 rfl ?_
      refine go_get (.ref (ga G 40)) dX6_build_119 fX6_43 (g_lt rfl) (gs_30 G _ _) rfl ?_
      refine go_iload_n dX6_build_122 rfl 1 rfl ?_
      refine go_iconst (v := -1) dX6_build_123 (by decide) ?_
      refine go_iast dX6_build_124 (g_lt rfl) (gs_40 G) b5 ?_
      refine go_iinc (v := (x1 + (1 : Int32))) [(0, .ref (ga G 30)), (1, .int (x1 + (1 : Int32)))] [1, 0] 1 dX6_build_125 rfl rfl (by decide) rfl ?_
      refine go_goto 42 dX6_build_128 (by decide) ?_
      exact h
set_option maxRecDepth 100000 in
theorem eX6_build_133 {G : gC} {l : Launch} {P : Mem → Prop} {x1 : Int32} {μ : Mem} (h : (((gm_r μ 30 3) ≤ x1) → P (gm_w (gm_w μ 30 15 (-1 : Int32)) 30 2 (1 : Int32))) ∧ ((¬ (gm_r μ 30 3) ≤ x1) → vp_in x1 1024 ∧ (((gm_r μ 39 x1.toNatClampNeg) ≤ 0) → hX6_build_133 G l P (x1 + (1 : Int32)) μ) ∧ ((¬ (gm_r μ 39 x1.toNatClampNeg) ≤ 0) → qJ6_bitCount_0f7a4 G l (gm_r μ 37 x1.toNatClampNeg) μ (fun (r13 : Int32) (μ12 : Mem) => qX6_spread G l x1 (gm_w μ12 40 x1.toNatClampNeg (if (gm_r μ 40 x1.toNatClampNeg) < r13 then r13 else (gm_r μ 40 x1.toNatClampNeg))) (fun (μ14 : Mem) => hX6_build_133 G l P (x1 + (1 : Int32)) μ14))))) : hX6_build_133 G l P x1 μ := by
  refine go_iload_n dX6_build_133 rfl 1 rfl ?_
  refine go_aload_n dX6_build_134 rfl 0 rfl ?_
  refine go_get (.int (gm_r μ 30 3)) dX6_build_135 fX6_63 (g_lt rfl) (gs_30 G _ _) rfl ?_
  refine go_icmp_ge 185 dX6_build_138 (by decide) (fun c9 => ?_) (fun c9 => ?_)
  · have h := h.1 c9
    refine go_aload_n dX6_build_185 rfl 0 rfl ?_
    refine go_iconst (v := -1) dX6_build_186 (by decide) ?_
    refine go_puti dX6_build_187 pX6_92 (g_lt rfl) (gs_30 G _ _) (Nat.le_of_ble_eq_true rfl) rfl ?_
    refine go_aload_n dX6_build_190 rfl 0 rfl ?_
    refine go_iconst (v := 1) dX6_build_191 (by decide) ?_
    refine go_putv (1 : Int32) dX6_build_192 pX6_9 rfl rfl (g_lt rfl) (gs_30 G _ _) (Nat.le_of_ble_eq_true rfl) rfl ?_
    exact go_vret dX6_build_195 rfl (Nat.le_refl _) (Nat.le_refl _) ⟨rfl, h⟩
  · have h := h.2 c9
    refine go_aload_n dX6_build_141 rfl 0 rfl ?_
    refine go_get (.ref (ga G 39)) dX6_build_142 fX6_40 (g_lt rfl) (gs_30 G _ _) rfl ?_
    refine go_iload_n dX6_build_145 rfl 1 rfl ?_
    obtain ⟨b10, h⟩ := h
    refine go_ialdv ((gm_r μ 39 x1.toNatClampNeg)) dX6_build_146 (g_lt rfl) (gs_39 G) b10 rfl ?_
    refine go_if_le 179 dX6_build_147 (by decide) (fun c11 => ?_) (fun c11 => ?_)
    · have h := h.1 c11
      refine go_iinc (v := (x1 + (1 : Int32))) [(0, .ref (ga G 30)), (1, .int (x1 + (1 : Int32)))] [1, 0] 1 dX6_build_179 rfl rfl (by decide) rfl ?_
      refine go_goto 133 dX6_build_182 (by decide) ?_
      exact h
    · have h := h.2 c11
      refine go_aload_n dX6_build_150 rfl 0 rfl ?_
      refine go_get (.ref (ga G 40)) dX6_build_151 fX6_43 (g_lt rfl) (gs_30 G _ _) rfl ?_
      refine go_iload_n dX6_build_154 rfl 1 rfl ?_
      refine go_aload_n dX6_build_155 rfl 0 rfl ?_
      refine go_get (.ref (ga G 40)) dX6_build_156 fX6_43 (g_lt rfl) (gs_30 G _ _) rfl ?_
      refine go_iload_n dX6_build_159 rfl 1 rfl ?_
      refine go_ialdv ((gm_r μ 40 x1.toNatClampNeg)) dX6_build_160 (g_lt rfl) (gs_40 G) b10 rfl ?_
      refine go_aload_n dX6_build_161 rfl 0 rfl ?_
      refine go_get (.ref (ga G 37)) dX6_build_162 fX6_34 (g_lt rfl) (gs_30 G _ _) rfl ?_
      refine go_iload_n dX6_build_165 rfl 1 rfl ?_
      refine go_ialdv ((gm_r μ 37 x1.toNatClampNeg)) dX6_build_166 (g_lt rfl) (gs_37 G) b10 rfl ?_
      refine go_callS (As := [.int (gm_r μ 37 x1.toNatClampNeg)]) (rest := [.int (gm_r μ 40 x1.toNatClampNeg), .int x1, .ref (ga G 40)]) dX6_build_167 lX6_76 kJ6_bitCount_0f7a4 rfl (by decide) (Nat.le_of_ble_eq_true rfl) (by decide) rfl (gI_go (fun r13 μ12 h => ?_)) h
      refine go_mmax dX6_build_170 (g_in 620 (by decide +kernel) rfl) (g_in 621 (by decide +kernel) rfl) (g_in 81 (by decide +kernel) rfl) (g_in 622 (by decide +kernel) rfl) (by decide) (by decide) (Nat.le_of_ble_eq_true rfl) (Nat.le_refl _) (Nat.le_refl _) ?_
      refine go_iast dX6_build_173 (g_lt rfl) (gs_40 G) b10 ?_
      refine go_aload_n dX6_build_174 rfl 0 rfl ?_
      refine go_iload_n dX6_build_175 rfl 1 rfl ?_
      refine go_callV (As := [.int x1]) (rest := []) dX6_build_176 lX6_88 kX6_spread rfl (by decide) (Nat.le_of_ble_eq_true rfl) (g_lt rfl) (gs_30 G _ _) rfl (by decide) rfl (gV_go (fun μ14 h => ?_)) h
      refine go_iinc (v := (x1 + (1 : Int32))) [(0, .ref (ga G 30)), (1, .int (x1 + (1 : Int32)))] [1, 0] 1 dX6_build_179 rfl rfl (by decide) rfl ?_
      refine go_goto 133 dX6_build_182 (by decide) ?_
      exact h
