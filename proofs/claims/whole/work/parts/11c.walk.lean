set_option maxRecDepth 100000 in
theorem eX2_isKinder {G : gC} {l : Launch} {a1 : Int32} {a2 : Int32} {a3 : Int32} {μ : Mem} {P : Int32 → Mem → Prop} (h : ((¬ a3 = (-1 : Int32)) → qJ6_bitCount_0f7a4 G l a2 μ (fun (r3 : Int32) (μ2 : Mem) => qJ6_bitCount_0f7a4 G l a3 μ2 (fun (r5 : Int32) (μ4 : Mem) => ((0 < (r3 - r5)) → P (1 : Int32) μ4) ∧ ((¬ 0 < (r3 - r5)) → ((¬ (r3 - r5) = 0) → P (0 : Int32) μ4) ∧ (((r3 - r5) = 0) → 144 ≤ μ4.1 ∧ vp_in a1 11 ∧ vp_in a2 1024 ∧ vp_in a3 1024 ∧ (((gm_r μ4 (132 + 1 + a1.toNatClampNeg) a2.toNatClampNeg) ≤ (gm_r μ4 (132 + 1 + a1.toNatClampNeg) a3.toNatClampNeg)) → P (0 : Int32) μ4) ∧ ((¬ (gm_r μ4 (132 + 1 + a1.toNatClampNeg) a2.toNatClampNeg) ≤ (gm_r μ4 (132 + 1 + a1.toNatClampNeg) a3.toNatClampNeg)) → P (1 : Int32) μ4)))))) ∧ ((a3 = (-1 : Int32)) → P (1 : Int32) μ)) : qX2_isKinder G l a1 a2 a3 μ P := by
  refine Sp.of (by decide) (Nat.le_of_ble_eq_true rfl) (lv := [(0, .ref (ga G 106)), (1, .int a1), (2, .int a2), (3, .int a3)]) rfl ?_
  refine go_iload_n dX2_isKinder_0 rfl 3 rfl ?_
  refine go_iconst (v := -1) dX2_isKinder_1 (by decide) ?_
  refine go_icmp_ne 7 dX2_isKinder_2 (by decide) (fun c1 => ?_) (fun c1 => ?_)
  · have h := h.1 c1
    refine go_iload_n dX2_isKinder_7 rfl 2 rfl ?_
    refine go_callS (As := [.int a2]) (rest := []) dX2_isKinder_8 lX2_53 kJ6_bitCount_0f7a4 rfl (by decide) (Nat.le_of_ble_eq_true rfl) (by decide) rfl (gI_go (fun r3 μ2 h => ?_)) h
    refine go_iload_n dX2_isKinder_11 rfl 3 rfl ?_
    refine go_callS (As := [.int a3]) (rest := [.int r3]) dX2_isKinder_12 lX2_53 kJ6_bitCount_0f7a4 rfl (by decide) (Nat.le_of_ble_eq_true rfl) (by decide) rfl (gI_go (fun r5 μ4 h => ?_)) h
    refine go_isub dX2_isKinder_15 ?_
    refine go_istore [(0, .ref (ga G 106)), (1, .int a1), (2, .int a2), (3, .int a3), (4, .int (r3 - r5))] [1, 2, 3, 4, 0] dX2_isKinder_16 (by decide) rfl ?_
    refine go_iload dX2_isKinder_18 4 rfl ?_
    refine go_if_gt 47 dX2_isKinder_20 (by decide) (fun c6 => ?_) (fun c6 => ?_)
    · have h := h.1 c6
      refine go_iconst (v := 1) dX2_isKinder_47 (by decide) ?_
      refine go_goto 52 dX2_isKinder_48 (by decide) ?_
      exact go_zret dX2_isKinder_52 rfl (Nat.le_refl _) (Nat.le_refl _) rfl ⟨_, rfl, h⟩
    · have h := h.2 c6
      refine go_iload dX2_isKinder_23 4 rfl ?_
      refine go_if_ne 51 dX2_isKinder_25 (by decide) (fun c7 => ?_) (fun c7 => ?_)
      · have h := h.1 c7
        refine go_iconst (v := 0) dX2_isKinder_51 (by decide) ?_
        exact go_zret dX2_isKinder_52 rfl (Nat.le_refl _) (Nat.le_refl _) rfl ⟨_, rfl, h⟩
      · have h := h.2 c7
        refine go_aload_n dX2_isKinder_28 rfl 0 rfl ?_
        obtain ⟨n8, h⟩ := h
        refine go_get (.ref (ga G 132)) dX2_isKinder_29 fX2_27 (g_lt2 n8 rfl) (gs_106 G _ _) rfl ?_
        refine go_iload_n dX2_isKinder_32 rfl 1 rfl ?_
        obtain ⟨b9, h⟩ := h
        refine go_aald dX2_isKinder_33 (g_lt2 n8 rfl) (gs_132 G) b9 ?_
        refine go_iload_n dX2_isKinder_34 rfl 2 rfl ?_
        obtain ⟨b10, h⟩ := h
        refine go_ialdv ((gm_r μ4 (132 + 1 + a1.toNatClampNeg) a2.toNatClampNeg)) dX2_isKinder_35 (gl_132 n8 (vp_lt b9)) (gn_132 G (vp_lt b9)) b10 rfl ?_
        refine go_aload_n dX2_isKinder_36 rfl 0 rfl ?_
        refine go_get (.ref (ga G 132)) dX2_isKinder_37 fX2_27 (g_lt2 n8 rfl) (gs_106 G _ _) rfl ?_
        refine go_iload_n dX2_isKinder_40 rfl 1 rfl ?_
        refine go_aald dX2_isKinder_41 (g_lt2 n8 rfl) (gs_132 G) b9 ?_
        refine go_iload_n dX2_isKinder_42 rfl 3 rfl ?_
        obtain ⟨b11, h⟩ := h
        refine go_ialdv ((gm_r μ4 (132 + 1 + a1.toNatClampNeg) a3.toNatClampNeg)) dX2_isKinder_43 (gl_132 n8 (vp_lt b9)) (gn_132 G (vp_lt b9)) b11 rfl ?_
        refine go_icmp_le 51 dX2_isKinder_44 (by decide) (fun c12 => ?_) (fun c12 => ?_)
        · have h := h.1 c12
          refine go_iconst (v := 0) dX2_isKinder_51 (by decide) ?_
          exact go_zret dX2_isKinder_52 rfl (Nat.le_refl _) (Nat.le_refl _) rfl ⟨_, rfl, h⟩
        · have h := h.2 c12
          refine go_iconst (v := 1) dX2_isKinder_47 (by decide) ?_
          refine go_goto 52 dX2_isKinder_48 (by decide) ?_
          exact go_zret dX2_isKinder_52 rfl (Nat.le_refl _) (Nat.le_refl _) rfl ⟨_, rfl, h⟩
  · have h := h.2 c1
    refine go_iconst (v := 1) dX2_isKinder_5 (by decide) ?_
    exact go_zret dX2_isKinder_6 rfl (Nat.le_refl _) (Nat.le_refl _) rfl ⟨_, rfl, h⟩
set_option maxRecDepth 100000 in
theorem eX2_kindest {G : gC} {l : Launch} {a1 : Int32} {a2 : Int32} {μ : Mem} {P : Int32 → Mem → Prop} (h : hX2_kindest_5 G l P a1 a2 (-1 : Int32) (0 : Int32) μ) : qX2_kindest G l a1 a2 μ P := by
  refine Sp.of (by decide) (Nat.le_of_ble_eq_true rfl) (lv := [(0, .ref (ga G 106)), (1, .int a1), (2, .int a2)]) rfl ?_
  refine go_iconst (v := -1) dX2_kindest_0 (by decide) ?_
  refine go_istore_n [(0, .ref (ga G 106)), (1, .int a1), (2, .int a2), (3, .int (-1 : Int32))] [1, 2, 3, 0] dX2_kindest_1 rfl (by decide) rfl ?_
  refine go_iconst (v := 0) dX2_kindest_2 (by decide) ?_
  refine go_istore [(0, .ref (ga G 106)), (1, .int a1), (2, .int a2), (3, .int (-1 : Int32)), (4, .int (0 : Int32))] [1, 2, 3, 4, 0] dX2_kindest_3 (by decide) rfl ?_
  exact h
set_option maxRecDepth 100000 in
theorem eX2_kindest_5 {G : gC} {l : Launch} {P : Int32 → Mem → Prop} {x1 : Int32} {x2 : Int32} {x3 : Int32} {x4 : Int32} {μ : Mem} (h : ((x2 < x4) → P x3 μ) ∧ ((¬ x2 < x4) → (((10 : Int32) < x1) → P x3 μ) ∧ ((¬ (10 : Int32) < x1) → ((¬ (x4 &&& (x2 ^^^ (-1 : Int32))) = 0) → hX2_kindest_5 G l P x1 x2 x3 (x4 + (1 : Int32)) μ) ∧ (((x4 &&& (x2 ^^^ (-1 : Int32))) = 0) → 144 ≤ μ.1 ∧ vp_in x1 11 ∧ vp_in x4 1024 ∧ (((gm_r μ (132 + 1 + x1.toNatClampNeg) x4.toNatClampNeg) = (-1 : Int32)) → hX2_kindest_5 G l P x1 x2 x3 (x4 + (1 : Int32)) μ) ∧ ((¬ (gm_r μ (132 + 1 + x1.toNatClampNeg) x4.toNatClampNeg) = (-1 : Int32)) → qX2_isKinder G l x1 x4 x3 μ (fun (r9 : Int32) (μ8 : Mem) => ((r9 = 0) → hX2_kindest_5 G l P x1 x2 x3 (x4 + (1 : Int32)) μ8) ∧ ((¬ r9 = 0) → hX2_kindest_5 G l P x1 x2 x4 (x4 + (1 : Int32)) μ8))))))) : hX2_kindest_5 G l P x1 x2 x3 x4 μ := by
  refine go_iload dX2_kindest_5 4 rfl ?_
  refine go_iload_n dX2_kindest_7 rfl 2 rfl ?_
  refine go_icmp_gt 59 dX2_kindest_8 (by decide) (fun c1 => ?_) (fun c1 => ?_)
  · have h := h.1 c1
    refine go_iload_n dX2_kindest_59 rfl 3 rfl ?_
    exact go_iret dX2_kindest_60 rfl (Nat.le_refl _) (Nat.le_refl _) ⟨_, rfl, h⟩
  · have h := h.2 c1
    refine go_iload_n dX2_kindest_11 rfl 1 rfl ?_
    refine go_bipush (v := 10) dX2_kindest_12 (by decide) ?_
    refine go_icmp_gt 59 dX2_kindest_14 (by decide) (fun c2 => ?_) (fun c2 => ?_)
    · have h := h.1 c2
      refine go_iload_n dX2_kindest_59 rfl 3 rfl ?_
      exact go_iret dX2_kindest_60 rfl (Nat.le_refl _) (Nat.le_refl _) ⟨_, rfl, h⟩
    · have h := h.2 c2
      refine go_iload dX2_kindest_17 4 rfl ?_
      refine go_iload_n dX2_kindest_19 rfl 2 rfl ?_
      refine go_iconst (v := -1) dX2_kindest_20 (by decide) ?_
      refine go_ixor dX2_kindest_21 ?_
      refine go_iand dX2_kindest_22 ?_
      refine go_if_ne 53 dX2_kindest_23 (by decide) (fun c3 => ?_) (fun c3 => ?_)
      · have h := h.1 c3
        refine go_iinc (v := (x4 + (1 : Int32))) [(0, .ref (ga G 106)), (1, .int x1), (2, .int x2), (3, .int x3), (4, .int (x4 + (1 : Int32)))] [1, 2, 3, 4, 0] 4 dX2_kindest_53 rfl rfl (by decide) rfl ?_
        refine go_goto 5 dX2_kindest_56 (by decide) ?_
        exact h
      · have h := h.2 c3
        refine go_aload_n dX2_kindest_26 rfl 0 rfl ?_
        obtain ⟨n4, h⟩ := h
        refine go_get (.ref (ga G 132)) dX2_kindest_27 fX2_27 (g_lt2 n4 rfl) (gs_106 G _ _) rfl ?_
        refine go_iload_n dX2_kindest_30 rfl 1 rfl ?_
        obtain ⟨b5, h⟩ := h
        refine go_aald dX2_kindest_31 (g_lt2 n4 rfl) (gs_132 G) b5 ?_
        refine go_iload dX2_kindest_32 4 rfl ?_
        obtain ⟨b6, h⟩ := h
        refine go_ialdv ((gm_r μ (132 + 1 + x1.toNatClampNeg) x4.toNatClampNeg)) dX2_kindest_34 (gl_132 n4 (vp_lt b5)) (gn_132 G (vp_lt b5)) b6 rfl ?_
        refine go_iconst (v := -1) dX2_kindest_35 (by decide) ?_
        refine go_icmp_eq 53 dX2_kindest_36 (by decide) (fun c7 => ?_) (fun c7 => ?_)
        · have h := h.1 c7
          refine go_iinc (v := (x4 + (1 : Int32))) [(0, .ref (ga G 106)), (1, .int x1), (2, .int x2), (3, .int x3), (4, .int (x4 + (1 : Int32)))] [1, 2, 3, 4, 0] 4 dX2_kindest_53 rfl rfl (by decide) rfl ?_
          refine go_goto 5 dX2_kindest_56 (by decide) ?_
          exact h
        · have h := h.2 c7
          refine go_aload_n dX2_kindest_39 rfl 0 rfl ?_
          refine go_iload_n dX2_kindest_40 rfl 1 rfl ?_
          refine go_iload dX2_kindest_41 4 rfl ?_
          refine go_iload_n dX2_kindest_43 rfl 3 rfl ?_
          refine go_callV (As := [.int x1, .int x4, .int x3]) (rest := []) dX2_kindest_44 lX2_49 kX2_isKinder rfl (by decide) (Nat.le_of_ble_eq_true rfl) (g_lt2 n4 rfl) (gs_106 G _ _) rfl (by decide) rfl (gI_go (fun r9 μ8 h => ?_)) h
          refine go_if_eq 53 dX2_kindest_47 (by decide) (fun c10 => ?_) (fun c10 => ?_)
          · have h := h.1 c10
            refine go_iinc (v := (x4 + (1 : Int32))) [(0, .ref (ga G 106)), (1, .int x1), (2, .int x2), (3, .int x3), (4, .int (x4 + (1 : Int32)))] [1, 2, 3, 4, 0] 4 dX2_kindest_53 rfl rfl (by decide) rfl ?_
            refine go_goto 5 dX2_kindest_56 (by decide) ?_
            exact h
          · have h := h.2 c10
            refine go_iload dX2_kindest_50 4 rfl ?_
            refine go_istore_n [(0, .ref (ga G 106)), (1, .int x1), (2, .int x2), (3, .int x4), (4, .int x4)] [1, 2, 3, 0, 4] dX2_kindest_52 rfl (by decide) rfl ?_
            refine go_iinc (v := (x4 + (1 : Int32))) [(0, .ref (ga G 106)), (1, .int x1), (2, .int x2), (3, .int x4), (4, .int (x4 + (1 : Int32)))] [1, 2, 3, 4, 0] 4 dX2_kindest_53 rfl rfl (by decide) rfl ?_
            refine go_goto 5 dX2_kindest_56 (by decide) ?_
            exact h
set_option maxRecDepth 100000 in
theorem eX2_worthGathered {G : gC} {l : Launch} {a1 : Int32} {a2 : Int32} {μ : Mem} {P : Int32 → Mem → Prop} (h : ((a1 < 0) → P (-1 : Int32) μ) ∧ ((¬ a1 < 0) → (((10 : Int32) < a1) → P (-1 : Int32) μ) ∧ ((¬ (10 : Int32) < a1) → ((a2 < 0) → P (-1 : Int32) μ) ∧ ((¬ a2 < 0) → ((a2 < (1024 : Int32)) → 144 ≤ μ.1 ∧ vp_in a1 11 ∧ vp_in a2 1024 ∧ P (gm_r μ (132 + 1 + a1.toNatClampNeg) a2.toNatClampNeg) μ) ∧ ((¬ a2 < (1024 : Int32)) → P (-1 : Int32) μ))))) : qX2_worthGathered G l a1 a2 μ P := by
  refine Sp.of (by decide) (Nat.le_of_ble_eq_true rfl) (lv := [(0, .ref (ga G 106)), (1, .int a1), (2, .int a2)]) rfl ?_
  refine go_iload_n dX2_worthGathered_0 rfl 1 rfl ?_
  refine go_if_lt 21 dX2_worthGathered_1 (by decide) (fun c1 => ?_) (fun c1 => ?_)
  · have h := h.1 c1
    refine go_iconst (v := -1) dX2_worthGathered_21 (by decide) ?_
    refine go_goto 33 dX2_worthGathered_22 (by decide) ?_
    exact go_iret dX2_worthGathered_33 rfl (Nat.le_refl _) (Nat.le_refl _) ⟨_, rfl, h⟩
  · have h := h.2 c1
    refine go_iload_n dX2_worthGathered_4 rfl 1 rfl ?_
    refine go_bipush (v := 10) dX2_worthGathered_5 (by decide) ?_
    refine go_icmp_gt 21 dX2_worthGathered_7 (by decide) (fun c2 => ?_) (fun c2 => ?_)
    · have h := h.1 c2
      refine go_iconst (v := -1) dX2_worthGathered_21 (by decide) ?_
      refine go_goto 33 dX2_worthGathered_22 (by decide) ?_
      exact go_iret dX2_worthGathered_33 rfl (Nat.le_refl _) (Nat.le_refl _) ⟨_, rfl, h⟩
    · have h := h.2 c2
      refine go_iload_n dX2_worthGathered_10 rfl 2 rfl ?_
      refine go_if_lt 21 dX2_worthGathered_11 (by decide) (fun c3 => ?_) (fun c3 => ?_)
      · have h := h.1 c3
        refine go_iconst (v := -1) dX2_worthGathered_21 (by decide) ?_
        refine go_goto 33 dX2_worthGathered_22 (by decide) ?_
        exact go_iret dX2_worthGathered_33 rfl (Nat.le_refl _) (Nat.le_refl _) ⟨_, rfl, h⟩
      · have h := h.2 c3
        refine go_iload_n dX2_worthGathered_14 rfl 2 rfl ?_
        refine go_sipush (v := 1024) dX2_worthGathered_15 (by decide) ?_
        refine go_icmp_lt 25 dX2_worthGathered_18 (by decide) (fun c4 => ?_) (fun c4 => ?_)
        · have h := h.1 c4
          refine go_aload_n dX2_worthGathered_25 rfl 0 rfl ?_
          obtain ⟨n5, h⟩ := h
          refine go_get (.ref (ga G 132)) dX2_worthGathered_26 fX2_27 (g_lt2 n5 rfl) (gs_106 G _ _) rfl ?_
          refine go_iload_n dX2_worthGathered_29 rfl 1 rfl ?_
          obtain ⟨b6, h⟩ := h
          refine go_aald dX2_worthGathered_30 (g_lt2 n5 rfl) (gs_132 G) b6 ?_
          refine go_iload_n dX2_worthGathered_31 rfl 2 rfl ?_
          obtain ⟨b7, h⟩ := h
          refine go_ialdv ((gm_r μ (132 + 1 + a1.toNatClampNeg) a2.toNatClampNeg)) dX2_worthGathered_32 (gl_132 n5 (vp_lt b6)) (gn_132 G (vp_lt b6)) b7 rfl ?_
          exact go_iret dX2_worthGathered_33 rfl (Nat.le_refl _) (Nat.le_refl _) ⟨_, rfl, h⟩
        · have h := h.2 c4
          refine go_iconst (v := -1) dX2_worthGathered_21 (by decide) ?_
          refine go_goto 33 dX2_worthGathered_22 (by decide) ?_
          exact go_iret dX2_worthGathered_33 rfl (Nat.le_refl _) (Nat.le_refl _) ⟨_, rfl, h⟩
set_option maxRecDepth 100000 in
theorem eX7_deathsOf {G : gC} {l : Launch} {a1 : Int32} {μ : Mem} {P : Int32 → Mem → Prop} (h : hX7_deathsOf_4 G l P a1 (0 : Int32) (0 : Int32) μ) : qX7_deathsOf G l a1 μ P := by
  refine Sp.of (by decide) (Nat.le_of_ble_eq_true rfl) (lv := [(0, .ref (ga G 4)), (1, .int a1)]) rfl ?_
  refine go_iconst (v := 0) dX7_deathsOf_0 (by decide) ?_
  refine go_istore_n [(0, .ref (ga G 4)), (1, .int a1), (2, .int (0 : Int32))] [1, 2, 0] dX7_deathsOf_1 rfl (by decide) rfl ?_
  refine go_iconst (v := 0) dX7_deathsOf_2 (by decide) ?_
  refine go_istore_n [(0, .ref (ga G 4)), (1, .int a1), (2, .int (0 : Int32)), (3, .int (0 : Int32))] [1, 2, 3, 0] dX7_deathsOf_3 rfl (by decide) rfl ?_
  exact h
set_option maxRecDepth 100000 in
theorem eX7_deathsOf_4 {G : gC} {l : Launch} {P : Int32 → Mem → Prop} {x1 : Int32} {x2 : Int32} {x3 : Int32} {μ : Mem} (h : (((gm_r μ 4 1) ≤ x3) → P x2 μ) ∧ ((¬ (gm_r μ 4 1) ≤ x3) → qX7_deadIn G l ((1 : Int32) <<< (x3 &&& 31)) μ (fun (r3 : Int32) (μ2 : Mem) => (((r3 &&& x1) = 0) → hX7_deathsOf_4 G l P x1 x2 (x3 + (1 : Int32)) μ2) ∧ ((¬ (r3 &&& x1) = 0) → ∀ v5 : Int32, v5 = (x2 ||| ((1 : Int32) <<< (x3 &&& 31))) → hX7_deathsOf_4 G l P x1 v5 (x3 + (1 : Int32)) μ2)))) : hX7_deathsOf_4 G l P x1 x2 x3 μ := by
  refine go_iload_n dX7_deathsOf_4 rfl 3 rfl ?_
  refine go_aload_n dX7_deathsOf_5 rfl 0 rfl ?_
  refine go_get (.int (gm_r μ 4 1)) dX7_deathsOf_6 fX7_16 (g_lt rfl) (gs_4 G _ _) rfl ?_
  refine go_icmp_ge 36 dX7_deathsOf_9 (by decide) (fun c1 => ?_) (fun c1 => ?_)
  · have h := h.1 c1
    refine go_iload_n dX7_deathsOf_36 rfl 2 rfl ?_
    exact go_iret dX7_deathsOf_37 rfl (Nat.le_refl _) (Nat.le_refl _) ⟨_, rfl, h⟩
  · have h := h.2 c1
    refine go_aload_n dX7_deathsOf_12 rfl 0 rfl ?_
    refine go_iconst (v := 1) dX7_deathsOf_13 (by decide) ?_
    refine go_iload_n dX7_deathsOf_14 rfl 3 rfl ?_
    refine go_ishl dX7_deathsOf_15 ?_
    refine go_callV (As := [.int ((1 : Int32) <<< (x3 &&& 31))]) (rest := []) dX7_deathsOf_16 lX7_30 kX7_deadIn rfl (by decide) (Nat.le_of_ble_eq_true rfl) (g_lt rfl) (gs_4 G _ _) rfl (by decide) rfl (gI_go (fun r3 μ2 h => ?_)) h
    refine go_iload_n dX7_deathsOf_19 rfl 1 rfl ?_
    refine go_iand dX7_deathsOf_20 ?_
    refine go_if_eq 30 dX7_deathsOf_21 (by decide) (fun c4 => ?_) (fun c4 => ?_)
    · have h := h.1 c4
      refine go_iinc (v := (x3 + (1 : Int32))) [(0, .ref (ga G 4)), (1, .int x1), (2, .int x2), (3, .int (x3 + (1 : Int32)))] [1, 2, 3, 0] 3 dX7_deathsOf_30 rfl rfl (by decide) rfl ?_
      refine go_goto 4 dX7_deathsOf_33 (by decide) ?_
      exact h
    · have h := h.2 c4
      refine go_iload_n dX7_deathsOf_24 rfl 2 rfl ?_
      refine go_iconst (v := 1) dX7_deathsOf_25 (by decide) ?_
      refine go_iload_n dX7_deathsOf_26 rfl 3 rfl ?_
      refine go_ishl dX7_deathsOf_27 ?_
      refine go_ior dX7_deathsOf_28 ?_
      refine go_topi (fun v5 e_v5 => ?_)
      have h := h v5 e_v5
      refine go_istore_n [(0, .ref (ga G 4)), (1, .int x1), (2, .int v5), (3, .int x3)] [1, 2, 0, 3] dX7_deathsOf_29 rfl (by decide) rfl ?_
      refine go_iinc (v := (x3 + (1 : Int32))) [(0, .ref (ga G 4)), (1, .int x1), (2, .int v5), (3, .int (x3 + (1 : Int32)))] [1, 2, 3, 0] 3 dX7_deathsOf_30 rfl rfl (by decide) rfl ?_
      refine go_goto 4 dX7_deathsOf_33 (by decide) ?_
      exact h
set_option maxRecDepth 100000 in
theorem eX9_kind {G : gC} {l : Launch} {a1 : Int32} {a2 : Int32} {a3 : Int32} {μ : Mem} {P : Int32 → Mem → Prop} (h : ((a2 < 0) → P (-1001 : Int32) μ) ∧ ((¬ a2 < 0) → ((a2 < (256 : Int32)) → ((a1 < (1 : Int32)) → P (-1002 : Int32) μ) ∧ ((¬ a1 < (1 : Int32)) → (((12 : Int32) < a1) → P (-1002 : Int32) μ) ∧ ((¬ (12 : Int32) < a1) → ((a3 < 0) → P (-1002 : Int32) μ) ∧ ((¬ a3 < 0) → ((a3 ≤ (1 : Int32)) → qX7_all G l  μ (fun (r8 : Int32) (μ7 : Mem) => qX0_printed G l  μ7 (fun (r10 : Int32) (μ9 : Mem) => qX0_setUpTo G l r10 μ9 (fun (r12 : Int32) (μ11 : Mem) => qX7_deathsOf G l a2 μ11 (fun (r14 : Int32) (μ13 : Mem) => ∀ v15 : Int32, v15 = ((r8 &&& (r12 ^^^ (-1 : Int32))) &&& (r14 ^^^ (-1 : Int32))) → qX9_freshPlans G l  μ13 (fun (μ16 : Mem) => 144 ≤ μ16.1 ∧ qX2_gatherFor G l v15 μ16 (fun (μ19 : Mem) => 144 ≤ μ19.1 ∧ qX2_kindest G l a1 v15 μ19 (fun (r23 : Int32) (μ22 : Mem) => ((a3 = 0) → P r23 μ22) ∧ ((¬ a3 = 0) → ((¬ r23 = (-1 : Int32)) → 144 ≤ μ22.1 ∧ qX2_worthGathered G l a1 r23 μ22 (fun (r28 : Int32) (μ27 : Mem) => P r28 μ27)) ∧ ((r23 = (-1 : Int32)) → P r23 μ22)))))))))) ∧ ((¬ a3 ≤ (1 : Int32)) → P (-1002 : Int32) μ))))) ∧ ((¬ a2 < (256 : Int32)) → P (-1001 : Int32) μ))) : qX9_kind G l a1 a2 a3 μ P := by
  refine Sp.of (by decide) (Nat.le_of_ble_eq_true rfl) (lv := [(0, .ref (ga G 0)), (1, .int a1), (2, .int a2), (3, .int a3)]) rfl ?_
  refine go_iload_n dX9_kind_0 rfl 2 rfl ?_
  refine go_if_lt 11 dX9_kind_1 (by decide) (fun c1 => ?_) (fun c1 => ?_)
  · have h := h.1 c1
    refine go_sipush (v := -1001) dX9_kind_11 (by decide) ?_
    exact go_iret dX9_kind_14 rfl (by decide) (by decide) ⟨_, rfl, h⟩
  · have h := h.2 c1
    refine go_iload_n dX9_kind_4 rfl 2 rfl ?_
    refine go_sipush (v := 256) dX9_kind_5 (by decide) ?_
    refine go_icmp_lt 15 dX9_kind_8 (by decide) (fun c2 => ?_) (fun c2 => ?_)
    · have h := h.1 c2
      refine go_iload_n dX9_kind_15 rfl 1 rfl ?_
      refine go_iconst (v := 1) dX9_kind_16 (by decide) ?_
      refine go_icmp_lt 35 dX9_kind_17 (by decide) (fun c3 => ?_) (fun c3 => ?_)
      · have h := h.1 c3
        refine go_sipush (v := -1002) dX9_kind_35 (by decide) ?_
        exact go_iret dX9_kind_38 rfl (by decide) (by decide) ⟨_, rfl, h⟩
      · have h := h.2 c3
        refine go_iload_n dX9_kind_20 rfl 1 rfl ?_
        refine go_bipush (v := 12) dX9_kind_21 (by decide) ?_
        refine go_icmp_gt 35 dX9_kind_23 (by decide) (fun c4 => ?_) (fun c4 => ?_)
        · have h := h.1 c4
          refine go_sipush (v := -1002) dX9_kind_35 (by decide) ?_
          exact go_iret dX9_kind_38 rfl (by decide) (by decide) ⟨_, rfl, h⟩
        · have h := h.2 c4
          refine go_iload_n dX9_kind_26 rfl 3 rfl ?_
          refine go_if_lt 35 dX9_kind_27 (by decide) (fun c5 => ?_) (fun c5 => ?_)
          · have h := h.1 c5
            refine go_sipush (v := -1002) dX9_kind_35 (by decide) ?_
            exact go_iret dX9_kind_38 rfl (by decide) (by decide) ⟨_, rfl, h⟩
          · have h := h.2 c5
            refine go_iload_n dX9_kind_30 rfl 3 rfl ?_
            refine go_iconst (v := 1) dX9_kind_31 (by decide) ?_
            refine go_icmp_le 39 dX9_kind_32 (by decide) (fun c6 => ?_) (fun c6 => ?_)
            · have h := h.1 c6
              refine go_aload_n dX9_kind_39 rfl 0 rfl ?_
              refine go_get (.ref (ga G 4)) dX9_kind_40 fX9_28 (g_lt rfl) (gs_0 G _ _) rfl ?_
              refine go_callV (As := []) (rest := []) dX9_kind_43 lX9_145 kX7_all rfl (by decide) (Nat.le_of_ble_eq_true rfl) (g_lt rfl) (gs_4 G _ _) rfl (by decide) rfl (gI_go (fun r8 μ7 h => ?_)) h
              refine go_aload_n dX9_kind_46 rfl 0 rfl ?_
              refine go_get (.ref (ga G 42)) dX9_kind_47 fX9_56 (g_lt rfl) (gs_0 G _ _) rfl ?_
              refine go_aload_n dX9_kind_50 rfl 0 rfl ?_
              refine go_get (.ref (ga G 42)) dX9_kind_51 fX9_56 (g_lt rfl) (gs_0 G _ _) rfl ?_
              refine go_callV (As := []) (rest := [.ref (ga G 42), .int r8]) dX9_kind_54 lX9_135 kX0_printed rfl (by decide) (Nat.le_of_ble_eq_true rfl) (g_lt rfl) (gs_42 G _ _) rfl (by decide) rfl (gI_go (fun r10 μ9 h => ?_)) h
              refine go_callV (As := [.int r10]) (rest := [.int r8]) dX9_kind_57 lX9_212 kX0_setUpTo rfl (by decide) (Nat.le_of_ble_eq_true rfl) (g_lt rfl) (gs_42 G _ _) rfl (by decide) rfl (gI_go (fun r12 μ11 h => ?_)) h
              refine go_iconst (v := -1) dX9_kind_60 (by decide) ?_
              refine go_ixor dX9_kind_61 ?_
              refine go_iand dX9_kind_62 ?_
              refine go_aload_n dX9_kind_63 rfl 0 rfl ?_
              refine go_get (.ref (ga G 4)) dX9_kind_64 fX9_28 (g_lt rfl) (gs_0 G _ _) rfl ?_
              refine go_iload_n dX9_kind_67 rfl 2 rfl ?_
              refine go_callV (As := [.int a2]) (rest := [.int (r8 &&& (r12 ^^^ (-1 : Int32)))]) dX9_kind_68 lX9_261 kX7_deathsOf rfl (by decide) (Nat.le_of_ble_eq_true rfl) (g_lt rfl) (gs_4 G _ _) rfl (by decide) rfl (gI_go (fun r14 μ13 h => ?_)) h
              refine go_iconst (v := -1) dX9_kind_71 (by decide) ?_
              refine go_ixor dX9_kind_72 ?_
              refine go_iand dX9_kind_73 ?_
              refine go_topi (fun v15 e_v15 => ?_)
              have h := h v15 e_v15
              refine go_istore [(0, .ref (ga G 0)), (1, .int a1), (2, .int a2), (3, .int a3), (4, .int v15)] [1, 2, 3, 4, 0] dX9_kind_74 (by decide) rfl ?_
              refine go_aload_n dX9_kind_76 rfl 0 rfl ?_
              refine go_callV (As := []) (rest := []) dX9_kind_77 lX9_246 kX9_freshPlans rfl (by decide) (Nat.le_of_ble_eq_true rfl) (g_lt rfl) (gs_0 G _ _) rfl (by decide) rfl (gR_go (fun μ16 h => ?_)) h
              refine go_astore [(0, .ref (ga G 0)), (1, .int a1), (2, .int a2), (3, .int a3), (4, .int v15), (5, .ref (ga G 106))] [1, 2, 3, 4, 5, 0] dX9_kind_80 (by decide) rfl ?_
              refine go_aload dX9_kind_82 5 rfl ?_
              refine go_iload dX9_kind_84 4 rfl ?_
              obtain ⟨n18, h⟩ := h
              refine go_callV (As := [.int v15]) (rest := []) dX9_kind_86 lX9_264 kX2_gatherFor rfl (by decide) (Nat.le_of_ble_eq_true rfl) (g_lt2 n18 rfl) (gs_106 G _ _) rfl (by decide) rfl (gV_go (fun μ19 h => ?_)) h
              refine go_aload dX9_kind_89 5 rfl ?_
              refine go_iload_n dX9_kind_91 rfl 1 rfl ?_
              refine go_iload dX9_kind_92 4 rfl ?_
              obtain ⟨n21, h⟩ := h
              refine go_callV (As := [.int a1, .int v15]) (rest := []) dX9_kind_94 lX9_267 kX2_kindest rfl (by decide) (Nat.le_of_ble_eq_true rfl) (g_lt2 n21 rfl) (gs_106 G _ _) rfl (by decide) rfl (gI_go (fun r23 μ22 h => ?_)) h
              refine go_istore [(0, .ref (ga G 0)), (1, .int a1), (2, .int a2), (3, .int a3), (4, .int v15), (5, .ref (ga G 106)), (6, .int r23)] [1, 2, 3, 4, 5, 6, 0] dX9_kind_97 (by decide) rfl ?_
              refine go_iload_n dX9_kind_99 rfl 3 rfl ?_
              refine go_if_eq 109 dX9_kind_100 (by decide) (fun c24 => ?_) (fun c24 => ?_)
              · have h := h.1 c24
                refine go_iload dX9_kind_109 6 rfl ?_
                refine go_goto 122 dX9_kind_111 (by decide) ?_
                exact go_iret dX9_kind_122 rfl (by decide) (by decide) ⟨_, rfl, h⟩
              · have h := h.2 c24
                refine go_iload dX9_kind_103 6 rfl ?_
                refine go_iconst (v := -1) dX9_kind_105 (by decide) ?_
                refine go_icmp_ne 114 dX9_kind_106 (by decide) (fun c25 => ?_) (fun c25 => ?_)
                · have h := h.1 c25
                  refine go_aload dX9_kind_114 5 rfl ?_
                  refine go_iload_n dX9_kind_116 rfl 1 rfl ?_
                  refine go_iload dX9_kind_117 6 rfl ?_
                  obtain ⟨n26, h⟩ := h
                  refine go_callV (As := [.int a1, .int r23]) (rest := []) dX9_kind_119 lX9_270 kX2_worthGathered rfl (by decide) (Nat.le_of_ble_eq_true rfl) (g_lt2 n26 rfl) (gs_106 G _ _) rfl (by decide) rfl (gI_go (fun r28 μ27 h => ?_)) h
                  exact go_iret dX9_kind_122 rfl (by decide) (by decide) ⟨_, rfl, h⟩
                · have h := h.2 c25
                  refine go_iload dX9_kind_109 6 rfl ?_
                  refine go_goto 122 dX9_kind_111 (by decide) ?_
                  exact go_iret dX9_kind_122 rfl (by decide) (by decide) ⟨_, rfl, h⟩
            · have h := h.2 c6
              refine go_sipush (v := -1002) dX9_kind_35 (by decide) ?_
              exact go_iret dX9_kind_38 rfl (by decide) (by decide) ⟨_, rfl, h⟩
    · have h := h.2 c2
      refine go_sipush (v := -1001) dX9_kind_11 (by decide) ?_
      exact go_iret dX9_kind_14 rfl (by decide) (by decide) ⟨_, rfl, h⟩
set_option maxRecDepth 100000 in
theorem eX1_chooseFirst {G : gC} {l : Launch} {a1 : Int32} {a2 : Int32} {a3 : Int32} {μ : Mem} {P : Mem → Prop} (h : vp_in a1 9 ∧ vp_in a2 11 ∧ hX1_chooseFirst_14 G l P a1 a2 a3 (a2 + (1 : Int32)) (gm_w μ (48 + 1 + a1.toNatClampNeg) a2.toNatClampNeg (-1 : Int32))) : qX1_chooseFirst G l a1 a2 a3 μ P := by
  refine Sp.of (by decide) (Nat.le_of_ble_eq_true rfl) (lv := [(0, .ref (ga G 47)), (1, .int a1), (2, .int a2), (3, .int a3)]) rfl ?_
  refine go_aload_n dX1_chooseFirst_0 rfl 0 rfl ?_
  refine go_get (.ref (ga G 48)) dX1_chooseFirst_1 fX1_11 (g_lt rfl) (gs_47 G _ _) rfl ?_
  refine go_iload_n dX1_chooseFirst_4 rfl 1 rfl ?_
  obtain ⟨b1, h⟩ := h
  refine go_aald dX1_chooseFirst_5 (g_lt rfl) (gs_48 G) b1 ?_
  refine go_iload_n dX1_chooseFirst_6 rfl 2 rfl ?_
  refine go_iconst (v := -1) dX1_chooseFirst_7 (by decide) ?_
  obtain ⟨b2, h⟩ := h
  refine go_iast dX1_chooseFirst_8 (gl_48 (vp_lt b1)) (gn_48 G (vp_lt b1)) b2 ?_
  refine go_iload_n dX1_chooseFirst_9 rfl 2 rfl ?_
  refine go_iconst (v := 1) dX1_chooseFirst_10 (by decide) ?_
  refine go_iadd dX1_chooseFirst_11 ?_
  refine go_istore [(0, .ref (ga G 47)), (1, .int a1), (2, .int a2), (3, .int a3), (4, .int (a2 + (1 : Int32)))] [1, 2, 3, 4, 0] dX1_chooseFirst_12 (by decide) rfl ?_
  exact h
set_option maxRecDepth 100000 in
theorem eX1_chooseFirst_14 {G : gC} {l : Launch} {P : Mem → Prop} {x1 : Int32} {x2 : Int32} {x3 : Int32} {x4 : Int32} {μ : Mem} (h : ((x3 < x4) → P μ) ∧ ((¬ x3 < x4) → qX0_setFrom G l x2 x4 μ (fun (r5 : Int32) (μ4 : Mem) => qX7_sum G l r5 (0 : Int32) μ4 (fun (r7 : Int32) (μ6 : Mem) => vp_in (x1 - (1 : Int32)) 9 ∧ vp_in x4 11 ∧ ∀ v10 : Int32, v10 = ((gm_r μ6 (48 + 1 + (x1 - (1 : Int32)).toNatClampNeg) x4.toNatClampNeg) + (r7 * r7)) → (((gm_r μ6 (48 + 1 + (x1 - (1 : Int32)).toNatClampNeg) x4.toNatClampNeg) = (-1 : Int32)) → hX1_chooseFirst_14 G l P x1 x2 x3 (x4 + (1 : Int32)) μ6) ∧ ((¬ (gm_r μ6 (48 + 1 + (x1 - (1 : Int32)).toNatClampNeg) x4.toNatClampNeg) = (-1 : Int32)) → vp_in x1 9 ∧ vp_in x2 11 ∧ (((gm_r μ6 (48 + 1 + x1.toNatClampNeg) x2.toNatClampNeg) = (-1 : Int32)) → hX1_chooseFirst_99 G l P x1 x2 x3 x4 v10 μ6) ∧ ((¬ (gm_r μ6 (48 + 1 + x1.toNatClampNeg) x2.toNatClampNeg) = (-1 : Int32)) → (((gm_r μ6 (48 + 1 + x1.toNatClampNeg) x2.toNatClampNeg) ≤ v10) → hX1_chooseFirst_14 G l P x1 x2 x3 (x4 + (1 : Int32)) μ6) ∧ ((¬ (gm_r μ6 (48 + 1 + x1.toNatClampNeg) x2.toNatClampNeg) ≤ v10) → hX1_chooseFirst_99 G l P x1 x2 x3 x4 v10 μ6))))))) : hX1_chooseFirst_14 G l P x1 x2 x3 x4 μ := by
  refine go_iload dX1_chooseFirst_14 4 rfl ?_
  refine go_iload_n dX1_chooseFirst_16 rfl 3 rfl ?_
  refine go_icmp_gt 127 dX1_chooseFirst_17 (by decide) (fun c3 => ?_) (fun c3 => ?_)
  · have h := h.1 c3
    exact go_vret dX1_chooseFirst_127 rfl (Nat.le_refl _) (Nat.le_refl _) ⟨rfl, h⟩
  · have h := h.2 c3
    refine go_aload_n dX1_chooseFirst_20 rfl 0 rfl ?_
    refine go_get (.ref (ga G 4)) dX1_chooseFirst_21 fX1_19 (g_lt rfl) (gs_47 G _ _) rfl ?_
    refine go_aload_n dX1_chooseFirst_24 rfl 0 rfl ?_
    refine go_get (.ref (ga G 42)) dX1_chooseFirst_25 fX1_23 (g_lt rfl) (gs_47 G _ _) rfl ?_
    refine go_iload_n dX1_chooseFirst_28 rfl 2 rfl ?_
    refine go_iload dX1_chooseFirst_29 4 rfl ?_
    refine go_callVN (Z := mX0_setFrom) (host := "StoryNumbers") (As := [.int x2, .int x4]) (rest := [.ref (ga G 4)]) dX1_chooseFirst_31 (fun s H hz => hz.2.2.2.2.2.1.1) ⟨g_in 525 (by decide +kernel) rfl, g_in 12 (by decide +kernel) rfl⟩ kX0_setFrom rfl (by decide) (Nat.le_of_ble_eq_true rfl) (g_lt rfl) (gs_42 G _ _) rfl (by decide) rfl (gI_go (fun r5 μ4 h => ?_)) h
    refine go_iconst (v := 0) dX1_chooseFirst_34 (by decide) ?_
    refine go_callV (As := [.int r5, .int (0 : Int32)]) (rest := []) dX1_chooseFirst_35 lX1_43 kX7_sum rfl (by decide) (Nat.le_of_ble_eq_true rfl) (g_lt rfl) (gs_4 G _ _) rfl (by decide) rfl (gI_go (fun r7 μ6 h => ?_)) h
    refine go_istore [(0, .ref (ga G 47)), (1, .int x1), (2, .int x2), (3, .int x3), (4, .int x4), (5, .int r7)] [1, 2, 3, 4, 5, 0] dX1_chooseFirst_38 (by decide) rfl ?_
    refine go_aload_n dX1_chooseFirst_40 rfl 0 rfl ?_
    refine go_get (.ref (ga G 48)) dX1_chooseFirst_41 fX1_11 (g_lt rfl) (gs_47 G _ _) rfl ?_
    refine go_iload_n dX1_chooseFirst_44 rfl 1 rfl ?_
    refine go_iconst (v := 1) dX1_chooseFirst_45 (by decide) ?_
    refine go_isub dX1_chooseFirst_46 ?_
    obtain ⟨b8, h⟩ := h
    refine go_aald dX1_chooseFirst_47 (g_lt rfl) (gs_48 G) b8 ?_
    refine go_iload dX1_chooseFirst_48 4 rfl ?_
    obtain ⟨b9, h⟩ := h
    refine go_ialdv ((gm_r μ6 (48 + 1 + (x1 - (1 : Int32)).toNatClampNeg) x4.toNatClampNeg)) dX1_chooseFirst_50 (gl_48 (vp_lt b8)) (gn_48 G (vp_lt b8)) b9 rfl ?_
    refine go_iload dX1_chooseFirst_51 5 rfl ?_
    refine go_iload dX1_chooseFirst_53 5 rfl ?_
    refine go_imul dX1_chooseFirst_55 ?_
    refine go_iadd dX1_chooseFirst_56 ?_
    refine go_topi (fun v10 e_v10 => ?_)
    have h := h v10 e_v10
    refine go_istore [(0, .ref (ga G 47)), (1, .int x1), (2, .int x2), (3, .int x3), (4, .int x4), (5, .int r7), (6, .int v10)] [1, 2, 3, 4, 5, 6, 0] dX1_chooseFirst_57 (by decide) rfl ?_
    refine go_aload_n dX1_chooseFirst_59 rfl 0 rfl ?_
    refine go_get (.ref (ga G 48)) dX1_chooseFirst_60 fX1_11 (g_lt rfl) (gs_47 G _ _) rfl ?_
    refine go_iload_n dX1_chooseFirst_63 rfl 1 rfl ?_
    refine go_iconst (v := 1) dX1_chooseFirst_64 (by decide) ?_
    refine go_isub dX1_chooseFirst_65 ?_
    refine go_aald dX1_chooseFirst_66 (g_lt rfl) (gs_48 G) b8 ?_
    refine go_iload dX1_chooseFirst_67 4 rfl ?_
    refine go_ialdv ((gm_r μ6 (48 + 1 + (x1 - (1 : Int32)).toNatClampNeg) x4.toNatClampNeg)) dX1_chooseFirst_69 (gl_48 (vp_lt b8)) (gn_48 G (vp_lt b8)) b9 rfl ?_
    refine go_iconst (v := -1) dX1_chooseFirst_70 (by decide) ?_
    refine go_icmp_eq 121 dX1_chooseFirst_71 (by decide) (fun c11 => ?_) (fun c11 => ?_)
    · have h := h.1 c11
      refine go_iinc (v := (x4 + (1 : Int32))) [(0, .ref (ga G 47)), (1, .int x1), (2, .int x2), (3, .int x3), (4, .int (x4 + (1 : Int32))), (5, .int r7), (6, .int v10)] [1, 2, 3, 4, 0, 5, 6] 4 dX1_chooseFirst_121 rfl rfl (by decide) rfl ?_
      refine go_goto 14 dX1_chooseFirst_124 (by decide) ?_
      exact go_sub [0, 1, 2, 3, 4] rfl h
    · have h := h.2 c11
      refine go_aload_n dX1_chooseFirst_74 rfl 0 rfl ?_
      refine go_get (.ref (ga G 48)) dX1_chooseFirst_75 fX1_11 (g_lt rfl) (gs_47 G _ _) rfl ?_
      refine go_iload_n dX1_chooseFirst_78 rfl 1 rfl ?_
      obtain ⟨b12, h⟩ := h
      refine go_aald dX1_chooseFirst_79 (g_lt rfl) (gs_48 G) b12 ?_
      refine go_iload_n dX1_chooseFirst_80 rfl 2 rfl ?_
      obtain ⟨b13, h⟩ := h
      refine go_ialdv ((gm_r μ6 (48 + 1 + x1.toNatClampNeg) x2.toNatClampNeg)) dX1_chooseFirst_81 (gl_48 (vp_lt b12)) (gn_48 G (vp_lt b12)) b13 rfl ?_
      refine go_iconst (v := -1) dX1_chooseFirst_82 (by decide) ?_
      refine go_icmp_eq 99 dX1_chooseFirst_83 (by decide) (fun c14 => ?_) (fun c14 => ?_)
      · have h := h.1 c14
        exact go_sub [0, 1, 2, 3, 4, 6] rfl h
      · have h := h.2 c14
        refine go_iload dX1_chooseFirst_86 6 rfl ?_
        refine go_aload_n dX1_chooseFirst_88 rfl 0 rfl ?_
        refine go_get (.ref (ga G 48)) dX1_chooseFirst_89 fX1_11 (g_lt rfl) (gs_47 G _ _) rfl ?_
        refine go_iload_n dX1_chooseFirst_92 rfl 1 rfl ?_
        refine go_aald dX1_chooseFirst_93 (g_lt rfl) (gs_48 G) b12 ?_
        refine go_iload_n dX1_chooseFirst_94 rfl 2 rfl ?_
        refine go_ialdv ((gm_r μ6 (48 + 1 + x1.toNatClampNeg) x2.toNatClampNeg)) dX1_chooseFirst_95 (gl_48 (vp_lt b12)) (gn_48 G (vp_lt b12)) b13 rfl ?_
        refine go_icmp_ge 121 dX1_chooseFirst_96 (by decide) (fun c15 => ?_) (fun c15 => ?_)
        · have h := h.1 c15
          refine go_iinc (v := (x4 + (1 : Int32))) [(0, .ref (ga G 47)), (1, .int x1), (2, .int x2), (3, .int x3), (4, .int (x4 + (1 : Int32))), (5, .int r7), (6, .int v10)] [1, 2, 3, 4, 0, 5, 6] 4 dX1_chooseFirst_121 rfl rfl (by decide) rfl ?_
          refine go_goto 14 dX1_chooseFirst_124 (by decide) ?_
          exact go_sub [0, 1, 2, 3, 4] rfl h
        · have h := h.2 c15
          exact go_sub [0, 1, 2, 3, 4, 6] rfl h
set_option maxRecDepth 100000 in
theorem eX1_chooseFirst_99 {G : gC} {l : Launch} {P : Mem → Prop} {x1 : Int32} {x2 : Int32} {x3 : Int32} {x4 : Int32} {x6 : Int32} {μ : Mem} (h : vp_in x1 9 ∧ vp_in x2 11 ∧ hX1_chooseFirst_14 G l P x1 x2 x3 (x4 + (1 : Int32)) (gm_w (gm_w μ (48 + 1 + x1.toNatClampNeg) x2.toNatClampNeg x6) (58 + 1 + x1.toNatClampNeg) x2.toNatClampNeg (x4 - x2))) : hX1_chooseFirst_99 G l P x1 x2 x3 x4 x6 μ := by
  refine go_aload_n dX1_chooseFirst_99 rfl 0 rfl ?_
  refine go_get (.ref (ga G 48)) dX1_chooseFirst_100 fX1_11 (g_lt rfl) (gs_47 G _ _) rfl ?_
  refine go_iload_n dX1_chooseFirst_103 rfl 1 rfl ?_
  obtain ⟨b16, h⟩ := h
  refine go_aald dX1_chooseFirst_104 (g_lt rfl) (gs_48 G) b16 ?_
  refine go_iload_n dX1_chooseFirst_105 rfl 2 rfl ?_
  refine go_iload dX1_chooseFirst_106 5 rfl ?_
  obtain ⟨b17, h⟩ := h
  refine go_iast dX1_chooseFirst_108 (gl_48 (vp_lt b16)) (gn_48 G (vp_lt b16)) b17 ?_
  refine go_aload_n dX1_chooseFirst_109 rfl 0 rfl ?_
  refine go_get (.ref (ga G 58)) dX1_chooseFirst_110 fX1_16 (g_lt rfl) (gs_47 G _ _) rfl ?_
  refine go_iload_n dX1_chooseFirst_113 rfl 1 rfl ?_
  refine go_aald dX1_chooseFirst_114 (g_lt rfl) (gs_58 G) b16 ?_
  refine go_iload_n dX1_chooseFirst_115 rfl 2 rfl ?_
  refine go_iload dX1_chooseFirst_116 4 rfl ?_
  refine go_iload_n dX1_chooseFirst_118 rfl 2 rfl ?_
  refine go_isub dX1_chooseFirst_119 ?_
  refine go_iast dX1_chooseFirst_120 (gl_58 (vp_lt b16)) (gn_58 G (vp_lt b16)) b17 ?_
  refine go_iinc (v := (x4 + (1 : Int32))) [(0, .ref (ga G 47)), (1, .int x1), (2, .int x2), (3, .int x3), (4, .int (x4 + (1 : Int32))), (6, .int x6)] [1, 2, 3, 4, 0, 5] 4 dX1_chooseFirst_121 rfl rfl (by decide) rfl ?_
  refine go_goto 14 dX1_chooseFirst_124 (by decide) ?_
  exact go_sub [0, 1, 2, 3, 4] rfl h
set_option maxRecDepth 100000 in
theorem eX1_part {G : gC} {l : Launch} {a1 : Int32} {μ : Mem} {P : Mem → Prop} (h : qX0_printed G l  μ (fun (r2 : Int32) (μ1 : Mem) => hX1_part_10 G l P a1 r2 (0 : Int32) μ1)) : qX1_part G l a1 μ P := by
  refine Sp.of (by decide) (Nat.le_of_ble_eq_true rfl) (lv := [(0, .ref (ga G 47)), (1, .int a1)]) rfl ?_
  refine go_aload_n dX1_part_0 rfl 0 rfl ?_
  refine go_get (.ref (ga G 42)) dX1_part_1 fX1_23 (g_lt rfl) (gs_47 G _ _) rfl ?_
  refine go_callV (As := []) (rest := []) dX1_part_4 lX1_27 kX0_printed rfl (by decide) (Nat.le_of_ble_eq_true rfl) (g_lt rfl) (gs_42 G _ _) rfl (by decide) rfl (gI_go (fun r2 μ1 h => ?_)) h
  refine go_istore_n [(0, .ref (ga G 47)), (1, .int a1), (2, .int r2)] [1, 2, 0] dX1_part_7 rfl (by decide) rfl ?_
  refine go_iconst (v := 0) dX1_part_8 (by decide) ?_
  refine go_istore_n [(0, .ref (ga G 47)), (1, .int a1), (2, .int r2), (3, .int (0 : Int32))] [1, 2, 3, 0] dX1_part_9 rfl (by decide) rfl ?_
  exact h
set_option maxRecDepth 100000 in
theorem eX1_part_10 {G : gC} {l : Launch} {P : Mem → Prop} {x1 : Int32} {x2 : Int32} {x3 : Int32} {μ : Mem} (h : ((x2 < x3) → hX1_part_47 G l P x1 x2 (1 : Int32) μ) ∧ ((¬ x2 < x3) → (((10 : Int32) < x3) → hX1_part_47 G l P x1 x2 (1 : Int32) μ) ∧ ((¬ (10 : Int32) < x3) → ((¬ x3 = x2) → vp_in x3 11 ∧ hX1_part_10 G l P x1 x2 (x3 + (1 : Int32)) (gm_w μ 49 x3.toNatClampNeg (-1 : Int32))) ∧ ((x3 = x2) → vp_in x3 11 ∧ hX1_part_10 G l P x1 x2 (x3 + (1 : Int32)) (gm_w μ 49 x3.toNatClampNeg (0 : Int32)))))) : hX1_part_10 G l P x1 x2 x3 μ := by
  refine go_iload_n dX1_part_10 rfl 3 rfl ?_
  refine go_iload_n dX1_part_11 rfl 2 rfl ?_
  refine go_icmp_gt 45 dX1_part_12 (by decide) (fun c3 => ?_) (fun c3 => ?_)
  · have h := h.1 c3
    refine go_iconst (v := 1) dX1_part_45 (by decide) ?_
    refine go_istore_n [(0, .ref (ga G 47)), (1, .int x1), (2, .int x2), (3, .int (1 : Int32))] [1, 2, 3, 0] dX1_part_46 rfl (by decide) rfl ?_
    exact h
  · have h := h.2 c3
    refine go_iload_n dX1_part_15 rfl 3 rfl ?_
    refine go_bipush (v := 10) dX1_part_16 (by decide) ?_
    refine go_icmp_gt 45 dX1_part_18 (by decide) (fun c4 => ?_) (fun c4 => ?_)
    · have h := h.1 c4
      refine go_iconst (v := 1) dX1_part_45 (by decide) ?_
      refine go_istore_n [(0, .ref (ga G 47)), (1, .int x1), (2, .int x2), (3, .int (1 : Int32))] [1, 2, 3, 0] dX1_part_46 rfl (by decide) rfl ?_
      exact h
    · have h := h.2 c4
      refine go_aload_n dX1_part_21 rfl 0 rfl ?_
      refine go_get (.ref (ga G 48)) dX1_part_22 fX1_11 (g_lt rfl) (gs_47 G _ _) rfl ?_
      refine go_iconst (v := 0) dX1_part_25 (by decide) ?_
      refine go_aaldL (j := 0) dX1_part_26 (g_lt rfl) (gs_48 G) (by unfold vp_in; decide) (by decide) rfl ?_
      refine go_iload_n dX1_part_27 rfl 3 rfl ?_
      refine go_iload_n dX1_part_28 rfl 3 rfl ?_
      refine go_iload_n dX1_part_29 rfl 2 rfl ?_
      refine go_icmp_ne 37 dX1_part_30 (by decide) (fun c5 => ?_) (fun c5 => ?_)
      · have h := h.1 c5
        refine go_iconst (v := -1) dX1_part_37 (by decide) ?_
        obtain ⟨b6, h⟩ := h
        refine go_iast dX1_part_38 (g_lt rfl) (gn_48 G (j := 0) (by decide)) b6 ?_
        refine go_iinc (v := (x3 + (1 : Int32))) [(0, .ref (ga G 47)), (1, .int x1), (2, .int x2), (3, .int (x3 + (1 : Int32)))] [1, 2, 3, 0] 3 dX1_part_39 rfl rfl (by decide) rfl ?_
        refine go_goto 10 dX1_part_42 (by decide) ?_
        exact h
      · have h := h.2 c5
        refine go_iconst (v := 0) dX1_part_33 (by decide) ?_
        refine go_goto 38 dX1_part_34 (by decide) ?_
        obtain ⟨b7, h⟩ := h
        refine go_iast dX1_part_38 (g_lt rfl) (gn_48 G (j := 0) (by decide)) b7 ?_
        refine go_iinc (v := (x3 + (1 : Int32))) [(0, .ref (ga G 47)), (1, .int x1), (2, .int x2), (3, .int (x3 + (1 : Int32)))] [1, 2, 3, 0] 3 dX1_part_39 rfl rfl (by decide) rfl ?_
        refine go_goto 10 dX1_part_42 (by decide) ?_
        exact h
set_option maxRecDepth 100000 in
theorem eX1_part_47 {G : gC} {l : Launch} {P : Mem → Prop} {x1 : Int32} {x2 : Int32} {x3 : Int32} {μ : Mem} (h : ((x1 < x3) → P μ) ∧ ((¬ x1 < x3) → (((8 : Int32) < x3) → P μ) ∧ ((¬ (8 : Int32) < x3) → hX1_part_61 G l P x1 x2 x3 (0 : Int32) μ))) : hX1_part_47 G l P x1 x2 x3 μ := by
  refine go_iload_n dX1_part_47 rfl 3 rfl ?_
  refine go_iload_n dX1_part_48 rfl 1 rfl ?_
  refine go_icmp_gt 94 dX1_part_49 (by decide) (fun c8 => ?_) (fun c8 => ?_)
  · have h := h.1 c8
    exact go_vret dX1_part_94 rfl (Nat.le_refl _) (Nat.le_refl _) ⟨rfl, h⟩
  · have h := h.2 c8
    refine go_iload_n dX1_part_52 rfl 3 rfl ?_
    refine go_bipush (v := 8) dX1_part_53 (by decide) ?_
    refine go_icmp_gt 94 dX1_part_55 (by decide) (fun c9 => ?_) (fun c9 => ?_)
    · have h := h.1 c9
      exact go_vret dX1_part_94 rfl (Nat.le_refl _) (Nat.le_refl _) ⟨rfl, h⟩
    · have h := h.2 c9
      refine go_iconst (v := 0) dX1_part_58 (by decide) ?_
      refine go_istore [(0, .ref (ga G 47)), (1, .int x1), (2, .int x2), (3, .int x3), (4, .int (0 : Int32))] [1, 2, 3, 4, 0] dX1_part_59 (by decide) rfl ?_
      exact h
set_option maxRecDepth 100000 in
theorem eX1_part_61 {G : gC} {l : Launch} {P : Mem → Prop} {x1 : Int32} {x2 : Int32} {x3 : Int32} {x4 : Int32} {μ : Mem} (h : ((x2 < x4) → hX1_part_47 G l P x1 x2 (x3 + (1 : Int32)) μ) ∧ ((¬ x2 < x4) → (((10 : Int32) < x4) → hX1_part_47 G l P x1 x2 (x3 + (1 : Int32)) μ) ∧ ((¬ (10 : Int32) < x4) → qX1_chooseFirst G l x3 x4 x2 μ (fun (μ12 : Mem) => hX1_part_61 G l P x1 x2 x3 (x4 + (1 : Int32)) μ12)))) : hX1_part_61 G l P x1 x2 x3 x4 μ := by
  refine go_iload dX1_part_61 4 rfl ?_
  refine go_iload_n dX1_part_63 rfl 2 rfl ?_
  refine go_icmp_gt 88 dX1_part_64 (by decide) (fun c10 => ?_) (fun c10 => ?_)
  · have h := h.1 c10
    refine go_iinc (v := (x3 + (1 : Int32))) [(0, .ref (ga G 47)), (1, .int x1), (2, .int x2), (3, .int (x3 + (1 : Int32))), (4, .int x4)] [1, 2, 3, 0, 4] 3 dX1_part_88 rfl rfl (by decide) rfl ?_
    refine go_goto 47 dX1_part_91 (by decide) ?_
    exact go_sub [0, 1, 2, 3] rfl h
  · have h := h.2 c10
    refine go_iload dX1_part_67 4 rfl ?_
    refine go_bipush (v := 10) dX1_part_69 (by decide) ?_
    refine go_icmp_gt 88 dX1_part_71 (by decide) (fun c11 => ?_) (fun c11 => ?_)
    · have h := h.1 c11
      refine go_iinc (v := (x3 + (1 : Int32))) [(0, .ref (ga G 47)), (1, .int x1), (2, .int x2), (3, .int (x3 + (1 : Int32))), (4, .int x4)] [1, 2, 3, 0, 4] 3 dX1_part_88 rfl rfl (by decide) rfl ?_
      refine go_goto 47 dX1_part_91 (by decide) ?_
      exact go_sub [0, 1, 2, 3] rfl h
    · have h := h.2 c11
      refine go_aload_n dX1_part_74 rfl 0 rfl ?_
      refine go_iload_n dX1_part_75 rfl 3 rfl ?_
      refine go_iload dX1_part_76 4 rfl ?_
      refine go_iload_n dX1_part_78 rfl 2 rfl ?_
      refine go_callV (As := [.int x3, .int x4, .int x2]) (rest := []) dX1_part_79 lX1_33 kX1_chooseFirst rfl (by decide) (Nat.le_of_ble_eq_true rfl) (g_lt rfl) (gs_47 G _ _) rfl (by decide) rfl (gV_go (fun μ12 h => ?_)) h
      refine go_iinc (v := (x4 + (1 : Int32))) [(0, .ref (ga G 47)), (1, .int x1), (2, .int x2), (3, .int x3), (4, .int (x4 + (1 : Int32)))] [1, 2, 3, 4, 0] 4 dX1_part_82 rfl rfl (by decide) rfl ?_
      refine go_goto 61 dX1_part_85 (by decide) ?_
      exact h
set_option maxRecDepth 100000 in
theorem eX1_scenesIn {G : gC} {l : Launch} {a1 : Int32} {a2 : Int32} {μ : Mem} {P : Int32 → Mem → Prop} (h : hX1_scenesIn_5 G l P a1 a2 (0 : Int32) (0 : Int32) μ) : qX1_scenesIn G l a1 a2 μ P := by
  refine Sp.of (by decide) (Nat.le_of_ble_eq_true rfl) (lv := [(0, .ref (ga G 47)), (1, .int a1), (2, .int a2)]) rfl ?_
  refine go_iconst (v := 0) dX1_scenesIn_0 (by decide) ?_
  refine go_istore_n [(0, .ref (ga G 47)), (1, .int a1), (2, .int a2), (3, .int (0 : Int32))] [1, 2, 3, 0] dX1_scenesIn_1 rfl (by decide) rfl ?_
  refine go_iconst (v := 0) dX1_scenesIn_2 (by decide) ?_
  refine go_istore [(0, .ref (ga G 47)), (1, .int a1), (2, .int a2), (3, .int (0 : Int32)), (4, .int (0 : Int32))] [1, 2, 3, 4, 0] dX1_scenesIn_3 (by decide) rfl ?_
  exact h
set_option maxRecDepth 100000 in
theorem eX1_scenesIn_5 {G : gC} {l : Launch} {P : Int32 → Mem → Prop} {x1 : Int32} {x2 : Int32} {x3 : Int32} {x4 : Int32} {μ : Mem} (h : ((x2 ≤ x4) → hX1_scenesIn_37 G l P x1 x2 x3 μ) ∧ ((¬ x2 ≤ x4) → (((10 : Int32) < x3) → hX1_scenesIn_37 G l P x1 x2 x3 μ) ∧ ((¬ (10 : Int32) < x3) → vp_in (x1 - x4) 9 ∧ vp_in x3 11 ∧ ∀ v5 : Int32, v5 = (x3 + (gm_r μ (58 + 1 + (x1 - x4).toNatClampNeg) x3.toNatClampNeg)) → hX1_scenesIn_5 G l P x1 x2 v5 (x4 + (1 : Int32)) μ))) : hX1_scenesIn_5 G l P x1 x2 x3 x4 μ := by
  refine go_iload dX1_scenesIn_5 4 rfl ?_
  refine go_iload_n dX1_scenesIn_7 rfl 2 rfl ?_
  refine go_icmp_ge 37 dX1_scenesIn_8 (by decide) (fun c1 => ?_) (fun c1 => ?_)
  · have h := h.1 c1
    exact go_sub [0, 1, 2, 3] rfl h
  · have h := h.2 c1
    refine go_iload_n dX1_scenesIn_11 rfl 3 rfl ?_
    refine go_bipush (v := 10) dX1_scenesIn_12 (by decide) ?_
    refine go_icmp_gt 37 dX1_scenesIn_14 (by decide) (fun c2 => ?_) (fun c2 => ?_)
    · have h := h.1 c2
      exact go_sub [0, 1, 2, 3] rfl h
    · have h := h.2 c2
      refine go_iload_n dX1_scenesIn_17 rfl 3 rfl ?_
      refine go_aload_n dX1_scenesIn_18 rfl 0 rfl ?_
      refine go_get (.ref (ga G 58)) dX1_scenesIn_19 fX1_16 (g_lt rfl) (gs_47 G _ _) rfl ?_
      refine go_iload_n dX1_scenesIn_22 rfl 1 rfl ?_
      refine go_iload dX1_scenesIn_23 4 rfl ?_
      refine go_isub dX1_scenesIn_25 ?_
      obtain ⟨b3, h⟩ := h
      refine go_aald dX1_scenesIn_26 (g_lt rfl) (gs_58 G) b3 ?_
      refine go_iload_n dX1_scenesIn_27 rfl 3 rfl ?_
      obtain ⟨b4, h⟩ := h
      refine go_ialdv ((gm_r μ (58 + 1 + (x1 - x4).toNatClampNeg) x3.toNatClampNeg)) dX1_scenesIn_28 (gl_58 (vp_lt b3)) (gn_58 G (vp_lt b3)) b4 rfl ?_
      refine go_iadd dX1_scenesIn_29 ?_
      refine go_topi (fun v5 e_v5 => ?_)
      have h := h v5 e_v5
      refine go_istore_n [(0, .ref (ga G 47)), (1, .int x1), (2, .int x2), (3, .int v5), (4, .int x4)] [1, 2, 3, 0, 4] dX1_scenesIn_30 rfl (by decide) rfl ?_
      refine go_iinc (v := (x4 + (1 : Int32))) [(0, .ref (ga G 47)), (1, .int x1), (2, .int x2), (3, .int v5), (4, .int (x4 + (1 : Int32)))] [1, 2, 3, 4, 0] 4 dX1_scenesIn_31 rfl rfl (by decide) rfl ?_
      refine go_goto 5 dX1_scenesIn_34 (by decide) ?_
      exact h
set_option maxRecDepth 100000 in
theorem eX1_scenesIn_37 {G : gC} {l : Launch} {P : Int32 → Mem → Prop} {x1 : Int32} {x2 : Int32} {x3 : Int32} {μ : Mem} (h : ((x3 ≤ (10 : Int32)) → vp_in (x1 - x2) 9 ∧ vp_in x3 11 ∧ P (gm_r μ (58 + 1 + (x1 - x2).toNatClampNeg) x3.toNatClampNeg) μ) ∧ ((¬ x3 ≤ (10 : Int32)) → P (0 : Int32) μ)) : hX1_scenesIn_37 G l P x1 x2 x3 μ := by
  refine go_iload_n dX1_scenesIn_37 rfl 3 rfl ?_
  refine go_bipush (v := 10) dX1_scenesIn_38 (by decide) ?_
  refine go_icmp_le 47 dX1_scenesIn_40 (by decide) (fun c6 => ?_) (fun c6 => ?_)
  · have h := h.1 c6
    refine go_aload_n dX1_scenesIn_47 rfl 0 rfl ?_
    refine go_get (.ref (ga G 58)) dX1_scenesIn_48 fX1_16 (g_lt rfl) (gs_47 G _ _) rfl ?_
    refine go_iload_n dX1_scenesIn_51 rfl 1 rfl ?_
    refine go_iload_n dX1_scenesIn_52 rfl 2 rfl ?_
    refine go_isub dX1_scenesIn_53 ?_
    obtain ⟨b7, h⟩ := h
    refine go_aald dX1_scenesIn_54 (g_lt rfl) (gs_58 G) b7 ?_
    refine go_iload_n dX1_scenesIn_55 rfl 3 rfl ?_
    obtain ⟨b8, h⟩ := h
    refine go_ialdv ((gm_r μ (58 + 1 + (x1 - x2).toNatClampNeg) x3.toNatClampNeg)) dX1_scenesIn_56 (gl_58 (vp_lt b7)) (gn_58 G (vp_lt b7)) b8 rfl ?_
    exact go_iret dX1_scenesIn_57 rfl (Nat.le_refl _) (Nat.le_refl _) ⟨_, rfl, h⟩
  · have h := h.2 c6
    refine go_iconst (v := 0) dX1_scenesIn_43 (by decide) ?_
    refine go_goto 57 dX1_scenesIn_44 (by decide) ?_
    exact go_iret dX1_scenesIn_57 rfl (Nat.le_refl _) (Nat.le_refl _) ⟨_, rfl, h⟩
set_option maxRecDepth 100000 in
theorem eX1_uneven {G : gC} {l : Launch} {a1 : Int32} {μ : Mem} {P : Int32 → Mem → Prop} (h : ((a1 < 0) → P (-1 : Int32) μ) ∧ ((¬ a1 < 0) → ((a1 ≤ (8 : Int32)) → vp_in a1 9 ∧ P (gm_r μ (48 + 1 + a1.toNatClampNeg) 0) μ) ∧ ((¬ a1 ≤ (8 : Int32)) → P (-1 : Int32) μ))) : qX1_uneven G l a1 μ P := by
  refine Sp.of (by decide) (Nat.le_of_ble_eq_true rfl) (lv := [(0, .ref (ga G 47)), (1, .int a1)]) rfl ?_
  refine go_iload_n dX1_uneven_0 rfl 1 rfl ?_
  refine go_if_lt 10 dX1_uneven_1 (by decide) (fun c1 => ?_) (fun c1 => ?_)
  · have h := h.1 c1
    refine go_iconst (v := -1) dX1_uneven_10 (by decide) ?_
    refine go_goto 22 dX1_uneven_11 (by decide) ?_
    exact go_iret dX1_uneven_22 rfl (Nat.le_refl _) (Nat.le_refl _) ⟨_, rfl, h⟩
  · have h := h.2 c1
    refine go_iload_n dX1_uneven_4 rfl 1 rfl ?_
    refine go_bipush (v := 8) dX1_uneven_5 (by decide) ?_
    refine go_icmp_le 14 dX1_uneven_7 (by decide) (fun c2 => ?_) (fun c2 => ?_)
    · have h := h.1 c2
      refine go_aload_n dX1_uneven_14 rfl 0 rfl ?_
      refine go_get (.ref (ga G 48)) dX1_uneven_15 fX1_11 (g_lt rfl) (gs_47 G _ _) rfl ?_
      refine go_iload_n dX1_uneven_18 rfl 1 rfl ?_
      obtain ⟨b3, h⟩ := h
      refine go_aald dX1_uneven_19 (g_lt rfl) (gs_48 G) b3 ?_
      refine go_iconst (v := 0) dX1_uneven_20 (by decide) ?_
      refine go_ialdv ((gm_r μ (48 + 1 + a1.toNatClampNeg) 0)) dX1_uneven_21 (gl_48 (vp_lt b3)) (gn_48 G (vp_lt b3)) (by unfold vp_in; decide) rfl ?_
      exact go_iret dX1_uneven_22 rfl (Nat.le_refl _) (Nat.le_refl _) ⟨_, rfl, h⟩
    · have h := h.2 c2
      refine go_iconst (v := -1) dX1_uneven_10 (by decide) ?_
      refine go_goto 22 dX1_uneven_11 (by decide) ?_
      exact go_iret dX1_uneven_22 rfl (Nat.le_refl _) (Nat.le_refl _) ⟨_, rfl, h⟩
set_option maxRecDepth 100000 in
theorem eX9_chapter {G : gC} {l : Launch} {a1 : Int32} {a2 : Int32} {μ : Mem} {P : Int32 → Mem → Prop} (h : ((a1 < (1 : Int32)) → P (-1002 : Int32) μ) ∧ ((¬ a1 < (1 : Int32)) → ((a1 ≤ (8 : Int32)) → qX0_printed G l  μ (fun (r4 : Int32) (μ3 : Mem) => ((a1 ≤ r4) → ((a2 = (-1 : Int32)) → hX9_chapter_48 G l P a1 a2 μ3) ∧ ((¬ a2 = (-1 : Int32)) → ((a2 < 0) → P (-1001 : Int32) μ3) ∧ ((¬ a2 < 0) → ((a2 < a1) → hX9_chapter_48 G l P a1 a2 μ3) ∧ ((¬ a2 < a1) → P (-1001 : Int32) μ3)))) ∧ ((¬ a1 ≤ r4) → P (-1003 : Int32) μ3))) ∧ ((¬ a1 ≤ (8 : Int32)) → P (-1002 : Int32) μ))) : qX9_chapter G l a1 a2 μ P := by
  refine Sp.of (by decide) (Nat.le_of_ble_eq_true rfl) (lv := [(0, .ref (ga G 0)), (1, .int a1), (2, .int a2)]) rfl ?_
  refine go_iload_n dX9_chapter_0 rfl 1 rfl ?_
  refine go_iconst (v := 1) dX9_chapter_1 (by decide) ?_
  refine go_icmp_lt 11 dX9_chapter_2 (by decide) (fun c1 => ?_) (fun c1 => ?_)
  · have h := h.1 c1
    refine go_sipush (v := -1002) dX9_chapter_11 (by decide) ?_
    exact go_iret dX9_chapter_14 rfl (Nat.le_refl _) (Nat.le_refl _) ⟨_, rfl, h⟩
  · have h := h.2 c1
    refine go_iload_n dX9_chapter_5 rfl 1 rfl ?_
    refine go_bipush (v := 8) dX9_chapter_6 (by decide) ?_
    refine go_icmp_le 15 dX9_chapter_8 (by decide) (fun c2 => ?_) (fun c2 => ?_)
    · have h := h.1 c2
      refine go_aload_n dX9_chapter_15 rfl 0 rfl ?_
      refine go_get (.ref (ga G 42)) dX9_chapter_16 fX9_56 (g_lt rfl) (gs_0 G _ _) rfl ?_
      refine go_callV (As := []) (rest := []) dX9_chapter_19 lX9_135 kX0_printed rfl (by decide) (Nat.le_of_ble_eq_true rfl) (g_lt rfl) (gs_42 G _ _) rfl (by decide) rfl (gI_go (fun r4 μ3 h => ?_)) h
      refine go_iload_n dX9_chapter_22 rfl 1 rfl ?_
      refine go_icmp_ge 30 dX9_chapter_23 (by decide) (fun c5 => ?_) (fun c5 => ?_)
      · have h := h.1 c5
        refine go_iload_n dX9_chapter_30 rfl 2 rfl ?_
        refine go_iconst (v := -1) dX9_chapter_31 (by decide) ?_
        refine go_icmp_eq 48 dX9_chapter_32 (by decide) (fun c6 => ?_) (fun c6 => ?_)
        · have h := h.1 c6
          exact h
        · have h := h.2 c6
          refine go_iload_n dX9_chapter_35 rfl 2 rfl ?_
          refine go_if_lt 44 dX9_chapter_36 (by decide) (fun c7 => ?_) (fun c7 => ?_)
          · have h := h.1 c7
            refine go_sipush (v := -1001) dX9_chapter_44 (by decide) ?_
            exact go_iret dX9_chapter_47 rfl (Nat.le_refl _) (Nat.le_refl _) ⟨_, rfl, h⟩
          · have h := h.2 c7
            refine go_iload_n dX9_chapter_39 rfl 2 rfl ?_
            refine go_iload_n dX9_chapter_40 rfl 1 rfl ?_
            refine go_icmp_lt 48 dX9_chapter_41 (by decide) (fun c8 => ?_) (fun c8 => ?_)
            · have h := h.1 c8
              exact h
            · have h := h.2 c8
              refine go_sipush (v := -1001) dX9_chapter_44 (by decide) ?_
              exact go_iret dX9_chapter_47 rfl (Nat.le_refl _) (Nat.le_refl _) ⟨_, rfl, h⟩
      · have h := h.2 c5
        refine go_sipush (v := -1003) dX9_chapter_26 (by decide) ?_
        exact go_iret dX9_chapter_29 rfl (Nat.le_refl _) (Nat.le_refl _) ⟨_, rfl, h⟩
    · have h := h.2 c2
      refine go_sipush (v := -1002) dX9_chapter_11 (by decide) ?_
      exact go_iret dX9_chapter_14 rfl (Nat.le_refl _) (Nat.le_refl _) ⟨_, rfl, h⟩
set_option maxRecDepth 100000 in
theorem eX9_chapter_48 {G : gC} {l : Launch} {P : Int32 → Mem → Prop} {x1 : Int32} {x2 : Int32} {μ : Mem} (h : qX1_part G l x1 μ (fun (μ9 : Mem) => ((¬ x2 = (-1 : Int32)) → qX1_scenesIn G l x1 x2 μ9 (fun (r13 : Int32) (μ12 : Mem) => P r13 μ12)) ∧ ((x2 = (-1 : Int32)) → qX1_uneven G l x1 μ9 (fun (r15 : Int32) (μ14 : Mem) => P r15 μ14)))) : hX9_chapter_48 G l P x1 x2 μ := by
  refine go_aload_n dX9_chapter_48 rfl 0 rfl ?_
  refine go_get (.ref (ga G 47)) dX9_chapter_49 fX9_72 (g_lt rfl) (gs_0 G _ _) rfl ?_
  refine go_iload_n dX9_chapter_52 rfl 1 rfl ?_
  refine go_callV (As := [.int x1]) (rest := []) dX9_chapter_53 lX9_273 kX1_part rfl (by decide) (Nat.le_of_ble_eq_true rfl) (g_lt rfl) (gs_47 G _ _) rfl (by decide) rfl (gV_go (fun μ9 h => ?_)) h
  refine go_iload_n dX9_chapter_56 rfl 2 rfl ?_
  refine go_iconst (v := -1) dX9_chapter_57 (by decide) ?_
  refine go_icmp_ne 72 dX9_chapter_58 (by decide) (fun c11 => ?_) (fun c11 => ?_)
  · have h := h.1 c11
    refine go_aload_n dX9_chapter_72 rfl 0 rfl ?_
    refine go_get (.ref (ga G 47)) dX9_chapter_73 fX9_72 (g_lt rfl) (gs_0 G _ _) rfl ?_
    refine go_iload_n dX9_chapter_76 rfl 1 rfl ?_
    refine go_iload_n dX9_chapter_77 rfl 2 rfl ?_
    refine go_callV (As := [.int x1, .int x2]) (rest := []) dX9_chapter_78 lX9_279 kX1_scenesIn rfl (by decide) (Nat.le_of_ble_eq_true rfl) (g_lt rfl) (gs_47 G _ _) rfl (by decide) rfl (gI_go (fun r13 μ12 h => ?_)) h
    exact go_iret dX9_chapter_81 rfl (Nat.le_refl _) (Nat.le_refl _) ⟨_, rfl, h⟩
  · have h := h.2 c11
    refine go_aload_n dX9_chapter_61 rfl 0 rfl ?_
    refine go_get (.ref (ga G 47)) dX9_chapter_62 fX9_72 (g_lt rfl) (gs_0 G _ _) rfl ?_
    refine go_iload_n dX9_chapter_65 rfl 1 rfl ?_
    refine go_callV (As := [.int x1]) (rest := []) dX9_chapter_66 lX9_276 kX1_uneven rfl (by decide) (Nat.le_of_ble_eq_true rfl) (g_lt rfl) (gs_47 G _ _) rfl (by decide) rfl (gI_go (fun r15 μ14 h => ?_)) h
    refine go_goto 81 dX9_chapter_69 (by decide) ?_
    exact go_iret dX9_chapter_81 rfl (Nat.le_refl _) (Nat.le_refl _) ⟨_, rfl, h⟩
set_option maxRecDepth 100000 in
theorem eX0_become_69_42 {G : gC} {l : Launch}  {μ : Mem} {P : Mem → Prop} (h : P (gm_w (gm_w (gm_row (gm_row (gm_row μ 70 (va_cpy (μ.2.1 43) (μ.2.1 70) 0 0 10)) 71 (va_cpy ((gm_row μ 70 (va_cpy (μ.2.1 43) (μ.2.1 70) 0 0 10)).2.1 44) ((gm_row μ 70 (va_cpy (μ.2.1 43) (μ.2.1 70) 0 0 10)).2.1 71) 0 0 12)) 72 (va_cpy ((gm_row (gm_row μ 70 (va_cpy (μ.2.1 43) (μ.2.1 70) 0 0 10)) 71 (va_cpy ((gm_row μ 70 (va_cpy (μ.2.1 43) (μ.2.1 70) 0 0 10)).2.1 44) ((gm_row μ 70 (va_cpy (μ.2.1 43) (μ.2.1 70) 0 0 10)).2.1 71) 0 0 12)).2.1 45) ((gm_row (gm_row μ 70 (va_cpy (μ.2.1 43) (μ.2.1 70) 0 0 10)) 71 (va_cpy ((gm_row μ 70 (va_cpy (μ.2.1 43) (μ.2.1 70) 0 0 10)).2.1 44) ((gm_row μ 70 (va_cpy (μ.2.1 43) (μ.2.1 70) 0 0 10)).2.1 71) 0 0 12)).2.1 72) 0 0 8)) 69 1 (gm_r μ 42 1)) 69 3 (gm_r μ 42 3))) : qX0_become_69_42 G l  μ P := by
  refine Sp.of (by decide) (Nat.le_of_ble_eq_true rfl) (lv := [(0, .ref (ga G 69)), (1, .ref (ga G 42))]) rfl ?_
  refine go_aload_n dX0_become_0 rfl 1 rfl ?_
  refine go_get (.ref (ga G 43)) dX0_become_1 fX0_9 (g_lt rfl) (gs_42 G _ _) rfl ?_
  refine go_iconst (v := 0) dX0_become_4 (by decide) ?_
  refine go_aload_n dX0_become_5 rfl 0 rfl ?_
  refine go_get (.ref (ga G 70)) dX0_become_6 fX0_9 (g_lt rfl) (gs_69 G _ _) rfl ?_
  refine go_iconst (v := 0) dX0_become_9 (by decide) ?_
  refine go_bipush (v := 10) dX0_become_10 (by decide) ?_
  refine go_copy (a := 43) (o := 70) (nn := 10) dX0_become_12 (g_in 941 (by decide +kernel) rfl) (g_in 481 (by decide +kernel) rfl) (g_in 480 (by decide +kernel) rfl) (g_in 79 (by decide +kernel) rfl) (fun hn => ⟨(g_lt rfl) hn, (g_lt rfl) hn⟩) (gs_43 G) (gs_70 G) (by omega) rfl (by decide) (by decide) (by decide) (by decide) (by decide) ?_
  refine go_aload_n dX0_become_15 rfl 1 rfl ?_
  refine go_get (.ref (ga G 44)) dX0_become_16 fX0_19 (g_lt rfl) (gs_42 G _ _) rfl ?_
  refine go_iconst (v := 0) dX0_become_19 (by decide) ?_
  refine go_aload_n dX0_become_20 rfl 0 rfl ?_
  refine go_get (.ref (ga G 71)) dX0_become_21 fX0_19 (g_lt rfl) (gs_69 G _ _) rfl ?_
  refine go_iconst (v := 0) dX0_become_24 (by decide) ?_
  refine go_bipush (v := 12) dX0_become_25 (by decide) ?_
  refine go_copy (a := 44) (o := 71) (nn := 12) dX0_become_27 (g_in 941 (by decide +kernel) rfl) (g_in 481 (by decide +kernel) rfl) (g_in 480 (by decide +kernel) rfl) (g_in 79 (by decide +kernel) rfl) (fun hn => ⟨(g_lt rfl) hn, (g_lt rfl) hn⟩) (gs_44 G) (gs_71 G) (by omega) rfl (by decide) (by decide) (by decide) (by decide) (by decide) ?_
  refine go_aload_n dX0_become_30 rfl 1 rfl ?_
  refine go_get (.ref (ga G 45)) dX0_become_31 fX0_33 (g_lt rfl) (gs_42 G _ _) rfl ?_
  refine go_iconst (v := 0) dX0_become_34 (by decide) ?_
  refine go_aload_n dX0_become_35 rfl 0 rfl ?_
  refine go_get (.ref (ga G 72)) dX0_become_36 fX0_33 (g_lt rfl) (gs_69 G _ _) rfl ?_
  refine go_iconst (v := 0) dX0_become_39 (by decide) ?_
  refine go_bipush (v := 8) dX0_become_40 (by decide) ?_
  refine go_copy (a := 45) (o := 72) (nn := 8) dX0_become_42 (g_in 941 (by decide +kernel) rfl) (g_in 481 (by decide +kernel) rfl) (g_in 480 (by decide +kernel) rfl) (g_in 79 (by decide +kernel) rfl) (fun hn => ⟨(g_lt rfl) hn, (g_lt rfl) hn⟩) (gs_45 G) (gs_72 G) (by omega) rfl (by decide) (by decide) (by decide) (by decide) (by decide) ?_
  refine go_aload_n dX0_become_45 rfl 0 rfl ?_
  refine go_aload_n dX0_become_46 rfl 1 rfl ?_
  refine go_get (.int (gm_r μ 42 1)) dX0_become_47 fX0_15 (g_lt rfl) (gs_42 G _ _) rfl ?_
  refine go_puti dX0_become_50 pX0_15 (g_lt rfl) (gs_69 G _ _) (Nat.le_of_ble_eq_true rfl) rfl ?_
  refine go_aload_n dX0_become_53 rfl 0 rfl ?_
  refine go_aload_n dX0_become_54 rfl 1 rfl ?_
  refine go_get (.int (gm_r μ 42 3)) dX0_become_55 fX0_22 (g_lt rfl) (gs_42 G _ _) rfl ?_
  refine go_puti dX0_become_58 pX0_22 (g_lt rfl) (gs_69 G _ _) (Nat.le_of_ble_eq_true rfl) rfl ?_
  exact go_vret dX0_become_61 rfl (Nat.le_refl _) (Nat.le_refl _) ⟨rfl, h⟩
set_option maxRecDepth 100000 in
theorem eX0_become_73_42 {G : gC} {l : Launch}  {μ : Mem} {P : Mem → Prop} (h : P (gm_w (gm_w (gm_row (gm_row (gm_row μ 74 (va_cpy (μ.2.1 43) (μ.2.1 74) 0 0 10)) 75 (va_cpy ((gm_row μ 74 (va_cpy (μ.2.1 43) (μ.2.1 74) 0 0 10)).2.1 44) ((gm_row μ 74 (va_cpy (μ.2.1 43) (μ.2.1 74) 0 0 10)).2.1 75) 0 0 12)) 76 (va_cpy ((gm_row (gm_row μ 74 (va_cpy (μ.2.1 43) (μ.2.1 74) 0 0 10)) 75 (va_cpy ((gm_row μ 74 (va_cpy (μ.2.1 43) (μ.2.1 74) 0 0 10)).2.1 44) ((gm_row μ 74 (va_cpy (μ.2.1 43) (μ.2.1 74) 0 0 10)).2.1 75) 0 0 12)).2.1 45) ((gm_row (gm_row μ 74 (va_cpy (μ.2.1 43) (μ.2.1 74) 0 0 10)) 75 (va_cpy ((gm_row μ 74 (va_cpy (μ.2.1 43) (μ.2.1 74) 0 0 10)).2.1 44) ((gm_row μ 74 (va_cpy (μ.2.1 43) (μ.2.1 74) 0 0 10)).2.1 75) 0 0 12)).2.1 76) 0 0 8)) 73 1 (gm_r μ 42 1)) 73 3 (gm_r μ 42 3))) : qX0_become_73_42 G l  μ P := by
  refine Sp.of (by decide) (Nat.le_of_ble_eq_true rfl) (lv := [(0, .ref (ga G 73)), (1, .ref (ga G 42))]) rfl ?_
  refine go_aload_n dX0_become_0 rfl 1 rfl ?_
  refine go_get (.ref (ga G 43)) dX0_become_1 fX0_9 (g_lt rfl) (gs_42 G _ _) rfl ?_
  refine go_iconst (v := 0) dX0_become_4 (by decide) ?_
  refine go_aload_n dX0_become_5 rfl 0 rfl ?_
  refine go_get (.ref (ga G 74)) dX0_become_6 fX0_9 (g_lt rfl) (gs_73 G _ _) rfl ?_
  refine go_iconst (v := 0) dX0_become_9 (by decide) ?_
  refine go_bipush (v := 10) dX0_become_10 (by decide) ?_
  refine go_copy (a := 43) (o := 74) (nn := 10) dX0_become_12 (g_in 941 (by decide +kernel) rfl) (g_in 481 (by decide +kernel) rfl) (g_in 480 (by decide +kernel) rfl) (g_in 79 (by decide +kernel) rfl) (fun hn => ⟨(g_lt rfl) hn, (g_lt rfl) hn⟩) (gs_43 G) (gs_74 G) (by omega) rfl (by decide) (by decide) (by decide) (by decide) (by decide) ?_
  refine go_aload_n dX0_become_15 rfl 1 rfl ?_
  refine go_get (.ref (ga G 44)) dX0_become_16 fX0_19 (g_lt rfl) (gs_42 G _ _) rfl ?_
  refine go_iconst (v := 0) dX0_become_19 (by decide) ?_
  refine go_aload_n dX0_become_20 rfl 0 rfl ?_
  refine go_get (.ref (ga G 75)) dX0_become_21 fX0_19 (g_lt rfl) (gs_73 G _ _) rfl ?_
  refine go_iconst (v := 0) dX0_become_24 (by decide) ?_
  refine go_bipush (v := 12) dX0_become_25 (by decide) ?_
  refine go_copy (a := 44) (o := 75) (nn := 12) dX0_become_27 (g_in 941 (by decide +kernel) rfl) (g_in 481 (by decide +kernel) rfl) (g_in 480 (by decide +kernel) rfl) (g_in 79 (by decide +kernel) rfl) (fun hn => ⟨(g_lt rfl) hn, (g_lt rfl) hn⟩) (gs_44 G) (gs_75 G) (by omega) rfl (by decide) (by decide) (by decide) (by decide) (by decide) ?_
  refine go_aload_n dX0_become_30 rfl 1 rfl ?_
  refine go_get (.ref (ga G 45)) dX0_become_31 fX0_33 (g_lt rfl) (gs_42 G _ _) rfl ?_
  refine go_iconst (v := 0) dX0_become_34 (by decide) ?_
  refine go_aload_n dX0_become_35 rfl 0 rfl ?_
  refine go_get (.ref (ga G 76)) dX0_become_36 fX0_33 (g_lt rfl) (gs_73 G _ _) rfl ?_
  refine go_iconst (v := 0) dX0_become_39 (by decide) ?_
  refine go_bipush (v := 8) dX0_become_40 (by decide) ?_
  refine go_copy (a := 45) (o := 76) (nn := 8) dX0_become_42 (g_in 941 (by decide +kernel) rfl) (g_in 481 (by decide +kernel) rfl) (g_in 480 (by decide +kernel) rfl) (g_in 79 (by decide +kernel) rfl) (fun hn => ⟨(g_lt rfl) hn, (g_lt rfl) hn⟩) (gs_45 G) (gs_76 G) (by omega) rfl (by decide) (by decide) (by decide) (by decide) (by decide) ?_
  refine go_aload_n dX0_become_45 rfl 0 rfl ?_
  refine go_aload_n dX0_become_46 rfl 1 rfl ?_
  refine go_get (.int (gm_r μ 42 1)) dX0_become_47 fX0_15 (g_lt rfl) (gs_42 G _ _) rfl ?_
  refine go_puti dX0_become_50 pX0_15 (g_lt rfl) (gs_73 G _ _) (Nat.le_of_ble_eq_true rfl) rfl ?_
  refine go_aload_n dX0_become_53 rfl 0 rfl ?_
  refine go_aload_n dX0_become_54 rfl 1 rfl ?_
  refine go_get (.int (gm_r μ 42 3)) dX0_become_55 fX0_22 (g_lt rfl) (gs_42 G _ _) rfl ?_
  refine go_puti dX0_become_58 pX0_22 (g_lt rfl) (gs_73 G _ _) (Nat.le_of_ble_eq_true rfl) rfl ?_
  exact go_vret dX0_become_61 rfl (Nat.le_refl _) (Nat.le_refl _) ⟨rfl, h⟩
set_option maxRecDepth 100000 in
theorem eX9_keep {G : gC} {l : Launch} {a1 : Int32} {μ : Mem} {P : Int32 → Mem → Prop} (h : ((a1 < 0) → P (-1001 : Int32) μ) ∧ ((¬ a1 < 0) → ((a1 < (2 : Int32)) → vp_in a1 2 ∧ ((a1.toNatClampNeg = 0) → qX0_become_69_42 G l  μ (fun (μ5 : Mem) => vp_in a1 2 ∧ P (1 : Int32) (gm_w μ5 77 a1.toNatClampNeg (1 : Int32)))) ∧ ((a1.toNatClampNeg = 1) → qX0_become_73_42 G l  μ (fun (μ8 : Mem) => vp_in a1 2 ∧ P (1 : Int32) (gm_w μ8 77 a1.toNatClampNeg (1 : Int32))))) ∧ ((¬ a1 < (2 : Int32)) → P (-1001 : Int32) μ))) : qX9_keep G l a1 μ P := by
  refine Sp.of (by decide) (Nat.le_of_ble_eq_true rfl) (lv := [(0, .ref (ga G 0)), (1, .int a1)]) rfl ?_
  refine go_iload_n dX9_keep_0 rfl 1 rfl ?_
  refine go_if_lt 9 dX9_keep_1 (by decide) (fun c1 => ?_) (fun c1 => ?_)
  · have h := h.1 c1
    refine go_sipush (v := -1001) dX9_keep_9 (by decide) ?_
    exact go_iret dX9_keep_12 rfl (Nat.le_refl _) (Nat.le_refl _) ⟨_, rfl, h⟩
  · have h := h.2 c1
    refine go_iload_n dX9_keep_4 rfl 1 rfl ?_
    refine go_iconst (v := 2) dX9_keep_5 (by decide) ?_
    refine go_icmp_lt 13 dX9_keep_6 (by decide) (fun c2 => ?_) (fun c2 => ?_)
    · have h := h.1 c2
      refine go_aload_n dX9_keep_13 rfl 0 rfl ?_
      refine go_get (.ref (ga G 68)) dX9_keep_14 fX9_76 (g_lt rfl) (gs_0 G _ _) rfl ?_
      refine go_iload_n dX9_keep_17 rfl 1 rfl ?_
      obtain ⟨b3, h⟩ := h
      refine go_aaldB dX9_keep_18 b3 (fun c4 => ?_) (fun c4 => ?_)
      · have h := h.1 c4
        refine go_aload_n dX9_keep_19 rfl 0 rfl ?_
        refine go_get (.ref (ga G 42)) dX9_keep_20 fX9_56 (g_lt rfl) (gs_0 G _ _) rfl ?_
        refine go_callV (As := [.ref (ga G 42)]) (rest := []) dX9_keep_23 lX9_282 kX0_become rfl (by decide) (Nat.le_of_ble_eq_true rfl) (g_lt rfl) (gs_69 G _ _) rfl (by decide) rfl (gV_go (fun μ5 h => ?_)) h
        refine go_aload_n dX9_keep_26 rfl 0 rfl ?_
        refine go_get (.ref (ga G 77)) dX9_keep_27 fX9_80 (g_lt rfl) (gs_0 G _ _) rfl ?_
        refine go_iload_n dX9_keep_30 rfl 1 rfl ?_
        refine go_iconst (v := 1) dX9_keep_31 (by decide) ?_
        obtain ⟨b7, h⟩ := h
        refine go_zast dX9_keep_32 (g_lt rfl) (gs_77 G) b7 ?_
        refine go_iconst (v := 1) dX9_keep_33 (by decide) ?_
        exact go_iret dX9_keep_34 rfl (Nat.le_refl _) (Nat.le_refl _) ⟨_, rfl, h⟩
      · have h := h.2 c4
        refine go_aload_n dX9_keep_19 rfl 0 rfl ?_
        refine go_get (.ref (ga G 42)) dX9_keep_20 fX9_56 (g_lt rfl) (gs_0 G _ _) rfl ?_
        refine go_callV (As := [.ref (ga G 42)]) (rest := []) dX9_keep_23 lX9_282 kX0_become rfl (by decide) (Nat.le_of_ble_eq_true rfl) (g_lt rfl) (gs_73 G _ _) rfl (by decide) rfl (gV_go (fun μ8 h => ?_)) h
        refine go_aload_n dX9_keep_26 rfl 0 rfl ?_
        refine go_get (.ref (ga G 77)) dX9_keep_27 fX9_80 (g_lt rfl) (gs_0 G _ _) rfl ?_
        refine go_iload_n dX9_keep_30 rfl 1 rfl ?_
        refine go_iconst (v := 1) dX9_keep_31 (by decide) ?_
        obtain ⟨b10, h⟩ := h
        refine go_zast dX9_keep_32 (g_lt rfl) (gs_77 G) b10 ?_
        refine go_iconst (v := 1) dX9_keep_33 (by decide) ?_
        exact go_iret dX9_keep_34 rfl (Nat.le_refl _) (Nat.le_refl _) ⟨_, rfl, h⟩
    · have h := h.2 c2
      refine go_sipush (v := -1001) dX9_keep_9 (by decide) ?_
      exact go_iret dX9_keep_12 rfl (Nat.le_refl _) (Nat.le_refl _) ⟨_, rfl, h⟩
set_option maxRecDepth 100000 in
theorem eX0_become_42_69 {G : gC} {l : Launch}  {μ : Mem} {P : Mem → Prop} (h : P (gm_w (gm_w (gm_row (gm_row (gm_row μ 43 (va_cpy (μ.2.1 70) (μ.2.1 43) 0 0 10)) 44 (va_cpy ((gm_row μ 43 (va_cpy (μ.2.1 70) (μ.2.1 43) 0 0 10)).2.1 71) ((gm_row μ 43 (va_cpy (μ.2.1 70) (μ.2.1 43) 0 0 10)).2.1 44) 0 0 12)) 45 (va_cpy ((gm_row (gm_row μ 43 (va_cpy (μ.2.1 70) (μ.2.1 43) 0 0 10)) 44 (va_cpy ((gm_row μ 43 (va_cpy (μ.2.1 70) (μ.2.1 43) 0 0 10)).2.1 71) ((gm_row μ 43 (va_cpy (μ.2.1 70) (μ.2.1 43) 0 0 10)).2.1 44) 0 0 12)).2.1 72) ((gm_row (gm_row μ 43 (va_cpy (μ.2.1 70) (μ.2.1 43) 0 0 10)) 44 (va_cpy ((gm_row μ 43 (va_cpy (μ.2.1 70) (μ.2.1 43) 0 0 10)).2.1 71) ((gm_row μ 43 (va_cpy (μ.2.1 70) (μ.2.1 43) 0 0 10)).2.1 44) 0 0 12)).2.1 45) 0 0 8)) 42 1 (gm_r μ 69 1)) 42 3 (gm_r μ 69 3))) : qX0_become_42_69 G l  μ P := by
  refine Sp.of (by decide) (Nat.le_of_ble_eq_true rfl) (lv := [(0, .ref (ga G 42)), (1, .ref (ga G 69))]) rfl ?_
  refine go_aload_n dX0_become_0 rfl 1 rfl ?_
  refine go_get (.ref (ga G 70)) dX0_become_1 fX0_9 (g_lt rfl) (gs_69 G _ _) rfl ?_
  refine go_iconst (v := 0) dX0_become_4 (by decide) ?_
  refine go_aload_n dX0_become_5 rfl 0 rfl ?_
  refine go_get (.ref (ga G 43)) dX0_become_6 fX0_9 (g_lt rfl) (gs_42 G _ _) rfl ?_
  refine go_iconst (v := 0) dX0_become_9 (by decide) ?_
  refine go_bipush (v := 10) dX0_become_10 (by decide) ?_
  refine go_copy (a := 70) (o := 43) (nn := 10) dX0_become_12 (g_in 941 (by decide +kernel) rfl) (g_in 481 (by decide +kernel) rfl) (g_in 480 (by decide +kernel) rfl) (g_in 79 (by decide +kernel) rfl) (fun hn => ⟨(g_lt rfl) hn, (g_lt rfl) hn⟩) (gs_70 G) (gs_43 G) (by omega) rfl (by decide) (by decide) (by decide) (by decide) (by decide) ?_
  refine go_aload_n dX0_become_15 rfl 1 rfl ?_
  refine go_get (.ref (ga G 71)) dX0_become_16 fX0_19 (g_lt rfl) (gs_69 G _ _) rfl ?_
  refine go_iconst (v := 0) dX0_become_19 (by decide) ?_
  refine go_aload_n dX0_become_20 rfl 0 rfl ?_
  refine go_get (.ref (ga G 44)) dX0_become_21 fX0_19 (g_lt rfl) (gs_42 G _ _) rfl ?_
  refine go_iconst (v := 0) dX0_become_24 (by decide) ?_
  refine go_bipush (v := 12) dX0_become_25 (by decide) ?_
  refine go_copy (a := 71) (o := 44) (nn := 12) dX0_become_27 (g_in 941 (by decide +kernel) rfl) (g_in 481 (by decide +kernel) rfl) (g_in 480 (by decide +kernel) rfl) (g_in 79 (by decide +kernel) rfl) (fun hn => ⟨(g_lt rfl) hn, (g_lt rfl) hn⟩) (gs_71 G) (gs_44 G) (by omega) rfl (by decide) (by decide) (by decide) (by decide) (by decide) ?_
  refine go_aload_n dX0_become_30 rfl 1 rfl ?_
  refine go_get (.ref (ga G 72)) dX0_become_31 fX0_33 (g_lt rfl) (gs_69 G _ _) rfl ?_
  refine go_iconst (v := 0) dX0_become_34 (by decide) ?_
  refine go_aload_n dX0_become_35 rfl 0 rfl ?_
  refine go_get (.ref (ga G 45)) dX0_become_36 fX0_33 (g_lt rfl) (gs_42 G _ _) rfl ?_
  refine go_iconst (v := 0) dX0_become_39 (by decide) ?_
  refine go_bipush (v := 8) dX0_become_40 (by decide) ?_
  refine go_copy (a := 72) (o := 45) (nn := 8) dX0_become_42 (g_in 941 (by decide +kernel) rfl) (g_in 481 (by decide +kernel) rfl) (g_in 480 (by decide +kernel) rfl) (g_in 79 (by decide +kernel) rfl) (fun hn => ⟨(g_lt rfl) hn, (g_lt rfl) hn⟩) (gs_72 G) (gs_45 G) (by omega) rfl (by decide) (by decide) (by decide) (by decide) (by decide) ?_
  refine go_aload_n dX0_become_45 rfl 0 rfl ?_
  refine go_aload_n dX0_become_46 rfl 1 rfl ?_
  refine go_get (.int (gm_r μ 69 1)) dX0_become_47 fX0_15 (g_lt rfl) (gs_69 G _ _) rfl ?_
  refine go_puti dX0_become_50 pX0_15 (g_lt rfl) (gs_42 G _ _) (Nat.le_of_ble_eq_true rfl) rfl ?_
  refine go_aload_n dX0_become_53 rfl 0 rfl ?_
  refine go_aload_n dX0_become_54 rfl 1 rfl ?_
  refine go_get (.int (gm_r μ 69 3)) dX0_become_55 fX0_22 (g_lt rfl) (gs_69 G _ _) rfl ?_
  refine go_puti dX0_become_58 pX0_22 (g_lt rfl) (gs_42 G _ _) (Nat.le_of_ble_eq_true rfl) rfl ?_
  exact go_vret dX0_become_61 rfl (Nat.le_refl _) (Nat.le_refl _) ⟨rfl, h⟩
set_option maxRecDepth 100000 in
theorem eX0_become_42_73 {G : gC} {l : Launch}  {μ : Mem} {P : Mem → Prop} (h : P (gm_w (gm_w (gm_row (gm_row (gm_row μ 43 (va_cpy (μ.2.1 74) (μ.2.1 43) 0 0 10)) 44 (va_cpy ((gm_row μ 43 (va_cpy (μ.2.1 74) (μ.2.1 43) 0 0 10)).2.1 75) ((gm_row μ 43 (va_cpy (μ.2.1 74) (μ.2.1 43) 0 0 10)).2.1 44) 0 0 12)) 45 (va_cpy ((gm_row (gm_row μ 43 (va_cpy (μ.2.1 74) (μ.2.1 43) 0 0 10)) 44 (va_cpy ((gm_row μ 43 (va_cpy (μ.2.1 74) (μ.2.1 43) 0 0 10)).2.1 75) ((gm_row μ 43 (va_cpy (μ.2.1 74) (μ.2.1 43) 0 0 10)).2.1 44) 0 0 12)).2.1 76) ((gm_row (gm_row μ 43 (va_cpy (μ.2.1 74) (μ.2.1 43) 0 0 10)) 44 (va_cpy ((gm_row μ 43 (va_cpy (μ.2.1 74) (μ.2.1 43) 0 0 10)).2.1 75) ((gm_row μ 43 (va_cpy (μ.2.1 74) (μ.2.1 43) 0 0 10)).2.1 44) 0 0 12)).2.1 45) 0 0 8)) 42 1 (gm_r μ 73 1)) 42 3 (gm_r μ 73 3))) : qX0_become_42_73 G l  μ P := by
  refine Sp.of (by decide) (Nat.le_of_ble_eq_true rfl) (lv := [(0, .ref (ga G 42)), (1, .ref (ga G 73))]) rfl ?_
  refine go_aload_n dX0_become_0 rfl 1 rfl ?_
  refine go_get (.ref (ga G 74)) dX0_become_1 fX0_9 (g_lt rfl) (gs_73 G _ _) rfl ?_
  refine go_iconst (v := 0) dX0_become_4 (by decide) ?_
  refine go_aload_n dX0_become_5 rfl 0 rfl ?_
  refine go_get (.ref (ga G 43)) dX0_become_6 fX0_9 (g_lt rfl) (gs_42 G _ _) rfl ?_
  refine go_iconst (v := 0) dX0_become_9 (by decide) ?_
  refine go_bipush (v := 10) dX0_become_10 (by decide) ?_
  refine go_copy (a := 74) (o := 43) (nn := 10) dX0_become_12 (g_in 941 (by decide +kernel) rfl) (g_in 481 (by decide +kernel) rfl) (g_in 480 (by decide +kernel) rfl) (g_in 79 (by decide +kernel) rfl) (fun hn => ⟨(g_lt rfl) hn, (g_lt rfl) hn⟩) (gs_74 G) (gs_43 G) (by omega) rfl (by decide) (by decide) (by decide) (by decide) (by decide) ?_
  refine go_aload_n dX0_become_15 rfl 1 rfl ?_
  refine go_get (.ref (ga G 75)) dX0_become_16 fX0_19 (g_lt rfl) (gs_73 G _ _) rfl ?_
  refine go_iconst (v := 0) dX0_become_19 (by decide) ?_
  refine go_aload_n dX0_become_20 rfl 0 rfl ?_
  refine go_get (.ref (ga G 44)) dX0_become_21 fX0_19 (g_lt rfl) (gs_42 G _ _) rfl ?_
  refine go_iconst (v := 0) dX0_become_24 (by decide) ?_
  refine go_bipush (v := 12) dX0_become_25 (by decide) ?_
  refine go_copy (a := 75) (o := 44) (nn := 12) dX0_become_27 (g_in 941 (by decide +kernel) rfl) (g_in 481 (by decide +kernel) rfl) (g_in 480 (by decide +kernel) rfl) (g_in 79 (by decide +kernel) rfl) (fun hn => ⟨(g_lt rfl) hn, (g_lt rfl) hn⟩) (gs_75 G) (gs_44 G) (by omega) rfl (by decide) (by decide) (by decide) (by decide) (by decide) ?_
  refine go_aload_n dX0_become_30 rfl 1 rfl ?_
  refine go_get (.ref (ga G 76)) dX0_become_31 fX0_33 (g_lt rfl) (gs_73 G _ _) rfl ?_
  refine go_iconst (v := 0) dX0_become_34 (by decide) ?_
  refine go_aload_n dX0_become_35 rfl 0 rfl ?_
  refine go_get (.ref (ga G 45)) dX0_become_36 fX0_33 (g_lt rfl) (gs_42 G _ _) rfl ?_
  refine go_iconst (v := 0) dX0_become_39 (by decide) ?_
  refine go_bipush (v := 8) dX0_become_40 (by decide) ?_
  refine go_copy (a := 76) (o := 45) (nn := 8) dX0_become_42 (g_in 941 (by decide +kernel) rfl) (g_in 481 (by decide +kernel) rfl) (g_in 480 (by decide +kernel) rfl) (g_in 79 (by decide +kernel) rfl) (fun hn => ⟨(g_lt rfl) hn, (g_lt rfl) hn⟩) (gs_76 G) (gs_45 G) (by omega) rfl (by decide) (by decide) (by decide) (by decide) (by decide) ?_
  refine go_aload_n dX0_become_45 rfl 0 rfl ?_
  refine go_aload_n dX0_become_46 rfl 1 rfl ?_
  refine go_get (.int (gm_r μ 73 1)) dX0_become_47 fX0_15 (g_lt rfl) (gs_73 G _ _) rfl ?_
  refine go_puti dX0_become_50 pX0_15 (g_lt rfl) (gs_42 G _ _) (Nat.le_of_ble_eq_true rfl) rfl ?_
  refine go_aload_n dX0_become_53 rfl 0 rfl ?_
  refine go_aload_n dX0_become_54 rfl 1 rfl ?_
  refine go_get (.int (gm_r μ 73 3)) dX0_become_55 fX0_22 (g_lt rfl) (gs_73 G _ _) rfl ?_
  refine go_puti dX0_become_58 pX0_22 (g_lt rfl) (gs_42 G _ _) (Nat.le_of_ble_eq_true rfl) rfl ?_
  exact go_vret dX0_become_61 rfl (Nat.le_refl _) (Nat.le_refl _) ⟨rfl, h⟩
set_option maxRecDepth 100000 in
theorem eX9_goBack {G : gC} {l : Launch} {a1 : Int32} {μ : Mem} {P : Int32 → Mem → Prop} (h : ((a1 < 0) → P (-1001 : Int32) μ) ∧ ((¬ a1 < 0) → ((a1 < (2 : Int32)) → vp_in a1 2 ∧ ((¬ (gm_r μ 77 a1.toNatClampNeg) = 0) → vp_in a1 2 ∧ ((a1.toNatClampNeg = 0) → qX0_become_42_69 G l  μ (fun (μ7 : Mem) => qX9_forgetPlans G l  μ7 (fun (μ9 : Mem) => P (1 : Int32) μ9))) ∧ ((a1.toNatClampNeg = 1) → qX0_become_42_73 G l  μ (fun (μ11 : Mem) => qX9_forgetPlans G l  μ11 (fun (μ13 : Mem) => P (1 : Int32) μ13)))) ∧ (((gm_r μ 77 a1.toNatClampNeg) = 0) → P (-1003 : Int32) μ)) ∧ ((¬ a1 < (2 : Int32)) → P (-1001 : Int32) μ))) : qX9_goBack G l a1 μ P := by
  refine Sp.of (by decide) (Nat.le_of_ble_eq_true rfl) (lv := [(0, .ref (ga G 0)), (1, .int a1)]) rfl ?_
  refine go_iload_n dX9_goBack_0 rfl 1 rfl ?_
  refine go_if_lt 9 dX9_goBack_1 (by decide) (fun c1 => ?_) (fun c1 => ?_)
  · have h := h.1 c1
    refine go_sipush (v := -1001) dX9_goBack_9 (by decide) ?_
    exact go_iret dX9_goBack_12 rfl (Nat.le_refl _) (Nat.le_refl _) ⟨_, rfl, h⟩
  · have h := h.2 c1
    refine go_iload_n dX9_goBack_4 rfl 1 rfl ?_
    refine go_iconst (v := 2) dX9_goBack_5 (by decide) ?_
    refine go_icmp_lt 13 dX9_goBack_6 (by decide) (fun c2 => ?_) (fun c2 => ?_)
    · have h := h.1 c2
      refine go_aload_n dX9_goBack_13 rfl 0 rfl ?_
      refine go_get (.ref (ga G 77)) dX9_goBack_14 fX9_80 (g_lt rfl) (gs_0 G _ _) rfl ?_
      refine go_iload_n dX9_goBack_17 rfl 1 rfl ?_
      obtain ⟨b3, h⟩ := h
      refine go_zaldv ((gm_r μ 77 a1.toNatClampNeg)) dX9_goBack_18 (g_lt rfl) (gs_77 G) b3 rfl ?_
      refine go_if_ne 26 dX9_goBack_19 (by decide) (fun c4 => ?_) (fun c4 => ?_)
      · have h := h.1 c4
        refine go_aload_n dX9_goBack_26 rfl 0 rfl ?_
        refine go_get (.ref (ga G 42)) dX9_goBack_27 fX9_56 (g_lt rfl) (gs_0 G _ _) rfl ?_
        refine go_aload_n dX9_goBack_30 rfl 0 rfl ?_
        refine go_get (.ref (ga G 68)) dX9_goBack_31 fX9_76 (g_lt rfl) (gs_0 G _ _) rfl ?_
        refine go_iload_n dX9_goBack_34 rfl 1 rfl ?_
        obtain ⟨b5, h⟩ := h
        refine go_aaldB dX9_goBack_35 b5 (fun c6 => ?_) (fun c6 => ?_)
        · have h := h.1 c6
          refine go_callV (As := [.ref (ga G 69)]) (rest := []) dX9_goBack_36 lX9_282 kX0_become rfl (by decide) (Nat.le_of_ble_eq_true rfl) (g_lt rfl) (gs_42 G _ _) rfl (by decide) rfl (gV_go (fun μ7 h => ?_)) h
          refine go_aload_n dX9_goBack_39 rfl 0 rfl ?_
          refine go_callV (As := []) (rest := []) dX9_goBack_40 lX9_106 kX9_forgetPlans rfl (by decide) (Nat.le_of_ble_eq_true rfl) (g_lt rfl) (gs_0 G _ _) rfl (by decide) rfl (gV_go (fun μ9 h => ?_)) h
          refine go_iconst (v := 1) dX9_goBack_43 (by decide) ?_
          exact go_iret dX9_goBack_44 rfl (Nat.le_refl _) (Nat.le_refl _) ⟨_, rfl, h⟩
        · have h := h.2 c6
          refine go_callV (As := [.ref (ga G 73)]) (rest := []) dX9_goBack_36 lX9_282 kX0_become rfl (by decide) (Nat.le_of_ble_eq_true rfl) (g_lt rfl) (gs_42 G _ _) rfl (by decide) rfl (gV_go (fun μ11 h => ?_)) h
          refine go_aload_n dX9_goBack_39 rfl 0 rfl ?_
          refine go_callV (As := []) (rest := []) dX9_goBack_40 lX9_106 kX9_forgetPlans rfl (by decide) (Nat.le_of_ble_eq_true rfl) (g_lt rfl) (gs_0 G _ _) rfl (by decide) rfl (gV_go (fun μ13 h => ?_)) h
          refine go_iconst (v := 1) dX9_goBack_43 (by decide) ?_
          exact go_iret dX9_goBack_44 rfl (Nat.le_refl _) (Nat.le_refl _) ⟨_, rfl, h⟩
      · have h := h.2 c4
        refine go_sipush (v := -1003) dX9_goBack_22 (by decide) ?_
        exact go_iret dX9_goBack_25 rfl (Nat.le_refl _) (Nat.le_refl _) ⟨_, rfl, h⟩
    · have h := h.2 c2
      refine go_sipush (v := -1001) dX9_goBack_9 (by decide) ?_
      exact go_iret dX9_goBack_12 rfl (Nat.le_refl _) (Nat.le_refl _) ⟨_, rfl, h⟩
set_option maxRecDepth 100000 in
theorem eX10_in {G : gC} {l : Launch} {a1 : Int64} {a2 : Int64} {a3 : Int64} {μ : Mem} {P : Int32 → Mem → Prop} (h : (((lg_cmp a1 a2) < 0) → P (0 : Int32) μ) ∧ ((¬ (lg_cmp a1 a2) < 0) → ((0 < (lg_cmp a1 a3)) → P (0 : Int32) μ) ∧ ((¬ 0 < (lg_cmp a1 a3)) → P (1 : Int32) μ))) : qX10_in G l a1 a2 a3 μ P := by
  refine Sp.of (by decide) (Nat.le_of_ble_eq_true rfl) (lv := [(0, .long a1), (2, .long a2), (4, .long a3)]) rfl ?_
  refine go_lload_n dX10_in_0 rfl 0 rfl ?_
  refine go_lload_n dX10_in_1 rfl 1 rfl ?_
  refine go_lcmp dX10_in_2 ?_
  refine go_if_lt 17 dX10_in_3 (by decide) (fun c1 => ?_) (fun c1 => ?_)
  · have h := h.1 c1
    refine go_iconst (v := 0) dX10_in_17 (by decide) ?_
    exact go_zret dX10_in_18 rfl (Nat.le_refl _) (Nat.le_refl _) rfl ⟨_, rfl, h⟩
  · have h := h.2 c1
    refine go_lload_n dX10_in_6 rfl 0 rfl ?_
    refine go_lload dX10_in_7 2 rfl ?_
    refine go_lcmp dX10_in_9 ?_
    refine go_if_gt 17 dX10_in_10 (by decide) (fun c2 => ?_) (fun c2 => ?_)
    · have h := h.1 c2
      refine go_iconst (v := 0) dX10_in_17 (by decide) ?_
      exact go_zret dX10_in_18 rfl (Nat.le_refl _) (Nat.le_refl _) rfl ⟨_, rfl, h⟩
    · have h := h.2 c2
      refine go_iconst (v := 1) dX10_in_13 (by decide) ?_
      refine go_goto 18 dX10_in_14 (by decide) ?_
      exact go_zret dX10_in_18 rfl (Nat.le_refl _) (Nat.le_refl _) rfl ⟨_, rfl, h⟩
set_option maxRecDepth 100000 in
theorem eX10_feed {G : gC} {l : Launch} {a1 : Int32} {a2 : Int64} {μ : Mem} {P : Int32 → Mem → Prop} (h : qX10_in G l (a1).toInt64 (1 : Int64) (8 : Int64) μ (fun (r2 : Int32) (μ1 : Mem) => ((¬ r2 = 0) → ((((gm_r μ1 78 8) + a1) ≤ (400 : Int32)) → hX10_feed_37 G l P a2 (a1 - (1 : Int32)) μ1) ∧ ((¬ ((gm_r μ1 78 8) + a1) ≤ (400 : Int32)) → P (-1004 : Int32) μ1)) ∧ ((r2 = 0) → P (-1002 : Int32) μ1))) : qX10_feed G l a1 a2 μ P := by
  refine Sp.of (by decide) (Nat.le_of_ble_eq_true rfl) (lv := [(0, .ref (ga G 78)), (1, .int a1), (2, .long a2)]) rfl ?_
  refine go_iload_n dX10_feed_0 rfl 1 rfl ?_
  refine go_i2l dX10_feed_1 ?_
  refine go_lconst (v := 1) dX10_feed_2 (by decide) ?_
  refine go_ldc2_w (v := 8) (g_in 1078 (by decide +kernel) rfl) dX10_feed_3 ?_
  refine go_callS (As := [.long (a1).toInt64, .long (1 : Int64), .long (8 : Int64)]) (rest := []) dX10_feed_6 lX10_99 kX10_in rfl (by decide) (Nat.le_of_ble_eq_true rfl) (by decide) rfl (gI_go (fun r2 μ1 h => ?_)) h
  refine go_if_ne 16 dX10_feed_9 (by decide) (fun c3 => ?_) (fun c3 => ?_)
  · have h := h.1 c3
    refine go_aload_n dX10_feed_16 rfl 0 rfl ?_
    refine go_get (.int (gm_r μ1 78 8)) dX10_feed_17 fX10_103 (g_lt rfl) (gs_78 G _ _) rfl ?_
    refine go_iload_n dX10_feed_20 rfl 1 rfl ?_
    refine go_iadd dX10_feed_21 ?_
    refine go_sipush (v := 400) dX10_feed_22 (by decide) ?_
    refine go_icmp_le 32 dX10_feed_25 (by decide) (fun c4 => ?_) (fun c4 => ?_)
    · have h := h.1 c4
      refine go_iload_n dX10_feed_32 rfl 1 rfl ?_
      refine go_iconst (v := 1) dX10_feed_33 (by decide) ?_
      refine go_isub dX10_feed_34 ?_
      refine go_istore [(0, .ref (ga G 78)), (1, .int a1), (2, .long a2), (4, .int (a1 - (1 : Int32)))] [1, 2, 3, 0] dX10_feed_35 (by decide) rfl ?_
      exact go_sub [0, 2, 3] rfl h
    · have h := h.2 c4
      refine go_sipush (v := -1004) dX10_feed_28 (by decide) ?_
      exact go_iret dX10_feed_31 rfl (Nat.le_refl _) (Nat.le_refl _) ⟨_, rfl, h⟩
  · have h := h.2 c3
    refine go_sipush (v := -1002) dX10_feed_12 (by decide) ?_
    exact go_iret dX10_feed_15 rfl (Nat.le_refl _) (Nat.le_refl _) ⟨_, rfl, h⟩
set_option maxRecDepth 100000 in
theorem eX10_feed_37 {G : gC} {l : Launch} {P : Int32 → Mem → Prop} {x2 : Int64} {x4 : Int32} {μ : Mem} (h : ((x4 < 0) → P (gm_r μ 78 8) μ) ∧ ((¬ x4 < 0) → vp_in (gm_r μ 78 8) 400 ∧ hX10_feed_37 G l P x2 (x4 + (-1 : Int32)) (gm_w (gm_w μ 84 (gm_r μ 78 8).toNatClampNeg (((x2 >>> ((((8 : Int32) * x4)).toInt64 &&& 63)) &&& (255 : Int64))).toInt32) 78 8 ((gm_r μ 78 8) + (1 : Int32))))) : hX10_feed_37 G l P x2 x4 μ := by
  refine go_iload dX10_feed_37 2 rfl ?_
  refine go_if_lt 79 dX10_feed_39 (by decide) (fun c5 => ?_) (fun c5 => ?_)
  · have h := h.1 c5
    refine go_aload_n dX10_feed_79 rfl 0 rfl ?_
    refine go_get (.int (gm_r μ 78 8)) dX10_feed_80 fX10_103 (g_lt rfl) (gs_78 G _ _) rfl ?_
    exact go_iret dX10_feed_83 rfl (Nat.le_refl _) (Nat.le_refl _) ⟨_, rfl, h⟩
  · have h := h.2 c5
    refine go_aload_n dX10_feed_42 rfl 0 rfl ?_
    refine go_get (.ref (ga G 84)) dX10_feed_43 fX10_25 (g_lt rfl) (gs_78 G _ _) rfl ?_
    refine go_aload_n dX10_feed_46 rfl 0 rfl ?_
    refine go_get (.int (gm_r μ 78 8)) dX10_feed_47 fX10_103 (g_lt rfl) (gs_78 G _ _) rfl ?_
    refine go_lload_n dX10_feed_50 rfl 1 rfl ?_
    refine go_bipush (v := 8) dX10_feed_51 (by decide) ?_
    refine go_iload dX10_feed_53 2 rfl ?_
    refine go_imul dX10_feed_55 ?_
    refine go_lshr dX10_feed_56 ?_
    refine go_ldc2_w (v := 255) (g_in 1082 (by decide +kernel) rfl) dX10_feed_57 ?_
    refine go_land dX10_feed_60 ?_
    refine go_l2i dX10_feed_61 ?_
    obtain ⟨b6, h⟩ := h
    refine go_iast dX10_feed_62 (g_lt rfl) (gs_84 G) b6 ?_
    refine go_aload_n dX10_feed_63 rfl 0 rfl ?_
    refine go_dup dX10_feed_64 rfl ?_
    refine go_get (.int (gm_r μ 78 8)) dX10_feed_65 fX10_103 (g_lt rfl) (gs_78 G _ _) rfl ?_
    refine go_iconst (v := 1) dX10_feed_68 (by decide) ?_
    refine go_iadd dX10_feed_69 ?_
    refine go_puti dX10_feed_70 pX10_103 (g_lt rfl) (gs_78 G _ _) (Nat.le_of_ble_eq_true rfl) rfl ?_
    refine go_iinc (v := (x4 + (-1 : Int32))) [(0, .ref (ga G 78)), (2, .long x2), (4, .int (x4 + (-1 : Int32)))] [1, 2, 0] 2 dX10_feed_73 rfl rfl (by decide) rfl ?_
    refine go_goto 37 dX10_feed_76 (by decide) ?_
    exact h
set_option maxRecDepth 100000 in
theorem eX10_here {G : gC} {l : Launch}  {μ : Mem} {P : Int32 → Mem → Prop} (h : hX10_here_0 G l P  μ) : qX10_here G l  μ P := by
  refine Sp.of (by decide) (Nat.le_of_ble_eq_true rfl) (lv := [(0, .ref (ga G 78))]) rfl ?_
  exact h
set_option maxRecDepth 100000 in
theorem eX10_here_0 {G : gC} {l : Launch} {P : Int32 → Mem → Prop}  {μ : Mem} (h : (((gm_r μ 78 8) ≤ (gm_r μ 78 9)) → (((gm_r μ 78 8) ≤ (gm_r μ 78 9)) → P (-1 : Int32) μ) ∧ ((¬ (gm_r μ 78 8) ≤ (gm_r μ 78 9)) → vp_in (gm_r μ 78 9) 400 ∧ P (gm_r μ 84 (gm_r μ 78 9).toNatClampNeg) μ)) ∧ ((¬ (gm_r μ 78 8) ≤ (gm_r μ 78 9)) → vp_in (gm_r μ 78 9) 400 ∧ ((¬ (gm_r μ 84 (gm_r μ 78 9).toNatClampNeg) = (32 : Int32)) → (((gm_r μ 78 8) ≤ (gm_r μ 78 9)) → P (-1 : Int32) μ) ∧ ((¬ (gm_r μ 78 8) ≤ (gm_r μ 78 9)) → P (gm_r μ 84 (gm_r μ 78 9).toNatClampNeg) μ)) ∧ (((gm_r μ 84 (gm_r μ 78 9).toNatClampNeg) = (32 : Int32)) → hX10_here_0 G l P  (gm_w μ 78 9 ((gm_r μ 78 9) + (1 : Int32)))))) : hX10_here_0 G l P  μ := by
  refine go_aload_n dX10_here_0 rfl 0 rfl ?_
  refine go_get (.int (gm_r μ 78 9)) dX10_here_1 fX10_108 (g_lt rfl) (gs_78 G _ _) rfl ?_
  refine go_aload_n dX10_here_4 rfl 0 rfl ?_
  refine go_get (.int (gm_r μ 78 8)) dX10_here_5 fX10_103 (g_lt rfl) (gs_78 G _ _) rfl ?_
  refine go_icmp_ge 38 dX10_here_8 (by decide) (fun c1 => ?_) (fun c1 => ?_)
  · have h := h.1 c1
    refine go_aload_n dX10_here_38 rfl 0 rfl ?_
    refine go_get (.int (gm_r μ 78 9)) dX10_here_39 fX10_108 (g_lt rfl) (gs_78 G _ _) rfl ?_
    refine go_aload_n dX10_here_42 rfl 0 rfl ?_
    refine go_get (.int (gm_r μ 78 8)) dX10_here_43 fX10_103 (g_lt rfl) (gs_78 G _ _) rfl ?_
    refine go_icmp_ge 61 dX10_here_46 (by decide) (fun c2 => ?_) (fun c2 => ?_)
    · have h := h.1 c2
      refine go_iconst (v := -1) dX10_here_61 (by decide) ?_
      exact go_iret dX10_here_62 rfl (Nat.le_refl _) (Nat.le_refl _) ⟨_, rfl, h⟩
    · have h := h.2 c2
      refine go_aload_n dX10_here_49 rfl 0 rfl ?_
      refine go_get (.ref (ga G 84)) dX10_here_50 fX10_25 (g_lt rfl) (gs_78 G _ _) rfl ?_
      refine go_aload_n dX10_here_53 rfl 0 rfl ?_
      refine go_get (.int (gm_r μ 78 9)) dX10_here_54 fX10_108 (g_lt rfl) (gs_78 G _ _) rfl ?_
      obtain ⟨b3, h⟩ := h
      refine go_ialdv ((gm_r μ 84 (gm_r μ 78 9).toNatClampNeg)) dX10_here_57 (g_lt rfl) (gs_84 G) b3 rfl ?_
      refine go_goto 62 dX10_here_58 (by decide) ?_
      exact go_iret dX10_here_62 rfl (Nat.le_refl _) (Nat.le_refl _) ⟨_, rfl, h⟩
  · have h := h.2 c1
    refine go_aload_n dX10_here_11 rfl 0 rfl ?_
    refine go_get (.ref (ga G 84)) dX10_here_12 fX10_25 (g_lt rfl) (gs_78 G _ _) rfl ?_
    refine go_aload_n dX10_here_15 rfl 0 rfl ?_
    refine go_get (.int (gm_r μ 78 9)) dX10_here_16 fX10_108 (g_lt rfl) (gs_78 G _ _) rfl ?_
    obtain ⟨b4, h⟩ := h
    refine go_ialdv ((gm_r μ 84 (gm_r μ 78 9).toNatClampNeg)) dX10_here_19 (g_lt rfl) (gs_84 G) b4 rfl ?_
    refine go_bipush (v := 32) dX10_here_20 (by decide) ?_
    refine go_icmp_ne 38 dX10_here_22 (by decide) (fun c5 => ?_) (fun c5 => ?_)
    · have h := h.1 c5
      refine go_aload_n dX10_here_38 rfl 0 rfl ?_
      refine go_get (.int (gm_r μ 78 9)) dX10_here_39 fX10_108 (g_lt rfl) (gs_78 G _ _) rfl ?_
      refine go_aload_n dX10_here_42 rfl 0 rfl ?_
      refine go_get (.int (gm_r μ 78 8)) dX10_here_43 fX10_103 (g_lt rfl) (gs_78 G _ _) rfl ?_
      refine go_icmp_ge 61 dX10_here_46 (by decide) (fun c6 => ?_) (fun c6 => ?_)
      · have h := h.1 c6
        refine go_iconst (v := -1) dX10_here_61 (by decide) ?_
        exact go_iret dX10_here_62 rfl (Nat.le_refl _) (Nat.le_refl _) ⟨_, rfl, h⟩
      · have h := h.2 c6
        refine go_aload_n dX10_here_49 rfl 0 rfl ?_
        refine go_get (.ref (ga G 84)) dX10_here_50 fX10_25 (g_lt rfl) (gs_78 G _ _) rfl ?_
        refine go_aload_n dX10_here_53 rfl 0 rfl ?_
        refine go_get (.int (gm_r μ 78 9)) dX10_here_54 fX10_108 (g_lt rfl) (gs_78 G _ _) rfl ?_
        refine go_ialdv ((gm_r μ 84 (gm_r μ 78 9).toNatClampNeg)) dX10_here_57 (g_lt rfl) (gs_84 G) b4 rfl ?_
        refine go_goto 62 dX10_here_58 (by decide) ?_
        exact go_iret dX10_here_62 rfl (Nat.le_refl _) (Nat.le_refl _) ⟨_, rfl, h⟩
    · have h := h.2 c5
      refine go_aload_n dX10_here_25 rfl 0 rfl ?_
      refine go_dup dX10_here_26 rfl ?_
      refine go_get (.int (gm_r μ 78 9)) dX10_here_27 fX10_108 (g_lt rfl) (gs_78 G _ _) rfl ?_
      refine go_iconst (v := 1) dX10_here_30 (by decide) ?_
      refine go_iadd dX10_here_31 ?_
      refine go_puti dX10_here_32 pX10_108 (g_lt rfl) (gs_78 G _ _) (Nat.le_of_ble_eq_true rfl) rfl ?_
      refine go_goto 0 dX10_here_35 (by decide) ?_
      exact h
set_option maxRecDepth 100000 in
theorem eX10_want {G : gC} {l : Launch} {a1 : Int32} {a2 : Int32} {a3 : Int32} {μ : Mem} {P : Int32 → Mem → Prop} (h : ((¬ a1 = 0) → ((¬ (gm_r μ 78 12) = 0) → P (0 : Int32) μ) ∧ (((gm_r μ 78 12) = 0) → P (1 : Int32) μ)) ∧ ((a1 = 0) → ((¬ (gm_r μ 78 12) = 0) → ((¬ (gm_r μ 78 12) = 0) → P (0 : Int32) μ) ∧ (((gm_r μ 78 12) = 0) → P (1 : Int32) μ)) ∧ (((gm_r μ 78 12) = 0) → ((¬ a2 = 0) → P (0 : Int32) (gm_w (gm_w μ 78 12 a2) 78 13 a3)) ∧ ((a2 = 0) → P (1 : Int32) (gm_w (gm_w μ 78 12 a2) 78 13 a3))))) : qX10_want G l a1 a2 a3 μ P := by
  refine Sp.of (by decide) (Nat.le_of_ble_eq_true rfl) (lv := [(0, .ref (ga G 78)), (1, .int a1), (2, .int a2), (3, .int a3)]) rfl ?_
  refine go_iload_n dX10_want_0 rfl 1 rfl ?_
  refine go_if_ne 21 dX10_want_1 (by decide) (fun c1 => ?_) (fun c1 => ?_)
  · have h := h.1 c1
    refine go_aload_n dX10_want_21 rfl 0 rfl ?_
    refine go_get (.int (gm_r μ 78 12)) dX10_want_22 fX10_111 (g_lt rfl) (gs_78 G _ _) rfl ?_
    refine go_if_ne 32 dX10_want_25 (by decide) (fun c2 => ?_) (fun c2 => ?_)
    · have h := h.1 c2
      refine go_iconst (v := 0) dX10_want_32 (by decide) ?_
      exact go_zret dX10_want_33 rfl (Nat.le_refl _) (Nat.le_refl _) rfl ⟨_, rfl, h⟩
    · have h := h.2 c2
      refine go_iconst (v := 1) dX10_want_28 (by decide) ?_
      refine go_goto 33 dX10_want_29 (by decide) ?_
      exact go_zret dX10_want_33 rfl (Nat.le_refl _) (Nat.le_refl _) rfl ⟨_, rfl, h⟩
  · have h := h.2 c1
    refine go_aload_n dX10_want_4 rfl 0 rfl ?_
    refine go_get (.int (gm_r μ 78 12)) dX10_want_5 fX10_111 (g_lt rfl) (gs_78 G _ _) rfl ?_
    refine go_if_ne 21 dX10_want_8 (by decide) (fun c3 => ?_) (fun c3 => ?_)
    · have h := h.1 c3
      refine go_aload_n dX10_want_21 rfl 0 rfl ?_
      refine go_get (.int (gm_r μ 78 12)) dX10_want_22 fX10_111 (g_lt rfl) (gs_78 G _ _) rfl ?_
      refine go_if_ne 32 dX10_want_25 (by decide) (fun c4 => ?_) (fun c4 => ?_)
      · have h := h.1 c4
        refine go_iconst (v := 0) dX10_want_32 (by decide) ?_
        exact go_zret dX10_want_33 rfl (Nat.le_refl _) (Nat.le_refl _) rfl ⟨_, rfl, h⟩
      · have h := h.2 c4
        refine go_iconst (v := 1) dX10_want_28 (by decide) ?_
        refine go_goto 33 dX10_want_29 (by decide) ?_
        exact go_zret dX10_want_33 rfl (Nat.le_refl _) (Nat.le_refl _) rfl ⟨_, rfl, h⟩
    · have h := h.2 c3
      refine go_aload_n dX10_want_11 rfl 0 rfl ?_
      refine go_iload_n dX10_want_12 rfl 2 rfl ?_
      refine go_puti dX10_want_13 pX10_111 (g_lt rfl) (gs_78 G _ _) (Nat.le_of_ble_eq_true rfl) rfl ?_
      refine go_aload_n dX10_want_16 rfl 0 rfl ?_
      refine go_iload_n dX10_want_17 rfl 3 rfl ?_
      refine go_puti dX10_want_18 pX10_28 (g_lt rfl) (gs_78 G _ _) (Nat.le_of_ble_eq_true rfl) rfl ?_
      refine go_aload_n dX10_want_21 rfl 0 rfl ?_
      refine go_get (.int a2) dX10_want_22 fX10_111 (g_lt rfl) (gs_78 G _ _) rfl ?_
      refine go_if_ne 32 dX10_want_25 (by decide) (fun c5 => ?_) (fun c5 => ?_)
      · have h := h.1 c5
        refine go_iconst (v := 0) dX10_want_32 (by decide) ?_
        exact go_zret dX10_want_33 rfl (Nat.le_refl _) (Nat.le_refl _) rfl ⟨_, rfl, h⟩
      · have h := h.2 c5
        refine go_iconst (v := 1) dX10_want_28 (by decide) ?_
        refine go_goto 33 dX10_want_29 (by decide) ?_
        exact go_zret dX10_want_33 rfl (Nat.le_refl _) (Nat.le_refl _) rfl ⟨_, rfl, h⟩
set_option maxRecDepth 100000 in
theorem eX10_takeWord {G : gC} {l : Launch}  {μ : Mem} {P : Mem → Prop} (h : qX10_here G l  μ (fun (r2 : Int32) (μ1 : Mem) => hX10_takeWord_13 G l P  (gm_w μ1 78 10 (gm_r μ1 78 9)))) : qX10_takeWord G l  μ P := by
  refine Sp.of (by decide) (Nat.le_of_ble_eq_true rfl) (lv := [(0, .ref (ga G 78))]) rfl ?_
  refine go_aload_n dX10_takeWord_0 rfl 0 rfl ?_
  refine go_callV (As := []) (rest := []) dX10_takeWord_1 lX10_114 kX10_here rfl (by decide) (Nat.le_of_ble_eq_true rfl) (g_lt rfl) (gs_78 G _ _) rfl (by decide) rfl (gI_go (fun r2 μ1 h => ?_)) h
  refine go_istore_n [(0, .ref (ga G 78)), (1, .int r2)] [1, 0] dX10_takeWord_4 rfl (by decide) rfl ?_
  refine go_aload_n dX10_takeWord_5 rfl 0 rfl ?_
  refine go_aload_n dX10_takeWord_6 rfl 0 rfl ?_
  refine go_get (.int (gm_r μ1 78 9)) dX10_takeWord_7 fX10_108 (g_lt rfl) (gs_78 G _ _) rfl ?_
  refine go_puti dX10_takeWord_10 pX10_118 (g_lt rfl) (gs_78 G _ _) (Nat.le_of_ble_eq_true rfl) rfl ?_
  exact go_sub [0] rfl h
set_option maxRecDepth 100000 in
theorem eX10_takeWord_13 {G : gC} {l : Launch} {P : Mem → Prop}  {μ : Mem} (h : (((gm_r μ 78 8) ≤ (gm_r μ 78 9)) → P (gm_w μ 78 11 ((gm_r μ 78 9) - (gm_r μ 78 10)))) ∧ ((¬ (gm_r μ 78 8) ≤ (gm_r μ 78 9)) → vp_in (gm_r μ 78 9) 400 ∧ qX10_in G l ((gm_r μ 84 (gm_r μ 78 9).toNatClampNeg)).toInt64 (97 : Int64) (122 : Int64) μ (fun (r6 : Int32) (μ5 : Mem) => ((r6 = 0) → P (gm_w μ5 78 11 ((gm_r μ5 78 9) - (gm_r μ5 78 10)))) ∧ ((¬ r6 = 0) → hX10_takeWord_13 G l P  (gm_w μ5 78 9 ((gm_r μ5 78 9) + (1 : Int32))))))) : hX10_takeWord_13 G l P  μ := by
  refine go_aload_n dX10_takeWord_13 rfl 0 rfl ?_
  refine go_get (.int (gm_r μ 78 9)) dX10_takeWord_14 fX10_108 (g_lt rfl) (gs_78 G _ _) rfl ?_
  refine go_aload_n dX10_takeWord_17 rfl 0 rfl ?_
  refine go_get (.int (gm_r μ 78 8)) dX10_takeWord_18 fX10_103 (g_lt rfl) (gs_78 G _ _) rfl ?_
  refine go_icmp_ge 59 dX10_takeWord_21 (by decide) (fun c3 => ?_) (fun c3 => ?_)
  · have h := h.1 c3
    refine go_aload_n dX10_takeWord_59 rfl 0 rfl ?_
    refine go_aload_n dX10_takeWord_60 rfl 0 rfl ?_
    refine go_get (.int (gm_r μ 78 9)) dX10_takeWord_61 fX10_108 (g_lt rfl) (gs_78 G _ _) rfl ?_
    refine go_aload_n dX10_takeWord_64 rfl 0 rfl ?_
    refine go_get (.int (gm_r μ 78 10)) dX10_takeWord_65 fX10_118 (g_lt rfl) (gs_78 G _ _) rfl ?_
    refine go_isub dX10_takeWord_68 ?_
    refine go_puti dX10_takeWord_69 pX10_125 (g_lt rfl) (gs_78 G _ _) (Nat.le_of_ble_eq_true rfl) rfl ?_
    exact go_vret dX10_takeWord_72 rfl (Nat.le_refl _) (Nat.le_refl _) ⟨rfl, h⟩
  · have h := h.2 c3
    refine go_aload_n dX10_takeWord_24 rfl 0 rfl ?_
    refine go_get (.ref (ga G 84)) dX10_takeWord_25 fX10_25 (g_lt rfl) (gs_78 G _ _) rfl ?_
    refine go_aload_n dX10_takeWord_28 rfl 0 rfl ?_
    refine go_get (.int (gm_r μ 78 9)) dX10_takeWord_29 fX10_108 (g_lt rfl) (gs_78 G _ _) rfl ?_
    obtain ⟨b4, h⟩ := h
    refine go_ialdv ((gm_r μ 84 (gm_r μ 78 9).toNatClampNeg)) dX10_takeWord_32 (g_lt rfl) (gs_84 G) b4 rfl ?_
    refine go_i2l dX10_takeWord_33 ?_
    refine go_ldc2_w (v := 97) (g_in 1099 (by decide +kernel) rfl) dX10_takeWord_34 ?_
    refine go_ldc2_w (v := 122) (g_in 1100 (by decide +kernel) rfl) dX10_takeWord_37 ?_
    refine go_callS (As := [.long ((gm_r μ 84 (gm_r μ 78 9).toNatClampNeg)).toInt64, .long (97 : Int64), .long (122 : Int64)]) (rest := []) dX10_takeWord_40 lX10_99 kX10_in rfl (by decide) (Nat.le_of_ble_eq_true rfl) (by decide) rfl (gI_go (fun r6 μ5 h => ?_)) h
    refine go_if_eq 59 dX10_takeWord_43 (by decide) (fun c7 => ?_) (fun c7 => ?_)
    · have h := h.1 c7
      refine go_aload_n dX10_takeWord_59 rfl 0 rfl ?_
      refine go_aload_n dX10_takeWord_60 rfl 0 rfl ?_
      refine go_get (.int (gm_r μ5 78 9)) dX10_takeWord_61 fX10_108 (g_lt rfl) (gs_78 G _ _) rfl ?_
      refine go_aload_n dX10_takeWord_64 rfl 0 rfl ?_
      refine go_get (.int (gm_r μ5 78 10)) dX10_takeWord_65 fX10_118 (g_lt rfl) (gs_78 G _ _) rfl ?_
      refine go_isub dX10_takeWord_68 ?_
      refine go_puti dX10_takeWord_69 pX10_125 (g_lt rfl) (gs_78 G _ _) (Nat.le_of_ble_eq_true rfl) rfl ?_
      exact go_vret dX10_takeWord_72 rfl (Nat.le_refl _) (Nat.le_refl _) ⟨rfl, h⟩
    · have h := h.2 c7
      refine go_aload_n dX10_takeWord_46 rfl 0 rfl ?_
      refine go_dup dX10_takeWord_47 rfl ?_
      refine go_get (.int (gm_r μ5 78 9)) dX10_takeWord_48 fX10_108 (g_lt rfl) (gs_78 G _ _) rfl ?_
      refine go_iconst (v := 1) dX10_takeWord_51 (by decide) ?_
      refine go_iadd dX10_takeWord_52 ?_
      refine go_puti dX10_takeWord_53 pX10_108 (g_lt rfl) (gs_78 G _ _) (Nat.le_of_ble_eq_true rfl) rfl ?_
      refine go_goto 13 dX10_takeWord_56 (by decide) ?_
      exact h
set_option maxRecDepth 100000 in
theorem eX10_isWord {G : gC} {l : Launch} {a1 : Int32} {a2 : Int32} {a3 : Int32} {a4 : Int32} {a5 : Int32} {a6 : Int32} {μ : Mem} {P : Int32 → Mem → Prop} (h : ((¬ (gm_r μ 78 11) = a1) → hX10_isWord_18 G l P a1 a2 a3 a4 a5 a6 (0 : Int32) (0 : Int32) μ) ∧ (((gm_r μ 78 11) = a1) → hX10_isWord_18 G l P a1 a2 a3 a4 a5 a6 (1 : Int32) (0 : Int32) μ)) : qX10_isWord G l a1 a2 a3 a4 a5 a6 μ P := by
  refine Sp.of (by decide) (Nat.le_of_ble_eq_true rfl) (lv := [(0, .ref (ga G 78)), (1, .int a1), (2, .int a2), (3, .int a3), (4, .int a4), (5, .int a5), (6, .int a6)]) rfl ?_
  refine go_aload_n dX10_isWord_0 rfl 0 rfl ?_
  refine go_get (.int (gm_r μ 78 11)) dX10_isWord_1 fX10_125 (g_lt rfl) (gs_78 G _ _) rfl ?_
  refine go_iload_n dX10_isWord_4 rfl 1 rfl ?_
  refine go_icmp_ne 12 dX10_isWord_5 (by decide) (fun c1 => ?_) (fun c1 => ?_)
  · have h := h.1 c1
    refine go_iconst (v := 0) dX10_isWord_12 (by decide) ?_
    refine go_istore [(0, .ref (ga G 78)), (1, .int a1), (2, .int a2), (3, .int a3), (4, .int a4), (5, .int a5), (6, .int a6), (7, .int (0 : Int32))] [1, 2, 3, 4, 5, 6, 7, 0] dX10_isWord_13 (by decide) rfl ?_
    refine go_iconst (v := 0) dX10_isWord_15 (by decide) ?_
    refine go_istore [(0, .ref (ga G 78)), (1, .int a1), (2, .int a2), (3, .int a3), (4, .int a4), (5, .int a5), (6, .int a6), (7, .int (0 : Int32)), (8, .int (0 : Int32))] [1, 2, 3, 4, 5, 6, 7, 8, 0] dX10_isWord_16 (by decide) rfl ?_
    exact h
  · have h := h.2 c1
    refine go_iconst (v := 1) dX10_isWord_8 (by decide) ?_
    refine go_goto 13 dX10_isWord_9 (by decide) ?_
    refine go_istore [(0, .ref (ga G 78)), (1, .int a1), (2, .int a2), (3, .int a3), (4, .int a4), (5, .int a5), (6, .int a6), (7, .int (1 : Int32))] [1, 2, 3, 4, 5, 6, 7, 0] dX10_isWord_13 (by decide) rfl ?_
    refine go_iconst (v := 0) dX10_isWord_15 (by decide) ?_
    refine go_istore [(0, .ref (ga G 78)), (1, .int a1), (2, .int a2), (3, .int a3), (4, .int a4), (5, .int a5), (6, .int a6), (7, .int (1 : Int32)), (8, .int (0 : Int32))] [1, 2, 3, 4, 5, 6, 7, 8, 0] dX10_isWord_16 (by decide) rfl ?_
    exact h
set_option maxRecDepth 100000 in
theorem eX10_isWord_18 {G : gC} {l : Launch} {P : Int32 → Mem → Prop} {x1 : Int32} {x2 : Int32} {x3 : Int32} {x4 : Int32} {x5 : Int32} {x6 : Int32} {x7 : Int32} {x8 : Int32} {μ : Mem} (h : ((x1 ≤ x8) → (narrow .boolean (.int x7) = .int x7) ∧ P x7 μ) ∧ ((¬ x1 ≤ x8) → ((x7 = 0) → (narrow .boolean (.int x7) = .int x7) ∧ P x7 μ) ∧ ((¬ x7 = 0) → vp_in ((gm_r μ 78 10) + x8) 400 ∧ ((¬ x8 = 0) → ((¬ x8 = (1 : Int32)) → ((¬ x8 = (2 : Int32)) → ((¬ x8 = (3 : Int32)) → ((¬ (gm_r μ 84 ((gm_r μ 78 10) + x8).toNatClampNeg) = x6) → hX10_isWord_18 G l P x1 x2 x3 x4 x5 x6 (0 : Int32) (x8 + (1 : Int32)) μ) ∧ (((gm_r μ 84 ((gm_r μ 78 10) + x8).toNatClampNeg) = x6) → hX10_isWord_18 G l P x1 x2 x3 x4 x5 x6 (1 : Int32) (x8 + (1 : Int32)) μ)) ∧ ((x8 = (3 : Int32)) → ((¬ (gm_r μ 84 ((gm_r μ 78 10) + x8).toNatClampNeg) = x5) → hX10_isWord_18 G l P x1 x2 x3 x4 x5 x6 (0 : Int32) (x8 + (1 : Int32)) μ) ∧ (((gm_r μ 84 ((gm_r μ 78 10) + x8).toNatClampNeg) = x5) → hX10_isWord_18 G l P x1 x2 x3 x4 x5 x6 (1 : Int32) (x8 + (1 : Int32)) μ))) ∧ ((x8 = (2 : Int32)) → ((¬ (gm_r μ 84 ((gm_r μ 78 10) + x8).toNatClampNeg) = x4) → hX10_isWord_18 G l P x1 x2 x3 x4 x5 x6 (0 : Int32) (x8 + (1 : Int32)) μ) ∧ (((gm_r μ 84 ((gm_r μ 78 10) + x8).toNatClampNeg) = x4) → hX10_isWord_18 G l P x1 x2 x3 x4 x5 x6 (1 : Int32) (x8 + (1 : Int32)) μ))) ∧ ((x8 = (1 : Int32)) → ((¬ (gm_r μ 84 ((gm_r μ 78 10) + x8).toNatClampNeg) = x3) → hX10_isWord_18 G l P x1 x2 x3 x4 x5 x6 (0 : Int32) (x8 + (1 : Int32)) μ) ∧ (((gm_r μ 84 ((gm_r μ 78 10) + x8).toNatClampNeg) = x3) → hX10_isWord_18 G l P x1 x2 x3 x4 x5 x6 (1 : Int32) (x8 + (1 : Int32)) μ))) ∧ ((x8 = 0) → ((¬ (gm_r μ 84 ((gm_r μ 78 10) + x8).toNatClampNeg) = x2) → hX10_isWord_18 G l P x1 x2 x3 x4 x5 x6 (0 : Int32) (x8 + (1 : Int32)) μ) ∧ (((gm_r μ 84 ((gm_r μ 78 10) + x8).toNatClampNeg) = x2) → hX10_isWord_18 G l P x1 x2 x3 x4 x5 x6 (1 : Int32) (x8 + (1 : Int32)) μ))))) : hX10_isWord_18 G l P x1 x2 x3 x4 x5 x6 x7 x8 μ := by
  refine go_iload dX10_isWord_18 8 rfl ?_
  refine go_iload_n dX10_isWord_20 rfl 1 rfl ?_
  refine go_icmp_ge 100 dX10_isWord_21 (by decide) (fun c2 => ?_) (fun c2 => ?_)
  · have h := h.1 c2
    refine go_iload dX10_isWord_100 7 rfl ?_
    exact go_zret dX10_isWord_102 rfl (Nat.le_refl _) (Nat.le_refl _) h.1 ⟨_, rfl, h.2⟩
  · have h := h.2 c2
    refine go_iload dX10_isWord_24 7 rfl ?_
    refine go_if_eq 100 dX10_isWord_26 (by decide) (fun c3 => ?_) (fun c3 => ?_)
    · have h := h.1 c3
      refine go_iload dX10_isWord_100 7 rfl ?_
      exact go_zret dX10_isWord_102 rfl (Nat.le_refl _) (Nat.le_refl _) h.1 ⟨_, rfl, h.2⟩
    · have h := h.2 c3
      refine go_aload_n dX10_isWord_29 rfl 0 rfl ?_
      refine go_get (.ref (ga G 84)) dX10_isWord_30 fX10_25 (g_lt rfl) (gs_78 G _ _) rfl ?_
      refine go_aload_n dX10_isWord_33 rfl 0 rfl ?_
      refine go_get (.int (gm_r μ 78 10)) dX10_isWord_34 fX10_118 (g_lt rfl) (gs_78 G _ _) rfl ?_
      refine go_iload dX10_isWord_37 8 rfl ?_
      refine go_iadd dX10_isWord_39 ?_
      obtain ⟨b4, h⟩ := h
      refine go_ialdv ((gm_r μ 84 ((gm_r μ 78 10) + x8).toNatClampNeg)) dX10_isWord_40 (g_lt rfl) (gs_84 G) b4 rfl ?_
      refine go_iload dX10_isWord_41 8 rfl ?_
      refine go_if_ne 50 dX10_isWord_43 (by decide) (fun c5 => ?_) (fun c5 => ?_)
      · have h := h.1 c5
        refine go_iload dX10_isWord_50 8 rfl ?_
        refine go_iconst (v := 1) dX10_isWord_52 (by decide) ?_
        refine go_icmp_ne 60 dX10_isWord_53 (by decide) (fun c6 => ?_) (fun c6 => ?_)
        · have h := h.1 c6
          refine go_iload dX10_isWord_60 8 rfl ?_
          refine go_iconst (v := 2) dX10_isWord_62 (by decide) ?_
          refine go_icmp_ne 71 dX10_isWord_63 (by decide) (fun c7 => ?_) (fun c7 => ?_)
          · have h := h.1 c7
            refine go_iload dX10_isWord_71 8 rfl ?_
            refine go_iconst (v := 3) dX10_isWord_73 (by decide) ?_
            refine go_icmp_ne 82 dX10_isWord_74 (by decide) (fun c8 => ?_) (fun c8 => ?_)
            · have h := h.1 c8
              refine go_iload dX10_isWord_82 6 rfl ?_
              refine go_icmp_ne 91 dX10_isWord_84 (by decide) (fun c9 => ?_) (fun c9 => ?_)
              · have h := h.1 c9
                refine go_iconst (v := 0) dX10_isWord_91 (by decide) ?_
                refine go_istore [(0, .ref (ga G 78)), (1, .int x1), (2, .int x2), (3, .int x3), (4, .int x4), (5, .int x5), (6, .int x6), (7, .int (0 : Int32)), (8, .int x8)] [1, 2, 3, 4, 5, 6, 7, 0, 8] dX10_isWord_92 (by decide) rfl ?_
                refine go_iinc (v := (x8 + (1 : Int32))) [(0, .ref (ga G 78)), (1, .int x1), (2, .int x2), (3, .int x3), (4, .int x4), (5, .int x5), (6, .int x6), (7, .int (0 : Int32)), (8, .int (x8 + (1 : Int32)))] [1, 2, 3, 4, 5, 6, 7, 8, 0] 8 dX10_isWord_94 rfl rfl (by decide) rfl ?_
                refine go_goto 18 dX10_isWord_97 (by decide) ?_
                exact h
              · have h := h.2 c9
                refine go_iconst (v := 1) dX10_isWord_87 (by decide) ?_
                refine go_goto 92 dX10_isWord_88 (by decide) ?_
                refine go_istore [(0, .ref (ga G 78)), (1, .int x1), (2, .int x2), (3, .int x3), (4, .int x4), (5, .int x5), (6, .int x6), (7, .int (1 : Int32)), (8, .int x8)] [1, 2, 3, 4, 5, 6, 7, 0, 8] dX10_isWord_92 (by decide) rfl ?_
                refine go_iinc (v := (x8 + (1 : Int32))) [(0, .ref (ga G 78)), (1, .int x1), (2, .int x2), (3, .int x3), (4, .int x4), (5, .int x5), (6, .int x6), (7, .int (1 : Int32)), (8, .int (x8 + (1 : Int32)))] [1, 2, 3, 4, 5, 6, 7, 8, 0] 8 dX10_isWord_94 rfl rfl (by decide) rfl ?_
                refine go_goto 18 dX10_isWord_97 (by decide) ?_
                exact h
            · have h := h.2 c8
              refine go_iload dX10_isWord_77 5 rfl ?_
              refine go_goto 84 dX10_isWord_79 (by decide) ?_
              refine go_icmp_ne 91 dX10_isWord_84 (by decide) (fun c10 => ?_) (fun c10 => ?_)
              · have h := h.1 c10
                refine go_iconst (v := 0) dX10_isWord_91 (by decide) ?_
                refine go_istore [(0, .ref (ga G 78)), (1, .int x1), (2, .int x2), (3, .int x3), (4, .int x4), (5, .int x5), (6, .int x6), (7, .int (0 : Int32)), (8, .int x8)] [1, 2, 3, 4, 5, 6, 7, 0, 8] dX10_isWord_92 (by decide) rfl ?_
                refine go_iinc (v := (x8 + (1 : Int32))) [(0, .ref (ga G 78)), (1, .int x1), (2, .int x2), (3, .int x3), (4, .int x4), (5, .int x5), (6, .int x6), (7, .int (0 : Int32)), (8, .int (x8 + (1 : Int32)))] [1, 2, 3, 4, 5, 6, 7, 8, 0] 8 dX10_isWord_94 rfl rfl (by decide) rfl ?_
                refine go_goto 18 dX10_isWord_97 (by decide) ?_
                exact h
              · have h := h.2 c10
                refine go_iconst (v := 1) dX10_isWord_87 (by decide) ?_
                refine go_goto 92 dX10_isWord_88 (by decide) ?_
                refine go_istore [(0, .ref (ga G 78)), (1, .int x1), (2, .int x2), (3, .int x3), (4, .int x4), (5, .int x5), (6, .int x6), (7, .int (1 : Int32)), (8, .int x8)] [1, 2, 3, 4, 5, 6, 7, 0, 8] dX10_isWord_92 (by decide) rfl ?_
                refine go_iinc (v := (x8 + (1 : Int32))) [(0, .ref (ga G 78)), (1, .int x1), (2, .int x2), (3, .int x3), (4, .int x4), (5, .int x5), (6, .int x6), (7, .int (1 : Int32)), (8, .int (x8 + (1 : Int32)))] [1, 2, 3, 4, 5, 6, 7, 8, 0] 8 dX10_isWord_94 rfl rfl (by decide) rfl ?_
                refine go_goto 18 dX10_isWord_97 (by decide) ?_
                exact h
          · have h := h.2 c7
            refine go_iload dX10_isWord_66 4 rfl ?_
            refine go_goto 84 dX10_isWord_68 (by decide) ?_
            refine go_icmp_ne 91 dX10_isWord_84 (by decide) (fun c11 => ?_) (fun c11 => ?_)
            · have h := h.1 c11
              refine go_iconst (v := 0) dX10_isWord_91 (by decide) ?_
              refine go_istore [(0, .ref (ga G 78)), (1, .int x1), (2, .int x2), (3, .int x3), (4, .int x4), (5, .int x5), (6, .int x6), (7, .int (0 : Int32)), (8, .int x8)] [1, 2, 3, 4, 5, 6, 7, 0, 8] dX10_isWord_92 (by decide) rfl ?_
              refine go_iinc (v := (x8 + (1 : Int32))) [(0, .ref (ga G 78)), (1, .int x1), (2, .int x2), (3, .int x3), (4, .int x4), (5, .int x5), (6, .int x6), (7, .int (0 : Int32)), (8, .int (x8 + (1 : Int32)))] [1, 2, 3, 4, 5, 6, 7, 8, 0] 8 dX10_isWord_94 rfl rfl (by decide) rfl ?_
              refine go_goto 18 dX10_isWord_97 (by decide) ?_
              exact h
            · have h := h.2 c11
              refine go_iconst (v := 1) dX10_isWord_87 (by decide) ?_
              refine go_goto 92 dX10_isWord_88 (by decide) ?_
              refine go_istore [(0, .ref (ga G 78)), (1, .int x1), (2, .int x2), (3, .int x3), (4, .int x4), (5, .int x5), (6, .int x6), (7, .int (1 : Int32)), (8, .int x8)] [1, 2, 3, 4, 5, 6, 7, 0, 8] dX10_isWord_92 (by decide) rfl ?_
              refine go_iinc (v := (x8 + (1 : Int32))) [(0, .ref (ga G 78)), (1, .int x1), (2, .int x2), (3, .int x3), (4, .int x4), (5, .int x5), (6, .int x6), (7, .int (1 : Int32)), (8, .int (x8 + (1 : Int32)))] [1, 2, 3, 4, 5, 6, 7, 8, 0] 8 dX10_isWord_94 rfl rfl (by decide) rfl ?_
              refine go_goto 18 dX10_isWord_97 (by decide) ?_
              exact h
        · have h := h.2 c6
          refine go_iload_n dX10_isWord_56 rfl 3 rfl ?_
          refine go_goto 84 dX10_isWord_57 (by decide) ?_
          refine go_icmp_ne 91 dX10_isWord_84 (by decide) (fun c12 => ?_) (fun c12 => ?_)
          · have h := h.1 c12
            refine go_iconst (v := 0) dX10_isWord_91 (by decide) ?_
            refine go_istore [(0, .ref (ga G 78)), (1, .int x1), (2, .int x2), (3, .int x3), (4, .int x4), (5, .int x5), (6, .int x6), (7, .int (0 : Int32)), (8, .int x8)] [1, 2, 3, 4, 5, 6, 7, 0, 8] dX10_isWord_92 (by decide) rfl ?_
            refine go_iinc (v := (x8 + (1 : Int32))) [(0, .ref (ga G 78)), (1, .int x1), (2, .int x2), (3, .int x3), (4, .int x4), (5, .int x5), (6, .int x6), (7, .int (0 : Int32)), (8, .int (x8 + (1 : Int32)))] [1, 2, 3, 4, 5, 6, 7, 8, 0] 8 dX10_isWord_94 rfl rfl (by decide) rfl ?_
            refine go_goto 18 dX10_isWord_97 (by decide) ?_
            exact h
          · have h := h.2 c12
            refine go_iconst (v := 1) dX10_isWord_87 (by decide) ?_
            refine go_goto 92 dX10_isWord_88 (by decide) ?_
            refine go_istore [(0, .ref (ga G 78)), (1, .int x1), (2, .int x2), (3, .int x3), (4, .int x4), (5, .int x5), (6, .int x6), (7, .int (1 : Int32)), (8, .int x8)] [1, 2, 3, 4, 5, 6, 7, 0, 8] dX10_isWord_92 (by decide) rfl ?_
            refine go_iinc (v := (x8 + (1 : Int32))) [(0, .ref (ga G 78)), (1, .int x1), (2, .int x2), (3, .int x3), (4, .int x4), (5, .int x5), (6, .int x6), (7, .int (1 : Int32)), (8, .int (x8 + (1 : Int32)))] [1, 2, 3, 4, 5, 6, 7, 8, 0] 8 dX10_isWord_94 rfl rfl (by decide) rfl ?_
            refine go_goto 18 dX10_isWord_97 (by decide) ?_
            exact h
      · have h := h.2 c5
        refine go_iload_n dX10_isWord_46 rfl 2 rfl ?_
        refine go_goto 84 dX10_isWord_47 (by decide) ?_
        refine go_icmp_ne 91 dX10_isWord_84 (by decide) (fun c13 => ?_) (fun c13 => ?_)
        · have h := h.1 c13
          refine go_iconst (v := 0) dX10_isWord_91 (by decide) ?_
          refine go_istore [(0, .ref (ga G 78)), (1, .int x1), (2, .int x2), (3, .int x3), (4, .int x4), (5, .int x5), (6, .int x6), (7, .int (0 : Int32)), (8, .int x8)] [1, 2, 3, 4, 5, 6, 7, 0, 8] dX10_isWord_92 (by decide) rfl ?_
          refine go_iinc (v := (x8 + (1 : Int32))) [(0, .ref (ga G 78)), (1, .int x1), (2, .int x2), (3, .int x3), (4, .int x4), (5, .int x5), (6, .int x6), (7, .int (0 : Int32)), (8, .int (x8 + (1 : Int32)))] [1, 2, 3, 4, 5, 6, 7, 8, 0] 8 dX10_isWord_94 rfl rfl (by decide) rfl ?_
          refine go_goto 18 dX10_isWord_97 (by decide) ?_
          exact h
        · have h := h.2 c13
          refine go_iconst (v := 1) dX10_isWord_87 (by decide) ?_
          refine go_goto 92 dX10_isWord_88 (by decide) ?_
          refine go_istore [(0, .ref (ga G 78)), (1, .int x1), (2, .int x2), (3, .int x3), (4, .int x4), (5, .int x5), (6, .int x6), (7, .int (1 : Int32)), (8, .int x8)] [1, 2, 3, 4, 5, 6, 7, 0, 8] dX10_isWord_92 (by decide) rfl ?_
          refine go_iinc (v := (x8 + (1 : Int32))) [(0, .ref (ga G 78)), (1, .int x1), (2, .int x2), (3, .int x3), (4, .int x4), (5, .int x5), (6, .int x6), (7, .int (1 : Int32)), (8, .int (x8 + (1 : Int32)))] [1, 2, 3, 4, 5, 6, 7, 8, 0] 8 dX10_isWord_94 rfl rfl (by decide) rfl ?_
          refine go_goto 18 dX10_isWord_97 (by decide) ?_
          exact h
set_option maxRecDepth 100000 in
theorem eX10_kindOf {G : gC} {l : Launch}  {μ : Mem} {P : Int32 → Mem → Prop} (h : qX10_isWord G l (3 : Int32) (106 : Int32) (111 : Int32) (121 : Int32) (0 : Int32) (0 : Int32) μ (fun (r2 : Int32) (μ1 : Mem) => ((r2 = 0) → qX10_isWord G l (4 : Int32) (119 : Int32) (105 : Int32) (116 : Int32) (104 : Int32) (0 : Int32) μ1 (fun (r5 : Int32) (μ4 : Mem) => ((r5 = 0) → qX10_isWord G l (5 : Int32) (97 : Int32) (102 : Int32) (116 : Int32) (101 : Int32) (114 : Int32) μ4 (fun (r8 : Int32) (μ7 : Mem) => ((r8 = 0) → qX10_isWord G l (5 : Int32) (111 : Int32) (112 : Int32) (101 : Int32) (110 : Int32) (115 : Int32) μ7 (fun (r11 : Int32) (μ10 : Mem) => ((r11 = 0) → qX10_isWord G l (5 : Int32) (115 : Int32) (104 : Int32) (117 : Int32) (116 : Int32) (115 : Int32) μ10 (fun (r14 : Int32) (μ13 : Mem) => ((r14 = 0) → qX10_isWord G l (5 : Int32) (116 : Int32) (101 : Int32) (108 : Int32) (108 : Int32) (115 : Int32) μ13 (fun (r17 : Int32) (μ16 : Mem) => ((r17 = 0) → qX10_isWord G l (5 : Int32) (110 : Int32) (101 : Int32) (101 : Int32) (100 : Int32) (115 : Int32) μ16 (fun (r20 : Int32) (μ19 : Mem) => ((r20 = 0) → qX10_isWord G l (4 : Int32) (100 : Int32) (105 : Int32) (101 : Int32) (115 : Int32) (0 : Int32) μ19 (fun (r23 : Int32) (μ22 : Mem) => ((r23 = 0) → P (-1 : Int32) μ22) ∧ ((¬ r23 = 0) → P (7 : Int32) μ22))) ∧ ((¬ r20 = 0) → P (6 : Int32) μ19))) ∧ ((¬ r17 = 0) → P (5 : Int32) μ16))) ∧ ((¬ r14 = 0) → P (4 : Int32) μ13))) ∧ ((¬ r11 = 0) → P (3 : Int32) μ10))) ∧ ((¬ r8 = 0) → P (2 : Int32) μ7))) ∧ ((¬ r5 = 0) → P (1 : Int32) μ4))) ∧ ((¬ r2 = 0) → P (0 : Int32) μ1))) : qX10_kindOf G l  μ P := by
  refine Sp.of (by decide) (Nat.le_of_ble_eq_true rfl) (lv := [(0, .ref (ga G 78))]) rfl ?_
  refine go_aload_n dX10_kindOf_0 rfl 0 rfl ?_
  refine go_iconst (v := 3) dX10_kindOf_1 (by decide) ?_
  refine go_bipush (v := 106) dX10_kindOf_2 (by decide) ?_
  refine go_bipush (v := 111) dX10_kindOf_4 (by decide) ?_
  refine go_bipush (v := 121) dX10_kindOf_6 (by decide) ?_
  refine go_iconst (v := 0) dX10_kindOf_8 (by decide) ?_
  refine go_iconst (v := 0) dX10_kindOf_9 (by decide) ?_
  refine go_callV (As := [.int (3 : Int32), .int (106 : Int32), .int (111 : Int32), .int (121 : Int32), .int (0 : Int32), .int (0 : Int32)]) (rest := []) dX10_kindOf_10 lX10_128 kX10_isWord rfl (by decide) (Nat.le_of_ble_eq_true rfl) (g_lt rfl) (gs_78 G _ _) rfl (by decide) rfl (gI_go (fun r2 μ1 h => ?_)) h
  refine go_if_eq 18 dX10_kindOf_13 (by decide) (fun c3 => ?_) (fun c3 => ?_)
  · have h := h.1 c3
    refine go_aload_n dX10_kindOf_18 rfl 0 rfl ?_
    refine go_iconst (v := 4) dX10_kindOf_19 (by decide) ?_
    refine go_bipush (v := 119) dX10_kindOf_20 (by decide) ?_
    refine go_bipush (v := 105) dX10_kindOf_22 (by decide) ?_
    refine go_bipush (v := 116) dX10_kindOf_24 (by decide) ?_
    refine go_bipush (v := 104) dX10_kindOf_26 (by decide) ?_
    refine go_iconst (v := 0) dX10_kindOf_28 (by decide) ?_
    refine go_callV (As := [.int (4 : Int32), .int (119 : Int32), .int (105 : Int32), .int (116 : Int32), .int (104 : Int32), .int (0 : Int32)]) (rest := []) dX10_kindOf_29 lX10_128 kX10_isWord rfl (by decide) (Nat.le_of_ble_eq_true rfl) (g_lt rfl) (gs_78 G _ _) rfl (by decide) rfl (gI_go (fun r5 μ4 h => ?_)) h
    refine go_if_eq 37 dX10_kindOf_32 (by decide) (fun c6 => ?_) (fun c6 => ?_)
    · have h := h.1 c6
      refine go_aload_n dX10_kindOf_37 rfl 0 rfl ?_
      refine go_iconst (v := 5) dX10_kindOf_38 (by decide) ?_
      refine go_bipush (v := 97) dX10_kindOf_39 (by decide) ?_
      refine go_bipush (v := 102) dX10_kindOf_41 (by decide) ?_
      refine go_bipush (v := 116) dX10_kindOf_43 (by decide) ?_
      refine go_bipush (v := 101) dX10_kindOf_45 (by decide) ?_
      refine go_bipush (v := 114) dX10_kindOf_47 (by decide) ?_
      refine go_callV (As := [.int (5 : Int32), .int (97 : Int32), .int (102 : Int32), .int (116 : Int32), .int (101 : Int32), .int (114 : Int32)]) (rest := []) dX10_kindOf_49 lX10_128 kX10_isWord rfl (by decide) (Nat.le_of_ble_eq_true rfl) (g_lt rfl) (gs_78 G _ _) rfl (by decide) rfl (gI_go (fun r8 μ7 h => ?_)) h
      refine go_if_eq 57 dX10_kindOf_52 (by decide) (fun c9 => ?_) (fun c9 => ?_)
      · have h := h.1 c9
        refine go_aload_n dX10_kindOf_57 rfl 0 rfl ?_
        refine go_iconst (v := 5) dX10_kindOf_58 (by decide) ?_
        refine go_bipush (v := 111) dX10_kindOf_59 (by decide) ?_
        refine go_bipush (v := 112) dX10_kindOf_61 (by decide) ?_
        refine go_bipush (v := 101) dX10_kindOf_63 (by decide) ?_
        refine go_bipush (v := 110) dX10_kindOf_65 (by decide) ?_
        refine go_bipush (v := 115) dX10_kindOf_67 (by decide) ?_
        refine go_callV (As := [.int (5 : Int32), .int (111 : Int32), .int (112 : Int32), .int (101 : Int32), .int (110 : Int32), .int (115 : Int32)]) (rest := []) dX10_kindOf_69 lX10_128 kX10_isWord rfl (by decide) (Nat.le_of_ble_eq_true rfl) (g_lt rfl) (gs_78 G _ _) rfl (by decide) rfl (gI_go (fun r11 μ10 h => ?_)) h
        refine go_if_eq 77 dX10_kindOf_72 (by decide) (fun c12 => ?_) (fun c12 => ?_)
        · have h := h.1 c12
          refine go_aload_n dX10_kindOf_77 rfl 0 rfl ?_
          refine go_iconst (v := 5) dX10_kindOf_78 (by decide) ?_
          refine go_bipush (v := 115) dX10_kindOf_79 (by decide) ?_
          refine go_bipush (v := 104) dX10_kindOf_81 (by decide) ?_
          refine go_bipush (v := 117) dX10_kindOf_83 (by decide) ?_
          refine go_bipush (v := 116) dX10_kindOf_85 (by decide) ?_
          refine go_bipush (v := 115) dX10_kindOf_87 (by decide) ?_
          refine go_callV (As := [.int (5 : Int32), .int (115 : Int32), .int (104 : Int32), .int (117 : Int32), .int (116 : Int32), .int (115 : Int32)]) (rest := []) dX10_kindOf_89 lX10_128 kX10_isWord rfl (by decide) (Nat.le_of_ble_eq_true rfl) (g_lt rfl) (gs_78 G _ _) rfl (by decide) rfl (gI_go (fun r14 μ13 h => ?_)) h
          refine go_if_eq 97 dX10_kindOf_92 (by decide) (fun c15 => ?_) (fun c15 => ?_)
          · have h := h.1 c15
            refine go_aload_n dX10_kindOf_97 rfl 0 rfl ?_
            refine go_iconst (v := 5) dX10_kindOf_98 (by decide) ?_
            refine go_bipush (v := 116) dX10_kindOf_99 (by decide) ?_
            refine go_bipush (v := 101) dX10_kindOf_101 (by decide) ?_
            refine go_bipush (v := 108) dX10_kindOf_103 (by decide) ?_
            refine go_bipush (v := 108) dX10_kindOf_105 (by decide) ?_
            refine go_bipush (v := 115) dX10_kindOf_107 (by decide) ?_
            refine go_callV (As := [.int (5 : Int32), .int (116 : Int32), .int (101 : Int32), .int (108 : Int32), .int (108 : Int32), .int (115 : Int32)]) (rest := []) dX10_kindOf_109 lX10_128 kX10_isWord rfl (by decide) (Nat.le_of_ble_eq_true rfl) (g_lt rfl) (gs_78 G _ _) rfl (by decide) rfl (gI_go (fun r17 μ16 h => ?_)) h
            refine go_if_eq 117 dX10_kindOf_112 (by decide) (fun c18 => ?_) (fun c18 => ?_)
            · have h := h.1 c18
              refine go_aload_n dX10_kindOf_117 rfl 0 rfl ?_
              refine go_iconst (v := 5) dX10_kindOf_118 (by decide) ?_
              refine go_bipush (v := 110) dX10_kindOf_119 (by decide) ?_
              refine go_bipush (v := 101) dX10_kindOf_121 (by decide) ?_
              refine go_bipush (v := 101) dX10_kindOf_123 (by decide) ?_
              refine go_bipush (v := 100) dX10_kindOf_125 (by decide) ?_
              refine go_bipush (v := 115) dX10_kindOf_127 (by decide) ?_
              refine go_callV (As := [.int (5 : Int32), .int (110 : Int32), .int (101 : Int32), .int (101 : Int32), .int (100 : Int32), .int (115 : Int32)]) (rest := []) dX10_kindOf_129 lX10_128 kX10_isWord rfl (by decide) (Nat.le_of_ble_eq_true rfl) (g_lt rfl) (gs_78 G _ _) rfl (by decide) rfl (gI_go (fun r20 μ19 h => ?_)) h
              refine go_if_eq 138 dX10_kindOf_132 (by decide) (fun c21 => ?_) (fun c21 => ?_)
              · have h := h.1 c21
                refine go_aload_n dX10_kindOf_138 rfl 0 rfl ?_
                refine go_iconst (v := 4) dX10_kindOf_139 (by decide) ?_
                refine go_bipush (v := 100) dX10_kindOf_140 (by decide) ?_
                refine go_bipush (v := 105) dX10_kindOf_142 (by decide) ?_
                refine go_bipush (v := 101) dX10_kindOf_144 (by decide) ?_
                refine go_bipush (v := 115) dX10_kindOf_146 (by decide) ?_
                refine go_iconst (v := 0) dX10_kindOf_148 (by decide) ?_
                refine go_callV (As := [.int (4 : Int32), .int (100 : Int32), .int (105 : Int32), .int (101 : Int32), .int (115 : Int32), .int (0 : Int32)]) (rest := []) dX10_kindOf_149 lX10_128 kX10_isWord rfl (by decide) (Nat.le_of_ble_eq_true rfl) (g_lt rfl) (gs_78 G _ _) rfl (by decide) rfl (gI_go (fun r23 μ22 h => ?_)) h
                refine go_if_eq 160 dX10_kindOf_152 (by decide) (fun c24 => ?_) (fun c24 => ?_)
                · have h := h.1 c24
                  refine go_iconst (v := -1) dX10_kindOf_160 (by decide) ?_
                  exact go_iret dX10_kindOf_161 rfl (Nat.le_refl _) (Nat.le_refl _) ⟨_, rfl, h⟩
                · have h := h.2 c24
                  refine go_bipush (v := 7) dX10_kindOf_155 (by decide) ?_
                  refine go_goto 161 dX10_kindOf_157 (by decide) ?_
                  exact go_iret dX10_kindOf_161 rfl (Nat.le_refl _) (Nat.le_refl _) ⟨_, rfl, h⟩
              · have h := h.2 c21
                refine go_bipush (v := 6) dX10_kindOf_135 (by decide) ?_
                exact go_iret dX10_kindOf_137 rfl (Nat.le_refl _) (Nat.le_refl _) ⟨_, rfl, h⟩
            · have h := h.2 c18
              refine go_iconst (v := 5) dX10_kindOf_115 (by decide) ?_
              exact go_iret dX10_kindOf_116 rfl (Nat.le_refl _) (Nat.le_refl _) ⟨_, rfl, h⟩
          · have h := h.2 c15
            refine go_iconst (v := 4) dX10_kindOf_95 (by decide) ?_
            exact go_iret dX10_kindOf_96 rfl (Nat.le_refl _) (Nat.le_refl _) ⟨_, rfl, h⟩
        · have h := h.2 c12
          refine go_iconst (v := 3) dX10_kindOf_75 (by decide) ?_
          exact go_iret dX10_kindOf_76 rfl (Nat.le_refl _) (Nat.le_refl _) ⟨_, rfl, h⟩
      · have h := h.2 c9
        refine go_iconst (v := 2) dX10_kindOf_55 (by decide) ?_
        exact go_iret dX10_kindOf_56 rfl (Nat.le_refl _) (Nat.le_refl _) ⟨_, rfl, h⟩
    · have h := h.2 c6
      refine go_iconst (v := 1) dX10_kindOf_35 (by decide) ?_
      exact go_iret dX10_kindOf_36 rfl (Nat.le_refl _) (Nat.le_refl _) ⟨_, rfl, h⟩
  · have h := h.2 c3
    refine go_iconst (v := 0) dX10_kindOf_16 (by decide) ?_
    exact go_iret dX10_kindOf_17 rfl (Nat.le_refl _) (Nat.le_refl _) ⟨_, rfl, h⟩
set_option maxRecDepth 100000 in
theorem eX10_takeNumber {G : gC} {l : Launch} {a1 : Int32} {a2 : Int32} {μ : Mem} {P : Int32 → Mem → Prop} (h : (((gm_r μ 78 12) ≤ 0) → qX10_here G l  μ (fun (r3 : Int32) (μ2 : Mem) => qX10_in G l (r3).toInt64 (48 : Int64) (57 : Int64) (gm_w μ2 78 10 (gm_r μ2 78 9)) (fun (r5 : Int32) (μ4 : Mem) => qX10_want G l r5 (1 : Int32) (gm_r μ4 78 9) μ4 (fun (r7 : Int32) (μ6 : Mem) => ((¬ r7 = 0) → hX10_takeNumber_50 G l P a1 a2 (0 : Int32) μ6) ∧ ((r7 = 0) → P (0 : Int32) μ6))))) ∧ ((¬ (gm_r μ 78 12) ≤ 0) → P (0 : Int32) μ)) : qX10_takeNumber G l a1 a2 μ P := by
  refine Sp.of (by decide) (Nat.le_of_ble_eq_true rfl) (lv := [(0, .ref (ga G 78)), (1, .int a1), (2, .int a2)]) rfl ?_
  refine go_aload_n dX10_takeNumber_0 rfl 0 rfl ?_
  refine go_get (.int (gm_r μ 78 12)) dX10_takeNumber_1 fX10_111 (g_lt rfl) (gs_78 G _ _) rfl ?_
  refine go_if_le 9 dX10_takeNumber_4 (by decide) (fun c1 => ?_) (fun c1 => ?_)
  · have h := h.1 c1
    refine go_aload_n dX10_takeNumber_9 rfl 0 rfl ?_
    refine go_callV (As := []) (rest := []) dX10_takeNumber_10 lX10_114 kX10_here rfl (by decide) (Nat.le_of_ble_eq_true rfl) (g_lt rfl) (gs_78 G _ _) rfl (by decide) rfl (gI_go (fun r3 μ2 h => ?_)) h
    refine go_istore_n [(0, .ref (ga G 78)), (1, .int a1), (2, .int a2), (3, .int r3)] [1, 2, 3, 0] dX10_takeNumber_13 rfl (by decide) rfl ?_
    refine go_aload_n dX10_takeNumber_14 rfl 0 rfl ?_
    refine go_aload_n dX10_takeNumber_15 rfl 0 rfl ?_
    refine go_get (.int (gm_r μ2 78 9)) dX10_takeNumber_16 fX10_108 (g_lt rfl) (gs_78 G _ _) rfl ?_
    refine go_puti dX10_takeNumber_19 pX10_118 (g_lt rfl) (gs_78 G _ _) (Nat.le_of_ble_eq_true rfl) rfl ?_
    refine go_aload_n dX10_takeNumber_22 rfl 0 rfl ?_
    refine go_iload_n dX10_takeNumber_23 rfl 3 rfl ?_
    refine go_i2l dX10_takeNumber_24 ?_
    refine go_ldc2_w (v := 48) (g_in 1113 (by decide +kernel) rfl) dX10_takeNumber_25 ?_
    refine go_ldc2_w (v := 57) (g_in 1114 (by decide +kernel) rfl) dX10_takeNumber_28 ?_
    refine go_callS (As := [.long (r3).toInt64, .long (48 : Int64), .long (57 : Int64)]) (rest := [.ref (ga G 78)]) dX10_takeNumber_31 lX10_99 kX10_in rfl (by decide) (Nat.le_of_ble_eq_true rfl) (by decide) rfl (gI_go (fun r5 μ4 h => ?_)) h
    refine go_iconst (v := 1) dX10_takeNumber_34 (by decide) ?_
    refine go_aload_n dX10_takeNumber_35 rfl 0 rfl ?_
    refine go_get (.int (gm_r μ4 78 9)) dX10_takeNumber_36 fX10_108 (g_lt rfl) (gs_78 G _ _) rfl ?_
    refine go_callV (As := [.int r5, .int (1 : Int32), .int (gm_r μ4 78 9)]) (rest := []) dX10_takeNumber_39 lX10_136 kX10_want rfl (by decide) (Nat.le_of_ble_eq_true rfl) (g_lt rfl) (gs_78 G _ _) rfl (by decide) rfl (gI_go (fun r7 μ6 h => ?_)) h
    refine go_if_ne 47 dX10_takeNumber_42 (by decide) (fun c8 => ?_) (fun c8 => ?_)
    · have h := h.1 c8
      refine go_iconst (v := 0) dX10_takeNumber_47 (by decide) ?_
      refine go_istore [(0, .ref (ga G 78)), (1, .int a1), (2, .int a2), (3, .int r3), (4, .int (0 : Int32))] [1, 2, 3, 4, 0] dX10_takeNumber_48 (by decide) rfl ?_
      exact go_sub [0, 1, 2, 4] rfl h
    · have h := h.2 c8
      refine go_iconst (v := 0) dX10_takeNumber_45 (by decide) ?_
      exact go_iret dX10_takeNumber_46 rfl (Nat.le_refl _) (Nat.le_refl _) ⟨_, rfl, h⟩
  · have h := h.2 c1
    refine go_iconst (v := 0) dX10_takeNumber_7 (by decide) ?_
    exact go_iret dX10_takeNumber_8 rfl (Nat.le_refl _) (Nat.le_refl _) ⟨_, rfl, h⟩
set_option maxRecDepth 100000 in
theorem eX10_takeNumber_50 {G : gC} {l : Launch} {P : Int32 → Mem → Prop} {x1 : Int32} {x2 : Int32} {x4 : Int32} {μ : Mem} (h : (((gm_r μ 78 8) ≤ (gm_r μ 78 9)) → hX10_takeNumber_129 G l P x1 x2 x4 μ) ∧ ((¬ (gm_r μ 78 8) ≤ (gm_r μ 78 9)) → vp_in (gm_r μ 78 9) 400 ∧ qX10_in G l ((gm_r μ 84 (gm_r μ 78 9).toNatClampNeg)).toInt64 (48 : Int64) (57 : Int64) μ (fun (r12 : Int32) (μ11 : Mem) => ((r12 = 0) → hX10_takeNumber_129 G l P x1 x2 x4 μ11) ∧ ((¬ r12 = 0) → ((x4 ≤ (999 : Int32)) → vp_in (gm_r μ11 78 9) 400 ∧ ∀ v16 : Int32, v16 = ((((10 : Int32) * x4) + (gm_r μ11 84 (gm_r μ11 78 9).toNatClampNeg)) - (48 : Int32)) → hX10_takeNumber_50 G l P x1 x2 v16 (gm_w μ11 78 9 ((gm_r μ11 78 9) + (1 : Int32)))) ∧ ((¬ x4 ≤ (999 : Int32)) → hX10_takeNumber_50 G l P x1 x2 x4 (gm_w μ11 78 9 ((gm_r μ11 78 9) + (1 : Int32)))))))) : hX10_takeNumber_50 G l P x1 x2 x4 μ := by
  refine go_aload_n dX10_takeNumber_50 rfl 0 rfl ?_
  refine go_get (.int (gm_r μ 78 9)) dX10_takeNumber_51 fX10_108 (g_lt rfl) (gs_78 G _ _) rfl ?_
  refine go_aload_n dX10_takeNumber_54 rfl 0 rfl ?_
  refine go_get (.int (gm_r μ 78 8)) dX10_takeNumber_55 fX10_103 (g_lt rfl) (gs_78 G _ _) rfl ?_
  refine go_icmp_ge 129 dX10_takeNumber_58 (by decide) (fun c9 => ?_) (fun c9 => ?_)
  · have h := h.1 c9
    exact h
  · have h := h.2 c9
    refine go_aload_n dX10_takeNumber_61 rfl 0 rfl ?_
    refine go_get (.ref (ga G 84)) dX10_takeNumber_62 fX10_25 (g_lt rfl) (gs_78 G _ _) rfl ?_
    refine go_aload_n dX10_takeNumber_65 rfl 0 rfl ?_
    refine go_get (.int (gm_r μ 78 9)) dX10_takeNumber_66 fX10_108 (g_lt rfl) (gs_78 G _ _) rfl ?_
    obtain ⟨b10, h⟩ := h
    refine go_ialdv ((gm_r μ 84 (gm_r μ 78 9).toNatClampNeg)) dX10_takeNumber_69 (g_lt rfl) (gs_84 G) b10 rfl ?_
    refine go_i2l dX10_takeNumber_70 ?_
    refine go_ldc2_w (v := 48) (g_in 1113 (by decide +kernel) rfl) dX10_takeNumber_71 ?_
    refine go_ldc2_w (v := 57) (g_in 1114 (by decide +kernel) rfl) dX10_takeNumber_74 ?_
    refine go_callS (As := [.long ((gm_r μ 84 (gm_r μ 78 9).toNatClampNeg)).toInt64, .long (48 : Int64), .long (57 : Int64)]) (rest := []) dX10_takeNumber_77 lX10_99 kX10_in rfl (by decide) (Nat.le_of_ble_eq_true rfl) (by decide) rfl (gI_go (fun r12 μ11 h => ?_)) h
    refine go_if_eq 129 dX10_takeNumber_80 (by decide) (fun c13 => ?_) (fun c13 => ?_)
    · have h := h.1 c13
      exact h
    · have h := h.2 c13
      refine go_iload dX10_takeNumber_83 3 rfl ?_
      refine go_sipush (v := 999) dX10_takeNumber_85 (by decide) ?_
      refine go_icmp_le 96 dX10_takeNumber_88 (by decide) (fun c14 => ?_) (fun c14 => ?_)
      · have h := h.1 c14
        refine go_bipush (v := 10) dX10_takeNumber_96 (by decide) ?_
        refine go_iload dX10_takeNumber_98 3 rfl ?_
        refine go_imul dX10_takeNumber_100 ?_
        refine go_aload_n dX10_takeNumber_101 rfl 0 rfl ?_
        refine go_get (.ref (ga G 84)) dX10_takeNumber_102 fX10_25 (g_lt rfl) (gs_78 G _ _) rfl ?_
        refine go_aload_n dX10_takeNumber_105 rfl 0 rfl ?_
        refine go_get (.int (gm_r μ11 78 9)) dX10_takeNumber_106 fX10_108 (g_lt rfl) (gs_78 G _ _) rfl ?_
        obtain ⟨b15, h⟩ := h
        refine go_ialdv ((gm_r μ11 84 (gm_r μ11 78 9).toNatClampNeg)) dX10_takeNumber_109 (g_lt rfl) (gs_84 G) b15 rfl ?_
        refine go_iadd dX10_takeNumber_110 ?_
        refine go_bipush (v := 48) dX10_takeNumber_111 (by decide) ?_
        refine go_isub dX10_takeNumber_113 ?_
        refine go_topi (fun v16 e_v16 => ?_)
        have h := h v16 e_v16
        refine go_istore [(0, .ref (ga G 78)), (1, .int x1), (2, .int x2), (4, .int v16)] [1, 2, 3, 0] dX10_takeNumber_114 (by decide) rfl ?_
        refine go_aload_n dX10_takeNumber_116 rfl 0 rfl ?_
        refine go_dup dX10_takeNumber_117 rfl ?_
        refine go_get (.int (gm_r μ11 78 9)) dX10_takeNumber_118 fX10_108 (g_lt rfl) (gs_78 G _ _) rfl ?_
        refine go_iconst (v := 1) dX10_takeNumber_121 (by decide) ?_
        refine go_iadd dX10_takeNumber_122 ?_
        refine go_puti dX10_takeNumber_123 pX10_108 (g_lt rfl) (gs_78 G _ _) (Nat.le_of_ble_eq_true rfl) rfl ?_
        refine go_goto 50 dX10_takeNumber_126 (by decide) ?_
        exact h
      · have h := h.2 c14
        refine go_iload dX10_takeNumber_91 3 rfl ?_
        refine go_goto 114 dX10_takeNumber_93 (by decide) ?_
        refine go_istore [(0, .ref (ga G 78)), (1, .int x1), (2, .int x2), (4, .int x4)] [1, 2, 3, 0] dX10_takeNumber_114 (by decide) rfl ?_
        refine go_aload_n dX10_takeNumber_116 rfl 0 rfl ?_
        refine go_dup dX10_takeNumber_117 rfl ?_
        refine go_get (.int (gm_r μ11 78 9)) dX10_takeNumber_118 fX10_108 (g_lt rfl) (gs_78 G _ _) rfl ?_
        refine go_iconst (v := 1) dX10_takeNumber_121 (by decide) ?_
        refine go_iadd dX10_takeNumber_122 ?_
        refine go_puti dX10_takeNumber_123 pX10_108 (g_lt rfl) (gs_78 G _ _) (Nat.le_of_ble_eq_true rfl) rfl ?_
        refine go_goto 50 dX10_takeNumber_126 (by decide) ?_
        exact h
set_option maxRecDepth 100000 in
theorem eX10_takeNumber_129 {G : gC} {l : Launch} {P : Int32 → Mem → Prop} {x1 : Int32} {x2 : Int32} {x4 : Int32} {μ : Mem} (h : (((3 : Int32) ≤ ((gm_r μ 78 9) - (gm_r μ 78 10))) → qX10_want G l (0 : Int32) (2 : Int32) (gm_r μ 78 10) μ (fun (r19 : Int32) (μ18 : Mem) => P x4 μ18)) ∧ ((¬ (3 : Int32) ≤ ((gm_r μ 78 9) - (gm_r μ 78 10))) → qX10_in G l (x4).toInt64 (x1).toInt64 (x2).toInt64 μ (fun (r21 : Int32) (μ20 : Mem) => ((r21 = 0) → qX10_want G l (0 : Int32) (2 : Int32) (gm_r μ20 78 10) μ20 (fun (r24 : Int32) (μ23 : Mem) => P x4 μ23)) ∧ ((¬ r21 = 0) → qX10_want G l (1 : Int32) (2 : Int32) (gm_r μ20 78 10) μ20 (fun (r26 : Int32) (μ25 : Mem) => P x4 μ25))))) : hX10_takeNumber_129 G l P x1 x2 x4 μ := by
  refine go_aload_n dX10_takeNumber_129 rfl 0 rfl ?_
  refine go_aload_n dX10_takeNumber_130 rfl 0 rfl ?_
  refine go_get (.int (gm_r μ 78 9)) dX10_takeNumber_131 fX10_108 (g_lt rfl) (gs_78 G _ _) rfl ?_
  refine go_aload_n dX10_takeNumber_134 rfl 0 rfl ?_
  refine go_get (.int (gm_r μ 78 10)) dX10_takeNumber_135 fX10_118 (g_lt rfl) (gs_78 G _ _) rfl ?_
  refine go_isub dX10_takeNumber_138 ?_
  refine go_iconst (v := 3) dX10_takeNumber_139 (by decide) ?_
  refine go_icmp_ge 160 dX10_takeNumber_140 (by decide) (fun c17 => ?_) (fun c17 => ?_)
  · have h := h.1 c17
    refine go_iconst (v := 0) dX10_takeNumber_160 (by decide) ?_
    refine go_iconst (v := 2) dX10_takeNumber_161 (by decide) ?_
    refine go_aload_n dX10_takeNumber_162 rfl 0 rfl ?_
    refine go_get (.int (gm_r μ 78 10)) dX10_takeNumber_163 fX10_118 (g_lt rfl) (gs_78 G _ _) rfl ?_
    refine go_callV (As := [.int (0 : Int32), .int (2 : Int32), .int (gm_r μ 78 10)]) (rest := []) dX10_takeNumber_166 lX10_136 kX10_want rfl (by decide) (Nat.le_of_ble_eq_true rfl) (g_lt rfl) (gs_78 G _ _) rfl (by decide) rfl (gI_go (fun r19 μ18 h => ?_)) h
    refine go_istore [(0, .ref (ga G 78)), (1, .int x1), (2, .int x2), (4, .int x4), (5, .int r19)] [1, 2, 3, 4, 0] dX10_takeNumber_169 (by decide) rfl ?_
    refine go_iload dX10_takeNumber_171 3 rfl ?_
    exact go_iret dX10_takeNumber_173 rfl (Nat.le_refl _) (Nat.le_refl _) ⟨_, rfl, h⟩
  · have h := h.2 c17
    refine go_iload dX10_takeNumber_143 3 rfl ?_
    refine go_i2l dX10_takeNumber_145 ?_
    refine go_iload_n dX10_takeNumber_146 rfl 1 rfl ?_
    refine go_i2l dX10_takeNumber_147 ?_
    refine go_iload_n dX10_takeNumber_148 rfl 2 rfl ?_
    refine go_i2l dX10_takeNumber_149 ?_
    refine go_callS (As := [.long (x4).toInt64, .long (x1).toInt64, .long (x2).toInt64]) (rest := [.ref (ga G 78)]) dX10_takeNumber_150 lX10_99 kX10_in rfl (by decide) (Nat.le_of_ble_eq_true rfl) (by decide) rfl (gI_go (fun r21 μ20 h => ?_)) h
    refine go_if_eq 160 dX10_takeNumber_153 (by decide) (fun c22 => ?_) (fun c22 => ?_)
    · have h := h.1 c22
      refine go_iconst (v := 0) dX10_takeNumber_160 (by decide) ?_
      refine go_iconst (v := 2) dX10_takeNumber_161 (by decide) ?_
      refine go_aload_n dX10_takeNumber_162 rfl 0 rfl ?_
      refine go_get (.int (gm_r μ20 78 10)) dX10_takeNumber_163 fX10_118 (g_lt rfl) (gs_78 G _ _) rfl ?_
      refine go_callV (As := [.int (0 : Int32), .int (2 : Int32), .int (gm_r μ20 78 10)]) (rest := []) dX10_takeNumber_166 lX10_136 kX10_want rfl (by decide) (Nat.le_of_ble_eq_true rfl) (g_lt rfl) (gs_78 G _ _) rfl (by decide) rfl (gI_go (fun r24 μ23 h => ?_)) h
      refine go_istore [(0, .ref (ga G 78)), (1, .int x1), (2, .int x2), (4, .int x4), (5, .int r24)] [1, 2, 3, 4, 0] dX10_takeNumber_169 (by decide) rfl ?_
      refine go_iload dX10_takeNumber_171 3 rfl ?_
      exact go_iret dX10_takeNumber_173 rfl (Nat.le_refl _) (Nat.le_refl _) ⟨_, rfl, h⟩
    · have h := h.2 c22
      refine go_iconst (v := 1) dX10_takeNumber_156 (by decide) ?_
      refine go_goto 161 dX10_takeNumber_157 (by decide) ?_
      refine go_iconst (v := 2) dX10_takeNumber_161 (by decide) ?_
      refine go_aload_n dX10_takeNumber_162 rfl 0 rfl ?_
      refine go_get (.int (gm_r μ20 78 10)) dX10_takeNumber_163 fX10_118 (g_lt rfl) (gs_78 G _ _) rfl ?_
      refine go_callV (As := [.int (1 : Int32), .int (2 : Int32), .int (gm_r μ20 78 10)]) (rest := []) dX10_takeNumber_166 lX10_136 kX10_want rfl (by decide) (Nat.le_of_ble_eq_true rfl) (g_lt rfl) (gs_78 G _ _) rfl (by decide) rfl (gI_go (fun r26 μ25 h => ?_)) h
      refine go_istore [(0, .ref (ga G 78)), (1, .int x1), (2, .int x2), (4, .int x4), (5, .int r26)] [1, 2, 3, 4, 0] dX10_takeNumber_169 (by decide) rfl ?_
      refine go_iload dX10_takeNumber_171 3 rfl ?_
      exact go_iret dX10_takeNumber_173 rfl (Nat.le_refl _) (Nat.le_refl _) ⟨_, rfl, h⟩
set_option maxRecDepth 100000 in
theorem eX10_has {G : gC} {l : Launch} {a1 : Int32} {a2 : Int32} {μ : Mem} {P : Int32 → Mem → Prop} (h : ((¬ ((a1 >>> (a2 &&& 31)) &&& (1 : Int32)) = (1 : Int32)) → P (0 : Int32) μ) ∧ ((((a1 >>> (a2 &&& 31)) &&& (1 : Int32)) = (1 : Int32)) → P (1 : Int32) μ)) : qX10_has G l a1 a2 μ P := by
  refine Sp.of (by decide) (Nat.le_of_ble_eq_true rfl) (lv := [(0, .int a1), (1, .int a2)]) rfl ?_
  refine go_iload_n dX10_has_0 rfl 0 rfl ?_
  refine go_iload_n dX10_has_1 rfl 1 rfl ?_
  refine go_ishr dX10_has_2 ?_
  refine go_iconst (v := 1) dX10_has_3 (by decide) ?_
  refine go_iand dX10_has_4 ?_
  refine go_iconst (v := 1) dX10_has_5 (by decide) ?_
  refine go_icmp_ne 13 dX10_has_6 (by decide) (fun c1 => ?_) (fun c1 => ?_)
  · have h := h.1 c1
    refine go_iconst (v := 0) dX10_has_13 (by decide) ?_
    exact go_zret dX10_has_14 rfl (Nat.le_refl _) (Nat.le_refl _) rfl ⟨_, rfl, h⟩
  · have h := h.2 c1
    refine go_iconst (v := 1) dX10_has_9 (by decide) ?_
    refine go_goto 14 dX10_has_10 (by decide) ?_
    exact go_zret dX10_has_14 rfl (Nat.le_refl _) (Nat.le_refl _) rfl ⟨_, rfl, h⟩
set_option maxRecDepth 100000 in
theorem eX10_isAhead {G : gC} {l : Launch} {a1 : Int32} {a2 : Int32} {μ : Mem} {P : Int32 → Mem → Prop} (h : hX10_isAhead_5 G l P a1 a2 (0 : Int32) (0 : Int32) μ) : qX10_isAhead G l a1 a2 μ P := by
  refine Sp.of (by decide) (Nat.le_of_ble_eq_true rfl) (lv := [(0, .ref (ga G 78)), (1, .int a1), (2, .int a2)]) rfl ?_
  refine go_iconst (v := 0) dX10_isAhead_0 (by decide) ?_
  refine go_istore_n [(0, .ref (ga G 78)), (1, .int a1), (2, .int a2), (3, .int (0 : Int32))] [1, 2, 3, 0] dX10_isAhead_1 rfl (by decide) rfl ?_
  refine go_iconst (v := 0) dX10_isAhead_2 (by decide) ?_
  refine go_istore [(0, .ref (ga G 78)), (1, .int a1), (2, .int a2), (3, .int (0 : Int32)), (4, .int (0 : Int32))] [1, 2, 3, 4, 0] dX10_isAhead_3 (by decide) rfl ?_
  exact h
set_option maxRecDepth 100000 in
theorem eX10_isAhead_5 {G : gC} {l : Launch} {P : Int32 → Mem → Prop} {x1 : Int32} {x2 : Int32} {x3 : Int32} {x4 : Int32} {μ : Mem} (h : (((gm_r μ 78 14) ≤ x4) → (narrow .boolean (.int x3) = .int x3) ∧ P x3 μ) ∧ ((¬ (gm_r μ 78 14) ≤ x4) → ((¬ x3 = 0) → hX10_isAhead_5 G l P x1 x2 (1 : Int32) (x4 + (1 : Int32)) μ) ∧ ((x3 = 0) → vp_in (((8 : Int32) * x4) + x1) 80 ∧ qX10_has G l (gm_r μ 87 (((8 : Int32) * x4) + x1).toNatClampNeg) x2 μ (fun (r5 : Int32) (μ4 : Mem) => ((r5 = 0) → hX10_isAhead_5 G l P x1 x2 (0 : Int32) (x4 + (1 : Int32)) μ4) ∧ ((¬ r5 = 0) → hX10_isAhead_5 G l P x1 x2 (1 : Int32) (x4 + (1 : Int32)) μ4))))) : hX10_isAhead_5 G l P x1 x2 x3 x4 μ := by
  refine go_iload dX10_isAhead_5 4 rfl ?_
  refine go_aload_n dX10_isAhead_7 rfl 0 rfl ?_
  refine go_get (.int (gm_r μ 78 14)) dX10_isAhead_8 fX10_140 (g_lt rfl) (gs_78 G _ _) rfl ?_
  refine go_icmp_ge 49 dX10_isAhead_11 (by decide) (fun c1 => ?_) (fun c1 => ?_)
  · have h := h.1 c1
    refine go_iload_n dX10_isAhead_49 rfl 3 rfl ?_
    exact go_zret dX10_isAhead_50 rfl (Nat.le_refl _) (Nat.le_refl _) h.1 ⟨_, rfl, h.2⟩
  · have h := h.2 c1
    refine go_iload_n dX10_isAhead_14 rfl 3 rfl ?_
    refine go_if_ne 37 dX10_isAhead_15 (by decide) (fun c2 => ?_) (fun c2 => ?_)
    · have h := h.1 c2
      refine go_iconst (v := 1) dX10_isAhead_37 (by decide) ?_
      refine go_goto 42 dX10_isAhead_38 (by decide) ?_
      refine go_istore_n [(0, .ref (ga G 78)), (1, .int x1), (2, .int x2), (3, .int (1 : Int32)), (4, .int x4)] [1, 2, 3, 0, 4] dX10_isAhead_42 rfl (by decide) rfl ?_
      refine go_iinc (v := (x4 + (1 : Int32))) [(0, .ref (ga G 78)), (1, .int x1), (2, .int x2), (3, .int (1 : Int32)), (4, .int (x4 + (1 : Int32)))] [1, 2, 3, 4, 0] 4 dX10_isAhead_43 rfl rfl (by decide) rfl ?_
      refine go_goto 5 dX10_isAhead_46 (by decide) ?_
      exact h
    · have h := h.2 c2
      refine go_aload_n dX10_isAhead_18 rfl 0 rfl ?_
      refine go_get (.ref (ga G 87)) dX10_isAhead_19 fX10_38 (g_lt rfl) (gs_78 G _ _) rfl ?_
      refine go_bipush (v := 8) dX10_isAhead_22 (by decide) ?_
      refine go_iload dX10_isAhead_24 4 rfl ?_
      refine go_imul dX10_isAhead_26 ?_
      refine go_iload_n dX10_isAhead_27 rfl 1 rfl ?_
      refine go_iadd dX10_isAhead_28 ?_
      obtain ⟨b3, h⟩ := h
      refine go_ialdv ((gm_r μ 87 (((8 : Int32) * x4) + x1).toNatClampNeg)) dX10_isAhead_29 (g_lt rfl) (gs_87 G) b3 rfl ?_
      refine go_iload_n dX10_isAhead_30 rfl 2 rfl ?_
      refine go_callS (As := [.int (gm_r μ 87 (((8 : Int32) * x4) + x1).toNatClampNeg), .int x2]) (rest := []) dX10_isAhead_31 lX10_143 kX10_has rfl (by decide) (Nat.le_of_ble_eq_true rfl) (by decide) rfl (gI_go (fun r5 μ4 h => ?_)) h
      refine go_if_eq 41 dX10_isAhead_34 (by decide) (fun c6 => ?_) (fun c6 => ?_)
      · have h := h.1 c6
        refine go_iconst (v := 0) dX10_isAhead_41 (by decide) ?_
        refine go_istore_n [(0, .ref (ga G 78)), (1, .int x1), (2, .int x2), (3, .int (0 : Int32)), (4, .int x4)] [1, 2, 3, 0, 4] dX10_isAhead_42 rfl (by decide) rfl ?_
        refine go_iinc (v := (x4 + (1 : Int32))) [(0, .ref (ga G 78)), (1, .int x1), (2, .int x2), (3, .int (0 : Int32)), (4, .int (x4 + (1 : Int32)))] [1, 2, 3, 4, 0] 4 dX10_isAhead_43 rfl rfl (by decide) rfl ?_
        refine go_goto 5 dX10_isAhead_46 (by decide) ?_
        exact h
      · have h := h.2 c6
        refine go_iconst (v := 1) dX10_isAhead_37 (by decide) ?_
        refine go_goto 42 dX10_isAhead_38 (by decide) ?_
        refine go_istore_n [(0, .ref (ga G 78)), (1, .int x1), (2, .int x2), (3, .int (1 : Int32)), (4, .int x4)] [1, 2, 3, 0, 4] dX10_isAhead_42 rfl (by decide) rfl ?_
        refine go_iinc (v := (x4 + (1 : Int32))) [(0, .ref (ga G 78)), (1, .int x1), (2, .int x2), (3, .int (1 : Int32)), (4, .int (x4 + (1 : Int32)))] [1, 2, 3, 4, 0] 4 dX10_isAhead_43 rfl rfl (by decide) rfl ?_
        refine go_goto 5 dX10_isAhead_46 (by decide) ?_
        exact h
set_option maxRecDepth 100000 in
theorem eX10_one {G : gC} {l : Launch} {a1 : Int32} {μ : Mem} {P : Int32 → Mem → Prop} (h : ((a1 = 0) → P (0 : Int32) μ) ∧ ((¬ a1 = 0) → P (1 : Int32) μ)) : qX10_one G l a1 μ P := by
  refine Sp.of (by decide) (Nat.le_of_ble_eq_true rfl) (lv := [(0, .int a1)]) rfl ?_
  refine go_iload_n dX10_one_0 rfl 0 rfl ?_
  refine go_if_eq 8 dX10_one_1 (by decide) (fun c1 => ?_) (fun c1 => ?_)
  · have h := h.1 c1
    refine go_iconst (v := 0) dX10_one_8 (by decide) ?_
    exact go_iret dX10_one_9 rfl (Nat.le_refl _) (Nat.le_refl _) ⟨_, rfl, h⟩
  · have h := h.2 c1
    refine go_iconst (v := 1) dX10_one_4 (by decide) ?_
    refine go_goto 9 dX10_one_5 (by decide) ?_
    exact go_iret dX10_one_9 rfl (Nat.le_refl _) (Nat.le_refl _) ⟨_, rfl, h⟩
set_option maxRecDepth 100000 in
theorem eX10_takeList {G : gC} {l : Launch} {a1 : Int32} {μ : Mem} {P : Mem → Prop} (h : hX10_takeList_4 G l P a1 (1 : Int32) (0 : Int32) μ) : qX10_takeList G l a1 μ P := by
  refine Sp.of (by decide) (Nat.le_of_ble_eq_true rfl) (lv := [(0, .ref (ga G 78)), (1, .int a1)]) rfl ?_
  refine go_iconst (v := 1) dX10_takeList_0 (by decide) ?_
  refine go_istore_n [(0, .ref (ga G 78)), (1, .int a1), (2, .int (1 : Int32))] [1, 2, 0] dX10_takeList_1 rfl (by decide) rfl ?_
  refine go_iconst (v := 0) dX10_takeList_2 (by decide) ?_
  refine go_istore_n [(0, .ref (ga G 78)), (1, .int a1), (2, .int (1 : Int32)), (3, .int (0 : Int32))] [1, 2, 3, 0] dX10_takeList_3 rfl (by decide) rfl ?_
  exact h
set_option maxRecDepth 100000 in
theorem eX10_takeList_4 {G : gC} {l : Launch} {P : Mem → Prop} {x1 : Int32} {x2 : Int32} {x3 : Int32} {μ : Mem} (h : ((x2 = 0) → vp_in (((8 : Int32) * (gm_r μ 78 14)) + x1) 80 ∧ P (gm_w μ 87 (((8 : Int32) * (gm_r μ 78 14)) + x1).toNatClampNeg x3)) ∧ ((¬ x2 = 0) → ((¬ (gm_r μ 78 12) = 0) → vp_in (((8 : Int32) * (gm_r μ 78 14)) + x1) 80 ∧ P (gm_w μ 87 (((8 : Int32) * (gm_r μ 78 14)) + x1).toNatClampNeg x3)) ∧ (((gm_r μ 78 12) = 0) → ((¬ x1 = (2 : Int32)) → hX10_takeList_29 G l P x1 x3 (7 : Int32) (0 : Int32) μ) ∧ ((x1 = (2 : Int32)) → hX10_takeList_29 G l P x1 x3 (9 : Int32) (0 : Int32) μ)))) : hX10_takeList_4 G l P x1 x2 x3 μ := by
  refine go_iload_n dX10_takeList_4 rfl 2 rfl ?_
  refine go_if_eq 219 dX10_takeList_5 (by decide) (fun c1 => ?_) (fun c1 => ?_)
  · have h := h.1 c1
    refine go_aload_n dX10_takeList_219 rfl 0 rfl ?_
    refine go_get (.ref (ga G 87)) dX10_takeList_220 fX10_38 (g_lt rfl) (gs_78 G _ _) rfl ?_
    refine go_bipush (v := 8) dX10_takeList_223 (by decide) ?_
    refine go_aload_n dX10_takeList_225 rfl 0 rfl ?_
    refine go_get (.int (gm_r μ 78 14)) dX10_takeList_226 fX10_140 (g_lt rfl) (gs_78 G _ _) rfl ?_
    refine go_imul dX10_takeList_229 ?_
    refine go_iload_n dX10_takeList_230 rfl 1 rfl ?_
    refine go_iadd dX10_takeList_231 ?_
    refine go_iload_n dX10_takeList_232 rfl 3 rfl ?_
    obtain ⟨b2, h⟩ := h
    refine go_iast dX10_takeList_233 (g_lt rfl) (gs_87 G) b2 ?_
    exact go_vret dX10_takeList_234 rfl (Nat.le_refl _) (Nat.le_refl _) ⟨rfl, h⟩
  · have h := h.2 c1
    refine go_aload_n dX10_takeList_8 rfl 0 rfl ?_
    refine go_get (.int (gm_r μ 78 12)) dX10_takeList_9 fX10_111 (g_lt rfl) (gs_78 G _ _) rfl ?_
    refine go_if_ne 219 dX10_takeList_12 (by decide) (fun c3 => ?_) (fun c3 => ?_)
    · have h := h.1 c3
      refine go_aload_n dX10_takeList_219 rfl 0 rfl ?_
      refine go_get (.ref (ga G 87)) dX10_takeList_220 fX10_38 (g_lt rfl) (gs_78 G _ _) rfl ?_
      refine go_bipush (v := 8) dX10_takeList_223 (by decide) ?_
      refine go_aload_n dX10_takeList_225 rfl 0 rfl ?_
      refine go_get (.int (gm_r μ 78 14)) dX10_takeList_226 fX10_140 (g_lt rfl) (gs_78 G _ _) rfl ?_
      refine go_imul dX10_takeList_229 ?_
      refine go_iload_n dX10_takeList_230 rfl 1 rfl ?_
      refine go_iadd dX10_takeList_231 ?_
      refine go_iload_n dX10_takeList_232 rfl 3 rfl ?_
      obtain ⟨b4, h⟩ := h
      refine go_iast dX10_takeList_233 (g_lt rfl) (gs_87 G) b4 ?_
      exact go_vret dX10_takeList_234 rfl (Nat.le_refl _) (Nat.le_refl _) ⟨rfl, h⟩
    · have h := h.2 c3
      refine go_aload_n dX10_takeList_15 rfl 0 rfl ?_
      refine go_iconst (v := 0) dX10_takeList_16 (by decide) ?_
      refine go_iload_n dX10_takeList_17 rfl 1 rfl ?_
      refine go_iconst (v := 2) dX10_takeList_18 (by decide) ?_
      refine go_icmp_ne 27 dX10_takeList_19 (by decide) (fun c5 => ?_) (fun c5 => ?_)
      · have h := h.1 c5
        refine go_bipush (v := 7) dX10_takeList_27 (by decide) ?_
        exact go_sub [0, 1, 3] rfl h
      · have h := h.2 c5
        refine go_bipush (v := 9) dX10_takeList_22 (by decide) ?_
        refine go_goto 29 dX10_takeList_24 (by decide) ?_
        exact go_sub [0, 1, 3] rfl h
set_option maxRecDepth 100000 in
theorem eX10_takeList_29 {G : gC} {l : Launch} {P : Mem → Prop} {x1 : Int32} {x3 : Int32} {y0 : Int32} {y1 : Int32} {μ : Mem} (h : qX10_takeNumber G l y1 y0 μ (fun (r7 : Int32) (μ6 : Mem) => ((¬ (gm_r μ6 78 12) = 0) → hX10_takeList_72 G l P x1 x3 r7 (0 : Int32) μ6) ∧ (((gm_r μ6 78 12) = 0) → qX10_has G l x3 r7 μ6 (fun (r10 : Int32) (μ9 : Mem) => ((¬ r10 = 0) → qX10_want G l (0 : Int32) (3 : Int32) (gm_r μ9 78 10) μ9 (fun (r13 : Int32) (μ12 : Mem) => ((r13 = 0) → hX10_takeList_72 G l P x1 x3 r7 (0 : Int32) μ12) ∧ ((¬ r13 = 0) → hX10_takeList_72 G l P x1 x3 r7 (1 : Int32) μ12))) ∧ ((r10 = 0) → qX10_want G l (1 : Int32) (3 : Int32) (gm_r μ9 78 10) μ9 (fun (r16 : Int32) (μ15 : Mem) => ((r16 = 0) → hX10_takeList_72 G l P x1 x3 r7 (0 : Int32) μ15) ∧ ((¬ r16 = 0) → hX10_takeList_72 G l P x1 x3 r7 (1 : Int32) μ15))))))) : hX10_takeList_29 G l P x1 x3 y0 y1 μ := by
  refine go_callV (As := [.int y1, .int y0]) (rest := []) dX10_takeList_29 lX10_147 kX10_takeNumber rfl (by decide) (Nat.le_of_ble_eq_true rfl) (g_lt rfl) (gs_78 G _ _) rfl (by decide) rfl (gI_go (fun r7 μ6 h => ?_)) h
  refine go_istore [(0, .ref (ga G 78)), (1, .int x1), (3, .int x3), (4, .int r7)] [1, 2, 3, 0] dX10_takeList_32 (by decide) rfl ?_
  refine go_aload_n dX10_takeList_34 rfl 0 rfl ?_
  refine go_get (.int (gm_r μ6 78 12)) dX10_takeList_35 fX10_111 (g_lt rfl) (gs_78 G _ _) rfl ?_
  refine go_if_ne 71 dX10_takeList_38 (by decide) (fun c8 => ?_) (fun c8 => ?_)
  · have h := h.1 c8
    refine go_iconst (v := 0) dX10_takeList_71 (by decide) ?_
    exact h
  · have h := h.2 c8
    refine go_aload_n dX10_takeList_41 rfl 0 rfl ?_
    refine go_iload_n dX10_takeList_42 rfl 2 rfl ?_
    refine go_iload dX10_takeList_43 3 rfl ?_
    refine go_callS (As := [.int x3, .int r7]) (rest := [.ref (ga G 78)]) dX10_takeList_45 lX10_143 kX10_has rfl (by decide) (Nat.le_of_ble_eq_true rfl) (by decide) rfl (gI_go (fun r10 μ9 h => ?_)) h
    refine go_if_ne 55 dX10_takeList_48 (by decide) (fun c11 => ?_) (fun c11 => ?_)
    · have h := h.1 c11
      refine go_iconst (v := 0) dX10_takeList_55 (by decide) ?_
      refine go_iconst (v := 3) dX10_takeList_56 (by decide) ?_
      refine go_aload_n dX10_takeList_57 rfl 0 rfl ?_
      refine go_get (.int (gm_r μ9 78 10)) dX10_takeList_58 fX10_118 (g_lt rfl) (gs_78 G _ _) rfl ?_
      refine go_callV (As := [.int (0 : Int32), .int (3 : Int32), .int (gm_r μ9 78 10)]) (rest := []) dX10_takeList_61 lX10_136 kX10_want rfl (by decide) (Nat.le_of_ble_eq_true rfl) (g_lt rfl) (gs_78 G _ _) rfl (by decide) rfl (gI_go (fun r13 μ12 h => ?_)) h
      refine go_if_eq 71 dX10_takeList_64 (by decide) (fun c14 => ?_) (fun c14 => ?_)
      · have h := h.1 c14
        refine go_iconst (v := 0) dX10_takeList_71 (by decide) ?_
        exact h
      · have h := h.2 c14
        refine go_iconst (v := 1) dX10_takeList_67 (by decide) ?_
        refine go_goto 72 dX10_takeList_68 (by decide) ?_
        exact h
    · have h := h.2 c11
      refine go_iconst (v := 1) dX10_takeList_51 (by decide) ?_
      refine go_goto 56 dX10_takeList_52 (by decide) ?_
      refine go_iconst (v := 3) dX10_takeList_56 (by decide) ?_
      refine go_aload_n dX10_takeList_57 rfl 0 rfl ?_
      refine go_get (.int (gm_r μ9 78 10)) dX10_takeList_58 fX10_118 (g_lt rfl) (gs_78 G _ _) rfl ?_
      refine go_callV (As := [.int (1 : Int32), .int (3 : Int32), .int (gm_r μ9 78 10)]) (rest := []) dX10_takeList_61 lX10_136 kX10_want rfl (by decide) (Nat.le_of_ble_eq_true rfl) (g_lt rfl) (gs_78 G _ _) rfl (by decide) rfl (gI_go (fun r16 μ15 h => ?_)) h
      refine go_if_eq 71 dX10_takeList_64 (by decide) (fun c17 => ?_) (fun c17 => ?_)
      · have h := h.1 c17
        refine go_iconst (v := 0) dX10_takeList_71 (by decide) ?_
        exact h
      · have h := h.2 c17
        refine go_iconst (v := 1) dX10_takeList_67 (by decide) ?_
        refine go_goto 72 dX10_takeList_68 (by decide) ?_
        exact h
set_option maxRecDepth 100000 in
theorem eX10_takeList_72 {G : gC} {l : Launch} {P : Mem → Prop} {x1 : Int32} {x3 : Int32} {x4 : Int32} {y0 : Int32} {μ : Mem} (h : ((y0 = 0) → hX10_takeList_115 G l P x1 x3 x4 (0 : Int32) μ) ∧ ((¬ y0 = 0) → ((¬ x1 = (2 : Int32)) → qX10_want G l (1 : Int32) (4 : Int32) (gm_r μ 78 10) μ (fun (r21 : Int32) (μ20 : Mem) => ((r21 = 0) → hX10_takeList_115 G l P x1 x3 x4 (0 : Int32) μ20) ∧ ((¬ r21 = 0) → hX10_takeList_115 G l P x1 x3 x4 (1 : Int32) μ20))) ∧ ((x1 = (2 : Int32)) → (((gm_r μ 78 14) ≤ x4) → qX10_want G l (0 : Int32) (4 : Int32) (gm_r μ 78 10) μ (fun (r25 : Int32) (μ24 : Mem) => ((r25 = 0) → hX10_takeList_115 G l P x1 x3 x4 (0 : Int32) μ24) ∧ ((¬ r25 = 0) → hX10_takeList_115 G l P x1 x3 x4 (1 : Int32) μ24))) ∧ ((¬ (gm_r μ 78 14) ≤ x4) → qX10_want G l (1 : Int32) (4 : Int32) (gm_r μ 78 10) μ (fun (r28 : Int32) (μ27 : Mem) => ((r28 = 0) → hX10_takeList_115 G l P x1 x3 x4 (0 : Int32) μ27) ∧ ((¬ r28 = 0) → hX10_takeList_115 G l P x1 x3 x4 (1 : Int32) μ27)))))) : hX10_takeList_72 G l P x1 x3 x4 y0 μ := by
  refine go_istore [(0, .ref (ga G 78)), (1, .int x1), (3, .int x3), (4, .int x4), (5, .int y0)] [1, 2, 3, 4, 0] dX10_takeList_72 (by decide) rfl ?_
  refine go_iload dX10_takeList_74 4 rfl ?_
  refine go_if_eq 114 dX10_takeList_76 (by decide) (fun c18 => ?_) (fun c18 => ?_)
  · have h := h.1 c18
    refine go_iconst (v := 0) dX10_takeList_114 (by decide) ?_
    exact go_sub [0, 1, 2, 3] rfl h
  · have h := h.2 c18
    refine go_aload_n dX10_takeList_79 rfl 0 rfl ?_
    refine go_iload_n dX10_takeList_80 rfl 1 rfl ?_
    refine go_iconst (v := 2) dX10_takeList_81 (by decide) ?_
    refine go_icmp_ne 94 dX10_takeList_82 (by decide) (fun c19 => ?_) (fun c19 => ?_)
    · have h := h.1 c19
      refine go_iconst (v := 1) dX10_takeList_94 (by decide) ?_
      refine go_goto 99 dX10_takeList_95 (by decide) ?_
      refine go_iconst (v := 4) dX10_takeList_99 (by decide) ?_
      refine go_aload_n dX10_takeList_100 rfl 0 rfl ?_
      refine go_get (.int (gm_r μ 78 10)) dX10_takeList_101 fX10_118 (g_lt rfl) (gs_78 G _ _) rfl ?_
      refine go_callV (As := [.int (1 : Int32), .int (4 : Int32), .int (gm_r μ 78 10)]) (rest := []) dX10_takeList_104 lX10_136 kX10_want rfl (by decide) (Nat.le_of_ble_eq_true rfl) (g_lt rfl) (gs_78 G _ _) rfl (by decide) rfl (gI_go (fun r21 μ20 h => ?_)) h
      refine go_if_eq 114 dX10_takeList_107 (by decide) (fun c22 => ?_) (fun c22 => ?_)
      · have h := h.1 c22
        refine go_iconst (v := 0) dX10_takeList_114 (by decide) ?_
        exact go_sub [0, 1, 2, 3] rfl h
      · have h := h.2 c22
        refine go_iconst (v := 1) dX10_takeList_110 (by decide) ?_
        refine go_goto 115 dX10_takeList_111 (by decide) ?_
        exact go_sub [0, 1, 2, 3] rfl h
    · have h := h.2 c19
      refine go_iload dX10_takeList_85 3 rfl ?_
      refine go_aload_n dX10_takeList_87 rfl 0 rfl ?_
      refine go_get (.int (gm_r μ 78 14)) dX10_takeList_88 fX10_140 (g_lt rfl) (gs_78 G _ _) rfl ?_
      refine go_icmp_ge 98 dX10_takeList_91 (by decide) (fun c23 => ?_) (fun c23 => ?_)
      · have h := h.1 c23
        refine go_iconst (v := 0) dX10_takeList_98 (by decide) ?_
        refine go_iconst (v := 4) dX10_takeList_99 (by decide) ?_
        refine go_aload_n dX10_takeList_100 rfl 0 rfl ?_
        refine go_get (.int (gm_r μ 78 10)) dX10_takeList_101 fX10_118 (g_lt rfl) (gs_78 G _ _) rfl ?_
        refine go_callV (As := [.int (0 : Int32), .int (4 : Int32), .int (gm_r μ 78 10)]) (rest := []) dX10_takeList_104 lX10_136 kX10_want rfl (by decide) (Nat.le_of_ble_eq_true rfl) (g_lt rfl) (gs_78 G _ _) rfl (by decide) rfl (gI_go (fun r25 μ24 h => ?_)) h
        refine go_if_eq 114 dX10_takeList_107 (by decide) (fun c26 => ?_) (fun c26 => ?_)
        · have h := h.1 c26
          refine go_iconst (v := 0) dX10_takeList_114 (by decide) ?_
          exact go_sub [0, 1, 2, 3] rfl h
        · have h := h.2 c26
          refine go_iconst (v := 1) dX10_takeList_110 (by decide) ?_
          refine go_goto 115 dX10_takeList_111 (by decide) ?_
          exact go_sub [0, 1, 2, 3] rfl h
      · have h := h.2 c23
        refine go_iconst (v := 1) dX10_takeList_94 (by decide) ?_
        refine go_goto 99 dX10_takeList_95 (by decide) ?_
        refine go_iconst (v := 4) dX10_takeList_99 (by decide) ?_
        refine go_aload_n dX10_takeList_100 rfl 0 rfl ?_
        refine go_get (.int (gm_r μ 78 10)) dX10_takeList_101 fX10_118 (g_lt rfl) (gs_78 G _ _) rfl ?_
        refine go_callV (As := [.int (1 : Int32), .int (4 : Int32), .int (gm_r μ 78 10)]) (rest := []) dX10_takeList_104 lX10_136 kX10_want rfl (by decide) (Nat.le_of_ble_eq_true rfl) (g_lt rfl) (gs_78 G _ _) rfl (by decide) rfl (gI_go (fun r28 μ27 h => ?_)) h
        refine go_if_eq 114 dX10_takeList_107 (by decide) (fun c29 => ?_) (fun c29 => ?_)
        · have h := h.1 c29
          refine go_iconst (v := 0) dX10_takeList_114 (by decide) ?_
          exact go_sub [0, 1, 2, 3] rfl h
        · have h := h.2 c29
          refine go_iconst (v := 1) dX10_takeList_110 (by decide) ?_
          refine go_goto 115 dX10_takeList_111 (by decide) ?_
          exact go_sub [0, 1, 2, 3] rfl h
set_option maxRecDepth 100000 in
theorem eX10_takeList_115 {G : gC} {l : Launch} {P : Mem → Prop} {x1 : Int32} {x3 : Int32} {x4 : Int32} {y0 : Int32} {μ : Mem} (h : ((y0 = 0) → (((0 : Int32) = 0) → hX10_takeList_181 G l P x1 (0 : Int32) (0 : Int32) x3 μ) ∧ ((¬ (0 : Int32) = 0) → hX10_takeList_181 G l P x1 (0 : Int32) ((1 : Int32) <<< (x4 &&& 31)) x3 μ)) ∧ ((¬ y0 = 0) → ((x1 = (3 : Int32)) → qX10_isAhead G l x1 x4 μ (fun (r34 : Int32) (μ33 : Mem) => ((¬ r34 = 0) → hX10_takeList_148 G l P x1 x3 x4 (0 : Int32) μ33) ∧ ((r34 = 0) → hX10_takeList_148 G l P x1 x3 x4 (1 : Int32) μ33))) ∧ ((¬ x1 = (3 : Int32)) → ((¬ x1 = (4 : Int32)) → hX10_takeList_148 G l P x1 x3 x4 (1 : Int32) μ) ∧ ((x1 = (4 : Int32)) → qX10_isAhead G l x1 x4 μ (fun (r38 : Int32) (μ37 : Mem) => ((¬ r38 = 0) → hX10_takeList_148 G l P x1 x3 x4 (0 : Int32) μ37) ∧ ((r38 = 0) → hX10_takeList_148 G l P x1 x3 x4 (1 : Int32) μ37)))))) : hX10_takeList_115 G l P x1 x3 x4 y0 μ := by
  refine go_istore [(0, .ref (ga G 78)), (1, .int x1), (3, .int x3), (4, .int x4), (5, .int y0)] [1, 2, 3, 4, 0] dX10_takeList_115 (by decide) rfl ?_
  refine go_iload dX10_takeList_117 4 rfl ?_
  refine go_if_eq 164 dX10_takeList_119 (by decide) (fun c30 => ?_) (fun c30 => ?_)
  · have h := h.1 c30
    refine go_iconst (v := 0) dX10_takeList_164 (by decide) ?_
    refine go_istore [(0, .ref (ga G 78)), (1, .int x1), (3, .int x3), (4, .int x4), (5, .int (0 : Int32))] [1, 2, 3, 4, 0] dX10_takeList_165 (by decide) rfl ?_
    refine go_iload_n dX10_takeList_167 rfl 2 rfl ?_
    refine go_iload dX10_takeList_168 4 rfl ?_
    refine go_if_eq 180 dX10_takeList_170 (by decide) (fun c31 => ?_) (fun c31 => ?_)
    · have h := h.1 c31
      refine go_iconst (v := 0) dX10_takeList_180 (by decide) ?_
      exact go_sub [0, 1, 4] rfl h
    · have h := h.2 c31
      refine go_iconst (v := 1) dX10_takeList_173 (by decide) ?_
      refine go_iload dX10_takeList_174 3 rfl ?_
      refine go_ishl dX10_takeList_176 ?_
      refine go_goto 181 dX10_takeList_177 (by decide) ?_
      exact go_sub [0, 1, 4] rfl h
  · have h := h.2 c30
    refine go_aload_n dX10_takeList_122 rfl 0 rfl ?_
    refine go_iload_n dX10_takeList_123 rfl 1 rfl ?_
    refine go_iconst (v := 3) dX10_takeList_124 (by decide) ?_
    refine go_icmp_eq 133 dX10_takeList_125 (by decide) (fun c32 => ?_) (fun c32 => ?_)
    · have h := h.1 c32
      refine go_aload_n dX10_takeList_133 rfl 0 rfl ?_
      refine go_iload_n dX10_takeList_134 rfl 1 rfl ?_
      refine go_iload dX10_takeList_135 3 rfl ?_
      refine go_callV (As := [.int x1, .int x4]) (rest := [.ref (ga G 78)]) dX10_takeList_137 lX10_151 kX10_isAhead rfl (by decide) (Nat.le_of_ble_eq_true rfl) (g_lt rfl) (gs_78 G _ _) rfl (by decide) rfl (gI_go (fun r34 μ33 h => ?_)) h
      refine go_if_ne 147 dX10_takeList_140 (by decide) (fun c35 => ?_) (fun c35 => ?_)
      · have h := h.1 c35
        refine go_iconst (v := 0) dX10_takeList_147 (by decide) ?_
        exact go_sub [0, 1, 2, 3] rfl h
      · have h := h.2 c35
        refine go_iconst (v := 1) dX10_takeList_143 (by decide) ?_
        refine go_goto 148 dX10_takeList_144 (by decide) ?_
        exact go_sub [0, 1, 2, 3] rfl h
    · have h := h.2 c32
      refine go_iload_n dX10_takeList_128 rfl 1 rfl ?_
      refine go_iconst (v := 4) dX10_takeList_129 (by decide) ?_
      refine go_icmp_ne 143 dX10_takeList_130 (by decide) (fun c36 => ?_) (fun c36 => ?_)
      · have h := h.1 c36
        refine go_iconst (v := 1) dX10_takeList_143 (by decide) ?_
        refine go_goto 148 dX10_takeList_144 (by decide) ?_
        exact go_sub [0, 1, 2, 3] rfl h
      · have h := h.2 c36
        refine go_aload_n dX10_takeList_133 rfl 0 rfl ?_
        refine go_iload_n dX10_takeList_134 rfl 1 rfl ?_
        refine go_iload dX10_takeList_135 3 rfl ?_
        refine go_callV (As := [.int x1, .int x4]) (rest := [.ref (ga G 78)]) dX10_takeList_137 lX10_151 kX10_isAhead rfl (by decide) (Nat.le_of_ble_eq_true rfl) (g_lt rfl) (gs_78 G _ _) rfl (by decide) rfl (gI_go (fun r38 μ37 h => ?_)) h
        refine go_if_ne 147 dX10_takeList_140 (by decide) (fun c39 => ?_) (fun c39 => ?_)
        · have h := h.1 c39
          refine go_iconst (v := 0) dX10_takeList_147 (by decide) ?_
          exact go_sub [0, 1, 2, 3] rfl h
        · have h := h.2 c39
          refine go_iconst (v := 1) dX10_takeList_143 (by decide) ?_
          refine go_goto 148 dX10_takeList_144 (by decide) ?_
          exact go_sub [0, 1, 2, 3] rfl h
set_option maxRecDepth 100000 in
theorem eX10_takeList_181 {G : gC} {l : Launch} {P : Mem → Prop} {x1 : Int32} {x5 : Int32} {y0 : Int32} {y1 : Int32} {μ : Mem} (h : ((x5 = 0) → qX10_one G l (0 : Int32) μ (fun (r42 : Int32) (μ41 : Mem) => hX10_takeList_4 G l P x1 (0 : Int32) (y1 ||| y0) (gm_w μ41 78 9 ((gm_r μ 78 9) + r42)))) ∧ ((¬ x5 = 0) → qX10_here G l  μ (fun (r44 : Int32) (μ43 : Mem) => ((¬ r44 = (44 : Int32)) → qX10_one G l (0 : Int32) μ43 (fun (r47 : Int32) (μ46 : Mem) => hX10_takeList_4 G l P x1 (0 : Int32) (y1 ||| y0) (gm_w μ46 78 9 ((gm_r μ43 78 9) + r47)))) ∧ ((r44 = (44 : Int32)) → qX10_one G l (1 : Int32) μ43 (fun (r49 : Int32) (μ48 : Mem) => hX10_takeList_4 G l P x1 (1 : Int32) (y1 ||| y0) (gm_w μ48 78 9 ((gm_r μ43 78 9) + r49))))))) : hX10_takeList_181 G l P x1 x5 y0 y1 μ := by
  refine go_ior dX10_takeList_181 ?_
  refine go_istore_n [(0, .ref (ga G 78)), (1, .int x1), (3, .int (y1 ||| y0)), (5, .int x5)] [1, 2, 0, 3] dX10_takeList_182 rfl (by decide) rfl ?_
  refine go_iload dX10_takeList_183 3 rfl ?_
  refine go_if_eq 201 dX10_takeList_185 (by decide) (fun c40 => ?_) (fun c40 => ?_)
  · have h := h.1 c40
    refine go_iconst (v := 0) dX10_takeList_201 (by decide) ?_
    refine go_istore_n [(0, .ref (ga G 78)), (1, .int x1), (2, .int (0 : Int32)), (3, .int (y1 ||| y0)), (5, .int x5)] [1, 2, 0, 3, 4] dX10_takeList_202 rfl (by decide) rfl ?_
    refine go_aload_n dX10_takeList_203 rfl 0 rfl ?_
    refine go_dup dX10_takeList_204 rfl ?_
    refine go_get (.int (gm_r μ 78 9)) dX10_takeList_205 fX10_108 (g_lt rfl) (gs_78 G _ _) rfl ?_
    refine go_iload_n dX10_takeList_208 rfl 2 rfl ?_
    refine go_callS (As := [.int (0 : Int32)]) (rest := [.int (gm_r μ 78 9), .ref (ga G 78)]) dX10_takeList_209 lX10_154 kX10_one rfl (by decide) (Nat.le_of_ble_eq_true rfl) (by decide) rfl (gI_go (fun r42 μ41 h => ?_)) h
    refine go_iadd dX10_takeList_212 ?_
    refine go_puti dX10_takeList_213 pX10_108 (g_lt rfl) (gs_78 G _ _) (Nat.le_of_ble_eq_true rfl) rfl ?_
    refine go_goto 4 dX10_takeList_216 (by decide) ?_
    exact go_sub [0, 1, 2, 3] rfl h
  · have h := h.2 c40
    refine go_aload_n dX10_takeList_188 rfl 0 rfl ?_
    refine go_callV (As := []) (rest := []) dX10_takeList_189 lX10_114 kX10_here rfl (by decide) (Nat.le_of_ble_eq_true rfl) (g_lt rfl) (gs_78 G _ _) rfl (by decide) rfl (gI_go (fun r44 μ43 h => ?_)) h
    refine go_bipush (v := 44) dX10_takeList_192 (by decide) ?_
    refine go_icmp_ne 201 dX10_takeList_194 (by decide) (fun c45 => ?_) (fun c45 => ?_)
    · have h := h.1 c45
      refine go_iconst (v := 0) dX10_takeList_201 (by decide) ?_
      refine go_istore_n [(0, .ref (ga G 78)), (1, .int x1), (2, .int (0 : Int32)), (3, .int (y1 ||| y0)), (5, .int x5)] [1, 2, 0, 3, 4] dX10_takeList_202 rfl (by decide) rfl ?_
      refine go_aload_n dX10_takeList_203 rfl 0 rfl ?_
      refine go_dup dX10_takeList_204 rfl ?_
      refine go_get (.int (gm_r μ43 78 9)) dX10_takeList_205 fX10_108 (g_lt rfl) (gs_78 G _ _) rfl ?_
      refine go_iload_n dX10_takeList_208 rfl 2 rfl ?_
      refine go_callS (As := [.int (0 : Int32)]) (rest := [.int (gm_r μ43 78 9), .ref (ga G 78)]) dX10_takeList_209 lX10_154 kX10_one rfl (by decide) (Nat.le_of_ble_eq_true rfl) (by decide) rfl (gI_go (fun r47 μ46 h => ?_)) h
      refine go_iadd dX10_takeList_212 ?_
      refine go_puti dX10_takeList_213 pX10_108 (g_lt rfl) (gs_78 G _ _) (Nat.le_of_ble_eq_true rfl) rfl ?_
      refine go_goto 4 dX10_takeList_216 (by decide) ?_
      exact go_sub [0, 1, 2, 3] rfl h
    · have h := h.2 c45
      refine go_iconst (v := 1) dX10_takeList_197 (by decide) ?_
      refine go_goto 202 dX10_takeList_198 (by decide) ?_
      refine go_istore_n [(0, .ref (ga G 78)), (1, .int x1), (2, .int (1 : Int32)), (3, .int (y1 ||| y0)), (5, .int x5)] [1, 2, 0, 3, 4] dX10_takeList_202 rfl (by decide) rfl ?_
      refine go_aload_n dX10_takeList_203 rfl 0 rfl ?_
      refine go_dup dX10_takeList_204 rfl ?_
      refine go_get (.int (gm_r μ43 78 9)) dX10_takeList_205 fX10_108 (g_lt rfl) (gs_78 G _ _) rfl ?_
      refine go_iload_n dX10_takeList_208 rfl 2 rfl ?_
      refine go_callS (As := [.int (1 : Int32)]) (rest := [.int (gm_r μ43 78 9), .ref (ga G 78)]) dX10_takeList_209 lX10_154 kX10_one rfl (by decide) (Nat.le_of_ble_eq_true rfl) (by decide) rfl (gI_go (fun r49 μ48 h => ?_)) h
      refine go_iadd dX10_takeList_212 ?_
      refine go_puti dX10_takeList_213 pX10_108 (g_lt rfl) (gs_78 G _ _) (Nat.le_of_ble_eq_true rfl) rfl ?_
      refine go_goto 4 dX10_takeList_216 (by decide) ?_
      exact go_sub [0, 1, 2, 3] rfl h
set_option maxRecDepth 100000 in
theorem eX10_takeList_148 {G : gC} {l : Launch} {P : Mem → Prop} {x1 : Int32} {x3 : Int32} {x4 : Int32} {y0 : Int32} {μ : Mem} (h : qX10_want G l y0 (6 : Int32) (gm_r μ 78 10) μ (fun (r51 : Int32) (μ50 : Mem) => ((r51 = 0) → (((0 : Int32) = 0) → hX10_takeList_181 G l P x1 (0 : Int32) (0 : Int32) x3 μ50) ∧ ((¬ (0 : Int32) = 0) → hX10_takeList_181 G l P x1 (0 : Int32) ((1 : Int32) <<< (x4 &&& 31)) x3 μ50)) ∧ ((¬ r51 = 0) → (((1 : Int32) = 0) → hX10_takeList_181 G l P x1 (1 : Int32) (0 : Int32) x3 μ50) ∧ ((¬ (1 : Int32) = 0) → hX10_takeList_181 G l P x1 (1 : Int32) ((1 : Int32) <<< (x4 &&& 31)) x3 μ50)))) : hX10_takeList_148 G l P x1 x3 x4 y0 μ := by
  refine go_bipush (v := 6) dX10_takeList_148 (by decide) ?_
  refine go_aload_n dX10_takeList_150 rfl 0 rfl ?_
  refine go_get (.int (gm_r μ 78 10)) dX10_takeList_151 fX10_118 (g_lt rfl) (gs_78 G _ _) rfl ?_
  refine go_callV (As := [.int y0, .int (6 : Int32), .int (gm_r μ 78 10)]) (rest := []) dX10_takeList_154 lX10_136 kX10_want rfl (by decide) (Nat.le_of_ble_eq_true rfl) (g_lt rfl) (gs_78 G _ _) rfl (by decide) rfl (gI_go (fun r51 μ50 h => ?_)) h
  refine go_if_eq 164 dX10_takeList_157 (by decide) (fun c52 => ?_) (fun c52 => ?_)
  · have h := h.1 c52
    refine go_iconst (v := 0) dX10_takeList_164 (by decide) ?_
    refine go_istore [(0, .ref (ga G 78)), (1, .int x1), (3, .int x3), (4, .int x4), (5, .int (0 : Int32))] [1, 2, 3, 4, 0] dX10_takeList_165 (by decide) rfl ?_
    refine go_iload_n dX10_takeList_167 rfl 2 rfl ?_
    refine go_iload dX10_takeList_168 4 rfl ?_
    refine go_if_eq 180 dX10_takeList_170 (by decide) (fun c53 => ?_) (fun c53 => ?_)
    · have h := h.1 c53
      refine go_iconst (v := 0) dX10_takeList_180 (by decide) ?_
      exact go_sub [0, 1, 4] rfl h
    · have h := h.2 c53
      refine go_iconst (v := 1) dX10_takeList_173 (by decide) ?_
      refine go_iload dX10_takeList_174 3 rfl ?_
      refine go_ishl dX10_takeList_176 ?_
      refine go_goto 181 dX10_takeList_177 (by decide) ?_
      exact go_sub [0, 1, 4] rfl h
  · have h := h.2 c52
    refine go_iconst (v := 1) dX10_takeList_160 (by decide) ?_
    refine go_goto 165 dX10_takeList_161 (by decide) ?_
    refine go_istore [(0, .ref (ga G 78)), (1, .int x1), (3, .int x3), (4, .int x4), (5, .int (1 : Int32))] [1, 2, 3, 4, 0] dX10_takeList_165 (by decide) rfl ?_
    refine go_iload_n dX10_takeList_167 rfl 2 rfl ?_
    refine go_iload dX10_takeList_168 4 rfl ?_
    refine go_if_eq 180 dX10_takeList_170 (by decide) (fun c54 => ?_) (fun c54 => ?_)
    · have h := h.1 c54
      refine go_iconst (v := 0) dX10_takeList_180 (by decide) ?_
      exact go_sub [0, 1, 4] rfl h
    · have h := h.2 c54
      refine go_iconst (v := 1) dX10_takeList_173 (by decide) ?_
      refine go_iload dX10_takeList_174 3 rfl ?_
      refine go_ishl dX10_takeList_176 ?_
      refine go_goto 181 dX10_takeList_177 (by decide) ?_
      exact go_sub [0, 1, 4] rfl h
set_option maxRecDepth 100000 in
theorem eX10_takeDying {G : gC} {l : Launch}  {μ : Mem} {P : Mem → Prop} (h : qX10_takeNumber G l (0 : Int32) (7 : Int32) μ (fun (r2 : Int32) (μ1 : Mem) => hX10_takeDying_12 G l P r2 (1 : Int32) (0 : Int32) μ1)) : qX10_takeDying G l  μ P := by
  refine Sp.of (by decide) (Nat.le_of_ble_eq_true rfl) (lv := [(0, .ref (ga G 78))]) rfl ?_
  refine go_aload_n dX10_takeDying_0 rfl 0 rfl ?_
  refine go_iconst (v := 0) dX10_takeDying_1 (by decide) ?_
  refine go_bipush (v := 7) dX10_takeDying_2 (by decide) ?_
  refine go_callV (As := [.int (0 : Int32), .int (7 : Int32)]) (rest := []) dX10_takeDying_4 lX10_147 kX10_takeNumber rfl (by decide) (Nat.le_of_ble_eq_true rfl) (g_lt rfl) (gs_78 G _ _) rfl (by decide) rfl (gI_go (fun r2 μ1 h => ?_)) h
  refine go_istore_n [(0, .ref (ga G 78)), (1, .int r2)] [1, 0] dX10_takeDying_7 rfl (by decide) rfl ?_
  refine go_iconst (v := 1) dX10_takeDying_8 (by decide) ?_
  refine go_istore_n [(0, .ref (ga G 78)), (1, .int r2), (2, .int (1 : Int32))] [1, 2, 0] dX10_takeDying_9 rfl (by decide) rfl ?_
  refine go_iconst (v := 0) dX10_takeDying_10 (by decide) ?_
  refine go_istore_n [(0, .ref (ga G 78)), (1, .int r2), (2, .int (1 : Int32)), (3, .int (0 : Int32))] [1, 2, 3, 0] dX10_takeDying_11 rfl (by decide) rfl ?_
  exact h
set_option maxRecDepth 100000 in
theorem eX10_takeDying_12 {G : gC} {l : Launch} {P : Mem → Prop} {x1 : Int32} {x2 : Int32} {x3 : Int32} {μ : Mem} (h : (((gm_r μ 78 14) ≤ x3) → ((¬ (gm_r μ 78 12) = 0) → P μ) ∧ (((gm_r μ 78 12) = 0) → qX10_want G l x2 (7 : Int32) (gm_r μ 78 10) μ (fun (r6 : Int32) (μ5 : Mem) => ((r6 = 0) → P μ5) ∧ ((¬ r6 = 0) → vp_in (gm_r μ5 78 14) 10 ∧ vp_in (((8 : Int32) * (gm_r μ5 78 14)) + (1 : Int32)) 80 ∧ P (gm_w (gm_w μ5 86 (gm_r μ5 78 14).toNatClampNeg x1) 87 (((8 : Int32) * (gm_r μ5 78 14)) + (1 : Int32)).toNatClampNeg ((gm_r μ5 87 (((8 : Int32) * (gm_r μ5 78 14)) + (1 : Int32)).toNatClampNeg) ||| ((1 : Int32) <<< (x1 &&& 31)))))))) ∧ ((¬ (gm_r μ 78 14) ≤ x3) → ((x2 = 0) → hX10_takeDying_12 G l P x1 (0 : Int32) (x3 + (1 : Int32)) μ) ∧ ((¬ x2 = 0) → vp_in x3 10 ∧ (((gm_r μ 86 x3.toNatClampNeg) = x1) → hX10_takeDying_12 G l P x1 (0 : Int32) (x3 + (1 : Int32)) μ) ∧ ((¬ (gm_r μ 86 x3.toNatClampNeg) = x1) → hX10_takeDying_12 G l P x1 (1 : Int32) (x3 + (1 : Int32)) μ)))) : hX10_takeDying_12 G l P x1 x2 x3 μ := by
  refine go_iload_n dX10_takeDying_12 rfl 3 rfl ?_
  refine go_aload_n dX10_takeDying_13 rfl 0 rfl ?_
  refine go_get (.int (gm_r μ 78 14)) dX10_takeDying_14 fX10_140 (g_lt rfl) (gs_78 G _ _) rfl ?_
  refine go_icmp_ge 46 dX10_takeDying_17 (by decide) (fun c3 => ?_) (fun c3 => ?_)
  · have h := h.1 c3
    refine go_aload_n dX10_takeDying_46 rfl 0 rfl ?_
    refine go_get (.int (gm_r μ 78 12)) dX10_takeDying_47 fX10_111 (g_lt rfl) (gs_78 G _ _) rfl ?_
    refine go_if_ne 97 dX10_takeDying_50 (by decide) (fun c4 => ?_) (fun c4 => ?_)
    · have h := h.1 c4
      exact go_vret dX10_takeDying_97 rfl (Nat.le_refl _) (Nat.le_refl _) ⟨rfl, h⟩
    · have h := h.2 c4
      refine go_aload_n dX10_takeDying_53 rfl 0 rfl ?_
      refine go_iload_n dX10_takeDying_54 rfl 2 rfl ?_
      refine go_bipush (v := 7) dX10_takeDying_55 (by decide) ?_
      refine go_aload_n dX10_takeDying_57 rfl 0 rfl ?_
      refine go_get (.int (gm_r μ 78 10)) dX10_takeDying_58 fX10_118 (g_lt rfl) (gs_78 G _ _) rfl ?_
      refine go_callV (As := [.int x2, .int (7 : Int32), .int (gm_r μ 78 10)]) (rest := []) dX10_takeDying_61 lX10_136 kX10_want rfl (by decide) (Nat.le_of_ble_eq_true rfl) (g_lt rfl) (gs_78 G _ _) rfl (by decide) rfl (gI_go (fun r6 μ5 h => ?_)) h
      refine go_if_eq 97 dX10_takeDying_64 (by decide) (fun c7 => ?_) (fun c7 => ?_)
      · have h := h.1 c7
        exact go_vret dX10_takeDying_97 rfl (Nat.le_refl _) (Nat.le_refl _) ⟨rfl, h⟩
      · have h := h.2 c7
        refine go_aload_n dX10_takeDying_67 rfl 0 rfl ?_
        refine go_get (.ref (ga G 86)) dX10_takeDying_68 fX10_35 (g_lt rfl) (gs_78 G _ _) rfl ?_
        refine go_aload_n dX10_takeDying_71 rfl 0 rfl ?_
        refine go_get (.int (gm_r μ5 78 14)) dX10_takeDying_72 fX10_140 (g_lt rfl) (gs_78 G _ _) rfl ?_
        refine go_iload_n dX10_takeDying_75 rfl 1 rfl ?_
        obtain ⟨b8, h⟩ := h
        refine go_iast dX10_takeDying_76 (g_lt rfl) (gs_86 G) b8 ?_
        refine go_aload_n dX10_takeDying_77 rfl 0 rfl ?_
        refine go_get (.ref (ga G 87)) dX10_takeDying_78 fX10_38 (g_lt rfl) (gs_78 G _ _) rfl ?_
        refine go_bipush (v := 8) dX10_takeDying_81 (by decide) ?_
        refine go_aload_n dX10_takeDying_83 rfl 0 rfl ?_
        refine go_get (.int (gm_r μ5 78 14)) dX10_takeDying_84 fX10_140 (g_lt rfl) (gs_78 G _ _) rfl ?_
        refine go_imul dX10_takeDying_87 ?_
        refine go_iconst (v := 1) dX10_takeDying_88 (by decide) ?_
        refine go_iadd dX10_takeDying_89 ?_
        refine go_dup2 dX10_takeDying_90 rfl rfl ?_
        obtain ⟨b9, h⟩ := h
        refine go_ialdv ((gm_r μ5 87 (((8 : Int32) * (gm_r μ5 78 14)) + (1 : Int32)).toNatClampNeg)) dX10_takeDying_91 (g_lt rfl) (gs_87 G) b9 rfl ?_
        refine go_iconst (v := 1) dX10_takeDying_92 (by decide) ?_
        refine go_iload_n dX10_takeDying_93 rfl 1 rfl ?_
        refine go_ishl dX10_takeDying_94 ?_
        refine go_ior dX10_takeDying_95 ?_
        refine go_iast dX10_takeDying_96 (g_lt rfl) (gs_87 G) b9 ?_
        exact go_vret dX10_takeDying_97 rfl (Nat.le_refl _) (Nat.le_refl _) ⟨rfl, h⟩
  · have h := h.2 c3
    refine go_iload_n dX10_takeDying_20 rfl 2 rfl ?_
    refine go_if_eq 38 dX10_takeDying_21 (by decide) (fun c10 => ?_) (fun c10 => ?_)
    · have h := h.1 c10
      refine go_iconst (v := 0) dX10_takeDying_38 (by decide) ?_
      refine go_istore_n [(0, .ref (ga G 78)), (1, .int x1), (2, .int (0 : Int32)), (3, .int x3)] [1, 2, 0, 3] dX10_takeDying_39 rfl (by decide) rfl ?_
      refine go_iinc (v := (x3 + (1 : Int32))) [(0, .ref (ga G 78)), (1, .int x1), (2, .int (0 : Int32)), (3, .int (x3 + (1 : Int32)))] [1, 2, 3, 0] 3 dX10_takeDying_40 rfl rfl (by decide) rfl ?_
      refine go_goto 12 dX10_takeDying_43 (by decide) ?_
      exact h
    · have h := h.2 c10
      refine go_aload_n dX10_takeDying_24 rfl 0 rfl ?_
      refine go_get (.ref (ga G 86)) dX10_takeDying_25 fX10_35 (g_lt rfl) (gs_78 G _ _) rfl ?_
      refine go_iload_n dX10_takeDying_28 rfl 3 rfl ?_
      obtain ⟨b11, h⟩ := h
      refine go_ialdv ((gm_r μ 86 x3.toNatClampNeg)) dX10_takeDying_29 (g_lt rfl) (gs_86 G) b11 rfl ?_
      refine go_iload_n dX10_takeDying_30 rfl 1 rfl ?_
      refine go_icmp_eq 38 dX10_takeDying_31 (by decide) (fun c12 => ?_) (fun c12 => ?_)
      · have h := h.1 c12
        refine go_iconst (v := 0) dX10_takeDying_38 (by decide) ?_
        refine go_istore_n [(0, .ref (ga G 78)), (1, .int x1), (2, .int (0 : Int32)), (3, .int x3)] [1, 2, 0, 3] dX10_takeDying_39 rfl (by decide) rfl ?_
        refine go_iinc (v := (x3 + (1 : Int32))) [(0, .ref (ga G 78)), (1, .int x1), (2, .int (0 : Int32)), (3, .int (x3 + (1 : Int32)))] [1, 2, 3, 0] 3 dX10_takeDying_40 rfl rfl (by decide) rfl ?_
        refine go_goto 12 dX10_takeDying_43 (by decide) ?_
        exact h
      · have h := h.2 c12
        refine go_iconst (v := 1) dX10_takeDying_34 (by decide) ?_
        refine go_goto 39 dX10_takeDying_35 (by decide) ?_
        refine go_istore_n [(0, .ref (ga G 78)), (1, .int x1), (2, .int (1 : Int32)), (3, .int x3)] [1, 2, 0, 3] dX10_takeDying_39 rfl (by decide) rfl ?_
        refine go_iinc (v := (x3 + (1 : Int32))) [(0, .ref (ga G 78)), (1, .int x1), (2, .int (1 : Int32)), (3, .int (x3 + (1 : Int32)))] [1, 2, 3, 0] 3 dX10_takeDying_40 rfl rfl (by decide) rfl ?_
        refine go_goto 12 dX10_takeDying_43 (by decide) ?_
        exact h
set_option maxRecDepth 100000 in
theorem eX10_takeScene {G : gC} {l : Launch}  {μ : Mem} {P : Mem → Prop} (h : qX10_takeWord G l  μ (fun (μ1 : Mem) => qX10_isWord G l (5 : Int32) (115 : Int32) (99 : Int32) (101 : Int32) (110 : Int32) (101 : Int32) μ1 (fun (r4 : Int32) (μ3 : Mem) => qX10_want G l r4 (1 : Int32) (gm_r μ3 78 10) μ3 (fun (r6 : Int32) (μ5 : Mem) => ((r6 = 0) → P μ5) ∧ ((¬ r6 = 0) → (((10 : Int32) ≤ (gm_r μ5 78 14)) → hX10_takeScene_46 G l P (0 : Int32) μ5) ∧ ((¬ (10 : Int32) ≤ (gm_r μ5 78 14)) → hX10_takeScene_46 G l P (1 : Int32) μ5)))))) : qX10_takeScene G l  μ P := by
  refine Sp.of (by decide) (Nat.le_of_ble_eq_true rfl) (lv := [(0, .ref (ga G 78))]) rfl ?_
  refine go_aload_n dX10_takeScene_0 rfl 0 rfl ?_
  refine go_callV (As := []) (rest := []) dX10_takeScene_1 lX10_158 kX10_takeWord rfl (by decide) (Nat.le_of_ble_eq_true rfl) (g_lt rfl) (gs_78 G _ _) rfl (by decide) rfl (gV_go (fun μ1 h => ?_)) h
  refine go_aload_n dX10_takeScene_4 rfl 0 rfl ?_
  refine go_aload_n dX10_takeScene_5 rfl 0 rfl ?_
  refine go_iconst (v := 5) dX10_takeScene_6 (by decide) ?_
  refine go_bipush (v := 115) dX10_takeScene_7 (by decide) ?_
  refine go_bipush (v := 99) dX10_takeScene_9 (by decide) ?_
  refine go_bipush (v := 101) dX10_takeScene_11 (by decide) ?_
  refine go_bipush (v := 110) dX10_takeScene_13 (by decide) ?_
  refine go_bipush (v := 101) dX10_takeScene_15 (by decide) ?_
  refine go_callV (As := [.int (5 : Int32), .int (115 : Int32), .int (99 : Int32), .int (101 : Int32), .int (110 : Int32), .int (101 : Int32)]) (rest := [.ref (ga G 78)]) dX10_takeScene_17 lX10_128 kX10_isWord rfl (by decide) (Nat.le_of_ble_eq_true rfl) (g_lt rfl) (gs_78 G _ _) rfl (by decide) rfl (gI_go (fun r4 μ3 h => ?_)) h
  refine go_iconst (v := 1) dX10_takeScene_20 (by decide) ?_
  refine go_aload_n dX10_takeScene_21 rfl 0 rfl ?_
  refine go_get (.int (gm_r μ3 78 10)) dX10_takeScene_22 fX10_118 (g_lt rfl) (gs_78 G _ _) rfl ?_
  refine go_callV (As := [.int r4, .int (1 : Int32), .int (gm_r μ3 78 10)]) (rest := []) dX10_takeScene_25 lX10_136 kX10_want rfl (by decide) (Nat.le_of_ble_eq_true rfl) (g_lt rfl) (gs_78 G _ _) rfl (by decide) rfl (gI_go (fun r6 μ5 h => ?_)) h
  refine go_if_eq 244 dX10_takeScene_28 (by decide) (fun c7 => ?_) (fun c7 => ?_)
  · have h := h.1 c7
    exact go_vret dX10_takeScene_244 rfl (Nat.le_refl _) (Nat.le_refl _) ⟨rfl, h⟩
  · have h := h.2 c7
    refine go_aload_n dX10_takeScene_31 rfl 0 rfl ?_
    refine go_aload_n dX10_takeScene_32 rfl 0 rfl ?_
    refine go_get (.int (gm_r μ5 78 14)) dX10_takeScene_33 fX10_140 (g_lt rfl) (gs_78 G _ _) rfl ?_
    refine go_bipush (v := 10) dX10_takeScene_36 (by decide) ?_
    refine go_icmp_ge 45 dX10_takeScene_38 (by decide) (fun c8 => ?_) (fun c8 => ?_)
    · have h := h.1 c8
      refine go_iconst (v := 0) dX10_takeScene_45 (by decide) ?_
      exact h
    · have h := h.2 c8
      refine go_iconst (v := 1) dX10_takeScene_41 (by decide) ?_
      refine go_goto 46 dX10_takeScene_42 (by decide) ?_
      exact h
set_option maxRecDepth 100000 in
theorem eX10_takeScene_46 {G : gC} {l : Launch} {P : Mem → Prop} {y0 : Int32} {μ : Mem} (h : qX10_want G l y0 (5 : Int32) (gm_r μ 78 10) μ (fun (r10 : Int32) (μ9 : Mem) => ((r10 = 0) → P μ9) ∧ ((¬ r10 = 0) → qX10_takeNumber G l (1 : Int32) (99 : Int32) μ9 (fun (r13 : Int32) (μ12 : Mem) => vp_in (gm_r μ9 78 14) 10 ∧ vp_in (gm_r μ12 78 14) 10 ∧ hX10_takeScene_85 G l P (0 : Int32) (gm_w (gm_w μ12 85 (gm_r μ9 78 14).toNatClampNeg r13) 86 (gm_r μ12 78 14).toNatClampNeg (-1 : Int32)))))) : hX10_takeScene_46 G l P y0 μ := by
  refine go_iconst (v := 5) dX10_takeScene_46 (by decide) ?_
  refine go_aload_n dX10_takeScene_47 rfl 0 rfl ?_
  refine go_get (.int (gm_r μ 78 10)) dX10_takeScene_48 fX10_118 (g_lt rfl) (gs_78 G _ _) rfl ?_
  refine go_callV (As := [.int y0, .int (5 : Int32), .int (gm_r μ 78 10)]) (rest := []) dX10_takeScene_51 lX10_136 kX10_want rfl (by decide) (Nat.le_of_ble_eq_true rfl) (g_lt rfl) (gs_78 G _ _) rfl (by decide) rfl (gI_go (fun r10 μ9 h => ?_)) h
  refine go_if_eq 244 dX10_takeScene_54 (by decide) (fun c11 => ?_) (fun c11 => ?_)
  · have h := h.1 c11
    exact go_vret dX10_takeScene_244 rfl (Nat.le_refl _) (Nat.le_refl _) ⟨rfl, h⟩
  · have h := h.2 c11
    refine go_aload_n dX10_takeScene_57 rfl 0 rfl ?_
    refine go_get (.ref (ga G 85)) dX10_takeScene_58 fX10_32 (g_lt rfl) (gs_78 G _ _) rfl ?_
    refine go_aload_n dX10_takeScene_61 rfl 0 rfl ?_
    refine go_get (.int (gm_r μ9 78 14)) dX10_takeScene_62 fX10_140 (g_lt rfl) (gs_78 G _ _) rfl ?_
    refine go_aload_n dX10_takeScene_65 rfl 0 rfl ?_
    refine go_iconst (v := 1) dX10_takeScene_66 (by decide) ?_
    refine go_bipush (v := 99) dX10_takeScene_67 (by decide) ?_
    refine go_callV (As := [.int (1 : Int32), .int (99 : Int32)]) (rest := [.int (gm_r μ9 78 14), .ref (ga G 85)]) dX10_takeScene_69 lX10_147 kX10_takeNumber rfl (by decide) (Nat.le_of_ble_eq_true rfl) (g_lt rfl) (gs_78 G _ _) rfl (by decide) rfl (gI_go (fun r13 μ12 h => ?_)) h
    obtain ⟨b14, h⟩ := h
    refine go_iast dX10_takeScene_72 (g_lt rfl) (gs_85 G) b14 ?_
    refine go_aload_n dX10_takeScene_73 rfl 0 rfl ?_
    refine go_get (.ref (ga G 86)) dX10_takeScene_74 fX10_35 (g_lt rfl) (gs_78 G _ _) rfl ?_
    refine go_aload_n dX10_takeScene_77 rfl 0 rfl ?_
    refine go_get (.int (gm_r μ12 78 14)) dX10_takeScene_78 fX10_140 (g_lt rfl) (gs_78 G _ _) rfl ?_
    refine go_iconst (v := -1) dX10_takeScene_81 (by decide) ?_
    obtain ⟨b15, h⟩ := h
    refine go_iast dX10_takeScene_82 (g_lt rfl) (gs_86 G) b15 ?_
    refine go_iconst (v := 0) dX10_takeScene_83 (by decide) ?_
    refine go_istore_n [(0, .ref (ga G 78)), (1, .int (0 : Int32))] [1, 0] dX10_takeScene_84 rfl (by decide) rfl ?_
    exact h
set_option maxRecDepth 100000 in
theorem eX10_takeScene_85 {G : gC} {l : Launch} {P : Mem → Prop} {x1 : Int32} {μ : Mem} (h : (((8 : Int32) ≤ x1) → hX10_takeScene_114 G l P (-1 : Int32) μ) ∧ ((¬ (8 : Int32) ≤ x1) → vp_in (((8 : Int32) * (gm_r μ 78 14)) + x1) 80 ∧ hX10_takeScene_85 G l P (x1 + (1 : Int32)) (gm_w μ 87 (((8 : Int32) * (gm_r μ 78 14)) + x1).toNatClampNeg (0 : Int32)))) : hX10_takeScene_85 G l P x1 μ := by
  refine go_iload_n dX10_takeScene_85 rfl 1 rfl ?_
  refine go_bipush (v := 8) dX10_takeScene_86 (by decide) ?_
  refine go_icmp_ge 112 dX10_takeScene_88 (by decide) (fun c16 => ?_) (fun c16 => ?_)
  · have h := h.1 c16
    refine go_iconst (v := -1) dX10_takeScene_112 (by decide) ?_
    refine go_istore_n [(0, .ref (ga G 78)), (1, .int (-1 : Int32))] [1, 0] dX10_takeScene_113 rfl (by decide) rfl ?_
    exact h
  · have h := h.2 c16
    refine go_aload_n dX10_takeScene_91 rfl 0 rfl ?_
    refine go_get (.ref (ga G 87)) dX10_takeScene_92 fX10_38 (g_lt rfl) (gs_78 G _ _) rfl ?_
    refine go_bipush (v := 8) dX10_takeScene_95 (by decide) ?_
    refine go_aload_n dX10_takeScene_97 rfl 0 rfl ?_
    refine go_get (.int (gm_r μ 78 14)) dX10_takeScene_98 fX10_140 (g_lt rfl) (gs_78 G _ _) rfl ?_
    refine go_imul dX10_takeScene_101 ?_
    refine go_iload_n dX10_takeScene_102 rfl 1 rfl ?_
    refine go_iadd dX10_takeScene_103 ?_
    refine go_iconst (v := 0) dX10_takeScene_104 (by decide) ?_
    obtain ⟨b17, h⟩ := h
    refine go_iast dX10_takeScene_105 (g_lt rfl) (gs_87 G) b17 ?_
    refine go_iinc (v := (x1 + (1 : Int32))) [(0, .ref (ga G 78)), (1, .int (x1 + (1 : Int32)))] [1, 0] 1 dX10_takeScene_106 rfl rfl (by decide) rfl ?_
    refine go_goto 85 dX10_takeScene_109 (by decide) ?_
    exact h
set_option maxRecDepth 100000 in
theorem eX10_takeScene_114 {G : gC} {l : Launch} {P : Mem → Prop} {x1 : Int32} {μ : Mem} (h : ((¬ (gm_r μ 78 12) = 0) → hX10_takeScene_210 G l P  μ) ∧ (((gm_r μ 78 12) = 0) → qX10_here G l  μ (fun (r20 : Int32) (μ19 : Mem) => ((r20 = (59 : Int32)) → hX10_takeScene_210 G l P  μ19) ∧ ((¬ r20 = (59 : Int32)) → qX10_takeWord G l  μ19 (fun (μ22 : Mem) => qX10_kindOf G l  μ22 (fun (r25 : Int32) (μ24 : Mem) => ((r25 ≤ x1) → hX10_takeScene_150 G l P x1 r25 (0 : Int32) μ24) ∧ ((¬ r25 ≤ x1) → hX10_takeScene_150 G l P x1 r25 (1 : Int32) μ24))))))) : hX10_takeScene_114 G l P x1 μ := by
  refine go_aload_n dX10_takeScene_114 rfl 0 rfl ?_
  refine go_get (.int (gm_r μ 78 12)) dX10_takeScene_115 fX10_111 (g_lt rfl) (gs_78 G _ _) rfl ?_
  refine go_if_ne 210 dX10_takeScene_118 (by decide) (fun c18 => ?_) (fun c18 => ?_)
  · have h := h.1 c18
    exact go_sub [0] rfl h
  · have h := h.2 c18
    refine go_aload_n dX10_takeScene_121 rfl 0 rfl ?_
    refine go_callV (As := []) (rest := []) dX10_takeScene_122 lX10_114 kX10_here rfl (by decide) (Nat.le_of_ble_eq_true rfl) (g_lt rfl) (gs_78 G _ _) rfl (by decide) rfl (gI_go (fun r20 μ19 h => ?_)) h
    refine go_bipush (v := 59) dX10_takeScene_125 (by decide) ?_
    refine go_icmp_eq 210 dX10_takeScene_127 (by decide) (fun c21 => ?_) (fun c21 => ?_)
    · have h := h.1 c21
      exact go_sub [0] rfl h
    · have h := h.2 c21
      refine go_aload_n dX10_takeScene_130 rfl 0 rfl ?_
      refine go_callV (As := []) (rest := []) dX10_takeScene_131 lX10_158 kX10_takeWord rfl (by decide) (Nat.le_of_ble_eq_true rfl) (g_lt rfl) (gs_78 G _ _) rfl (by decide) rfl (gV_go (fun μ22 h => ?_)) h
      refine go_aload_n dX10_takeScene_134 rfl 0 rfl ?_
      refine go_callV (As := []) (rest := []) dX10_takeScene_135 lX10_161 kX10_kindOf rfl (by decide) (Nat.le_of_ble_eq_true rfl) (g_lt rfl) (gs_78 G _ _) rfl (by decide) rfl (gI_go (fun r25 μ24 h => ?_)) h
      refine go_istore_n [(0, .ref (ga G 78)), (1, .int x1), (2, .int r25)] [1, 2, 0] dX10_takeScene_138 rfl (by decide) rfl ?_
      refine go_aload_n dX10_takeScene_139 rfl 0 rfl ?_
      refine go_iload_n dX10_takeScene_140 rfl 2 rfl ?_
      refine go_iload_n dX10_takeScene_141 rfl 1 rfl ?_
      refine go_icmp_le 149 dX10_takeScene_142 (by decide) (fun c26 => ?_) (fun c26 => ?_)
      · have h := h.1 c26
        refine go_iconst (v := 0) dX10_takeScene_149 (by decide) ?_
        exact h
      · have h := h.2 c26
        refine go_iconst (v := 1) dX10_takeScene_145 (by decide) ?_
        refine go_goto 150 dX10_takeScene_146 (by decide) ?_
        exact h
set_option maxRecDepth 100000 in
theorem eX10_takeScene_210 {G : gC} {l : Launch} {P : Mem → Prop}  {μ : Mem} (h : ((¬ (gm_r μ 78 12) = 0) → qX10_one G l (0 : Int32) μ (fun (r29 : Int32) (μ28 : Mem) => P (gm_w (gm_w μ28 78 9 ((gm_r μ 78 9) + r29)) 78 14 ((gm_r μ28 78 14) + (1 : Int32))))) ∧ (((gm_r μ 78 12) = 0) → qX10_one G l (1 : Int32) μ (fun (r31 : Int32) (μ30 : Mem) => P (gm_w (gm_w μ30 78 9 ((gm_r μ 78 9) + r31)) 78 14 ((gm_r μ30 78 14) + (1 : Int32)))))) : hX10_takeScene_210 G l P  μ := by
  refine go_aload_n dX10_takeScene_210 rfl 0 rfl ?_
  refine go_dup dX10_takeScene_211 rfl ?_
  refine go_get (.int (gm_r μ 78 9)) dX10_takeScene_212 fX10_108 (g_lt rfl) (gs_78 G _ _) rfl ?_
  refine go_aload_n dX10_takeScene_215 rfl 0 rfl ?_
  refine go_get (.int (gm_r μ 78 12)) dX10_takeScene_216 fX10_111 (g_lt rfl) (gs_78 G _ _) rfl ?_
  refine go_if_ne 226 dX10_takeScene_219 (by decide) (fun c27 => ?_) (fun c27 => ?_)
  · have h := h.1 c27
    refine go_iconst (v := 0) dX10_takeScene_226 (by decide) ?_
    refine go_callS (As := [.int (0 : Int32)]) (rest := [.int (gm_r μ 78 9), .ref (ga G 78)]) dX10_takeScene_227 lX10_154 kX10_one rfl (by decide) (Nat.le_of_ble_eq_true rfl) (by decide) rfl (gI_go (fun r29 μ28 h => ?_)) h
    refine go_iadd dX10_takeScene_230 ?_
    refine go_puti dX10_takeScene_231 pX10_108 (g_lt rfl) (gs_78 G _ _) (Nat.le_of_ble_eq_true rfl) rfl ?_
    refine go_aload_n dX10_takeScene_234 rfl 0 rfl ?_
    refine go_dup dX10_takeScene_235 rfl ?_
    refine go_get (.int (gm_r μ28 78 14)) dX10_takeScene_236 fX10_140 (g_lt rfl) (gs_78 G _ _) rfl ?_
    refine go_iconst (v := 1) dX10_takeScene_239 (by decide) ?_
    refine go_iadd dX10_takeScene_240 ?_
    refine go_puti dX10_takeScene_241 pX10_140 (g_lt rfl) (gs_78 G _ _) (Nat.le_of_ble_eq_true rfl) rfl ?_
    exact go_vret dX10_takeScene_244 rfl (Nat.le_refl _) (Nat.le_refl _) ⟨rfl, h⟩
  · have h := h.2 c27
    refine go_iconst (v := 1) dX10_takeScene_222 (by decide) ?_
    refine go_goto 227 dX10_takeScene_223 (by decide) ?_
    refine go_callS (As := [.int (1 : Int32)]) (rest := [.int (gm_r μ 78 9), .ref (ga G 78)]) dX10_takeScene_227 lX10_154 kX10_one rfl (by decide) (Nat.le_of_ble_eq_true rfl) (by decide) rfl (gI_go (fun r31 μ30 h => ?_)) h
    refine go_iadd dX10_takeScene_230 ?_
    refine go_puti dX10_takeScene_231 pX10_108 (g_lt rfl) (gs_78 G _ _) (Nat.le_of_ble_eq_true rfl) rfl ?_
    refine go_aload_n dX10_takeScene_234 rfl 0 rfl ?_
    refine go_dup dX10_takeScene_235 rfl ?_
    refine go_get (.int (gm_r μ30 78 14)) dX10_takeScene_236 fX10_140 (g_lt rfl) (gs_78 G _ _) rfl ?_
    refine go_iconst (v := 1) dX10_takeScene_239 (by decide) ?_
    refine go_iadd dX10_takeScene_240 ?_
    refine go_puti dX10_takeScene_241 pX10_140 (g_lt rfl) (gs_78 G _ _) (Nat.le_of_ble_eq_true rfl) rfl ?_
    exact go_vret dX10_takeScene_244 rfl (Nat.le_refl _) (Nat.le_refl _) ⟨rfl, h⟩
set_option maxRecDepth 100000 in
theorem eX10_takeScene_150 {G : gC} {l : Launch} {P : Mem → Prop} {x1 : Int32} {x2 : Int32} {y0 : Int32} {μ : Mem} (h : qX10_want G l y0 (1 : Int32) (gm_r μ 78 10) μ (fun (r33 : Int32) (μ32 : Mem) => ((r33 = 0) → hX10_takeScene_114 G l P x1 μ32) ∧ ((¬ r33 = 0) → ((¬ x2 = 0) → ((¬ x2 = (7 : Int32)) → qX10_takeList G l x2 μ32 (fun (μ37 : Mem) => hX10_takeScene_114 G l P x2 μ37)) ∧ ((x2 = (7 : Int32)) → qX10_takeDying G l  μ32 (fun (μ39 : Mem) => hX10_takeScene_114 G l P x2 μ39))) ∧ ((x2 = 0) → qX10_takeNumber G l (0 : Int32) (9 : Int32) μ32 (fun (r42 : Int32) (μ41 : Mem) => vp_in ((8 : Int32) * (gm_r μ32 78 14)) 80 ∧ hX10_takeScene_114 G l P x2 (gm_w μ41 87 ((8 : Int32) * (gm_r μ32 78 14)).toNatClampNeg r42)))))) : hX10_takeScene_150 G l P x1 x2 y0 μ := by
  refine go_iconst (v := 1) dX10_takeScene_150 (by decide) ?_
  refine go_aload_n dX10_takeScene_151 rfl 0 rfl ?_
  refine go_get (.int (gm_r μ 78 10)) dX10_takeScene_152 fX10_118 (g_lt rfl) (gs_78 G _ _) rfl ?_
  refine go_callV (As := [.int y0, .int (1 : Int32), .int (gm_r μ 78 10)]) (rest := []) dX10_takeScene_155 lX10_136 kX10_want rfl (by decide) (Nat.le_of_ble_eq_true rfl) (g_lt rfl) (gs_78 G _ _) rfl (by decide) rfl (gI_go (fun r33 μ32 h => ?_)) h
  refine go_if_eq 207 dX10_takeScene_158 (by decide) (fun c34 => ?_) (fun c34 => ?_)
  · have h := h.1 c34
    refine go_goto 114 dX10_takeScene_207 (by decide) ?_
    exact go_sub [0, 1] rfl h
  · have h := h.2 c34
    refine go_iload_n dX10_takeScene_161 rfl 2 rfl ?_
    refine go_istore_n [(0, .ref (ga G 78)), (1, .int x2), (2, .int x2)] [1, 0, 2] dX10_takeScene_162 rfl (by decide) rfl ?_
    refine go_iload_n dX10_takeScene_163 rfl 2 rfl ?_
    refine go_if_ne 189 dX10_takeScene_164 (by decide) (fun c35 => ?_) (fun c35 => ?_)
    · have h := h.1 c35
      refine go_iload_n dX10_takeScene_189 rfl 2 rfl ?_
      refine go_bipush (v := 7) dX10_takeScene_190 (by decide) ?_
      refine go_icmp_ne 202 dX10_takeScene_192 (by decide) (fun c36 => ?_) (fun c36 => ?_)
      · have h := h.1 c36
        refine go_aload_n dX10_takeScene_202 rfl 0 rfl ?_
        refine go_iload_n dX10_takeScene_203 rfl 2 rfl ?_
        refine go_callV (As := [.int x2]) (rest := []) dX10_takeScene_204 lX10_167 kX10_takeList rfl (by decide) (Nat.le_of_ble_eq_true rfl) (g_lt rfl) (gs_78 G _ _) rfl (by decide) rfl (gV_go (fun μ37 h => ?_)) h
        refine go_goto 114 dX10_takeScene_207 (by decide) ?_
        exact go_sub [0, 1] rfl h
      · have h := h.2 c36
        refine go_aload_n dX10_takeScene_195 rfl 0 rfl ?_
        refine go_callV (As := []) (rest := []) dX10_takeScene_196 lX10_164 kX10_takeDying rfl (by decide) (Nat.le_of_ble_eq_true rfl) (g_lt rfl) (gs_78 G _ _) rfl (by decide) rfl (gV_go (fun μ39 h => ?_)) h
        refine go_goto 207 dX10_takeScene_199 (by decide) ?_
        refine go_goto 114 dX10_takeScene_207 (by decide) ?_
        exact go_sub [0, 1] rfl h
    · have h := h.2 c35
      refine go_aload_n dX10_takeScene_167 rfl 0 rfl ?_
      refine go_get (.ref (ga G 87)) dX10_takeScene_168 fX10_38 (g_lt rfl) (gs_78 G _ _) rfl ?_
      refine go_bipush (v := 8) dX10_takeScene_171 (by decide) ?_
      refine go_aload_n dX10_takeScene_173 rfl 0 rfl ?_
      refine go_get (.int (gm_r μ32 78 14)) dX10_takeScene_174 fX10_140 (g_lt rfl) (gs_78 G _ _) rfl ?_
      refine go_imul dX10_takeScene_177 ?_
      refine go_aload_n dX10_takeScene_178 rfl 0 rfl ?_
      refine go_iconst (v := 0) dX10_takeScene_179 (by decide) ?_
      refine go_bipush (v := 9) dX10_takeScene_180 (by decide) ?_
      refine go_callV (As := [.int (0 : Int32), .int (9 : Int32)]) (rest := [.int ((8 : Int32) * (gm_r μ32 78 14)), .ref (ga G 87)]) dX10_takeScene_182 lX10_147 kX10_takeNumber rfl (by decide) (Nat.le_of_ble_eq_true rfl) (g_lt rfl) (gs_78 G _ _) rfl (by decide) rfl (gI_go (fun r42 μ41 h => ?_)) h
      obtain ⟨b43, h⟩ := h
      refine go_iast dX10_takeScene_185 (g_lt rfl) (gs_87 G) b43 ?_
      refine go_goto 207 dX10_takeScene_186 (by decide) ?_
      refine go_goto 114 dX10_takeScene_207 (by decide) ?_
      exact go_sub [0, 1] rfl h
set_option maxRecDepth 100000 in
theorem eX10_story {G : gC} {l : Launch}  {μ : Mem} {P : Int32 → Mem → Prop} (h : hX10_story_20 G l P  (gm_w (gm_w (gm_w (gm_w μ 78 9 (0 : Int32)) 78 12 (0 : Int32)) 78 13 (-1 : Int32)) 78 14 (0 : Int32))) : qX10_story G l  μ P := by
  refine Sp.of (by decide) (Nat.le_of_ble_eq_true rfl) (lv := [(0, .ref (ga G 78))]) rfl ?_
  refine go_aload_n dX10_story_0 rfl 0 rfl ?_
  refine go_iconst (v := 0) dX10_story_1 (by decide) ?_
  refine go_puti dX10_story_2 pX10_108 (g_lt rfl) (gs_78 G _ _) (Nat.le_of_ble_eq_true rfl) rfl ?_
  refine go_aload_n dX10_story_5 rfl 0 rfl ?_
  refine go_iconst (v := 0) dX10_story_6 (by decide) ?_
  refine go_puti dX10_story_7 pX10_111 (g_lt rfl) (gs_78 G _ _) (Nat.le_of_ble_eq_true rfl) rfl ?_
  refine go_aload_n dX10_story_10 rfl 0 rfl ?_
  refine go_iconst (v := -1) dX10_story_11 (by decide) ?_
  refine go_puti dX10_story_12 pX10_28 (g_lt rfl) (gs_78 G _ _) (Nat.le_of_ble_eq_true rfl) rfl ?_
  refine go_aload_n dX10_story_15 rfl 0 rfl ?_
  refine go_iconst (v := 0) dX10_story_16 (by decide) ?_
  refine go_puti dX10_story_17 pX10_140 (g_lt rfl) (gs_78 G _ _) (Nat.le_of_ble_eq_true rfl) rfl ?_
  exact h
set_option maxRecDepth 100000 in
theorem eX10_story_20 {G : gC} {l : Launch} {P : Int32 → Mem → Prop}  {μ : Mem} (h : ((¬ (gm_r μ 78 12) = 0) → hX10_story_41 G l P  μ) ∧ (((gm_r μ 78 12) = 0) → qX10_here G l  μ (fun (r3 : Int32) (μ2 : Mem) => ((r3 < 0) → hX10_story_41 G l P  μ2) ∧ ((¬ r3 < 0) → qX10_takeScene G l  μ2 (fun (μ5 : Mem) => hX10_story_20 G l P  μ5))))) : hX10_story_20 G l P  μ := by
  refine go_aload_n dX10_story_20 rfl 0 rfl ?_
  refine go_get (.int (gm_r μ 78 12)) dX10_story_21 fX10_111 (g_lt rfl) (gs_78 G _ _) rfl ?_
  refine go_if_ne 41 dX10_story_24 (by decide) (fun c1 => ?_) (fun c1 => ?_)
  · have h := h.1 c1
    exact h
  · have h := h.2 c1
    refine go_aload_n dX10_story_27 rfl 0 rfl ?_
    refine go_callV (As := []) (rest := []) dX10_story_28 lX10_114 kX10_here rfl (by decide) (Nat.le_of_ble_eq_true rfl) (g_lt rfl) (gs_78 G _ _) rfl (by decide) rfl (gI_go (fun r3 μ2 h => ?_)) h
    refine go_if_lt 41 dX10_story_31 (by decide) (fun c4 => ?_) (fun c4 => ?_)
    · have h := h.1 c4
      exact h
    · have h := h.2 c4
      refine go_aload_n dX10_story_34 rfl 0 rfl ?_
      refine go_callV (As := []) (rest := []) dX10_story_35 lX10_171 kX10_takeScene rfl (by decide) (Nat.le_of_ble_eq_true rfl) (g_lt rfl) (gs_78 G _ _) rfl (by decide) rfl (gV_go (fun μ5 h => ?_)) h
      refine go_goto 20 dX10_story_38 (by decide) ?_
      exact h
set_option maxRecDepth 100000 in
theorem eX10_story_41 {G : gC} {l : Launch} {P : Int32 → Mem → Prop}  {μ : Mem} (h : (((gm_r μ 78 12) ≤ 0) → hX10_story_71 G l P (0 : Int32) (gm_w (gm_w μ 78 8 (0 : Int32)) 78 0 (gm_r μ 78 14))) ∧ ((¬ (gm_r μ 78 12) ≤ 0) → P ((-10 : Int32) - (gm_r μ 78 12)) (gm_w μ 78 8 (0 : Int32)))) : hX10_story_41 G l P  μ := by
  refine go_aload_n dX10_story_41 rfl 0 rfl ?_
  refine go_iconst (v := 0) dX10_story_42 (by decide) ?_
  refine go_puti dX10_story_43 pX10_103 (g_lt rfl) (gs_78 G _ _) (Nat.le_of_ble_eq_true rfl) rfl ?_
  refine go_aload_n dX10_story_46 rfl 0 rfl ?_
  refine go_get (.int (gm_r μ 78 12)) dX10_story_47 fX10_111 (g_lt rfl) (gs_78 G _ _) rfl ?_
  refine go_if_le 61 dX10_story_50 (by decide) (fun c7 => ?_) (fun c7 => ?_)
  · have h := h.1 c7
    refine go_aload_n dX10_story_61 rfl 0 rfl ?_
    refine go_aload_n dX10_story_62 rfl 0 rfl ?_
    refine go_get (.int (gm_r μ 78 14)) dX10_story_63 fX10_140 (g_lt rfl) (gs_78 G _ _) rfl ?_
    refine go_puti dX10_story_66 pX10_174 (g_lt rfl) (gs_78 G _ _) (Nat.le_of_ble_eq_true rfl) rfl ?_
    refine go_iconst (v := 0) dX10_story_69 (by decide) ?_
    refine go_istore_n [(0, .ref (ga G 78)), (1, .int (0 : Int32))] [1, 0] dX10_story_70 rfl (by decide) rfl ?_
    exact h
  · have h := h.2 c7
    refine go_bipush (v := -10) dX10_story_53 (by decide) ?_
    refine go_aload_n dX10_story_55 rfl 0 rfl ?_
    refine go_get (.int (gm_r μ 78 12)) dX10_story_56 fX10_111 (g_lt rfl) (gs_78 G _ _) rfl ?_
    refine go_isub dX10_story_59 ?_
    exact go_iret dX10_story_60 rfl (Nat.le_refl _) (Nat.le_refl _) ⟨_, rfl, h⟩
set_option maxRecDepth 100000 in
theorem eX10_story_71 {G : gC} {l : Launch} {P : Int32 → Mem → Prop} {x1 : Int32} {μ : Mem} (h : (((gm_r μ 78 0) ≤ x1) → hX10_story_111 G l P (0 : Int32) μ) ∧ ((¬ (gm_r μ 78 0) ≤ x1) → vp_in x1 10 ∧ hX10_story_71 G l P (x1 + (1 : Int32)) (gm_w (gm_w μ 79 x1.toNatClampNeg (gm_r μ 85 x1.toNatClampNeg)) 80 x1.toNatClampNeg (gm_r μ 86 x1.toNatClampNeg)))) : hX10_story_71 G l P x1 μ := by
  refine go_iload_n dX10_story_71 rfl 1 rfl ?_
  refine go_aload_n dX10_story_72 rfl 0 rfl ?_
  refine go_get (.int (gm_r μ 78 0)) dX10_story_73 fX10_174 (g_lt rfl) (gs_78 G _ _) rfl ?_
  refine go_icmp_ge 109 dX10_story_76 (by decide) (fun c8 => ?_) (fun c8 => ?_)
  · have h := h.1 c8
    refine go_iconst (v := 0) dX10_story_109 (by decide) ?_
    refine go_istore_n [(0, .ref (ga G 78)), (1, .int (0 : Int32))] [1, 0] dX10_story_110 rfl (by decide) rfl ?_
    exact h
  · have h := h.2 c8
    refine go_aload_n dX10_story_79 rfl 0 rfl ?_
    refine go_get (.ref (ga G 79)) dX10_story_80 fX10_7 (g_lt rfl) (gs_78 G _ _) rfl ?_
    refine go_iload_n dX10_story_83 rfl 1 rfl ?_
    refine go_aload_n dX10_story_84 rfl 0 rfl ?_
    refine go_get (.ref (ga G 85)) dX10_story_85 fX10_32 (g_lt rfl) (gs_78 G _ _) rfl ?_
    refine go_iload_n dX10_story_88 rfl 1 rfl ?_
    obtain ⟨b9, h⟩ := h
    refine go_ialdv ((gm_r μ 85 x1.toNatClampNeg)) dX10_story_89 (g_lt rfl) (gs_85 G) b9 rfl ?_
    refine go_iast dX10_story_90 (g_lt rfl) (gs_79 G) b9 ?_
    refine go_aload_n dX10_story_91 rfl 0 rfl ?_
    refine go_get (.ref (ga G 80)) dX10_story_92 fX10_13 (g_lt rfl) (gs_78 G _ _) rfl ?_
    refine go_iload_n dX10_story_95 rfl 1 rfl ?_
    refine go_aload_n dX10_story_96 rfl 0 rfl ?_
    refine go_get (.ref (ga G 86)) dX10_story_97 fX10_35 (g_lt rfl) (gs_78 G _ _) rfl ?_
    refine go_iload_n dX10_story_100 rfl 1 rfl ?_
    refine go_ialdv ((gm_r μ 86 x1.toNatClampNeg)) dX10_story_101 (g_lt rfl) (gs_86 G) b9 rfl ?_
    refine go_iast dX10_story_102 (g_lt rfl) (gs_80 G) b9 ?_
    refine go_iinc (v := (x1 + (1 : Int32))) [(0, .ref (ga G 78)), (1, .int (x1 + (1 : Int32)))] [1, 0] 1 dX10_story_103 rfl rfl (by decide) rfl ?_
    refine go_goto 71 dX10_story_106 (by decide) ?_
    exact h
set_option maxRecDepth 100000 in
theorem eX10_story_111 {G : gC} {l : Launch} {P : Int32 → Mem → Prop} {x1 : Int32} {μ : Mem} (h : (((80 : Int32) ≤ x1) → P (gm_r μ 78 0) (gm_w (gm_w (gm_w (gm_w (gm_w μ 78 22 (0 : Int32)) 78 23 (0 : Int32)) 78 26 (0 : Int32)) 78 27 (0 : Int32)) 78 1 ((gm_r μ 78 1) + (1 : Int32)))) ∧ ((¬ (80 : Int32) ≤ x1) → vp_in x1 80 ∧ hX10_story_111 G l P (x1 + (1 : Int32)) (gm_w μ 81 x1.toNatClampNeg (gm_r μ 87 x1.toNatClampNeg)))) : hX10_story_111 G l P x1 μ := by
  refine go_iload_n dX10_story_111 rfl 1 rfl ?_
  refine go_bipush (v := 80) dX10_story_112 (by decide) ?_
  refine go_icmp_ge 135 dX10_story_114 (by decide) (fun c10 => ?_) (fun c10 => ?_)
  · have h := h.1 c10
    refine go_aload_n dX10_story_135 rfl 0 rfl ?_
    refine go_iconst (v := 0) dX10_story_136 (by decide) ?_
    refine go_puti dX10_story_137 pX10_177 (g_lt rfl) (gs_78 G _ _) (Nat.le_of_ble_eq_true rfl) rfl ?_
    refine go_aload_n dX10_story_140 rfl 0 rfl ?_
    refine go_iconst (v := 0) dX10_story_141 (by decide) ?_
    refine go_puti dX10_story_142 pX10_180 (g_lt rfl) (gs_78 G _ _) (Nat.le_of_ble_eq_true rfl) rfl ?_
    refine go_aload_n dX10_story_145 rfl 0 rfl ?_
    refine go_iconst (v := 0) dX10_story_146 (by decide) ?_
    refine go_puti dX10_story_147 pX10_183 (g_lt rfl) (gs_78 G _ _) (Nat.le_of_ble_eq_true rfl) rfl ?_
    refine go_aload_n dX10_story_150 rfl 0 rfl ?_
    refine go_iconst (v := 0) dX10_story_151 (by decide) ?_
    refine go_puti dX10_story_152 pX10_186 (g_lt rfl) (gs_78 G _ _) (Nat.le_of_ble_eq_true rfl) rfl ?_
    refine go_aload_n dX10_story_155 rfl 0 rfl ?_
    refine go_dup dX10_story_156 rfl ?_
    refine go_get (.int (gm_r μ 78 1)) dX10_story_157 fX10_189 (g_lt rfl) (gs_78 G _ _) rfl ?_
    refine go_iconst (v := 1) dX10_story_160 (by decide) ?_
    refine go_iadd dX10_story_161 ?_
    refine go_puti dX10_story_162 pX10_189 (g_lt rfl) (gs_78 G _ _) (Nat.le_of_ble_eq_true rfl) rfl ?_
    refine go_aload_n dX10_story_165 rfl 0 rfl ?_
    refine go_get (.int (gm_r μ 78 0)) dX10_story_166 fX10_174 (g_lt rfl) (gs_78 G _ _) rfl ?_
    exact go_iret dX10_story_169 rfl (Nat.le_refl _) (Nat.le_refl _) ⟨_, rfl, h⟩
  · have h := h.2 c10
    refine go_aload_n dX10_story_117 rfl 0 rfl ?_
    refine go_get (.ref (ga G 81)) dX10_story_118 fX10_16 (g_lt rfl) (gs_78 G _ _) rfl ?_
    refine go_iload_n dX10_story_121 rfl 1 rfl ?_
    refine go_aload_n dX10_story_122 rfl 0 rfl ?_
    refine go_get (.ref (ga G 87)) dX10_story_123 fX10_38 (g_lt rfl) (gs_78 G _ _) rfl ?_
    refine go_iload_n dX10_story_126 rfl 1 rfl ?_
    obtain ⟨b11, h⟩ := h
    refine go_ialdv ((gm_r μ 87 x1.toNatClampNeg)) dX10_story_127 (g_lt rfl) (gs_87 G) b11 rfl ?_
    refine go_iast dX10_story_128 (g_lt rfl) (gs_81 G) b11 ?_
    refine go_iinc (v := (x1 + (1 : Int32))) [(0, .ref (ga G 78)), (1, .int (x1 + (1 : Int32)))] [1, 0] 1 dX10_story_129 rfl rfl (by decide) rfl ?_
    refine go_goto 111 dX10_story_132 (by decide) ?_
    exact h
set_option maxRecDepth 100000 in
theorem eX10_fault {G : gC} {l : Launch}  {μ : Mem} {P : Int32 → Mem → Prop} (h : P (gm_r μ 78 13) μ) : qX10_fault G l  μ P := by
  refine Sp.of (by decide) (Nat.le_of_ble_eq_true rfl) (lv := [(0, .ref (ga G 78))]) rfl ?_
  refine go_aload_n dX10_fault_0 rfl 0 rfl ?_
  refine go_get (.int (gm_r μ 78 13)) dX10_fault_1 fX10_28 (g_lt rfl) (gs_78 G _ _) rfl ?_
  exact go_iret dX10_fault_4 rfl (Nat.le_refl _) (Nat.le_refl _) ⟨_, rfl, h⟩
set_option maxRecDepth 100000 in
theorem eX10_setOf {G : gC} {l : Launch} {a1 : Int32} {a2 : Int32} {μ : Mem} {P : Int32 → Mem → Prop} (h : vp_in (((8 : Int32) * a1) + a2) 80 ∧ P (gm_r μ 81 (((8 : Int32) * a1) + a2).toNatClampNeg) μ) : qX10_setOf G l a1 a2 μ P := by
  refine Sp.of (by decide) (Nat.le_of_ble_eq_true rfl) (lv := [(0, .ref (ga G 78)), (1, .int a1), (2, .int a2)]) rfl ?_
  refine go_aload_n dX10_setOf_0 rfl 0 rfl ?_
  refine go_get (.ref (ga G 81)) dX10_setOf_1 fX10_16 (g_lt rfl) (gs_78 G _ _) rfl ?_
  refine go_bipush (v := 8) dX10_setOf_4 (by decide) ?_
  refine go_iload_n dX10_setOf_6 rfl 1 rfl ?_
  refine go_imul dX10_setOf_7 ?_
  refine go_iload_n dX10_setOf_8 rfl 2 rfl ?_
  refine go_iadd dX10_setOf_9 ?_
  obtain ⟨b1, h⟩ := h
  refine go_ialdv ((gm_r μ 81 (((8 : Int32) * a1) + a2).toNatClampNeg)) dX10_setOf_10 (g_lt rfl) (gs_81 G) b1 rfl ?_
  exact go_iret dX10_setOf_11 rfl (Nat.le_refl _) (Nat.le_refl _) ⟨_, rfl, h⟩
set_option maxRecDepth 100000 in
theorem eX10_noScene {G : gC} {l : Launch} {a1 : Int32} {μ : Mem} {P : Int32 → Mem → Prop} (h : qX10_in G l (a1).toInt64 (0 : Int64) (((gm_r μ 78 0) - (1 : Int32))).toInt64 μ (fun (r2 : Int32) (μ1 : Mem) => ((¬ r2 = 0) → P (0 : Int32) μ1) ∧ ((r2 = 0) → P (1 : Int32) μ1))) : qX10_noScene G l a1 μ P := by
  refine Sp.of (by decide) (Nat.le_of_ble_eq_true rfl) (lv := [(0, .ref (ga G 78)), (1, .int a1)]) rfl ?_
  refine go_iload_n dX10_noScene_0 rfl 1 rfl ?_
  refine go_i2l dX10_noScene_1 ?_
  refine go_lconst (v := 0) dX10_noScene_2 (by decide) ?_
  refine go_aload_n dX10_noScene_3 rfl 0 rfl ?_
  refine go_get (.int (gm_r μ 78 0)) dX10_noScene_4 fX10_174 (g_lt rfl) (gs_78 G _ _) rfl ?_
  refine go_iconst (v := 1) dX10_noScene_7 (by decide) ?_
  refine go_isub dX10_noScene_8 ?_
  refine go_i2l dX10_noScene_9 ?_
  refine go_callS (As := [.long (a1).toInt64, .long (0 : Int64), .long (((gm_r μ 78 0) - (1 : Int32))).toInt64]) (rest := []) dX10_noScene_10 lX10_99 kX10_in rfl (by decide) (Nat.le_of_ble_eq_true rfl) (by decide) rfl (gI_go (fun r2 μ1 h => ?_)) h
  refine go_if_ne 20 dX10_noScene_13 (by decide) (fun c3 => ?_) (fun c3 => ?_)
  · have h := h.1 c3
    refine go_iconst (v := 0) dX10_noScene_20 (by decide) ?_
    exact go_zret dX10_noScene_21 rfl (Nat.le_refl _) (Nat.le_refl _) rfl ⟨_, rfl, h⟩
  · have h := h.2 c3
    refine go_iconst (v := 1) dX10_noScene_16 (by decide) ?_
    refine go_goto 21 dX10_noScene_17 (by decide) ?_
    exact go_zret dX10_noScene_21 rfl (Nat.le_refl _) (Nat.le_refl _) rfl ⟨_, rfl, h⟩
set_option maxRecDepth 100000 in
theorem eX10_all {G : gC} {l : Launch}  {μ : Mem} {P : Int32 → Mem → Prop} (h : P (((1 : Int32) <<< ((gm_r μ 78 0) &&& 31)) - (1 : Int32)) μ) : qX10_all G l  μ P := by
  refine Sp.of (by decide) (Nat.le_of_ble_eq_true rfl) (lv := [(0, .ref (ga G 78))]) rfl ?_
  refine go_iconst (v := 1) dX10_all_0 (by decide) ?_
  refine go_aload_n dX10_all_1 rfl 0 rfl ?_
  refine go_get (.int (gm_r μ 78 0)) dX10_all_2 fX10_174 (g_lt rfl) (gs_78 G _ _) rfl ?_
  refine go_ishl dX10_all_5 ?_
  refine go_iconst (v := 1) dX10_all_6 (by decide) ?_
  refine go_isub dX10_all_7 ?_
  exact go_iret dX10_all_8 rfl (Nat.le_refl _) (Nat.le_refl _) ⟨_, rfl, h⟩
set_option maxRecDepth 100000 in
theorem eX10_noSet {G : gC} {l : Launch} {a1 : Int32} {μ : Mem} {P : Int32 → Mem → Prop} (h : qX10_all G l  μ (fun (r2 : Int32) (μ1 : Mem) => qX10_in G l (a1).toInt64 (0 : Int64) (r2).toInt64 μ1 (fun (r4 : Int32) (μ3 : Mem) => ((¬ r4 = 0) → P (0 : Int32) μ3) ∧ ((r4 = 0) → P (1 : Int32) μ3)))) : qX10_noSet G l a1 μ P := by
  refine Sp.of (by decide) (Nat.le_of_ble_eq_true rfl) (lv := [(0, .ref (ga G 78)), (1, .int a1)]) rfl ?_
  refine go_iload_n dX10_noSet_0 rfl 1 rfl ?_
  refine go_i2l dX10_noSet_1 ?_
  refine go_lconst (v := 0) dX10_noSet_2 (by decide) ?_
  refine go_aload_n dX10_noSet_3 rfl 0 rfl ?_
  refine go_callV (As := []) (rest := [.long (0 : Int64), .long (a1).toInt64]) dX10_noSet_4 lX10_192 kX10_all rfl (by decide) (Nat.le_of_ble_eq_true rfl) (g_lt rfl) (gs_78 G _ _) rfl (by decide) rfl (gI_go (fun r2 μ1 h => ?_)) h
  refine go_i2l dX10_noSet_7 ?_
  refine go_callS (As := [.long (a1).toInt64, .long (0 : Int64), .long (r2).toInt64]) (rest := []) dX10_noSet_8 lX10_99 kX10_in rfl (by decide) (Nat.le_of_ble_eq_true rfl) (by decide) rfl (gI_go (fun r4 μ3 h => ?_)) h
  refine go_if_ne 18 dX10_noSet_11 (by decide) (fun c5 => ?_) (fun c5 => ?_)
  · have h := h.1 c5
    refine go_iconst (v := 0) dX10_noSet_18 (by decide) ?_
    exact go_zret dX10_noSet_19 rfl (Nat.le_refl _) (Nat.le_refl _) rfl ⟨_, rfl, h⟩
  · have h := h.2 c5
    refine go_iconst (v := 1) dX10_noSet_14 (by decide) ?_
    refine go_goto 19 dX10_noSet_15 (by decide) ?_
    exact go_zret dX10_noSet_19 rfl (Nat.le_refl _) (Nat.le_refl _) rfl ⟨_, rfl, h⟩
set_option maxRecDepth 100000 in
theorem eX10_setIn {G : gC} {l : Launch} {a1 : Int32} {μ : Mem} {P : Int32 → Mem → Prop} (h : hX10_setIn_4 G l P a1 (0 : Int32) (0 : Int32) μ) : qX10_setIn G l a1 μ P := by
  refine Sp.of (by decide) (Nat.le_of_ble_eq_true rfl) (lv := [(0, .ref (ga G 78)), (1, .int a1)]) rfl ?_
  refine go_iconst (v := 0) dX10_setIn_0 (by decide) ?_
  refine go_istore_n [(0, .ref (ga G 78)), (1, .int a1), (2, .int (0 : Int32))] [1, 2, 0] dX10_setIn_1 rfl (by decide) rfl ?_
  refine go_iconst (v := 0) dX10_setIn_2 (by decide) ?_
  refine go_istore_n [(0, .ref (ga G 78)), (1, .int a1), (2, .int (0 : Int32)), (3, .int (0 : Int32))] [1, 2, 3, 0] dX10_setIn_3 rfl (by decide) rfl ?_
  exact h
set_option maxRecDepth 100000 in
theorem eX10_setIn_4 {G : gC} {l : Launch} {P : Int32 → Mem → Prop} {x1 : Int32} {x2 : Int32} {x3 : Int32} {μ : Mem} (h : vp_in x1 12 ∧ (((gm_r μ 92 x1.toNatClampNeg) ≤ x3) → P x2 μ) ∧ ((¬ (gm_r μ 92 x1.toNatClampNeg) ≤ x3) → vp_in (((6 : Int32) * x1) + x3) 72 ∧ ∀ v4 : Int32, v4 = (x2 ||| ((1 : Int32) <<< ((gm_r μ 93 (((6 : Int32) * x1) + x3).toNatClampNeg) &&& 31))) → hX10_setIn_4 G l P x1 v4 (x3 + (1 : Int32)) μ)) : hX10_setIn_4 G l P x1 x2 x3 μ := by
  refine go_iload_n dX10_setIn_4 rfl 3 rfl ?_
  refine go_aload_n dX10_setIn_5 rfl 0 rfl ?_
  refine go_get (.ref (ga G 92)) dX10_setIn_6 fX10_55 (g_lt rfl) (gs_78 G _ _) rfl ?_
  refine go_iload_n dX10_setIn_9 rfl 1 rfl ?_
  obtain ⟨b1, h⟩ := h
  refine go_ialdv ((gm_r μ 92 x1.toNatClampNeg)) dX10_setIn_10 (g_lt rfl) (gs_92 G) b1 rfl ?_
  refine go_icmp_ge 36 dX10_setIn_11 (by decide) (fun c2 => ?_) (fun c2 => ?_)
  · have h := h.1 c2
    refine go_iload_n dX10_setIn_36 rfl 2 rfl ?_
    exact go_iret dX10_setIn_37 rfl (Nat.le_refl _) (Nat.le_refl _) ⟨_, rfl, h⟩
  · have h := h.2 c2
    refine go_iload_n dX10_setIn_14 rfl 2 rfl ?_
    refine go_iconst (v := 1) dX10_setIn_15 (by decide) ?_
    refine go_aload_n dX10_setIn_16 rfl 0 rfl ?_
    refine go_get (.ref (ga G 93)) dX10_setIn_17 fX10_58 (g_lt rfl) (gs_78 G _ _) rfl ?_
    refine go_bipush (v := 6) dX10_setIn_20 (by decide) ?_
    refine go_iload_n dX10_setIn_22 rfl 1 rfl ?_
    refine go_imul dX10_setIn_23 ?_
    refine go_iload_n dX10_setIn_24 rfl 3 rfl ?_
    refine go_iadd dX10_setIn_25 ?_
    obtain ⟨b3, h⟩ := h
    refine go_ialdv ((gm_r μ 93 (((6 : Int32) * x1) + x3).toNatClampNeg)) dX10_setIn_26 (g_lt rfl) (gs_93 G) b3 rfl ?_
    refine go_ishl dX10_setIn_27 ?_
    refine go_ior dX10_setIn_28 ?_
    refine go_topi (fun v4 e_v4 => ?_)
    have h := h v4 e_v4
    refine go_istore_n [(0, .ref (ga G 78)), (1, .int x1), (2, .int v4), (3, .int x3)] [1, 2, 0, 3] dX10_setIn_29 rfl (by decide) rfl ?_
    refine go_iinc (v := (x3 + (1 : Int32))) [(0, .ref (ga G 78)), (1, .int x1), (2, .int v4), (3, .int (x3 + (1 : Int32)))] [1, 2, 3, 0] 3 dX10_setIn_30 rfl rfl (by decide) rfl ?_
    refine go_goto 4 dX10_setIn_33 (by decide) ?_
    exact h
set_option maxRecDepth 100000 in
theorem eX10_numberOf {G : gC} {l : Launch} {a1 : Int32} {μ : Mem} {P : Int32 → Mem → Prop} (h : hX10_numberOf_2 G l P a1 (0 : Int32) μ) : qX10_numberOf G l a1 μ P := by
  refine Sp.of (by decide) (Nat.le_of_ble_eq_true rfl) (lv := [(0, .ref (ga G 78)), (1, .int a1)]) rfl ?_
  refine go_iconst (v := 0) dX10_numberOf_0 (by decide) ?_
  refine go_istore_n [(0, .ref (ga G 78)), (1, .int a1), (2, .int (0 : Int32))] [1, 2, 0] dX10_numberOf_1 rfl (by decide) rfl ?_
  exact h
set_option maxRecDepth 100000 in
theorem eX10_numberOf_2 {G : gC} {l : Launch} {P : Int32 → Mem → Prop} {x1 : Int32} {x2 : Int32} {μ : Mem} (h : (((gm_r μ 78 22) ≤ x2) → P (-1 : Int32) μ) ∧ ((¬ (gm_r μ 78 22) ≤ x2) → qX10_setIn G l x2 μ (fun (r3 : Int32) (μ2 : Mem) => qX10_has G l r3 x1 μ2 (fun (r5 : Int32) (μ4 : Mem) => ((r5 = 0) → hX10_numberOf_2 G l P x1 (x2 + (1 : Int32)) μ4) ∧ ((¬ r5 = 0) → P x2 μ4))))) : hX10_numberOf_2 G l P x1 x2 μ := by
  refine go_iload_n dX10_numberOf_2 rfl 2 rfl ?_
  refine go_aload_n dX10_numberOf_3 rfl 0 rfl ?_
  refine go_get (.int (gm_r μ 78 22)) dX10_numberOf_4 fX10_177 (g_lt rfl) (gs_78 G _ _) rfl ?_
  refine go_icmp_ge 30 dX10_numberOf_7 (by decide) (fun c1 => ?_) (fun c1 => ?_)
  · have h := h.1 c1
    refine go_iconst (v := -1) dX10_numberOf_30 (by decide) ?_
    exact go_iret dX10_numberOf_31 rfl (Nat.le_refl _) (Nat.le_refl _) ⟨_, rfl, h⟩
  · have h := h.2 c1
    refine go_aload_n dX10_numberOf_10 rfl 0 rfl ?_
    refine go_iload_n dX10_numberOf_11 rfl 2 rfl ?_
    refine go_callV (As := [.int x2]) (rest := []) dX10_numberOf_12 lX10_241 kX10_setIn rfl (by decide) (Nat.le_of_ble_eq_true rfl) (g_lt rfl) (gs_78 G _ _) rfl (by decide) rfl (gI_go (fun r3 μ2 h => ?_)) h
    refine go_iload_n dX10_numberOf_15 rfl 1 rfl ?_
    refine go_callS (As := [.int r3, .int x1]) (rest := []) dX10_numberOf_16 lX10_143 kX10_has rfl (by decide) (Nat.le_of_ble_eq_true rfl) (by decide) rfl (gI_go (fun r5 μ4 h => ?_)) h
    refine go_if_eq 24 dX10_numberOf_19 (by decide) (fun c6 => ?_) (fun c6 => ?_)
    · have h := h.1 c6
      refine go_iinc (v := (x2 + (1 : Int32))) [(0, .ref (ga G 78)), (1, .int x1), (2, .int (x2 + (1 : Int32)))] [1, 2, 0] 2 dX10_numberOf_24 rfl rfl (by decide) rfl ?_
      refine go_goto 2 dX10_numberOf_27 (by decide) ?_
      exact h
    · have h := h.2 c6
      refine go_iload_n dX10_numberOf_22 rfl 2 rfl ?_
      exact go_iret dX10_numberOf_23 rfl (Nat.le_refl _) (Nat.le_refl _) ⟨_, rfl, h⟩
set_option maxRecDepth 100000 in
theorem eX10_scene {G : gC} {l : Launch} {a1 : Int32} {a2 : Int32} {μ : Mem} {P : Int32 → Mem → Prop} (h : qX10_noScene G l a1 μ (fun (r2 : Int32) (μ1 : Mem) => ((r2 = 0) → ((a2.toInt < 0 ∨ 9 < a2.toInt) → P (-1002 : Int32) μ1) ∧ ((a2 = (0 : Int32)) → vp_in a1 10 ∧ P (gm_r μ1 79 a1.toNatClampNeg) μ1) ∧ ((a2 = (1 : Int32)) → qX10_setOf G l a1 (a2 - (1 : Int32)) μ1 (fun (r6 : Int32) (μ5 : Mem) => P r6 μ5)) ∧ ((a2 = (2 : Int32)) → qX10_setOf G l a1 (a2 - (1 : Int32)) μ1 (fun (r8 : Int32) (μ7 : Mem) => P r8 μ7)) ∧ ((a2 = (3 : Int32)) → qX10_setOf G l a1 (a2 - (1 : Int32)) μ1 (fun (r10 : Int32) (μ9 : Mem) => P r10 μ9)) ∧ ((a2 = (4 : Int32)) → qX10_setOf G l a1 (a2 - (1 : Int32)) μ1 (fun (r12 : Int32) (μ11 : Mem) => P r12 μ11)) ∧ ((a2 = (5 : Int32)) → qX10_setOf G l a1 (a2 - (1 : Int32)) μ1 (fun (r14 : Int32) (μ13 : Mem) => P r14 μ13)) ∧ ((a2 = (6 : Int32)) → qX10_setOf G l a1 (a2 - (1 : Int32)) μ1 (fun (r16 : Int32) (μ15 : Mem) => P r16 μ15)) ∧ ((a2 = (7 : Int32)) → qX10_setOf G l a1 (a2 - (1 : Int32)) μ1 (fun (r18 : Int32) (μ17 : Mem) => P r18 μ17)) ∧ ((a2 = (8 : Int32)) → vp_in a1 10 ∧ P (gm_r μ1 80 a1.toNatClampNeg) μ1) ∧ ((a2 = (9 : Int32)) → qX10_numberOf G l a1 μ1 (fun (r21 : Int32) (μ20 : Mem) => P r21 μ20))) ∧ ((¬ r2 = 0) → P (-1001 : Int32) μ1))) : qX10_scene G l a1 a2 μ P := by
  refine Sp.of (by decide) (Nat.le_of_ble_eq_true rfl) (lv := [(0, .ref (ga G 78)), (1, .int a1), (2, .int a2)]) rfl ?_
  refine go_aload_n dX10_scene_0 rfl 0 rfl ?_
  refine go_iload_n dX10_scene_1 rfl 1 rfl ?_
  refine go_callV (As := [.int a1]) (rest := []) dX10_scene_2 lX10_195 kX10_noScene rfl (by decide) (Nat.le_of_ble_eq_true rfl) (g_lt rfl) (gs_78 G _ _) rfl (by decide) rfl (gI_go (fun r2 μ1 h => ?_)) h
  refine go_if_eq 12 dX10_scene_5 (by decide) (fun c3 => ?_) (fun c3 => ?_)
  · have h := h.1 c3
    refine go_iload_n dX10_scene_12 rfl 2 rfl ?_
    by_cases c22 : a2.toInt < 0 ∨ 9 < a2.toInt
    · have h := h.1 c22
      refine go_tableOut 97 dX10_scene_13 c22 (by decide) ?_
      refine go_sipush (v := -1002) dX10_scene_97 (by decide) ?_
      exact go_iret dX10_scene_100 rfl (Nat.le_refl _) (Nat.le_refl _) ⟨_, rfl, h⟩
    · rcases (show a2.toInt = 0 ∨ a2.toInt = 1 ∨ a2.toInt = 2 ∨ a2.toInt = 3 ∨ a2.toInt = 4 ∨ a2.toInt = 5 ∨ a2.toInt = 6 ∨ a2.toInt = 7 ∨ a2.toInt = 8 ∨ a2.toInt = 9 by omega) with c22e | c22e | c22e | c22e | c22e | c22e | c22e | c22e | c22e | c22e
      · have h := h.2.1 (sw_eq (0 : Int32) rfl c22e)
        refine go_tableIn 68 dX10_scene_13 (by omega) (by omega) (by rw [c22e]; rfl) (by decide) ?_
        refine go_aload_n dX10_scene_68 rfl 0 rfl ?_
        refine go_get (.ref (ga G 79)) dX10_scene_69 fX10_7 (g_lt rfl) (gs_78 G _ _) rfl ?_
        refine go_iload_n dX10_scene_72 rfl 1 rfl ?_
        obtain ⟨b4, h⟩ := h
        refine go_ialdv ((gm_r μ1 79 a1.toNatClampNeg)) dX10_scene_73 (g_lt rfl) (gs_79 G) b4 rfl ?_
        exact go_iret dX10_scene_74 rfl (Nat.le_refl _) (Nat.le_refl _) ⟨_, rfl, h⟩
      · have h := h.2.2.1 (sw_eq (1 : Int32) rfl c22e)
        refine go_tableIn 75 dX10_scene_13 (by omega) (by omega) (by rw [c22e]; rfl) (by decide) ?_
        refine go_aload_n dX10_scene_75 rfl 0 rfl ?_
        refine go_iload_n dX10_scene_76 rfl 1 rfl ?_
        refine go_iload_n dX10_scene_77 rfl 2 rfl ?_
        refine go_iconst (v := 1) dX10_scene_78 (by decide) ?_
        refine go_isub dX10_scene_79 ?_
        refine go_callV (As := [.int a1, .int (a2 - (1 : Int32))]) (rest := []) dX10_scene_80 lX10_199 kX10_setOf rfl (by decide) (Nat.le_of_ble_eq_true rfl) (g_lt rfl) (gs_78 G _ _) rfl (by decide) rfl (gI_go (fun r6 μ5 h => ?_)) h
        exact go_iret dX10_scene_83 rfl (Nat.le_refl _) (Nat.le_refl _) ⟨_, rfl, h⟩
      · have h := h.2.2.2.1 (sw_eq (2 : Int32) rfl c22e)
        refine go_tableIn 75 dX10_scene_13 (by omega) (by omega) (by rw [c22e]; rfl) (by decide) ?_
        refine go_aload_n dX10_scene_75 rfl 0 rfl ?_
        refine go_iload_n dX10_scene_76 rfl 1 rfl ?_
        refine go_iload_n dX10_scene_77 rfl 2 rfl ?_
        refine go_iconst (v := 1) dX10_scene_78 (by decide) ?_
        refine go_isub dX10_scene_79 ?_
        refine go_callV (As := [.int a1, .int (a2 - (1 : Int32))]) (rest := []) dX10_scene_80 lX10_199 kX10_setOf rfl (by decide) (Nat.le_of_ble_eq_true rfl) (g_lt rfl) (gs_78 G _ _) rfl (by decide) rfl (gI_go (fun r8 μ7 h => ?_)) h
        exact go_iret dX10_scene_83 rfl (Nat.le_refl _) (Nat.le_refl _) ⟨_, rfl, h⟩
      · have h := h.2.2.2.2.1 (sw_eq (3 : Int32) rfl c22e)
        refine go_tableIn 75 dX10_scene_13 (by omega) (by omega) (by rw [c22e]; rfl) (by decide) ?_
        refine go_aload_n dX10_scene_75 rfl 0 rfl ?_
        refine go_iload_n dX10_scene_76 rfl 1 rfl ?_
        refine go_iload_n dX10_scene_77 rfl 2 rfl ?_
        refine go_iconst (v := 1) dX10_scene_78 (by decide) ?_
        refine go_isub dX10_scene_79 ?_
        refine go_callV (As := [.int a1, .int (a2 - (1 : Int32))]) (rest := []) dX10_scene_80 lX10_199 kX10_setOf rfl (by decide) (Nat.le_of_ble_eq_true rfl) (g_lt rfl) (gs_78 G _ _) rfl (by decide) rfl (gI_go (fun r10 μ9 h => ?_)) h
        exact go_iret dX10_scene_83 rfl (Nat.le_refl _) (Nat.le_refl _) ⟨_, rfl, h⟩
      · have h := h.2.2.2.2.2.1 (sw_eq (4 : Int32) rfl c22e)
        refine go_tableIn 75 dX10_scene_13 (by omega) (by omega) (by rw [c22e]; rfl) (by decide) ?_
        refine go_aload_n dX10_scene_75 rfl 0 rfl ?_
        refine go_iload_n dX10_scene_76 rfl 1 rfl ?_
        refine go_iload_n dX10_scene_77 rfl 2 rfl ?_
        refine go_iconst (v := 1) dX10_scene_78 (by decide) ?_
        refine go_isub dX10_scene_79 ?_
        refine go_callV (As := [.int a1, .int (a2 - (1 : Int32))]) (rest := []) dX10_scene_80 lX10_199 kX10_setOf rfl (by decide) (Nat.le_of_ble_eq_true rfl) (g_lt rfl) (gs_78 G _ _) rfl (by decide) rfl (gI_go (fun r12 μ11 h => ?_)) h
        exact go_iret dX10_scene_83 rfl (Nat.le_refl _) (Nat.le_refl _) ⟨_, rfl, h⟩
      · have h := h.2.2.2.2.2.2.1 (sw_eq (5 : Int32) rfl c22e)
        refine go_tableIn 75 dX10_scene_13 (by omega) (by omega) (by rw [c22e]; rfl) (by decide) ?_
        refine go_aload_n dX10_scene_75 rfl 0 rfl ?_
        refine go_iload_n dX10_scene_76 rfl 1 rfl ?_
        refine go_iload_n dX10_scene_77 rfl 2 rfl ?_
        refine go_iconst (v := 1) dX10_scene_78 (by decide) ?_
        refine go_isub dX10_scene_79 ?_
        refine go_callV (As := [.int a1, .int (a2 - (1 : Int32))]) (rest := []) dX10_scene_80 lX10_199 kX10_setOf rfl (by decide) (Nat.le_of_ble_eq_true rfl) (g_lt rfl) (gs_78 G _ _) rfl (by decide) rfl (gI_go (fun r14 μ13 h => ?_)) h
        exact go_iret dX10_scene_83 rfl (Nat.le_refl _) (Nat.le_refl _) ⟨_, rfl, h⟩
      · have h := h.2.2.2.2.2.2.2.1 (sw_eq (6 : Int32) rfl c22e)
        refine go_tableIn 75 dX10_scene_13 (by omega) (by omega) (by rw [c22e]; rfl) (by decide) ?_
        refine go_aload_n dX10_scene_75 rfl 0 rfl ?_
        refine go_iload_n dX10_scene_76 rfl 1 rfl ?_
        refine go_iload_n dX10_scene_77 rfl 2 rfl ?_
        refine go_iconst (v := 1) dX10_scene_78 (by decide) ?_
        refine go_isub dX10_scene_79 ?_
        refine go_callV (As := [.int a1, .int (a2 - (1 : Int32))]) (rest := []) dX10_scene_80 lX10_199 kX10_setOf rfl (by decide) (Nat.le_of_ble_eq_true rfl) (g_lt rfl) (gs_78 G _ _) rfl (by decide) rfl (gI_go (fun r16 μ15 h => ?_)) h
        exact go_iret dX10_scene_83 rfl (Nat.le_refl _) (Nat.le_refl _) ⟨_, rfl, h⟩
      · have h := h.2.2.2.2.2.2.2.2.1 (sw_eq (7 : Int32) rfl c22e)
        refine go_tableIn 75 dX10_scene_13 (by omega) (by omega) (by rw [c22e]; rfl) (by decide) ?_
        refine go_aload_n dX10_scene_75 rfl 0 rfl ?_
        refine go_iload_n dX10_scene_76 rfl 1 rfl ?_
        refine go_iload_n dX10_scene_77 rfl 2 rfl ?_
        refine go_iconst (v := 1) dX10_scene_78 (by decide) ?_
        refine go_isub dX10_scene_79 ?_
        refine go_callV (As := [.int a1, .int (a2 - (1 : Int32))]) (rest := []) dX10_scene_80 lX10_199 kX10_setOf rfl (by decide) (Nat.le_of_ble_eq_true rfl) (g_lt rfl) (gs_78 G _ _) rfl (by decide) rfl (gI_go (fun r18 μ17 h => ?_)) h
        exact go_iret dX10_scene_83 rfl (Nat.le_refl _) (Nat.le_refl _) ⟨_, rfl, h⟩
      · have h := h.2.2.2.2.2.2.2.2.2.1 (sw_eq (8 : Int32) rfl c22e)
        refine go_tableIn 84 dX10_scene_13 (by omega) (by omega) (by rw [c22e]; rfl) (by decide) ?_
        refine go_aload_n dX10_scene_84 rfl 0 rfl ?_
        refine go_get (.ref (ga G 80)) dX10_scene_85 fX10_13 (g_lt rfl) (gs_78 G _ _) rfl ?_
        refine go_iload_n dX10_scene_88 rfl 1 rfl ?_
        obtain ⟨b19, h⟩ := h
        refine go_ialdv ((gm_r μ1 80 a1.toNatClampNeg)) dX10_scene_89 (g_lt rfl) (gs_80 G) b19 rfl ?_
        exact go_iret dX10_scene_90 rfl (Nat.le_refl _) (Nat.le_refl _) ⟨_, rfl, h⟩
      · have h := h.2.2.2.2.2.2.2.2.2.2 (sw_eq (9 : Int32) rfl c22e)
        refine go_tableIn 91 dX10_scene_13 (by omega) (by omega) (by rw [c22e]; rfl) (by decide) ?_
        refine go_aload_n dX10_scene_91 rfl 0 rfl ?_
        refine go_iload_n dX10_scene_92 rfl 1 rfl ?_
        refine go_callV (As := [.int a1]) (rest := []) dX10_scene_93 lX10_202 kX10_numberOf rfl (by decide) (Nat.le_of_ble_eq_true rfl) (g_lt rfl) (gs_78 G _ _) rfl (by decide) rfl (gI_go (fun r21 μ20 h => ?_)) h
        exact go_iret dX10_scene_96 rfl (Nat.le_refl _) (Nat.le_refl _) ⟨_, rfl, h⟩
  · have h := h.2 c3
    refine go_sipush (v := -1001) dX10_scene_8 (by decide) ?_
    exact go_iret dX10_scene_11 rfl (Nat.le_refl _) (Nat.le_refl _) ⟨_, rfl, h⟩
