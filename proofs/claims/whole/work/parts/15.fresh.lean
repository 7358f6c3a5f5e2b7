/-! freshPlans: the 38 cells of Plans come behind the 106 others -/
def gml (G : gC) (μ : Mem) : List va_E := (List.range μ.1).map (fun i => gs G i (μ.2.1 i) μ.2.2)
def gmk_row (o : Nat) : Nat → Int32 := if o = 106 then (fun k => if k = 7 then -1 else if k = 9 then -1 else 0) else (fun _ => 0)
/-- the memory with Plans made (the field that names it still null) -/
def gmk (μ : Mem) : Mem := (144, (fun o => if o < 106 then μ.2.1 o else gmk_row o), μ.2.2)
def gml_new (G : gC) : List va_E := (List.range 38).map (fun j => gs G (106 + j) (gmk_row (106 + j)) (fun _ => 0))
theorem gml_at {G : gC} {μ : Mem} {i : Nat} {e : va_E} (h : (gml G μ)[i]? = some e) : i < μ.1 ∧ e = gs G i (μ.2.1 i) μ.2.2 := by
  unfold gml at h
  rw [List.getElem?_map] at h
  obtain ⟨j, hj, rfl⟩ := Option.map_eq_some_iff.mp h
  have := List.getElem?_eq_some_iff.mp hj
  obtain ⟨h1, h2⟩ := this
  simp at h1 h2
  subst h2
  exact ⟨h1, rfl⟩
theorem gs_nolong {G : gC} {i : Nat} (hi : i ≠ 88) (r : Nat → Int32) (q q' : Nat → Int64) : gs G i r q = gs G i r q' := by
  have := gk_one13 i hi
  unfold gs
  split <;> first | rfl | (rename_i h13; exact absurd h13 this)
section FRE
variable {G : gC} {l : Launch} {M : gM} {R : Room} {Q : List Frame → Array Value → State → State → Prop} {k1 k2 pc : Nat} {μ : Mem} {lv : List (Nat × Value)} {st : List Value}
theorem gw_to (k : Gg G l M R Q k1 k2 pc (gwl G (gml G μ)) lv st) : Gg G l M R Q k1 k2 pc (gw G μ) lv st := fun p e s m args below meth c cx H locs ls hP hS hl => k p e s m args below meth c cx H locs ls ⟨by rw [hP.1.2]; unfold gml; simp, fun i x hx => by
  obtain ⟨h1, h2⟩ := gml_at hx
  rw [h2]
  exact hP.2 i h1⟩ hS hl
theorem gw_from (hn : μ.1 = 106) {es : List va_E} (he : es = gml G μ ++ gml_new G) (k : Gg G l M R Q k1 k2 pc (gw G (gmk μ)) lv st) : Gg G l M R Q k1 k2 pc (gwl G es) lv st := fun p e s m args below meth c cx H locs ls hP hS hl => k p e s m args below meth c cx H locs ls (by
  subst he
  have hlen : (gml G μ).length = 106 := by unfold gml; simp [hn]
  refine ⟨⟨show 106 ≤ 144 by decide, ?_⟩, fun i hi => ?_⟩
  · rw [hP.1, List.length_append, hlen]
    rfl
  · have hi : i < 144 := hi
    by_cases h : i < 106
    · have hx : (gml G μ ++ gml_new G)[i]? = some (gs G i (μ.2.1 i) μ.2.2) := by
        rw [List.getElem?_append_left (by omega)]
        unfold gml
        rw [List.getElem?_map, List.getElem?_range (by omega)]
        rfl
      have h1 := hP.2 i _ hx
      have e1 : (gmk μ).2.1 i = μ.2.1 i := by show (if i < 106 then μ.2.1 i else _) = _; rw [if_pos h]
      rw [e1]
      exact h1
    · have hx : (gml G μ ++ gml_new G)[i]? = some (gs G i (gmk_row i) (fun _ => 0)) := by
        rw [List.getElem?_append_right (by omega), hlen]
        unfold gml_new
        rw [List.getElem?_map, List.getElem?_range (by omega)]
        show some (gs G (106 + (i - 106)) (gmk_row (106 + (i - 106))) _) = _
        rw [show 106 + (i - 106) = i by omega]
      have h1 := hP.2 i _ hx
      have e1 : (gmk μ).2.1 i = gmk_row i := by show (if i < 106 then μ.2.1 i else _) = _; rw [if_neg h]
      rw [e1, gs_nolong (by omega) _ _ (fun _ => 0)]
      exact h1) hS hl
end FRE
theorem gml_pre {G : gC} {μ : Mem} {tl : List va_E} (hn : μ.1 = 106) {i : Nat} (hi : i < 106) : (gml G μ ++ tl)[i]? = some (gs G i (μ.2.1 i) μ.2.2) := by
  have hlen : (gml G μ).length = 106 := by unfold gml; simp [hn]
  rw [List.getElem?_append_left (by omega)]
  unfold gml
  rw [List.getElem?_map, List.getElem?_range (by omega)]
  rfl
set_option maxRecDepth 100000 in
set_option maxHeartbeats 4000000 in
theorem eX9_freshPlans {G : gC} {l : Launch} {μ : Mem} {P : Mem → Prop} (h : qX9_freshSets G l μ (fun μ1 => ((gm_r μ1 0 11 = 0) → μ1.1 = 106 ∧ P (gm_w (gmk μ1) 0 11 1)) ∧ ((¬ gm_r μ1 0 11 = 0) → P μ1))) : qX9_freshPlans G l μ P := by
  refine Sp.of (by decide) (Nat.le_of_ble_eq_true rfl) (lv := [(0, .ref (ga G 0))]) rfl ?_
  refine go_aload_n dX9_freshPlans_0 rfl 0 rfl ?_
  refine go_callV (As := []) (rest := []) dX9_freshPlans_1 lX9_168 kX9_freshSets rfl (by decide) (Nat.le_of_ble_eq_true rfl) (g_lt rfl) (gs_0 G _ _) rfl (by decide) rfl (gR_go (fun μ1 h => ?_)) h
  refine go_astore_n [(0, .ref (ga G 0)), (1, .ref (ga G 30))] [1, 0] dX9_freshPlans_4 rfl (by decide) rfl ?_
  refine go_aload_n dX9_freshPlans_5 rfl 0 rfl ?_
  refine go_get (if (gm_r μ1 0 11) = 0 then .null else .ref (ga G 106)) dX9_freshPlans_6 fX9_288 (g_lt rfl) (gs_0 G _ _) rfl ?_
  refine go_ifnonnullN 32 dX9_freshPlans_9 (by decide) (fun c1 => ?_) (fun c1 => ?_)
  · obtain ⟨hn, h⟩ := h.1 c1
    have hp : (gml G μ1).length = 106 := by unfold gml; simp [hn]
    refine go_aload_n dX9_freshPlans_12 rfl 0 rfl ?_
    refine gw_to ?_
    refine gl_new (ci := 2) (N := 10) (T := TX2) (fs := [.null, .null, .null, .int 0, .null, .null, .null, .int 0, .null, .int 0]) tyX2 dX9_freshPlans_13 (g_in 805 (by decide +kernel) rfl) (g_in 806 (by decide +kernel) rfl) (g_in 82 (by decide +kernel) rfl) rfl inX2 tyX2_ok (fun j hj => by rcases (show j = 0 ∨ j = 1 ∨ j = 2 ∨ j = 3 ∨ j = 4 ∨ j = 5 ∨ j = 6 ∨ j = 7 ∨ j = 8 ∨ j = 9 by omega) with rfl | rfl | rfl | rfl | rfl | rfl | rfl | rfl | rfl | rfl <;> rfl) hp (by decide) (by decide) rfl ?_
    refine go_dup dX9_freshPlans_16 rfl ?_
    refine go_aload_n dX9_freshPlans_17 rfl 0 rfl ?_
    refine gl_get (v := .ref (ga G 4)) dX9_freshPlans_18 fX9_28 ((gml_pre hn (by decide)).trans (congrArg some (gs_0 G _ _))) rfl ?_
    refine go_aload_n dX9_freshPlans_21 rfl 1 rfl ?_
    refine go_aload_n dX9_freshPlans_22 rfl 0 rfl ?_
    refine gl_get (v := .ref (ga G 42)) dX9_freshPlans_23 fX9_56 ((gml_pre hn (by decide)).trans (congrArg some (gs_0 G _ _))) rfl ?_
    refine gl_callI (Z := mX2_init) (As := [.ref (ga G 4), .ref (ga G 30), .ref (ga G 42)]) (rest := [.ref (ga G 106), .ref (ga G 0)]) dX9_freshPlans_26 (g_in 807 (by decide +kernel) rfl) (g_in 808 (by decide +kernel) rfl) rfl rfl kX2_init rfl (by decide) (Nat.le_of_ble_eq_true rfl) (by decide) rfl (fun es' he => ?_) (cX2_init_ok (n0 := 106) (pre := gml G μ1) (t1 := ga G 4) (t2 := ga G 30) (t3 := ga G 42) hp)
    refine gw_from hn (he.trans rfl) ?_
    refine go_putv 1 dX9_freshPlans_29 pX9_288 rfl rfl (g_lt rfl) (gs_0 G _ _) (Nat.le_of_ble_eq_true rfl) (by rw [gs_0]; rfl) ?_
    refine go_aload_n dX9_freshPlans_32 rfl 0 rfl ?_
    refine go_get (if (gm_r (gm_w (gmk μ1) 0 11 1) 0 11) = 0 then .null else .ref (ga G 106)) dX9_freshPlans_33 fX9_288 (g_lt rfl) (gs_0 G _ _) rfl ?_
    refine go_nn (show ¬ (1 : Int32) = 0 by decide) ?_
    exact go_aret dX9_freshPlans_36 rfl (by decide) (by decide) ⟨rfl, h⟩
  · have h := h.2 c1
    refine go_aload_n dX9_freshPlans_32 rfl 0 rfl ?_
    refine go_get (if (gm_r μ1 0 11) = 0 then .null else .ref (ga G 106)) dX9_freshPlans_33 fX9_288 (g_lt rfl) (gs_0 G _ _) rfl ?_
    refine go_nn c1 ?_
    exact go_aret dX9_freshPlans_36 rfl (by decide) (by decide) ⟨rfl, h⟩
