/-! leaves: what the class's story and the reference's story give -/
def SC (n : Nat) (c : Nat → Nat → Nat) (D : Nat → Nat) (μ : Mem) : Prop := gm_r μ 4 1 = nI n ∧ ∀ k, k < n → (∀ w, w < 8 → gm_r μ (5 + 1 + k) w = nI (c k w)) ∧ gm_r μ (5 + 1 + k) 8 = nI (D k) - 1
def SM (n : Nat) (c : Nat → Nat → Nat) (D : Nat → Nat) (μ : Mem) : Prop := gm_r μ 78 0 = nI n ∧ ∀ k, k < n → gm_r μ 79 k = nI (c k 0) ∧ (∀ j, j < 7 → gm_r μ 81 (8 * k + j) = nI (c k (j + 1))) ∧ gm_r μ 80 k = nI (D k) - 1
def SK (n : Nat) (c : Nat → Nat → Nat) (D : Nat → Nat) : Prop := n ≤ 10 ∧ ∀ k, k < n → (1 ≤ c k 0 ∧ c k 0 ≤ 99) ∧ c k 1 ≤ 9 ∧ c k 2 < 256 ∧ c k 3 < 2 ^ k ∧ c k 4 < 256 ∧ c k 5 < 256 ∧ c k 6 < 256 ∧ c k 7 < 256 ∧ D k ≤ 8
theorem lt1024 {n s : Nat} (hn : n ≤ 10) (hs : s < 2 ^ n) : s < 1024 := Nat.lt_of_lt_of_le hs (Nat.pow_le_pow_right (by decide) hn)
theorem nI_pow1 {n : Nat} (hn : n ≤ 10) : ((1 : Int32) <<< (nI n &&& 31)) - (1 : Int32) = nI (2 ^ n - 1) := by
  have h : ∀ n : Nat, n < 11 → ((1 : Int32) <<< (nI n &&& 31)) - (1 : Int32) = nI (2 ^ n - 1) := by decide +kernel
  exact h n (by omega)
section LEAF
variable {G : gC} {l : Launch} {μ : Mem} {P : Int32 → Mem → Prop} {n s w : Nat} {c : Nat → Nat → Nat} {D : Nat → Nat}
theorem t_in {x y z : Int64} (h : P (if y ≤ x ∧ x ≤ z then 1 else 0) μ) : qX10_in G l x y z μ P := by
  have hc : ∀ a b : Int64, (lg_cmp a b < 0 ↔ a < b) ∧ (0 < lg_cmp a b ↔ b < a) := by
    intro a b
    unfold lg_cmp
    by_cases h1 : b < a
    · have h2 : ¬ a < b := Int64.not_lt.mpr (Int64.le_of_lt h1)
      simp [h1, h2]
    · by_cases h2 : a < b
      · have h3 : a ≠ b := Int64.ne_of_lt h2
        simp [h1, h2, h3]
      · have h3 : a = b := Int64.le_antisymm (Int64.not_lt.mp h1) (Int64.not_lt.mp h2)
        simp [h3]
  refine eX10_in ⟨fun h1 => ?_, fun h1 => ⟨fun h2 => ?_, fun h2 => ?_⟩⟩
  · rw [(hc x y).1] at h1
    rw [if_neg (fun q => absurd q.1 (Int64.not_le.mpr h1))] at h
    exact h
  · rw [(hc x z).2] at h2
    rw [if_neg (fun q => absurd q.2 (Int64.not_le.mpr h2))] at h
    exact h
  · rw [(hc x y).1] at h1
    rw [(hc x z).2] at h2
    rw [if_pos ⟨Int64.not_lt.mp h1, Int64.not_lt.mp h2⟩] at h
    exact h
theorem wide_le (a b : Int32) : a.toInt64 ≤ b.toInt64 ↔ a ≤ b := by rw [Int64.le_iff_toInt_le, Int32.le_iff_toInt_le, Int32.toInt_toInt64, Int32.toInt_toInt64]
theorem t_has {a k : Nat} (ha : a < 2 ^ 31) (hk : k < 32) (h : P (if a.testBit k then 1 else 0) μ) : qX10_has G l (nI a) (nI k) μ P := by
  refine eX10_has ⟨fun h1 => ?_, fun h1 => ?_⟩
  · rw [nI_has ha hk] at h1
    rw [if_neg h1] at h
    exact h
  · rw [nI_has ha hk] at h1
    rw [if_pos h1] at h
    exact h
theorem t_ones {a : Nat} (ha : a < 2 ^ 31) (h : P (nI (pc a)) μ) : qX10_ones G l (nI a) μ P := by
  refine eX10_ones ?_
  refine down (H := fun j => hX10_ones_4 G l P (nI a) (nI (pcn a j)) (nI j) μ) (n := 10) ?_ ?_
  · exact eX10_ones_4 ⟨fun _ => h, fun hc => absurd (Int32.le_refl _) hc⟩
  · intro j hj hn
    refine eX10_ones_4 ⟨fun hc => absurd hc (nI_ge hj (by decide)), fun _ v hv => ?_⟩
    rw [nI_bit ha (by omega)] at hv
    have e : v = nI (pcn a (j + 1)) := by
      rw [hv]
      show _ = nI (pcn a j + (if a.testBit j then 1 else 0))
      rw [← nI_add]
      by_cases hb : a.testBit j <;> simp [hb] <;> rfl
    rw [e, nI_1]
    exact hn
theorem bc_ok : ∀ a : Nat, a < 1024 → (∀ v1 : Int32, v1 = (nI a - (((nI a).toUInt32 >>> (((1 : Int32)).toUInt32 &&& Int32.toUInt32 31)).toInt32 &&& (1431655765 : Int32))) → ∀ v2 : Int32, v2 = ((v1 &&& (858993459 : Int32)) + (((v1).toUInt32 >>> (((2 : Int32)).toUInt32 &&& Int32.toUInt32 31)).toInt32 &&& (858993459 : Int32))) → ∀ v3 : Int32, v3 = ((v2 + ((v2).toUInt32 >>> (((4 : Int32)).toUInt32 &&& Int32.toUInt32 31)).toInt32) &&& (252645135 : Int32)) → ∀ v4 : Int32, v4 = (v3 + ((v3).toUInt32 >>> (((8 : Int32)).toUInt32 &&& Int32.toUInt32 31)).toInt32) → ∀ v5 : Int32, v5 = (v4 + ((v4).toUInt32 >>> (((16 : Int32)).toUInt32 &&& Int32.toUInt32 31)).toInt32) → (v5 &&& (63 : Int32)) = nI (pc a)) := by
  have key : ∀ a : Nat, a < 1024 → (fun x : Int32 => (fun v1 : Int32 => (fun v2 : Int32 => (fun v3 : Int32 => (fun v4 : Int32 => (fun v5 : Int32 => v5 &&& (63 : Int32)) (v4 + ((v4).toUInt32 >>> (((16 : Int32)).toUInt32 &&& Int32.toUInt32 31)).toInt32)) (v3 + ((v3).toUInt32 >>> (((8 : Int32)).toUInt32 &&& Int32.toUInt32 31)).toInt32)) ((v2 + ((v2).toUInt32 >>> (((4 : Int32)).toUInt32 &&& Int32.toUInt32 31)).toInt32) &&& (252645135 : Int32))) ((v1 &&& (858993459 : Int32)) + (((v1).toUInt32 >>> (((2 : Int32)).toUInt32 &&& Int32.toUInt32 31)).toInt32 &&& (858993459 : Int32)))) (x - (((x).toUInt32 >>> (((1 : Int32)).toUInt32 &&& Int32.toUInt32 31)).toInt32 &&& (1431655765 : Int32)))) (nI a) = nI (pc a) := by decide +kernel
  intro a ha v1 e1 v2 e2 v3 e3 v4 e4 v5 e5
  subst e1 e2 e3 e4 e5
  exact key a ha
theorem t_bc {a : Nat} (ha : a < 1024) (h : P (nI (pc a)) μ) : qJ6_bitCount_0f7a4 G l (nI a) μ P := by
  refine eJ6_bitCount_0f7a4 (fun v1 e1 v2 e2 v3 e3 v4 e4 v5 e5 => ?_)
  rw [bc_ok a ha v1 e1 v2 e2 v3 e3 v4 e4 v5 e5]
  exact h
theorem t7_union (hS : SC n c D μ) (hn : n ≤ 10) (hs : s < 2 ^ 31) (hw : w < 8) (h : P (nI (un c w s n)) μ) : qX7_union G l (nI s) (nI w) μ P := by
  refine eX7_union ?_
  refine down (H := fun j => hX7_union_5 G l P (nI s) (nI w) (nI (un c w s j)) (nI j) μ) (n := n) ?_ ?_
  · exact eX7_union_5 ⟨fun _ => h, fun hc => absurd (by rw [hS.1]; exact Int32.le_refl _) hc⟩
  · intro j hj hn'
    refine eX7_union_5 ⟨fun hc => absurd (by rw [← hS.1]; exact hc) (nI_ge hj (by omega)), fun _ => ⟨fun hb => ?_, fun hb => ?_⟩⟩
    · rw [nI_has hs (by omega)] at hb
      rw [nI_1]
      have e : un c w s (j + 1) = un c w s j := if_neg hb
      rw [e] at hn'
      exact hn'
    · rw [nI_has hs (by omega)] at hb
      refine ⟨vp_in_nI (by omega) (by decide), vp_in_nI (by omega) (by decide), fun v hv => ?_⟩
      have e : v = nI (un c w s (j + 1)) := by
        rw [hv, nI_clamp (by omega), nI_clamp (by omega), (hS.2 j hj).1 w hw, nI_or]
        exact congrArg nI (if_pos hb).symm
      rw [e, nI_1]
      exact hn'
theorem t7_sum (hS : SC n c D μ) (hn : n ≤ 10) (hs : s < 2 ^ 31) (hw : w < 8) (h : P (nI (sm c w s n)) μ) : qX7_sum G l (nI s) (nI w) μ P := by
  refine eX7_sum ?_
  refine down (H := fun j => hX7_sum_5 G l P (nI s) (nI w) (nI (sm c w s j)) (nI j) μ) (n := n) ?_ ?_
  · exact eX7_sum_5 ⟨fun _ => h, fun hc => absurd (by rw [hS.1]; exact Int32.le_refl _) hc⟩
  · intro j hj hn'
    refine eX7_sum_5 ⟨fun hc => absurd (by rw [← hS.1]; exact hc) (nI_ge hj (by omega)), fun _ => ⟨fun hb => ?_, fun hb => ?_⟩⟩
    · rw [nI_has hs (by omega)] at hb
      rw [nI_1]
      have e : sm c w s (j + 1) = sm c w s j := if_neg hb
      rw [e] at hn'
      exact hn'
    · rw [nI_has hs (by omega)] at hb
      refine ⟨vp_in_nI (by omega) (by decide), vp_in_nI (by omega) (by decide), fun v hv => ?_⟩
      have e : v = nI (sm c w s (j + 1)) := by
        rw [hv, nI_clamp (by omega), nI_clamp (by omega), (hS.2 j hj).1 w hw, nI_add]
        exact congrArg nI (if_pos hb).symm
      rw [e, nI_1]
      exact hn'
theorem D_m1 {d : Nat} (hd : d ≤ 8) : (nI d - 1 = (-1 : Int32) ↔ d = 0) ∧ (d ≠ 0 → nI d - 1 = nI (d - 1)) := by
  have h : ∀ d : Nat, d < 9 → (nI d - 1 = (-1 : Int32) ↔ d = 0) ∧ (d ≠ 0 → nI d - 1 = nI (d - 1)) := by decide +kernel
  exact h d (by omega)
theorem t7_deadIn (hS : SC n c D μ) (hn : n ≤ 10) (hD : ∀ k, k < n → D k ≤ 8) (hs : s < 2 ^ 31) (h : P (nI (dd D s n)) μ) : qX7_deadIn G l (nI s) μ P := by
  refine eX7_deadIn ?_
  refine down (H := fun j => hX7_deadIn_4 G l P (nI s) (nI (dd D s j)) (nI j) μ) (n := n) ?_ ?_
  · exact eX7_deadIn_4 ⟨fun _ => h, fun hc => absurd (by rw [hS.1]; exact Int32.le_refl _) hc⟩
  · intro j hj hn'
    have hd := hD j hj
    refine eX7_deadIn_4 ⟨fun hc => absurd (by rw [← hS.1]; exact hc) (nI_ge hj (by omega)), fun _ => ⟨fun hb => ?_, fun hb => ⟨vp_in_nI (by omega) (by decide), fun hm => ?_, fun hm v hv => ?_⟩⟩⟩
    · rw [nI_has hs (by omega)] at hb
      rw [nI_1]
      have e : dd D s (j + 1) = dd D s j := if_neg (fun q => hb q.1)
      rw [e] at hn'
      exact hn'
    · rw [nI_clamp (by omega), (hS.2 j hj).2, (D_m1 hd).1] at hm
      rw [nI_1]
      have e : dd D s (j + 1) = dd D s j := if_neg (fun q => q.2 hm)
      rw [e] at hn'
      exact hn'
    · rw [nI_has hs (by omega)] at hb
      rw [nI_clamp (by omega), (hS.2 j hj).2, (D_m1 hd).1] at hm
      have e : v = nI (dd D s (j + 1)) := by
        rw [hv, nI_clamp (by omega), (hS.2 j hj).2, (D_m1 hd).2 hm, nI_bit1 (by omega), nI_or]
        exact congrArg nI (if_pos ⟨hb, hm⟩).symm
      rw [e, nI_1]
      exact hn'
theorem t7_open (hS : SC n c D μ) (hn : n ≤ 10) (hs : s < 2 ^ 31) (h : P (nI (sd (un c 4 s n) (un c 5 s n))) μ) : qX7_openBehind G l (nI s) μ P := by
  refine eX7_openBehind (t7_union (w := 4) hS hn hs (by decide) (t7_union (w := 5) hS hn hs (by decide) ?_))
  rw [nI_sd]
  exact h
theorem t7_all (hS : SC n c D μ) (hn : n ≤ 10) (h : P (nI (2 ^ n - 1)) μ) : qX7_all G l μ P := by
  refine eX7_all ?_
  rw [hS.1, nI_pow1 hn]
  exact h
theorem t_all (hS : SM n c D μ) (hn : n ≤ 10) (h : P (nI (2 ^ n - 1)) μ) : qX10_all G l μ P := by
  refine eX10_all ?_
  rw [hS.1, nI_pow1 hn]
  exact h
theorem t_setOf {k j : Nat} (hS : SM n c D μ) (hn : n ≤ 10) (hk : k < n) (hj : j < 7) (h : P (nI (c k (j + 1))) μ) : qX10_setOf G l (nI k) (nI j) μ P := by
  have e : (8 : Int32) * nI k + nI j = nI (8 * k + j) := by rw [← nI_add, ← pk_mul]; rfl
  refine eX10_setOf ?_
  rw [e, nI_clamp (by omega), (hS.2 k hk).2.1 j hj]
  exact ⟨vp_in_nI (by omega) (by decide), h⟩
theorem if_has {a k : Nat} {r : Int32} (h : r = if a.testBit k then 1 else 0) : (r = 0 ↔ a.testBit k = false) ∧ (¬ r = 0 ↔ a.testBit k = true) := by
  rw [h]
  by_cases hb : a.testBit k <;> simp [hb]
theorem t_lines (hS : SM n c D μ) (hn : n ≤ 10) (hs : s < 2 ^ 31) (h : P (nI (sm c 0 s n)) μ) : qX10_linesOf G l (nI s) μ P := by
  refine eX10_linesOf ?_
  refine down (H := fun j => hX10_linesOf_4 G l P (nI s) (nI (sm c 0 s j)) (nI j) μ) (n := n) ?_ ?_
  · exact eX10_linesOf_4 ⟨fun _ => h, fun hc => absurd (by rw [hS.1]; exact Int32.le_refl _) hc⟩
  · intro j hj hn'
    refine eX10_linesOf_4 ⟨fun hc => absurd (by rw [← hS.1]; exact hc) (nI_ge hj (by omega)), fun _ => t_has hs (by omega) ⟨fun hb => ?_, fun hb => ?_⟩⟩
    · have e : sm c 0 s (j + 1) = sm c 0 s j := if_neg (by rw [(if_has rfl).1] at hb; rw [hb]; decide)
      rw [e] at hn'
      rw [nI_1, Int32.add_zero]
      exact hn'
    · rw [(if_has rfl).2] at hb
      refine ⟨vp_in_nI (by omega) (by decide), fun v hv => ?_⟩
      have e : v = nI (sm c 0 s (j + 1)) := by
        rw [hv, nI_clamp (by omega), (hS.2 j hj).1, nI_add]
        exact congrArg nI (if_pos hb).symm
      rw [e, nI_1]
      exact hn'
end LEAF
