/-! NUMBERS under the LAWS: lines, reminders, pull, readers -/
def LC (W : Nat → Nat) (μ : Mem) : Prop := ∀ j, j < 8 → gm_r μ 45 j = nI (W j)
def LM (W : Nat → Nat) (μ : Mem) : Prop := ∀ j, j < 8 → gm_r μ 83 j = nI (W j)
def LK (W : Nat → Nat) : Prop := (1 ≤ W 0 ∧ W 0 ≤ W 1 ∧ W 0 ≤ 99 ∧ W 1 ≤ 200) ∧ (1 ≤ W 2 ∧ W 2 ≤ 9) ∧ W 3 ≤ 20 ∧ W 4 ≤ 20 ∧ W 5 ≤ 20 ∧ W 6 ≤ 20 ∧ W 7 ≤ 99
def eN (f m : Nat) (e : Nat → Nat) (j : Nat) : Nat := if j < m then e j else f
def sN (r : Nat → Nat) (f m : Nat) (e : Nat → Nat) (j : Nat) : Nat := seg r (bst e j) (eN f m e j)
def kn (n : Nat) (c : Nat → Nat → Nat) (r e : Nat → Nat) : Nat → Nat | 0 => 0 | j + 1 => kn n c r e j ||| un c 2 (seg r (bst e j) (e j)) n
def rmm (n : Nat) (c : Nat → Nat → Nat) (r e : Nat → Nat) (w j0 : Nat) : Nat → Nat | 0 => 0 | j + 1 => if w < j0 - j then rmm n c r e w j0 j else rmm n c r e w j0 j ||| un c 2 (seg r (bst e j) (e j)) n
def remN (n : Nat) (c : Nat → Nat → Nat) (r e : Nat → Nat) (w s j : Nat) : Nat := sd (un c 2 s n &&& kn n c r e j) (rmm n c r e w j j)
def liN (n : Nat) (c : Nat → Nat → Nat) (r e W : Nat → Nat) (s j : Nat) : Nat := sm c 0 s n + W 3 * pc (remN n c r e (W 2) s j)
def opN (n : Nat) (c : Nat → Nat → Nat) (s : Nat) : Nat := sd (un c 4 s n) (un c 5 s n)
def puV (n : Nat) (c : Nat → Nat → Nat) (r e W : Nat → Nat) (j : Nat) : Int32 := (nI (sm c 1 (seg r (bst e j) (e j)) n + W 5 * pc (opN n c (seg r 0 (e j)))) + (if c (r (e j - 1)) 4 &&& opN n c (seg r 0 (e j)) = 0 then 0 else nI (W 4))) - nI (W 6 * (if j < 4 then 0 else pc (opN n c (seg r 0 (e j)) &&& un c 4 (seg r 0 (e (j - 4))) n)))
def clI (v : Int64) : Int64 := if (if v < (1000000000 : Int64) then v else (1000000000 : Int64)) < (0 : Int64) then (0 : Int64) else (if v < (1000000000 : Int64) then v else (1000000000 : Int64))
def rdV (n : Nat) (c : Nat → Nat → Nat) (r e W : Nat → Nat) : Nat → Int64 | 0 => 1000 | j + 1 => clI ((rdV n c r e W j * (((100 : Int32) - nI (W 7)) + puV n c r e W j).toInt64) / (100 : Int64))
theorem opN_lt {n : Nat} {c : Nat → Nat → Nat} {D : Nat → Nat} (hK : SK n c D) (s : Nat) : opN n c s < 1024 := Nat.lt_of_le_of_lt (sd_le _ _) (SKu hK (by decide))
theorem remN_lt {n : Nat} {c : Nat → Nat → Nat} {D r e : Nat → Nat} (hK : SK n c D) (w s j : Nat) : remN n c r e w s j < 1024 := Nat.lt_of_le_of_lt (sd_le _ _) (Nat.lt_of_le_of_lt Nat.and_le_left (SKu hK (by decide)))
theorem cl_of (v : Int64) {Q : Int64 → Prop} (h : Q (clI v)) : ((0 ≤ (lg_cmp v (0 : Int64))) → (((lg_cmp v (1000000000 : Int64)) ≤ 0) → Q v) ∧ ((¬ (lg_cmp v (1000000000 : Int64)) ≤ 0) → Q 1000000000)) ∧ ((¬ 0 ≤ (lg_cmp v (0 : Int64))) → Q 0) := by
  have h0 : (0 ≤ lg_cmp v 0) ↔ 0 ≤ v := by
    unfold lg_cmp
    by_cases h1 : (0 : Int64) < v
    · have := Int64.le_of_lt h1
      simp [h1, this]
    · by_cases h2 : v = 0
      · subst h2; decide
      · have : ¬ 0 ≤ v := fun q => h1 (Int64.lt_of_le_of_ne q (fun e => h2 e.symm))
        simp [h1, h2, this]
  have hm : (lg_cmp v 1000000000 ≤ 0) ↔ v ≤ 1000000000 := by
    unfold lg_cmp
    by_cases h1 : (1000000000 : Int64) < v
    · have : ¬ v ≤ 1000000000 := Int64.not_le.mpr h1
      simp [h1, this]
    · have h3 : v ≤ 1000000000 := Int64.not_lt.mp h1
      by_cases h2 : v = 1000000000
      · subst h2; decide
      · simp [h1, h2, h3]
  rw [h0, hm]
  unfold clI at h
  refine ⟨fun h1 => ⟨fun h2 => ?_, fun h2 => ?_⟩, fun h1 => ?_⟩
  · have n0 : ¬ v < 0 := Int64.not_lt.mpr h1
    by_cases h3 : v < 1000000000
    · rw [if_pos h3, if_neg n0] at h
      exact h
    · have : v = 1000000000 := Int64.le_antisymm h2 (Int64.not_lt.mp h3)
      rw [if_neg h3, if_neg (by decide)] at h
      rw [this]
      exact h
  · have h3 : ¬ v < 1000000000 := fun q => h2 (Int64.le_of_lt q)
    rw [if_neg h3, if_neg (by decide)] at h
    exact h
  · have h4 : v < 0 := Int64.not_le.mp h1
    have h3 : v < 1000000000 := Int64.lt_trans h4 (by decide)
    rw [if_pos h3, if_pos h4] at h
    exact h
section PRESS
variable {G : gC} {l : Launch} {μ : Mem} {P : Int32 → Mem → Prop} {n f m : Nat} {r e W : Nat → Nat} {c : Nat → Nat → Nat} {D : Nat → Nat}
theorem b_endN {j : Nat} (hC : BC r f m e μ) (hB : BK n r f m e) (hj : j ≤ m) (h : P (nI (eN f m e j)) μ) : qX0_end G l (nI j) μ P := by
  unfold eN at h
  by_cases hm : j < m
  · rw [if_pos hm] at h
    exact b_end hC hB hm h
  · rw [if_neg hm] at h
    rw [show j = m by omega]
    exact b_endD hC hB h
theorem eN_ok (hB : BK n r f m e) {j : Nat} (hj : j ≤ m) : bst e j ≤ eN f m e j ∧ eN f m e j ≤ f := by
  unfold eN
  by_cases hm : j < m
  · rw [if_pos hm]
    have := BKe hB hm
    omega
  · rw [if_neg hm, show j = m by omega]
    have := BKm hB
    omega
theorem b_setOfN {j : Nat} (hC : BC r f m e μ) (hB : BK n r f m e) (hj : j ≤ m) (h : P (nI (sN r f m e j)) μ) : qX0_setOf G l (nI j) μ P := by
  have := eN_ok hB hj
  exact eX0_setOf (b_start hC hB hj (b_endN hC hB hj (b_setFrom hC hB this.1 this.2 h)))
theorem sN_lt (hB : BK n r f m e) {j : Nat} (hj : j ≤ m) : sN r f m e j < 1024 := (segK hB (eN_ok hB hj).2).2
theorem p_rem {j : Nat} (hS : SC n c D μ) (hK : SK n c D) (hC : BC r f m e μ) (hB : BK n r f m e) (hL : LC W μ) (hW : LK W) (hj : j ≤ m) (h : P (nI (remN n c r e (W 2) (sN r f m e j) j)) μ) : qX3_remindedIn G l (nI j) μ P := by
  have hn := hK.1
  have hm := BKm hB
  refine eX3_remindedIn ?_
  refine down (H := fun i => hX3_remindedIn_7 G l P (nI j) (nI (kn n c r e i)) (nI (rmm n c r e (W 2) j i)) (nI i) μ) (n := j) ?_ ?_
  · refine eX3_remindedIn_7 ⟨fun _ => b_setOfN hC hB hj (t7_union (w := 2) hS hn (by have := sN_lt hB hj; omega) (by decide) ?_), fun q => absurd (Int32.le_refl _) q⟩
    rw [nI_and, nI_sd]
    exact h
  · intro i hi ih
    have hs := (segK hB (a := bst e i) (b := e i) (by have := BKe hB (j := i) (by omega); omega)).2
    refine eX3_remindedIn_7 ⟨fun q => absurd q (nI_ge hi (by omega)), fun _ => b_setOf hC hB (by omega) (t7_union (w := 2) hS hn (by omega) (by decide) ?_)⟩
    rw [hL 2 (by decide), pk_sub (by omega), nI_or, nI_or, nI_ltI (by have := hW.2.1; omega) (by omega), nI_1]
    have e1 : kn n c r e (i + 1) = kn n c r e i ||| un c 2 (seg r (bst e i) (e i)) n := rfl
    have e2 : rmm n c r e (W 2) j (i + 1) = if W 2 < j - i then rmm n c r e (W 2) j i else rmm n c r e (W 2) j i ||| un c 2 (seg r (bst e i) (e i)) n := rfl
    rw [e1, e2] at ih
    refine ⟨fun q => ?_, fun q => ?_⟩
    · rw [if_pos q] at ih; exact ih
    · rw [if_neg q] at ih; exact ih
theorem m_rem {j s : Nat} (hS : SM n c D μ) (hK : SK n c D) (hC : BM r f m e μ) (hB : BK n r f m e) (hL : LM W μ) (hW : LK W) (hj : j ≤ m) (hs : s < 1024) (h : P (nI (remN n c r e (W 2) s j)) μ) : qX10_remindedOf G l (nI s) (nI j) μ P := by
  have hn := hK.1
  have hm := BKm hB
  refine eX10_remindedOf ?_
  refine down (H := fun i => hX10_remindedOf_8 G l P (nI s) (nI j) (nI (kn n c r e i)) (nI (rmm n c r e (W 2) j i)) (nI i) μ) (n := j) ?_ ?_
  · refine eX10_remindedOf_8 ⟨fun _ => t_union (j := 1) hS hn (by omega) (by decide) ?_, fun q => absurd (Int32.le_refl _) q⟩
    rw [nI_and, nI_sd]
    exact h
  · intro i hi ih
    have hs := (segK hB (a := bst e i) (b := e i) (by have := BKe hB (j := i) (by omega); omega)).2
    refine eX10_remindedOf_8 ⟨fun q => absurd q (nI_ge hi (by omega)), fun _ => m_setIn hC hB (by omega) (t_union (j := 1) hS hn (by omega) (by decide) ?_)⟩
    rw [hL 2 (by decide), pk_sub (by omega), nI_or, nI_or, Int32.or_zero, nI_ltI (by have := hW.2.1; omega) (by omega), nI_1]
    have e1 : kn n c r e (i + 1) = kn n c r e i ||| un c 2 (seg r (bst e i) (e i)) n := rfl
    have e2 : rmm n c r e (W 2) j (i + 1) = if W 2 < j - i then rmm n c r e (W 2) j i else rmm n c r e (W 2) j i ||| un c 2 (seg r (bst e i) (e i)) n := rfl
    rw [e1, e2] at ih
    refine ⟨fun q => ?_, fun q => ?_⟩
    · rw [if_pos q] at ih; exact ih
    · rw [if_neg q] at ih; exact ih
theorem p_lines {j : Nat} (hS : SC n c D μ) (hK : SK n c D) (hC : BC r f m e μ) (hB : BK n r f m e) (hL : LC W μ) (hW : LK W) (hj : j ≤ m) (h : P (nI (liN n c r e W (sN r f m e j) j)) μ) : qX3_linesOf G l (nI j) μ P := by
  have hn := hK.1
  refine eX3_linesOf (p_rem hS hK hC hB hL hW hj (t_bc (remN_lt hK _ _ _) (b_setOfN hC hB hj (t7_sum (w := 0) hS hn (by have := sN_lt hB hj; omega) (by decide) ?_))))
  rw [hL 3 (by decide), pk_mul, nI_add]
  exact h
theorem m_lines {j s : Nat} (hS : SM n c D μ) (hK : SK n c D) (hC : BM r f m e μ) (hB : BK n r f m e) (hL : LM W μ) (hW : LK W) (hj : j ≤ m) (hs : s < 1024) (h : P (nI (liN n c r e W s j)) μ) : qX10_linesAs G l (nI s) (nI j) μ P := by
  have hn := hK.1
  refine eX10_linesAs (t_lines hS hn (by omega) (m_rem hS hK hC hB hL hW hj hs (t_ones (by have := remN_lt (r := r) (e := e) hK (W 2) s j; omega) ?_)))
  rw [hL 3 (by decide), pk_mul, nI_add]
  exact h
theorem p_open {j : Nat} (hS : SC n c D μ) (hK : SK n c D) (hC : BC r f m e μ) (hB : BK n r f m e) (hj : j < m) (h : P (nI (opN n c (seg r 0 (e j)))) μ) : qX3_openBehindNumber G l (nI j) μ P := by
  have hn := hK.1
  have he := BKe hB hj
  have hs := (segK hB (a := 0) (b := e j) (by omega)).2
  exact eX3_openBehindNumber (b_end hC hB hj (b_setUpTo hC hB (by omega) (t7_open hS hn (by omega) h)))
theorem t7_cell {k w : Nat} (hS : SC n c D μ) (hn : n ≤ 10) (hk : k < n) (hw : w < 8) (h : P (nI (c k w)) μ) : qX7_cell G l (nI k) (nI w) μ P := by
  refine eX7_cell ⟨fun q => absurd q (nI_pos (by omega)), fun _ => ⟨fun q => absurd q (nI_ge (b := 10) (by omega) (by decide)), fun _ => ⟨fun q => absurd q (nI_pos (by omega)), fun _ => ⟨fun q => absurd q (nI_ge (b := 9) (by omega) (by decide)), fun _ => ⟨vp_in_nI (by omega) (by decide), vp_in_nI (by omega) (by decide), ?_⟩⟩⟩⟩⟩
  rw [nI_clamp (by omega), nI_clamp (by omega), (hS.2 k hk).1 w hw]
  exact h
theorem p_pull {j : Nat} (hS : SC n c D μ) (hK : SK n c D) (hC : BC r f m e μ) (hB : BK n r f m e) (hL : LC W μ) (hj : j < m) (h : P (puV n c r e W j) μ) : qX3_pullOf G l (nI j) μ P := by
  have hn := hK.1
  have hm := BKm hB
  have he := BKe hB hj
  have hs := (segK hB (a := bst e j) (b := e j) (by omega)).2
  have hr := hB.2.2.1 (e j - 1) (by omega)
  have ho := opN_lt hK (seg r 0 (e j))
  have hc4 := SKb hK hr (w := 4) (by decide)
  refine eX3_pullOf (p_open hS hK hC hB hj (b_setOf hC hB hj (t7_sum (w := 1) hS hn (by omega) (by decide) (t_bc ho (b_end hC hB hj (b_start hC hB (by omega) ?_))))))
  have ei : nI (e j) - nI (bst e j) - 1 = nI (e j - bst e j - 1) := by
    rw [pk_sub (by omega), nI_one, pk_sub (by omega)]
  rw [ei]
  refine b_sceneOf hC hB hj (by omega) ?_
  rw [show bst e j + (e j - bst e j - 1) = e j - 1 by omega]
  refine t7_cell (w := 4) hS hn hr (by decide) ?_
  rw [hL 5 (by decide), hL 4 (by decide), pk_mul, nI_add, nI_and, nI_z (Nat.lt_of_le_of_lt Nat.and_le_left (by omega)), show (4 : Int32) = nI 4 from rfl, nI_leI (by decide) (by omega)]
  unfold puV at h
  have fin : ∀ y : Int32, P (y - nI (W 6 * (if j < 4 then 0 else pc (opN n c (seg r 0 (e j)) &&& un c 4 (seg r 0 (e (j - 4))) n)))) μ → ((4 ≤ j → qX0_end G l (nI j - nI 4) μ (fun r20 μ19 => qX0_setUpTo G l r20 μ19 (fun r22 μ21 => hX3_pullOf_120 G l P (nI (opN n c (seg r 0 (e j)))) y r22 μ21))) ∧ (¬ 4 ≤ j → hX3_pullOf_120 G l P (nI (opN n c (seg r 0 (e j)))) y 0 μ)) := by
    intro y hy
    refine ⟨fun h4 => ?_, fun h4 => ?_⟩
    · rw [pk_sub h4]
      have he4 := BKe hB (j := j - 4) (by omega)
      have hs4 := (segK hB (a := 0) (b := e (j - 4)) (by omega)).2
      refine b_end hC hB (by omega) (b_setUpTo hC hB (by omega) (eX3_pullOf_120 (t7_union (w := 4) hS hn (by omega) (by decide) ?_)))
      rw [nI_and]
      refine t_bc (Nat.lt_of_le_of_lt Nat.and_le_left ho) ?_
      rw [hL 6 (by decide), pk_mul]
      rw [if_neg (by omega)] at hy
      exact hy
    · refine eX3_pullOf_120 (t7_union (s := 0) (w := 4) hS hn (by decide) (by decide) ?_)
      have eu : ∀ k, un c 4 0 k = 0 := fun k => by
        induction k with
        | zero => rfl
        | succ k ih => unfold un; simp [ih]
      rw [nI_and, eu, Nat.and_zero]
      refine t_bc (by decide) ?_
      rw [hL 6 (by decide), pk_mul]
      rw [if_pos (by omega)] at hy
      exact hy
  refine ⟨fun hz => ?_, fun hz v hv => ?_⟩
  · rw [if_pos hz, Int32.add_zero] at h
    exact fin _ h
  · rw [if_neg hz] at h
    subst hv
    exact fin _ h
theorem m_pull {j : Nat} (hS : SM n c D μ) (hK : SK n c D) (hC : BM r f m e μ) (hB : BK n r f m e) (hL : LM W μ) (hj : j < m) (h : P (puV n c r e W j) μ) : qX10_pullOf G l (nI j) μ P := by
  have hn := hK.1
  have hm := BKm hB
  have he := BKe hB hj
  have hs := (segK hB (a := bst e j) (b := e j) (by omega)).2
  have hs0 := (segK hB (a := 0) (b := e j) (by omega)).2
  have hr := hB.2.2.1 (e j - 1) (by omega)
  have ho := opN_lt hK (seg r 0 (e j))
  have hc4 := SKb hK hr (w := 4) (by decide)
  obtain ⟨h1, h2⟩ := hC.2.2.2.2.1 j hj
  refine eX10_pullOf (m_upTo hC hB hj (t_open hS hn (by omega) ?_))
  have ei : (6 : Int32) * nI j + gm_r μ 92 (nI j).toNatClampNeg - 1 = nI (6 * j + (e j - bst e j - 1)) := by
    rw [nI_clamp (by omega), h1, show (6 : Int32) = nI 6 from rfl, pk_mul, nI_add, nI_one, pk_sub (by omega)]
    congr 1
    omega
  rw [ei]
  refine ⟨vp_in_nI (by omega) (by decide), vp_in_nI (by omega) (by decide), fun v hv => ?_⟩
  rw [nI_clamp (by omega), h2 _ (by omega), show bst e j + (e j - bst e j - 1) = e j - 1 by omega] at hv
  subst hv
  refine m_setIn hC hB hj (t_joy hS hn (by omega) (t_ones (by unfold opN at ho; omega) (t_setOf (j := 3) hS hn hr (by decide) ?_)))
  rw [hL 5 (by decide), hL 4 (by decide), pk_mul, nI_add, nI_and, nI_z (Nat.lt_of_le_of_lt Nat.and_le_left (by show c (r (e j - 1)) 4 < _; omega))]
  unfold puV at h
  have fin : ∀ y0 y1 : Int32, P ((y1 + y0) - nI (W 6 * (if j < 4 then 0 else pc (opN n c (seg r 0 (e j)) &&& un c 4 (seg r 0 (e (j - 4))) n)))) μ → hX10_pullOf_71 G l P (nI j) (nI (opN n c (seg r 0 (e j)))) y0 y1 μ := by
    intro y0 y1 hy
    refine eX10_pullOf_71 ?_
    rw [show (3 : Int32) = nI 3 from rfl, nI_leI (by omega) (by decide)]
    refine ⟨fun h4 => ?_, fun h4 => ?_⟩
    · refine t_ones (a := 0) (by decide) ?_
      rw [hL 6 (by decide), pk_mul]
      rw [if_pos (by omega)] at hy
      exact hy
    · rw [show (4 : Int32) = nI 4 from rfl, pk_sub (by omega)]
      have he4 := BKe hB (j := j - 4) (by omega)
      have hs4 := (segK hB (a := 0) (b := e (j - 4)) (by omega)).2
      refine m_upTo hC hB (by omega) (t_union (j := 3) hS hn (by omega) (by decide) ?_)
      rw [nI_and, Nat.and_comm]
      refine t_ones (Nat.lt_of_le_of_lt Nat.and_le_left (by omega)) ?_
      rw [hL 6 (by decide), pk_mul]
      rw [if_neg (by omega)] at hy
      exact hy
  refine ⟨fun hz => ?_, fun hz => ?_⟩
  · have hz' : c (r (e j - 1)) 4 &&& opN n c (seg r 0 (e j)) = 0 := hz
    rw [if_pos hz'] at h
    exact fin _ _ h
  · have hz' : ¬ c (r (e j - 1)) 4 &&& opN n c (seg r 0 (e j)) = 0 := hz
    rw [if_neg hz'] at h
    exact fin _ _ h
theorem rd_end {j i : Nat} (hj : j ≤ 10) (hi : i ≤ 10) : (nI j - 1 < nI i) ↔ j ≤ i := by
  have h : ∀ j : Nat, j < 11 → ∀ i : Nat, i < 11 → ((nI j - 1 < nI i) ↔ j ≤ i) := by decide +kernel
  exact h j (by omega) i (by omega)
theorem p_readers {j : Nat} (hS : SC n c D μ) (hK : SK n c D) (hC : BC r f m e μ) (hB : BK n r f m e) (hL : LC W μ) (hj : j ≤ m) (h : P (rdV n c r e W j).toInt32 μ) : qX3_readersBehind G l (nI j - 1) μ P := by
  have hm := BKm hB
  refine eX3_readersBehind ?_
  refine down (H := fun i => hX3_readersBehind_7 G l P (nI j - 1) (rdV n c r e W i) (nI i) μ) (n := j) ?_ ?_
  · exact eX3_readersBehind_7 ⟨fun _ => h, fun q => absurd ((rd_end (by omega) (by omega)).mpr (Nat.le_refl j)) q⟩
  · intro i hi ih
    refine eX3_readersBehind_7 ⟨fun q => absurd ((rd_end (by omega) (by omega)).mp q) (by omega), fun _ => p_pull hS hK hC hB hL (by omega) (fun v4 e4 v5 e5 => ?_)⟩
    rw [hL 7 (by decide)] at e4
    have e6 : v5 = rdV n c r e W (i + 1) := by rw [e5, e4]; rfl
    rw [e6, nI_1]
    exact ih
theorem m_readers {j : Nat} (hS : SM n c D μ) (hK : SK n c D) (hC : BM r f m e μ) (hB : BK n r f m e) (hL : LM W μ) (hj : j ≤ m) (h : P (rdV n c r e W j).toInt32 μ) : qX10_readersBehind G l (nI j - 1) μ P := by
  have hm := BKm hB
  refine eX10_readersBehind ?_
  refine down (H := fun i => hX10_readersBehind_7 G l P (nI j - 1) (rdV n c r e W i) (nI i) μ) (n := j) ?_ ?_
  · exact eX10_readersBehind_7 ⟨fun _ => h, fun q => absurd ((rd_end (by omega) (by omega)).mpr (Nat.le_refl j)) q⟩
  · intro i hi ih
    refine eX10_readersBehind_7 ⟨fun q => absurd ((rd_end (by omega) (by omega)).mp q) (by omega), fun _ => m_pull hS hK hC hB hL (by omega) (fun v4 e4 => ?_)⟩
    rw [hL 7 (by decide)] at e4
    refine cl_of v4 (Q := fun x => hX10_readersBehind_7 G l P (nI j - 1) x (nI i + 1) μ) ?_
    have e6 : clI v4 = rdV n c r e W (i + 1) := by rw [e4]; rfl
    rw [e6, nI_1]
    exact ih
end PRESS
