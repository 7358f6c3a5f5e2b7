/-! what is printed and THE DRAFT: r the SCENES in a row, f of them, m NUMBERS that end at e -/
def bst (e : Nat → Nat) (j : Nat) : Nat := if j = 0 then 0 else e (j - 1)
def seg (r : Nat → Nat) (a : Nat) : Nat → Nat | 0 => 0 | i + 1 => if a ≤ i then seg r a i ||| 2 ^ (r i) else seg r a i
def BC (r : Nat → Nat) (f m : Nat) (e : Nat → Nat) (μ : Mem) : Prop := gm_r μ 42 1 = nI f ∧ gm_r μ 42 3 = nI m ∧ (∀ i, i < f → gm_r μ 43 i = nI (r i)) ∧ ∀ j, j < m → gm_r μ 44 j = nI (e j)
def BM (r : Nat → Nat) (f m : Nat) (e : Nat → Nat) (μ : Mem) : Prop := gm_r μ 78 22 = nI m ∧ gm_r μ 78 23 = nI (seg r 0 (bst e m)) ∧ gm_r μ 78 26 = nI (f - bst e m) ∧ gm_r μ 78 27 = nI (seg r (bst e m) f) ∧ (∀ j, j < m → gm_r μ 92 j = nI (e j - bst e j) ∧ ∀ i, i < e j - bst e j → gm_r μ 93 (6 * j + i) = nI (r (bst e j + i))) ∧ ∀ i, i < f - bst e m → gm_r μ 94 i = nI (r (bst e m + i))
def BK (n : Nat) (r : Nat → Nat) (f m : Nat) (e : Nat → Nat) : Prop := n ≤ 10 ∧ f ≤ n ∧ (∀ i, i < f → r i < n) ∧ (∀ i j, i < f → j < f → r i = r j → i = j) ∧ (∀ j, j < m → bst e j < e j ∧ e j ≤ bst e j + 6) ∧ bst e m ≤ f ∧ f ≤ bst e m + 6
theorem bst_succ (e : Nat → Nat) (j : Nat) : bst e (j + 1) = e j := by simp [bst]
theorem bst_mono {n f m : Nat} {r e : Nat → Nat} (hB : BK n r f m e) {i j : Nat} (hij : i ≤ j) (hj : j ≤ m) : bst e i ≤ bst e j := by
  induction j with
  | zero => rw [show i = 0 by omega]; exact Nat.le_refl _
  | succ j ih =>
    by_cases h : i = j + 1
    · rw [h]; exact Nat.le_refl _
    · have h1 := ih (by omega) (by omega)
      have h2 := (hB.2.2.2.2.1 j (by omega)).1
      rw [bst_succ]
      omega
theorem bst_ge {n f m : Nat} {r e : Nat → Nat} (hB : BK n r f m e) {j : Nat} (hj : j ≤ m) : j ≤ bst e j := by
  induction j with
  | zero => exact Nat.zero_le _
  | succ j ih =>
    have h1 := ih (by omega)
    have h2 := (hB.2.2.2.2.1 j (by omega)).1
    rw [bst_succ]
    omega
theorem BKm {n f m : Nat} {r e : Nat → Nat} (hB : BK n r f m e) : m ≤ 10 ∧ f ≤ 10 ∧ m ≤ bst e m ∧ bst e m ≤ f := by
  have h1 := bst_ge hB (Nat.le_refl m)
  have h2 := hB.2.2.2.2.2.1
  have h3 := hB.1
  have h4 := hB.2.1
  omega
theorem BKe {n f m : Nat} {r e : Nat → Nat} (hB : BK n r f m e) {j : Nat} (hj : j < m) : bst e j < e j ∧ e j ≤ bst e j + 6 ∧ e j ≤ bst e m ∧ e j ≤ f ∧ e j ≤ 10 := by
  have h1 := hB.2.2.2.2.1 j hj
  have h2 := bst_mono hB (i := j + 1) (j := m) (by omega) (Nat.le_refl m)
  rw [bst_succ] at h2
  have := BKm hB
  omega
theorem seg_bit (r : Nat → Nat) (a k : Nat) : ∀ b, (seg r a b).testBit k = true ↔ ∃ i, a ≤ i ∧ i < b ∧ r i = k
  | 0 => by simp [seg]
  | b + 1 => by
    have ih := seg_bit r a k b
    unfold seg
    by_cases h : a ≤ b
    · rw [if_pos h, Nat.testBit_or, Bool.or_eq_true, ih, Nat.testBit_two_pow]
      constructor
      · rintro (⟨i, h1, h2, h3⟩ | h1)
        · exact ⟨i, h1, by omega, h3⟩
        · exact ⟨b, h, by omega, by simpa using h1⟩
      · rintro ⟨i, h1, h2, h3⟩
        by_cases e : i = b
        · subst e; exact Or.inr (by simpa using h3)
        · exact Or.inl ⟨i, h1, by omega, h3⟩
    · rw [if_neg h, ih]
      constructor
      · rintro ⟨i, h1, h2, h3⟩
        exact ⟨i, h1, by omega, h3⟩
      · rintro ⟨i, h1, h2, h3⟩
        exact ⟨i, h1, by omega, h3⟩
theorem seg_lt {r : Nat → Nat} {a n : Nat} : ∀ {b : Nat}, (∀ i, a ≤ i → i < b → r i < n) → seg r a b < 2 ^ n
  | 0, _ => Nat.two_pow_pos n
  | b + 1, h => by
    unfold seg
    split
    · rename_i hab
      exact Nat.or_lt_two_pow (seg_lt (fun i h1 h2 => h i h1 (by omega))) (Nat.pow_lt_pow_right (by decide) (h b hab (by omega)))
    · exact seg_lt (fun i h1 h2 => h i h1 (by omega))
theorem seg_self (r : Nat → Nat) : ∀ a b, b ≤ a → seg r a b = 0
  | _, 0, _ => rfl
  | a, b + 1, h => by
    unfold seg
    rw [if_neg (by omega)]
    exact seg_self r a b (by omega)
theorem seg_succ {r : Nat → Nat} {a b : Nat} (h : a ≤ b) : seg r a (b + 1) = seg r a b ||| 2 ^ (r b) := if_pos h
theorem seg_or {r : Nat → Nat} {a b d : Nat} (h1 : a ≤ b) (h2 : b ≤ d) : seg r a d = seg r a b ||| seg r b d := by
  apply Nat.eq_of_testBit_eq
  intro k
  rw [Bool.eq_iff_iff, Nat.testBit_or, Bool.or_eq_true, seg_bit, seg_bit, seg_bit]
  constructor
  · rintro ⟨i, g1, g2, g3⟩
    by_cases h : i < b
    · exact Or.inl ⟨i, g1, h, g3⟩
    · exact Or.inr ⟨i, by omega, g2, g3⟩
  · rintro (⟨i, g1, g2, g3⟩ | ⟨i, g1, g2, g3⟩)
    · exact ⟨i, g1, by omega, g3⟩
    · exact ⟨i, by omega, g2, g3⟩
theorem segK {n f m : Nat} {r e : Nat → Nat} (hB : BK n r f m e) {a b : Nat} (hb : b ≤ f) : seg r a b < 2 ^ n ∧ seg r a b < 1024 := by
  have h := seg_lt (r := r) (a := a) (n := n) (b := b) (fun i _ h2 => hB.2.2.1 i (by omega))
  exact ⟨h, lt1024 hB.1 h⟩
section BOOK
variable {G : gC} {l : Launch} {μ : Mem} {P : Int32 → Mem → Prop} {n f m : Nat} {r e : Nat → Nat}
theorem b_start {j : Nat} (hC : BC r f m e μ) (hB : BK n r f m e) (hj : j ≤ m) (h : P (nI (bst e j)) μ) : qX0_start G l (nI j) μ P := by
  have hm := BKm hB
  refine eX0_start ⟨fun h1 => ?_, fun h1 => ⟨fun h2 => ?_, fun h2 => ?_⟩⟩
  · have : j = 0 := by
      rw [nI_one, nI_ltI (by omega) (by decide)] at h1
      omega
    rw [this] at h
    exact h
  · rw [nI_one, nI_ltI (by omega) (by decide)] at h1
    obtain ⟨i, rfl⟩ : ∃ i, j = i + 1 := ⟨j - 1, by omega⟩
    rw [nI_pred, nI_clamp (by omega), hC.2.2.2 i (by omega)]
    rw [bst_succ] at h
    exact ⟨vp_in_nI (by omega) (by decide), h⟩
  · rw [hC.2.1, nI_leI (by omega) (by omega)] at h2
    exact absurd hj h2
theorem b_end {j : Nat} (hC : BC r f m e μ) (hB : BK n r f m e) (hj : j < m) (h : P (nI (e j)) μ) : qX0_end G l (nI j) μ P := by
  have hm := BKm hB
  refine eX0_end ⟨fun h1 => absurd h1 (nI_pos (by omega)), fun h1 => ⟨fun h2 => ?_, fun h2 => ?_⟩⟩
  · rw [hC.2.1, nI_leI (by omega) (by omega)] at h2
    omega
  · rw [nI_clamp (by omega), hC.2.2.2 j hj]
    exact ⟨vp_in_nI (by omega) (by decide), h⟩
theorem b_endD (hC : BC r f m e μ) (hB : BK n r f m e) (h : P (nI f) μ) : qX0_end G l (nI m) μ P := by
  have hm := BKm hB
  rw [← hC.1] at h
  exact eX0_end ⟨fun _ => h, fun _ => ⟨fun _ => h, fun h2 => absurd (by rw [hC.2.1]; exact Int32.le_refl _) h2⟩⟩
theorem b_printed (hC : BC r f m e μ) (hB : BK n r f m e) (h : P (nI (bst e m)) μ) : qX0_printed G l μ P := by
  refine eX0_printed ?_
  rw [hC.2.1]
  exact b_start hC hB (Nat.le_refl m) h
theorem b_drafted (hC : BC r f m e μ) (hB : BK n r f m e) (h : P (nI (f - bst e m)) μ) : qX0_drafted G l μ P := by
  have hm := BKm hB
  refine eX0_drafted (b_printed hC hB ?_)
  rw [hC.1, pk_sub (by omega)]
  exact h
theorem b_setFrom {a b : Nat} (hC : BC r f m e μ) (hB : BK n r f m e) (hab : a ≤ b) (hb : b ≤ f) (h : P (nI (seg r a b)) μ) : qX0_setFrom G l (nI a) (nI b) μ P := by
  have hm := BKm hB
  refine eX0_setFrom ?_
  have key : hX0_setFrom_5 G l P (nI b) (nI (seg r a (a + 0))) (nI (a + 0)) μ := by
    refine down (H := fun j => hX0_setFrom_5 G l P (nI b) (nI (seg r a (a + j))) (nI (a + j)) μ) (n := b - a) ?_ ?_
    · rw [show a + (b - a) = b by omega]
      exact eX0_setFrom_5 ⟨fun _ => h, fun hc => absurd (Int32.le_refl _) hc⟩
    · intro j hj ih
      refine eX0_setFrom_5 ⟨fun hc => absurd hc (nI_ge (by omega) (by omega)), fun _ => ⟨fun hc => absurd hc (nI_ge (b := 10) (by omega) (by decide)), fun _ => ⟨vp_in_nI (by omega) (by decide), fun v hv => ?_⟩⟩⟩
      have hr := hB.2.2.1 (a + j) (by omega)
      have e1 : v = nI (seg r a (a + j + 1)) := by
        rw [hv, nI_clamp (by omega), hC.2.2.1 (a + j) (by omega), nI_bit1 (by have := hB.1; omega), nI_or, seg_succ (by omega)]
      rw [e1, nI_1]
      exact ih
  rw [Nat.add_zero, seg_self r a a (Nat.le_refl a)] at key
  exact key
theorem b_setUpTo {b : Nat} (hC : BC r f m e μ) (hB : BK n r f m e) (hb : b ≤ f) (h : P (nI (seg r 0 b)) μ) : qX0_setUpTo G l (nI b) μ P := eX0_setUpTo (b_setFrom (a := 0) hC hB (Nat.zero_le b) hb h)
theorem b_setOf {j : Nat} (hC : BC r f m e μ) (hB : BK n r f m e) (hj : j < m) (h : P (nI (seg r (bst e j) (e j))) μ) : qX0_setOf G l (nI j) μ P := by
  have he := BKe hB hj
  exact eX0_setOf (b_start hC hB (by omega) (b_end hC hB hj (b_setFrom hC hB (by omega) (by omega) h)))
theorem b_setOfD (hC : BC r f m e μ) (hB : BK n r f m e) (h : P (nI (seg r (bst e m) f)) μ) : qX0_setOf G l (nI m) μ P := by
  have hm := BKm hB
  exact eX0_setOf (b_start hC hB (Nat.le_refl m) (b_endD hC hB (b_setFrom hC hB (by omega) (by omega) h)))
theorem b_sceneOf {j i : Nat} (hC : BC r f m e μ) (hB : BK n r f m e) (hj : j < m) (hi : i < e j - bst e j) (h : P (nI (r (bst e j + i))) μ) : qX0_sceneOf G l (nI j) (nI i) μ P := by
  have he := BKe hB hj
  have hm := BKm hB
  refine eX0_sceneOf (b_start hC hB (by omega) ⟨fun h1 => absurd h1 (nI_pos (by omega)), fun _ => b_end hC hB hj ⟨fun h2 => ?_, fun h2 => ?_⟩⟩)
  · rw [nI_add, nI_clamp (by omega), hC.2.2.1 _ (by omega)]
    exact ⟨vp_in_nI (by omega) (by decide), h⟩
  · rw [nI_add, nI_ltI (by omega) (by omega)] at h2
    omega
theorem b_sceneNo {j i : Nat} (hC : BC r f m e μ) (hB : BK n r f m e) (hj : j < m) (hi : ¬ i < e j - bst e j) (hi6 : i < 6) (h : P (-1) μ) : qX0_sceneOf G l (nI j) (nI i) μ P := by
  have he := BKe hB hj
  have hm := BKm hB
  refine eX0_sceneOf (b_start hC hB (by omega) ⟨fun h1 => absurd h1 (nI_pos (by omega)), fun _ => b_end hC hB hj ⟨fun h2 => ?_, fun h2 => h⟩⟩)
  rw [nI_add, nI_ltI (by omega) (by omega)] at h2
  omega
theorem m_setIn {j : Nat} (hM : BM r f m e μ) (hB : BK n r f m e) (hj : j < m) (h : P (nI (seg r (bst e j) (e j))) μ) : qX10_setIn G l (nI j) μ P := by
  have he := BKe hB hj
  have hm := BKm hB
  obtain ⟨h1, h2⟩ := hM.2.2.2.2.1 j hj
  refine eX10_setIn ?_
  have key : hX10_setIn_4 G l P (nI j) (nI (seg r (bst e j) (bst e j + 0))) (nI 0) μ := by
    refine down (H := fun i => hX10_setIn_4 G l P (nI j) (nI (seg r (bst e j) (bst e j + i))) (nI i) μ) (n := e j - bst e j) ?_ ?_
    · rw [show bst e j + (e j - bst e j) = e j by omega]
      refine eX10_setIn_4 ⟨vp_in_nI (by omega) (by decide), fun _ => h, fun hc => absurd (by rw [nI_clamp (by omega), h1]; exact Int32.le_refl _) hc⟩
    · intro i hi ih
      have ea : (6 : Int32) * nI j + nI i = nI (6 * j + i) := by rw [← nI_add, ← pk_mul]; rfl
      have hr := hB.2.2.1 (bst e j + i) (by omega)
      refine eX10_setIn_4 ⟨vp_in_nI (by omega) (by decide), fun hc => absurd (by rw [nI_clamp (by omega), h1] at hc; exact hc) (nI_ge hi (by omega)), fun _ => ⟨by rw [ea]; exact vp_in_nI (by omega) (by decide), fun v hv => ?_⟩⟩
      have e1 : v = nI (seg r (bst e j) (bst e j + i + 1)) := by
        rw [hv, ea, nI_clamp (by omega), h2 i hi, nI_bit1 (by have := hB.1; omega), nI_or, seg_succ (by omega)]
      rw [e1, nI_1]
      exact ih
  rw [Nat.add_zero, seg_self r _ _ (Nat.le_refl _)] at key
  exact key
theorem m_upTo {j : Nat} (hM : BM r f m e μ) (hB : BK n r f m e) (hj : j < m) (h : P (nI (seg r 0 (e j))) μ) : qX10_upTo G l (nI j) μ P := by
  have hm := BKm hB
  refine eX10_upTo ?_
  have key : hX10_upTo_4 G l P (nI j) (nI (seg r 0 (bst e 0))) (nI 0) μ := by
    refine down (H := fun i => hX10_upTo_4 G l P (nI j) (nI (seg r 0 (bst e i))) (nI i) μ) (n := j + 1) ?_ ?_
    · rw [bst_succ]
      exact eX10_upTo_4 ⟨fun _ => h, fun hc => absurd (nI_lt (by omega) (by omega)) hc⟩
    · intro i hi ih
      have he := BKe hB (j := i) (by omega)
      refine eX10_upTo_4 ⟨fun hc => absurd hc (nI_nlt (by omega) (by omega)), fun _ => m_setIn hM hB (by omega) ?_⟩
      rw [bst_succ, seg_or (b := bst e i) (Nat.zero_le _) (by omega)] at ih
      rw [nI_or, nI_1]
      exact ih
  exact key
/-- the NUMBER in which the SCENE k is printed, of the d from i on; -1 if in none -/
def noF (r e : Nat → Nat) (k : Nat) : Nat → Nat → Int32 | 0, _ => -1 | d + 1, i => if (seg r (bst e i) (e i)).testBit k then nI i else noF r e k d (i + 1)
theorem b_numberOf {k : Nat} (hC : BC r f m e μ) (hB : BK n r f m e) (hk : k < 10) (h : P (noF r e k m 0) μ) : qX0_numberOf G l (nI k) μ P := by
  have hm := BKm hB
  have key : ∀ d i, i + d = m → P (noF r e k d i) μ → hX0_numberOf_2 G l P (nI k) (nI i) μ := by
    intro d
    induction d with
    | zero =>
      intro i hi hp
      exact eX0_numberOf_2 ⟨fun _ => hp, fun q => absurd (by rw [hC.2.1, show i = m by omega]; exact Int32.le_refl _) q⟩
    | succ d ih =>
      intro i hi hp
      have hs := (segK hB (a := bst e i) (b := e i) (by have := BKe hB (j := i) (by omega); omega)).2
      unfold noF at hp
      refine eX0_numberOf_2 ⟨fun q => absurd (by rw [hC.2.1] at q; exact q) (nI_ge (by omega) (by omega)), fun _ => b_setOf hC hB (by omega) ⟨fun q => ?_, fun q => ?_⟩⟩
      · rw [nI_has (by omega) (by omega)] at q
        rw [if_neg q] at hp
        rw [nI_1]
        exact ih (i + 1) (by omega) hp
      · rw [nI_has (by omega) (by omega)] at q
        rw [if_pos q] at hp
        exact hp
  exact eX0_numberOf (key m 0 (by omega) h)
theorem m_numberOf {k : Nat} (hC : BM r f m e μ) (hB : BK n r f m e) (hk : k < 10) (h : P (noF r e k m 0) μ) : qX10_numberOf G l (nI k) μ P := by
  have hm := BKm hB
  have key : ∀ d i, i + d = m → P (noF r e k d i) μ → hX10_numberOf_2 G l P (nI k) (nI i) μ := by
    intro d
    induction d with
    | zero =>
      intro i hi hp
      exact eX10_numberOf_2 ⟨fun _ => hp, fun q => absurd (by rw [hC.1, show i = m by omega]; exact Int32.le_refl _) q⟩
    | succ d ih =>
      intro i hi hp
      have hs := (segK hB (a := bst e i) (b := e i) (by have := BKe hB (j := i) (by omega); omega)).2
      unfold noF at hp
      refine eX10_numberOf_2 ⟨fun q => absurd (by rw [hC.1] at q; exact q) (nI_ge (by omega) (by omega)), fun _ => m_setIn hC hB (by omega) (t_has (by omega) (by omega) ⟨fun q => ?_, fun q => ?_⟩)⟩
      · rw [(if_has rfl).1] at q
        rw [if_neg (by rw [q]; decide)] at hp
        rw [nI_1]
        exact ih (i + 1) (by omega) hp
      · rw [(if_has rfl).2] at q
        rw [if_pos q] at hp
        exact hp
  exact eX10_numberOf (key m 0 (by omega) h)
end BOOK
