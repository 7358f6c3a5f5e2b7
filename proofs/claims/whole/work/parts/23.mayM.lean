section MAYM
variable {G : gC} {l : Launch} {μ : Mem} {P : Int32 → Mem → Prop} {n s w : Nat} {c : Nat → Nat → Nat} {D N : Nat → Nat}
theorem t_one {x : Int32} (h : P (if x = 0 then 0 else 1) μ) : qX10_one G l x μ P := by
  refine eX10_one ⟨fun h1 => ?_, fun h1 => ?_⟩
  · rw [if_pos h1] at h; exact h
  · rw [if_neg h1] at h; exact h
theorem t_union {j : Nat} (hS : SM n c D μ) (hn : n ≤ 10) (hs : s < 2 ^ 31) (hj7 : j < 7) (h : P (nI (un c (j + 1) s n)) μ) : qX10_union G l (nI s) (nI j) μ P := by
  refine eX10_union ?_
  refine down (H := fun k => hX10_union_5 G l P (nI s) (nI j) (nI (un c (j + 1) s k)) (nI k) μ) (n := n) ?_ ?_
  · exact eX10_union_5 ⟨fun _ => h, fun hc => absurd (by rw [hS.1]; exact Int32.le_refl _) hc⟩
  · intro k hk hn'
    refine eX10_union_5 ⟨fun hc => absurd (by rw [← hS.1]; exact hc) (nI_ge hk (by omega)), fun _ => t_has hs (by omega) ⟨fun hb => ?_, fun hb => t_setOf hS hn hk hj7 ?_⟩⟩
    · have e : un c (j + 1) s (k + 1) = un c (j + 1) s k := if_neg (by rw [(if_has rfl).1] at hb; rw [hb]; decide)
      rw [e] at hn'
      rw [nI_1, Int32.or_zero]
      exact hn'
    · rw [(if_has rfl).2] at hb
      have e : un c (j + 1) s (k + 1) = un c (j + 1) s k ||| c k (j + 1) := if_pos hb
      rw [e] at hn'
      rw [nI_1, nI_or]
      exact hn'
theorem t_joy (hS : SM n c D μ) (hn : n ≤ 10) (hs : s < 2 ^ 31) (h : P (nI (sm c 1 s n)) μ) : qX10_joyOf G l (nI s) μ P := by
  refine eX10_joyOf ?_
  refine down (H := fun k => hX10_joyOf_4 G l P (nI s) (nI (sm c 1 s k)) (nI k) μ) (n := n) ?_ ?_
  · exact eX10_joyOf_4 ⟨fun _ => h, fun hc => absurd (by rw [hS.1]; exact Int32.le_refl _) hc⟩
  · intro k hk hn'
    refine eX10_joyOf_4 ⟨fun hc => absurd (by rw [← hS.1]; exact hc) (nI_ge hk (by omega)), fun _ => t_has hs (by omega) ⟨fun hb => ?_, fun hb => t_setOf (j := 0) hS hn hk (by decide) ?_⟩⟩
    · have e : sm c 1 s (k + 1) = sm c 1 s k := if_neg (by rw [(if_has rfl).1] at hb; rw [hb]; decide)
      rw [e] at hn'
      rw [nI_1, Int32.add_zero]
      exact hn'
    · rw [(if_has rfl).2] at hb
      have e : sm c 1 s (k + 1) = sm c 1 s k + c k 1 := if_pos hb
      rw [e] at hn'
      rw [nI_1, nI_add]
      exact hn'
theorem t_open (hS : SM n c D μ) (hn : n ≤ 10) (hs : s < 2 ^ 31) (h : P (nI (sd (un c 4 s n) (un c 5 s n))) μ) : qX10_openOf G l (nI s) μ P := by
  refine eX10_openOf (t_union (j := 3) hS hn hs (by decide) (t_union (j := 4) hS hn hs (by decide) ?_))
  rw [nI_sd]
  exact h
theorem D_neg {d : Nat} (hd : d ≤ 8) : (nI d - 1 < 0 ↔ d = 0) := by
  have h : ∀ d : Nat, d < 9 → (nI d - 1 < 0 ↔ d = 0) := by decide +kernel
  exact h d (by omega)
/-- nobody of W dies in a SCENE of s below j -/
def alv (D : Nat → Nat) (s wt j : Nat) : Bool := (List.range j).all (fun k => !(s.testBit k) || (D k == 0) || !(wt.testBit (D k - 1)))
theorem alv_succ (D : Nat → Nat) (s wt j : Nat) : alv D s wt (j + 1) = (alv D s wt j && (!(s.testBit j) || (D j == 0) || !(wt.testBit (D j - 1)))) := by
  unfold alv
  rw [List.range_succ, List.all_append]
  simp
theorem alv_dd {D : Nat → Nat} {s wt n : Nat} (hD : ∀ k, k < n → D k ≤ 8) : alv D s wt n = ((wt &&& dd D s n) == 0) := by
  rw [Bool.eq_iff_iff]
  unfold alv
  rw [List.all_eq_true, beq_iff_eq]
  constructor
  · intro h
    apply Nat.eq_of_testBit_eq
    intro i
    rw [Nat.testBit_and, Nat.zero_testBit]
    by_cases hd : (dd D s n).testBit i = true
    · obtain ⟨k, h1, h2, h3⟩ := (dd_bit D s i n).mp hd
      have := h k (List.mem_range.mpr h1)
      simp [h2, h3] at this
      simp [this]
    · simp [hd]
  · intro h k hk
    have hk := List.mem_range.mp hk
    by_cases h2 : s.testBit k = true
    · by_cases h3 : D k = 0
      · simp [h3]
      · have hd : (dd D s n).testBit (D k - 1) = true := (dd_bit D s (D k - 1) n).mpr ⟨k, hk, h2, by omega⟩
        have := congrArg (fun x => x.testBit (D k - 1)) h
        simp [Nat.testBit_and, hd] at this
        simp [this]
    · simp [h2]
theorem t_mayCome {k : Nat} (hS : SM n c D μ) (hK : SK n c D) (hN : NM N μ) (hk : k < n) (hs : s < 1024) (h : P (if mayB n c D N k s then 1 else 0) μ) : qX10_mayCome G l (nI k) (nI s) μ P := by
  have hn := hK.1
  have hb := fun w hw => SKb hK hk (w := w) hw
  have hD : ∀ k, k < n → D k ≤ 8 := fun k hk => (hK.2 k hk).2.2.2.2.2.2.2.2
  have no : mayB n c D N k s = false → P 0 μ := fun hm => by
    rw [if_neg (by rw [hm]; decide)] at h
    exact h
  refine eX10_mayCome (t_has (by omega) (by omega) ⟨fun h1 => ?_, fun h1 => ?_⟩)
  · rw [(if_has rfl).2] at h1
    exact no (by simp [mayB, h1])
  · rw [(if_has rfl).1] at h1
    refine t_setOf (j := 2) hS hn hk (by decide) ⟨fun h2 => ?_, fun h2 => ?_⟩
    · rw [sdz (hb 3 (by decide))] at h2
      refine t_setOf (j := 4) hS hn hk (by decide) (t_union (j := 3) hS hn (by omega) (by decide) (t_setOf (j := 3) hS hn hk (by decide) ⟨fun h3 => ?_, fun h3 => ?_⟩))
      · rw [nI_or, sdz (hb 5 (by decide))] at h3
        exact no (by simp [mayB, h3])
      · rw [nI_or, sdz (hb 5 (by decide))] at h3
        refine t_setOf (j := 6) hS hn hk (by decide) (t_union (j := 5) hS hn (by omega) (by decide) ⟨fun h4 => ?_, fun h4 => ?_⟩)
        · rw [sdz (hb 7 (by decide))] at h4
          refine t_union (j := 5) hS hn (by omega) (by decide) (t_setOf (j := 5) hS hn hk (by decide) ?_)
          rw [nI_or]
          have em : mayB n c D N k s = (((c k 2 &&& dd D s n) == 0) && mtB N (c k 6) (un c 6 s n)) := by simp [mayB, h1, h2, h3, h4]
          have hall : mtB N (c k 6) (un c 6 s n) = true → hX10_mayCome_133 G l P (nI k) (nI s) 1 0 μ := fun hm => by
            have key : hX10_mayCome_133 G l P (nI k) (nI s) (if alv D s (c k 2) 0 then 1 else 0) (nI 0) μ := by
              refine down (H := fun j => hX10_mayCome_133 G l P (nI k) (nI s) (if alv D s (c k 2) j then 1 else 0) (nI j) μ) (n := n) ?_ ?_
              · refine eX10_mayCome_133 ⟨fun _ => ?_, fun hc => absurd (by rw [hS.1]; exact Int32.le_refl _) hc⟩
                rw [em, hm, Bool.and_true, ← alv_dd hD] at h
                refine ⟨?_, h⟩
                split <;> rfl
              · intro j hj ih
                rw [alv_succ] at ih
                refine eX10_mayCome_133 ⟨fun hc => absurd (by rw [← hS.1]; exact hc) (nI_ge hj (by omega)), fun _ => ⟨fun ha => ?_, fun ha => ?_⟩⟩
                · have q : alv D s (c k 2) j = false := by
                    by_cases q : alv D s (c k 2) j = true
                    · rw [if_pos q] at ha; exact absurd ha (by decide)
                    · simpa using q
                  rw [q] at ih
                  rw [nI_1]
                  exact ih
                · have q : alv D s (c k 2) j = true := by
                    by_cases q : alv D s (c k 2) j = true
                    · exact q
                    · rw [if_neg q] at ha; exact absurd rfl ha
                  rw [q, Bool.true_and] at ih
                  refine t_has (by omega) (by omega) ⟨fun h5 => ?_, fun h5 => ⟨vp_in_nI (by omega) (by decide), fun h6 => ?_, fun h6 => ?_⟩⟩
                  · rw [(if_has rfl).1] at h5
                    simp [h5] at ih
                    rw [nI_1]
                    exact ih
                  · rw [nI_clamp (by omega), (hS.2 j hj).2.2, D_neg (hD j hj)] at h6
                    simp [h6] at ih
                    rw [nI_1]
                    exact ih
                  · rw [(if_has rfl).2] at h5
                    rw [nI_clamp (by omega), (hS.2 j hj).2.2, D_neg (hD j hj)] at h6
                    refine t_setOf (j := 1) hS hn hk (by decide) ?_
                    rw [nI_clamp (by omega), (hS.2 j hj).2.2, (D_m1 (hD j hj)).2 h6]
                    have hb2 : c k (1 + 1) < 1024 := hb 2 (by decide)
                    have hd9 := hD j hj
                    refine t_has (by omega) (by omega) ⟨fun h7 => ?_, fun h7 => ?_⟩
                    · rw [(if_has rfl).2] at h7
                      simp [h5, h6, h7] at ih
                      rw [nI_1]
                      exact ih
                    · rw [(if_has rfl).1] at h7
                      simp [h5, h6, h7] at ih
                      rw [nI_1]
                      exact ih
            exact key
          have key2 : (∀ f, f < 0 → okf N (c k 6) (un c 6 s n) f = true) → hX10_mayCome_86 G l P (nI k) (nI s) (nI (un c 6 s n ||| c k 6)) (nI 0) μ := by
            refine down (H := fun j => (∀ f, f < j → okf N (c k 6) (un c 6 s n) f = true) → hX10_mayCome_86 G l P (nI k) (nI s) (nI (un c 6 s n ||| c k 6)) (nI j) μ) (n := 8) ?_ ?_
            · intro hq
              exact eX10_mayCome_86 ⟨fun _ => hall (mtB_iff.mpr hq), fun hc => absurd (Int32.le_refl _) hc⟩
            · intro j hj ih hq
              have hb6 : c k (5 + 1) < 1024 := hb 6 (by decide)
              refine eX10_mayCome_86 ⟨fun hc => absurd hc (nI_ge hj (by decide)), fun _ => t_setOf (j := 5) hS hn hk (by decide) (t_has (by omega) (by omega) ⟨fun h5 => ?_, fun h5 => ⟨vp_in_nI hj (by decide), fun h6 => ?_, fun h6 => ?_⟩⟩)⟩
              · rw [(if_has rfl).1] at h5
                rw [nI_1]
                refine ih (fun f hf => ?_)
                by_cases e : f = j
                · subst e; simp [okf, h5]
                · exact hq f (by omega)
              · rw [nI_clamp (by omega), (hN j hj).1, nI_and, nI_z (Nat.lt_of_lt_of_le (and_lt (m := 8) (hN j hj).2) (by decide))] at h6
                rw [nI_1]
                refine ih (fun f hf => ?_)
                by_cases e : f = j
                · subst e; simp [okf, h6]
                · exact hq f (by omega)
              · rw [nI_clamp (by omega), (hN j hj).1, nI_and, nI_z (Nat.lt_of_lt_of_le (and_lt (m := 8) (hN j hj).2) (by decide))] at h6
                rw [(if_has rfl).2] at h5
                refine no ?_
                rw [em]
                have : mtB N (c k 6) (un c 6 s n) = false := by
                  by_cases q : mtB N (c k 6) (un c 6 s n) = true
                  · have := mtB_iff.mp q j hj
                    simp [okf, h5] at this
                    exact absurd this h6
                  · simpa using q
                rw [this, Bool.and_false]
          exact key2 (fun f hf => absurd hf (Nat.not_lt_zero f))
        · rw [sdz (hb 7 (by decide))] at h4
          exact no (by simp [mayB, h4])
    · rw [sdz (hb 3 (by decide))] at h2
      exact no (by simp [mayB, h2])
end MAYM
/-! arguments: a SCENE or not, a SET or not -/
theorem set_iff {n : Nat} (hn : n ≤ 10) (x : Int32) : (x &&& (nI (2 ^ n - 1) ^^^ (-1 : Int32)) = 0) ↔ ∃ s, s < 2 ^ n ∧ x = nI s := by
  constructor
  · intro h
    have hx : x = nI x.toBitVec.toNat := (nI_self x).symm
    have hX : x.toBitVec.toNat < 2 ^ 32 := x.toBitVec.isLt
    generalize x.toBitVec.toNat = X at hx hX
    subst hx
    rw [nI_sd] at h
    have hz : sd X (2 ^ n - 1) % 2 ^ 32 = 0 := by
      have h1 := congrArg (fun y : Int32 => y.toBitVec.toNat) h
      simpa [nI] using h1
    have hz2 : sd X (2 ^ n - 1) = 0 := by
      have := Nat.lt_of_le_of_lt (sd_le X (2 ^ n - 1)) hX
      omega
    refine ⟨X, ?_, rfl⟩
    apply Nat.lt_pow_two_of_testBit
    intro i hi
    by_cases h32 : i < 32
    · have := congrArg (fun y => y.testBit i) hz2
      simp only [sd_bit h32, Nat.testBit_two_pow_sub_one, Nat.zero_testBit] at this
      have hi' : ¬ i < n := by omega
      simpa [hi'] using this
    · exact Nat.testBit_lt_two_pow (Nat.lt_of_lt_of_le hX (Nat.pow_le_pow_right (by decide) (by omega)))
  · rintro ⟨s, hs, rfl⟩
    rw [nI_sd]
    have : sd s (2 ^ n - 1) = 0 := by
      apply Nat.eq_of_testBit_eq
      intro i
      rw [Nat.zero_testBit]
      by_cases h32 : i < 32
      · rw [sd_bit h32, Nat.testBit_two_pow_sub_one]
        by_cases hi : i < n
        · simp [hi]
        · rw [Nat.testBit_lt_two_pow (Nat.lt_of_lt_of_le hs (Nat.pow_le_pow_right (by decide) (by omega)))]
          rfl
      · have h1 := lt1024 hn hs
        exact Nat.testBit_lt_two_pow (Nat.lt_of_le_of_lt (sd_le s _) (Nat.lt_of_lt_of_le h1 (Nat.le_trans (show 1024 ≤ 2 ^ 32 by decide) (Nat.pow_le_pow_right (by decide) (by omega)))))
    rw [this]
    rfl
theorem set_iff2 {n : Nat} (hn : n ≤ 10) (x : Int32) : (0 ≤ x ∧ x ≤ nI (2 ^ n - 1)) ↔ ∃ s, s < 2 ^ n ∧ x = nI s := by
  have hp : 2 ^ n ≤ 1024 := Nat.pow_le_pow_right (by decide) hn
  have h0 := Nat.two_pow_pos n
  constructor
  · rintro ⟨h1, h2⟩
    obtain ⟨j, hj, rfl⟩ := nI_of (Int32.not_lt.mpr h1)
    rw [nI_leI hj (by omega)] at h2
    exact ⟨j, by omega, rfl⟩
  · rintro ⟨s, hs, rfl⟩
    exact ⟨nI_pos' (by omega), (nI_leI (by omega) (by omega)).mpr (by omega)⟩
theorem scn_iff {n : Nat} (hn : n ≤ 10) (x : Int32) : (0 ≤ x ∧ x ≤ nI n - 1) ↔ ∃ k, k < n ∧ x = nI k := by
  have e : ∀ n : Nat, n < 11 → (nI n - 1).toInt = (n : Int) - 1 := by decide +kernel
  constructor
  · rintro ⟨h1, h2⟩
    obtain ⟨j, hj, rfl⟩ := nI_of (Int32.not_lt.mpr h1)
    rw [Int32.le_iff_toInt_le, nI_toInt hj, e n (by omega)] at h2
    exact ⟨j, by omega, rfl⟩
  · rintro ⟨k, hk, rfl⟩
    refine ⟨nI_pos' (by omega), ?_⟩
    rw [Int32.le_iff_toInt_le, nI_toInt (by omega), e n (by omega)]
    omega
theorem scn_iff2 {n : Nat} (hn : n ≤ 10) (x : Int32) : (¬ x < 0 ∧ ¬ nI n ≤ x) ↔ ∃ k, k < n ∧ x = nI k := by
  constructor
  · rintro ⟨h1, h2⟩
    obtain ⟨j, hj, rfl⟩ := nI_of h1
    rw [nI_leI (by omega) hj] at h2
    exact ⟨j, by omega, rfl⟩
  · rintro ⟨k, hk, rfl⟩
    exact ⟨nI_pos (by omega), nI_ge hk (by omega)⟩
section ARG
variable {G : gC} {l : Launch} {μ : Mem} {P : Int32 → Mem → Prop} {n s w : Nat} {c : Nat → Nat → Nat} {D N : Nat → Nat}
theorem t_inI {x : Int32} {y z : Int64} (y' z' : Int32) (hy : y = y'.toInt64) (hz : z = z'.toInt64) (h : P (if y' ≤ x ∧ x ≤ z' then 1 else 0) μ) : qX10_in G l x.toInt64 y z μ P := by
  subst hy hz
  have e : (if y'.toInt64 ≤ x.toInt64 ∧ x.toInt64 ≤ z'.toInt64 then (1 : Int32) else 0) = (if y' ≤ x ∧ x ≤ z' then 1 else 0) := by simp only [wide_le]
  exact t_in (by rw [e]; exact h)
theorem t9_isScene {x : Int32} (hS : SC n c D μ) (hn : n ≤ 10) (h1 : ∀ k, k < n → x = nI k → P 1 μ) (h0 : (¬ ∃ k, k < n ∧ x = nI k) → P 0 μ) : qX9_isScene G l x μ P := by
  by_cases h : ∃ k, k < n ∧ x = nI k
  · obtain ⟨k, hk, hx⟩ := h
    have := (scn_iff2 hn x).mpr ⟨k, hk, hx⟩
    refine eX9_isScene ⟨fun q => absurd q this.1, fun _ => ⟨fun q => absurd (by rw [← hS.1]; exact q) this.2, fun _ => h1 k hk hx⟩⟩
  · exact eX9_isScene ⟨fun _ => h0 h, fun q1 => ⟨fun _ => h0 h, fun q2 => absurd ((scn_iff2 hn x).mp ⟨q1, by rw [← hS.1]; exact q2⟩) h⟩⟩
theorem t9_areScenes {x : Int32} (hS : SC n c D μ) (hn : n ≤ 10) (h1 : ∀ s, s < 2 ^ n → x = nI s → P 1 μ) (h0 : (¬ ∃ s, s < 2 ^ n ∧ x = nI s) → P 0 μ) : qX9_areScenes G l x μ P := by
  refine eX9_areScenes (t7_all hS hn ⟨fun q => h0 (fun h => q ((set_iff hn x).mpr h)), fun q => ?_⟩)
  obtain ⟨s, hs, hx⟩ := (set_iff hn x).mp q
  exact h1 s hs hx
theorem t_noScene {x : Int32} (hS : SM n c D μ) (hn : n ≤ 10) (h1 : ∀ k, k < n → x = nI k → P 0 μ) (h0 : (¬ ∃ k, k < n ∧ x = nI k) → P 1 μ) : qX10_noScene G l x μ P := by
  refine eX10_noScene (t_inI 0 (nI n - 1) rfl (by rw [hS.1]) ?_)
  by_cases h : ∃ k, k < n ∧ x = nI k
  · rw [if_pos ((scn_iff hn x).mpr h)]
    obtain ⟨k, hk, hx⟩ := h
    exact ⟨fun _ => h1 k hk hx, fun q => absurd q (by decide)⟩
  · rw [if_neg (fun q => h ((scn_iff hn x).mp q))]
    exact ⟨fun q => absurd rfl q, fun _ => h0 h⟩
theorem t_noSet {x : Int32} (hS : SM n c D μ) (hn : n ≤ 10) (h1 : ∀ s, s < 2 ^ n → x = nI s → P 0 μ) (h0 : (¬ ∃ s, s < 2 ^ n ∧ x = nI s) → P 1 μ) : qX10_noSet G l x μ P := by
  refine eX10_noSet (t_all hS hn (t_inI 0 (nI (2 ^ n - 1)) rfl rfl ?_))
  by_cases h : ∃ s, s < 2 ^ n ∧ x = nI s
  · rw [if_pos ((set_iff2 hn x).mpr h)]
    obtain ⟨k, hk, hx⟩ := h
    exact ⟨fun _ => h1 k hk hx, fun q => absurd q (by decide)⟩
  · rw [if_neg (fun q => h ((set_iff2 hn x).mp q))]
    exact ⟨fun q => absurd rfl q, fun _ => h0 h⟩
theorem t_nextM (hS : SM n c D μ) (hK : SK n c D) (hN : NM N μ) (hs : s < 2 ^ n) (h : P (nI (nx n c D N s)) μ) : qX10_next G l (nI s) μ P := by
  have hn := hK.1
  have hs2 := lt1024 hn hs
  refine eX10_next (t_noSet hS hn (fun s' hs' e => ⟨fun _ => ?_, fun q => absurd rfl q⟩) (fun q => absurd ⟨s, hs, rfl⟩ q))
  refine down (H := fun j => hX10_next_16 G l P (nI s) (nI (nxm n c D N s j)) (nI j) μ) (n := n) ?_ ?_
  · exact eX10_next_16 ⟨fun _ => h, fun hc => absurd (by rw [hS.1]; exact Int32.le_refl _) hc⟩
  · intro j hj ih
    refine eX10_next_16 ⟨fun hc => absurd (by rw [← hS.1]; exact hc) (nI_ge hj (by omega)), fun _ => t_mayCome hS hK hN hj hs2 (t_one ?_)⟩
    by_cases hm : mayB n c D N j s = true
    · have e : nxm n c D N s (j + 1) = nxm n c D N s j ||| 2 ^ j := if_pos hm
      rw [e] at ih
      rw [if_pos hm, if_neg (show ¬ (1 : Int32) = 0 by decide), nI_1, nI_bit1 (by omega), nI_or]
      exact ih
    · have e : nxm n c D N s (j + 1) = nxm n c D N s j := if_neg hm
      rw [e] at ih
      have z : ∀ k : Nat, k < 10 → (0 : Int32) <<< (nI k &&& 31) = 0 := by decide +kernel
      rw [if_neg hm, if_pos rfl, nI_1, z j (by omega), Int32.or_zero]
      exact ih
end ARG
