/-! kind -/
def dsS (D : Nat → Nat) (ps : Nat) : Nat → Nat | 0 => 0 | k + 1 => if D k ≠ 0 ∧ ps.testBit (D k - 1) = true then dsS D ps k ||| 2 ^ k else dsS D ps k
def lvS (D : Nat → Nat) (pb ps : Nat) : Nat → Nat | 0 => 0 | k + 1 => if pb.testBit k = false ∧ (D k = 0 ∨ ps.testBit (D k - 1) = false) then lvS D pb ps k ||| 2 ^ k else lvS D pb ps k
theorem dsS_bit {D : Nat → Nat} {ps i : Nat} : ∀ K, (dsS D ps K).testBit i = true ↔ i < K ∧ D i ≠ 0 ∧ ps.testBit (D i - 1) = true
  | 0 => by simp [dsS]
  | K + 1 => by
    have ih := dsS_bit (D := D) (ps := ps) (i := i) K
    unfold dsS
    by_cases h : D K ≠ 0 ∧ ps.testBit (D K - 1) = true
    · rw [if_pos h, or_bit, Bool.or_eq_true, decide_eq_true_eq, ih]
      constructor
      · rintro (q | rfl)
        · exact ⟨by omega, q.2⟩
        · exact ⟨by omega, h⟩
      · rintro ⟨q1, q2⟩
        by_cases e : i = K
        · exact Or.inr e
        · exact Or.inl ⟨by omega, q2⟩
    · rw [if_neg h, ih]
      constructor
      · exact fun q => ⟨by omega, q.2⟩
      · rintro ⟨q1, q2⟩
        by_cases e : i = K
        · subst e; exact absurd q2 h
        · exact ⟨by omega, q2⟩
theorem lvS_bit {D : Nat → Nat} {pb ps i : Nat} : ∀ K, (lvS D pb ps K).testBit i = true ↔ i < K ∧ pb.testBit i = false ∧ (D i = 0 ∨ ps.testBit (D i - 1) = false)
  | 0 => by simp [lvS]
  | K + 1 => by
    have ih := lvS_bit (D := D) (pb := pb) (ps := ps) (i := i) K
    unfold lvS
    by_cases h : pb.testBit K = false ∧ (D K = 0 ∨ ps.testBit (D K - 1) = false)
    · rw [if_pos h, or_bit, Bool.or_eq_true, decide_eq_true_eq, ih]
      constructor
      · rintro (q | rfl)
        · exact ⟨by omega, q.2⟩
        · exact ⟨by omega, h⟩
      · rintro ⟨q1, q2⟩
        by_cases e : i = K
        · exact Or.inr e
        · exact Or.inl ⟨by omega, q2⟩
    · rw [if_neg h, ih]
      constructor
      · exact fun q => ⟨by omega, q.2⟩
      · rintro ⟨q1, q2⟩
        by_cases e : i = K
        · subst e; exact absurd q2 h
        · exact ⟨by omega, q2⟩
theorem lvS_lt {D : Nat → Nat} {pb ps : Nat} : ∀ K, lvS D pb ps K < 2 ^ K
  | 0 => Nat.one_pos
  | K + 1 => by
    have ih := lvS_lt (D := D) (pb := pb) (ps := ps) K
    unfold lvS
    split
    · exact or_lt (Nat.lt_of_lt_of_le ih (Nat.pow_le_pow_right (by decide) (by omega))) (by omega)
    · exact Nat.lt_of_lt_of_le ih (Nat.pow_le_pow_right (by decide) (by omega))
theorem lvS_sd {D : Nat → Nat} {pb ps n : Nat} (hn : n ≤ 10) : sd (sd (2 ^ n - 1) pb) (dsS D ps n) = lvS D pb ps n := by
  have h1 : sd (sd (2 ^ n - 1) pb) (dsS D ps n) < 1024 := by
    have h3 : 2 ^ n ≤ 2 ^ 10 := Nat.pow_le_pow_right (by decide) hn
    have := sd_le (sd (2 ^ n - 1) pb) (dsS D ps n)
    have := sd_le (2 ^ n - 1) pb
    have := Nat.two_pow_pos n
    omega
  have h2 : lvS D pb ps n < 1024 := lt1024 hn (lvS_lt n)
  apply Nat.eq_of_testBit_eq
  intro i
  by_cases hi : i < 10
  · rw [sd_bit (by omega), sd_bit (by omega), Nat.testBit_two_pow_sub_one, Bool.eq_iff_iff, lvS_bit]
    simp only [Bool.and_eq_true, decide_eq_true_eq, Bool.not_eq_true', ← Bool.not_eq_true, dsS_bit]
    constructor
    · rintro ⟨⟨q1, q2⟩, q3⟩
      refine ⟨q1, q2, ?_⟩
      by_cases e : D i = 0
      · exact Or.inl e
      · exact Or.inr (fun z => q3 ⟨q1, e, z⟩)
    · rintro ⟨q1, q2, q3⟩
      refine ⟨⟨q1, q2⟩, ?_⟩
      rintro ⟨_, z1, z2⟩
      rcases q3 with q3 | q3
      · exact z1 q3
      · exact q3 z2
  · rw [hi_bit h1 (by omega), hi_bit h2 (by omega)]
theorem lvS_pb {D : Nat → Nat} {pb ps n : Nat} : pb &&& lvS D pb ps n = 0 := by
  apply Nat.eq_of_testBit_eq
  intro i
  rw [Nat.testBit_and, Nat.zero_testBit]
  by_cases q : (lvS D pb ps n).testBit i = true
  · rw [((lvS_bit n).mp q).2.1, Bool.false_and]
  · rw [Bool.not_eq_true] at q
    rw [q, Bool.and_false]
theorem df_pos {a b : Nat} (ha : a < 2 ^ 30) (hb : b < 2 ^ 30) : (0 < nI a - nI b ↔ b < a) ∧ (nI a - nI b = 0 ↔ a = b) := by
  have h : (nI a - nI b).toInt = (a : Int) - b := pk_sub_toInt (by omega) (by omega)
  constructor
  · rw [Int32.lt_iff_toInt_lt, h, show (0 : Int32).toInt = 0 from rfl]; omega
  · rw [← Int32.toInt_inj, h, show (0 : Int32).toInt = 0 from rfl]; omega
section KIND
variable {G : gC} {l : Launch} {μ : Mem} {n : Nat} {c : Nat → Nat → Nat} {D N W : Nat → Nat} {pb w : Nat}
theorem t7_deaths {P : Int32 → Mem → Prop} {ps : Nat} (hS : SC n c D μ) (hK : SK n c D) (hps : ps < 256) (h : P (nI (dsS D ps n)) μ) : qX7_deathsOf G l (nI ps) μ P := by
  have hn := hK.1
  refine eX7_deathsOf ?_
  refine down (H := fun k => hX7_deathsOf_4 G l P (nI ps) (nI (dsS D ps k)) (nI k) μ) (n := n) ?_ ?_
  · exact eX7_deathsOf_4 ⟨fun _ => h, fun q => absurd (by rw [hS.1]; exact Int32.le_refl _) q⟩
  · intro k hk ih
    have hp : 2 ^ k ≤ 1024 := Nat.pow_le_pow_right (n := 2) (j := 10) (by decide) (by omega)
    refine eX7_deathsOf_4 ⟨fun q => absurd (by rw [hS.1] at q; exact q) (nI_ge (by omega) (by omega)), fun _ => ?_⟩
    rw [nI_bit1 (by omega)]
    refine t7_deadIn hS hn (fun k hk => (hK.2 k hk).2.2.2.2.2.2.2.2) (by omega) ?_
    rw [nI_and, nI_z (Nat.lt_of_le_of_lt Nat.and_le_right (by omega)), nI_1]
    have iff1 : dd D (2 ^ k) n &&& ps = 0 ↔ ¬ (D k ≠ 0 ∧ ps.testBit (D k - 1) = true) := by
      constructor
      · rintro z ⟨z1, z2⟩
        have : (dd D (2 ^ k) n &&& ps).testBit (D k - 1) = true := by
          rw [Nat.testBit_and, z2, Bool.and_true, dd_bit]
          exact ⟨k, hk, by rw [Nat.testBit_two_pow]; simp, by omega⟩
        rw [z, Nat.zero_testBit] at this
        exact absurd this (by decide)
      · intro z
        apply Nat.eq_of_testBit_eq
        intro i
        rw [Nat.zero_testBit, ← Bool.not_eq_true, Nat.testBit_and, Bool.and_eq_true, dd_bit]
        rintro ⟨⟨k', _, q2, q3⟩, q4⟩
        rw [Nat.testBit_two_pow, decide_eq_true_eq] at q2
        subst q2
        exact z ⟨by omega, by rw [q3]; exact q4⟩
    rw [iff1]
    refine ⟨fun q => ?_, fun q v5 e5 => ?_⟩
    · have : dsS D ps (k + 1) = dsS D ps k := if_neg q
      rw [this] at ih
      exact ih
    · have : dsS D ps (k + 1) = dsS D ps k ||| 2 ^ k := if_pos (Classical.not_not.mp q)
      rw [this, ← nI_or] at ih
      rw [e5]
      exact ih
/-- what counts of a SET -/
def gww (n : Nat) (c : Nat → Nat → Nat) (D N W : Nat → Nat) (pb w j s : Nat) : Nat := if sd s w = 0 then gth n c D N W pb j s else 0
theorem gww_le (hK : SK n c D) (hW : LK W) (j s : Nat) : gww n c D N W pb w j s ≤ 400 * j + 1 := by
  unfold gww
  split
  · exact gth_le hK hW j s
  · omega
theorem gww_pos {j s : Nat} (h : 0 < gww n c D N W pb w j s) : sd s w = 0 ∧ gww n c D N W pb w j s = gth n c D N W pb j s := by
  unfold gww at h ⊢
  by_cases q : sd s w = 0
  · rw [if_pos q]; exact ⟨q, rfl⟩
  · rw [if_neg q] at h; omega
theorem gww_far (hw : w < 1024) {j s : Nat} (h : w < s) (hs : s < 1024) : gww n c D N W pb w j s = 0 := by
  unfold gww
  rw [if_neg (fun z => by have := sb_le ((sd_zero hs).mp z); omega)]
theorem gww_11 {j s : Nat} (hs : s < 1024) (hj : 10 < j) : gww n c D N W pb w j s = 0 := by
  refine Nat.eq_zero_of_not_pos (fun z => ?_)
  rw [(gww_pos z).2] at z
  have := gth_pc j s hs z
  have : pc s ≤ 10 := pcn_le _ _
  omega
theorem c_kindest {P : Int32 → Mem → Prop} {j0 : Nat} (hK : SK n c D) (hW : LK W) (h144 : μ.1 = 144) (hw : w < 2 ^ n) (hj0 : j0 ≤ 12) (hT : GT n c D N W pb w μ) (h : P (nI (kb (gww n c D N W pb w j0) (w + 1)) - 1) μ) : qX2_kindest G l (nI j0) (nI w) μ P := by
  have hn := hK.1
  have hw2 := lt1024 hn hw
  by_cases h11 : 10 < j0
  · rw [kb_none (w + 1) (fun t ht => gww_11 (by omega) h11)] at h
    refine eX2_kindest (eX2_kindest_5 ⟨fun _ => h, fun _ => ⟨fun _ => h, fun q => absurd ?_ q⟩⟩)
    rw [show (10 : Int32) = nI 10 from rfl, nI_ltI (by decide) (by omega)]
    exact h11
  · refine eX2_kindest ?_
    refine down (H := fun s => hX2_kindest_5 G l P (nI j0) (nI w) (nI (kb (gww n c D N W pb w j0) s) - 1) (nI s) μ) (n := w + 1) ?_ ?_
    · exact eX2_kindest_5 ⟨fun _ => h, fun q => absurd (nI_lt (by omega) (by omega)) q⟩
    · intro s hs ih
      have hs2 : s < 1024 := by omega
      have hkb := kb_le (gww n c D N W pb w j0) s
      refine eX2_kindest_5 ⟨fun q => absurd q (nI_nlt (by omega) (by omega)), fun _ => ⟨fun q => absurd q (nI_nlt (b := j0) (a := 10) (by omega) (by omega)), fun _ => ?_⟩⟩
      rw [nI_sd, nI_z (Nat.lt_of_le_of_lt (sd_le _ _) (by omega)), nI_1]
      have stay : kb (gww n c D N W pb w j0) (s + 1) = kb (gww n c D N W pb w j0) s → hX2_kindest_5 G l P (nI j0) (nI w) (nI (kb (gww n c D N W pb w j0) s) - 1) (nI (s + 1)) μ := fun z => by rw [z] at ih; exact ih
      have take : kb (gww n c D N W pb w j0) (s + 1) = s + 1 → hX2_kindest_5 G l P (nI j0) (nI w) (nI s) (nI (s + 1)) μ := fun z => by rw [z, nI_pred] at ih; exact ih
      refine ⟨fun q => stay ?_, fun q => ⟨by rw [h144]; decide, vp_in_nI (by omega) (by decide), vp_in_nI (by omega) (by decide), ?_⟩⟩
      · rw [kb_succ, if_neg]
        rintro ⟨z, _⟩
        exact q (gww_pos z).1
      · have hsb : Sb s w := (sd_zero hs2).mp q
        have eg : gww n c D N W pb w j0 s = gth n c D N W pb j0 s := if_pos q
        have hgl := gww_le (N := N) (pb := pb) (w := w) hK hW j0 s
        rw [nI_clamp (by omega), nI_clamp (by omega), hT j0 s (by omega) hsb, ← eg, dI_m1 (by omega)]
        refine ⟨fun z => stay ?_, fun z => ?_⟩
        · rw [kb_succ, if_neg (fun y => by omega)]
        · refine eX2_isKinder ⟨fun z2 => ?_, fun z2 => ⟨fun z3 => absurd z3 (by decide), fun _ => take ?_⟩⟩
          · rw [dI_m1 (by omega)] at z2
            obtain ⟨o, ho⟩ : ∃ o, kb (gww n c D N W pb w j0) s = o + 1 := ⟨kb (gww n c D N W pb w j0) s - 1, by omega⟩
            have hop := kb_pos (g := gww n c D N W pb w j0) s (by omega)
            rw [ho, Nat.add_sub_cancel] at hop
            have hosd := gww_pos hop
            have ho2 : o < 1024 := by omega
            have hol := gww_le (N := N) (pb := pb) (w := w) hK hW j0 o
            have hp1 : pc s ≤ 10 := pcn_le _ _
            have hp2 : pc o ≤ 10 := pcn_le _ _
            have ecase : kb (gww n c D N W pb w j0) (s + 1) = if pc o < pc s ∨ (pc o = pc s ∧ gww n c D N W pb w j0 o < gww n c D N W pb w j0 s) then s + 1 else kb (gww n c D N W pb w j0) s := by
              rw [kb_succ, ho, Nat.add_sub_cancel]
              by_cases y : pc o < pc s ∨ (pc o = pc s ∧ gww n c D N W pb w j0 o < gww n c D N W pb w j0 s)
              · rw [if_pos y, if_pos ⟨by omega, Or.inr y⟩]
              · rw [if_neg y, if_neg (fun x => x.2.elim (fun x2 => by omega) y)]
            have eI : nI (kb (gww n c D N W pb w j0) s) - 1 = nI o := by rw [ho, nI_pred]
            rw [eI] at stay ⊢
            refine t_bc hs2 (t_bc ho2 ?_)
            rw [(df_pos (by omega) (by omega)).1, (df_pos (by omega) (by omega)).2]
            refine ⟨fun y => ⟨fun y2 => absurd y2 (by decide), fun _ => take (by rw [ecase, if_pos (Or.inl y)])⟩, fun y => ⟨fun y2 => ⟨fun _ => stay (by rw [ecase, if_neg (fun x => by omega)]), fun x => absurd rfl x⟩, fun y2 => ⟨by rw [h144]; decide, vp_in_nI (by omega) (by decide), vp_in_nI (by omega) (by decide), vp_in_nI (by omega) (by decide), ?_⟩⟩⟩
            rw [nI_clamp (by omega), nI_clamp (by omega), nI_clamp (by omega), hT j0 s (by omega) hsb, hT j0 o (by omega) ((sd_zero ho2).mp hosd.1), ← eg, ← hosd.2, dI_dle (by omega) (by omega)]
            refine ⟨fun y3 => ⟨fun _ => stay (by rw [ecase, if_neg (fun x => by omega)]), fun x => absurd rfl x⟩, fun y3 => ⟨fun x => absurd x (by decide), fun _ => take (by rw [ecase, if_pos (Or.inr ⟨by omega, by omega⟩)])⟩⟩
          · rw [dI_m1 (by omega)] at z2
            rw [kb_succ, if_pos ⟨by omega, Or.inl z2⟩]
end KIND
