/-! feed, law, never -/
def bt (x : Int64) (i : Nat) : Nat := x.toBitVec.toNat / 2 ^ (8 * i) % 256
theorem bt_lt (x : Int64) (i : Nat) : bt x i < 256 := Nat.mod_lt _ (by decide)
theorem bt_bit (x : Int64) {i j : Nat} : (bt x i).testBit j = (decide (j < 8) && x.toBitVec.getLsbD (8 * i + j)) := by
  unfold bt
  rw [show (256 : Nat) = 2 ^ 8 from rfl, Nat.testBit_mod_two_pow, Nat.testBit_div_two_pow, BitVec.getLsbD, Nat.add_comm j]
theorem bt_c (x : Int64) {i : Nat} (hi : i < 8) : (((x).toUInt64 >>> ((((8 : Int32) * nI i)).toInt64.toUInt64 &&& Int64.toUInt64 63)).toInt64).toInt32 &&& (255 : Int32) = nI (bt x i) := by
  have e1 : ∀ i : Nat, i < 8 → ((((8 : Int32) * nI i)).toInt64.toUInt64 &&& Int64.toUInt64 63) = UInt64.ofNat (8 * i) := by decide +kernel
  rw [e1 i hi]
  apply Int32.toBitVec_inj.mp
  apply BitVec.eq_of_getLsbD_eq
  intro j hj
  have e2 : (UInt64.ofNat (8 * i)).toBitVec.toNat = 8 * i := by simp; omega
  have e3 : (nI (bt x i)).toBitVec.getLsbD j = (bt x i).testBit j := by
    have := bt_lt x i
    unfold nI BitVec.getLsbD
    rw [Int32.toBitVec_ofNat', BitVec.toNat_ofNat, Nat.mod_eq_of_lt (by omega)]
  rw [e3, bt_bit]
  simp
  have e4 : ∀ j : Nat, j < 32 → (255#32).getLsbD j = decide (j < 8) := by decide
  rw [e4 j hj, Nat.mod_eq_of_lt (by omega)]
  by_cases h8 : j < 8
  · have : j < 64 := by omega
    rw [BitVec.signExtend_eq_setWidth_of_le _ (by decide)]; simp [h8, hj, this]
  · simp [h8]
theorem bt_m (x : Int64) {i : Nat} (hi : i < 8) : ((x >>> ((((8 : Int32) * nI i)).toInt64 &&& 63)) &&& (255 : Int64)).toInt32 = nI (bt x i) := by
  have e1 : ∀ i : Nat, i < 8 → ((((8 : Int32) * nI i)).toInt64 &&& 63) = Int64.ofNat (8 * i) := by decide +kernel
  rw [e1 i hi]
  apply Int32.toBitVec_inj.mp
  apply BitVec.eq_of_getLsbD_eq
  intro j hj
  have e3 : (nI (bt x i)).toBitVec.getLsbD j = (bt x i).testBit j := by
    have := bt_lt x i
    unfold nI BitVec.getLsbD
    rw [Int32.toBitVec_ofNat', BitVec.toNat_ofNat, Nat.mod_eq_of_lt (by omega)]
  rw [e3, bt_bit]
  simp
  have e4 : ∀ j : Nat, j < 32 → (255#32).getLsbD j = decide (j < 8) := by decide
  have e5 : ∀ i : Nat, i < 8 → ((8#64 * BitVec.ofNat 64 i).smod 64#64).toNat = 8 * i := by decide +kernel
  rw [e4 j hj, e5 i hi]
  by_cases h8 : j < 8
  · have h1 : j < 64 := by omega
    have h2 : ¬ 64 ≤ j := by omega
    have h3 : 8 * i + j < 64 := by omega
    rw [BitVec.signExtend_eq_setWidth_of_le _ (by decide)]; simp [h8, hj, h1, h2, h3, BitVec.getElem_sshiftRight]
  · simp [h8]
section FEED
variable {G : gC} {l : Launch} {μ : Mem} {t n0 : Nat} {x : Nat → Nat} {a2 : Int64}
def txx (t n0 : Nat) (x : Nat → Nat) (b : Int64) (i : Nat) : Nat := if i < t then x i else bt b (n0 - 1 - (i - t))
def fc1 (μ : Mem) (t n0 : Nat) (x : Nat → Nat) (b : Int64) (d : Nat) (μ' : Mem) : Prop := gm_r μ' 1 1 = nI (t + (n0 - d)) ∧ (∀ i, i < t + (n0 - d) → gm_r μ' 2 i = nI (txx t n0 x b i)) ∧ Fr [1] μ μ' ∧ gm_r μ' 78 8 = nI t ∧ ∀ i, i < t → gm_r μ' 84 i = nI (x i)
def fc2 (μ : Mem) (t n0 : Nat) (x : Nat → Nat) (b : Int64) (d : Nat) (μ' : Mem) : Prop := gm_r μ' 78 8 = nI (t + (n0 - d)) ∧ (∀ i, i < t + (n0 - d) → gm_r μ' 84 i = nI (txx t n0 x b i)) ∧ Fr [1] μ μ' ∧ gm_r μ' 1 1 = nI (t + n0) ∧ ∀ i, i < t + n0 → gm_r μ' 2 i = nI (txx t n0 x b i)
theorem m1_neg : ((0 : Int32) - 1 < 0) := by decide
theorem fd_c {P : Int32 → Mem → Prop} (hn : n0 ≤ 8) (ht : t + n0 ≤ 400) (hP : ∀ μ', fc1 μ t n0 x a2 0 μ' → P (nI (t + n0)) μ') : ∀ d μ', d ≤ n0 → fc1 μ t n0 x a2 d μ' → hX9_feed_39 G l P a2 (nI d - 1) μ' := by
  intro d
  induction d with
  | zero =>
    intro μ' _ h
    refine eX9_feed_39 ⟨fun _ => ?_, fun q => absurd (by decide) q⟩
    rw [h.1]
    exact hP μ' h
  | succ d ih =>
    intro μ' hd h
    obtain ⟨h1, h2, h3, h4, h5⟩ := h
    rw [nI_pred]
    refine eX9_feed_39 ⟨fun q => absurd q (nI_pos (by omega)), fun _ => ?_⟩
    rw [bt_c a2 (by omega), show nI d + (-1 : Int32) = nI d - 1 from (Int32.sub_eq_add_neg _ _).symm]
    refine eX8_append ⟨fun q => absurd q (by rw [h1]; exact nI_ge (b := 400) (by omega) (by decide)), fun _ => ⟨by rw [h1]; exact vp_in_nI (by omega) (by decide), ih _ (by omega) ⟨?_, fun i hi => ?_, (h3.then_w (by rw [show own 2 _ = 1 from by simp [own]]; decide)).then_w (by decide), ?_, fun i hi => ?_⟩⟩⟩
    · rw [gm_rw_s, h1, nI_1]
      congr 1
      omega
    · rw [gm_rw_o (by decide), gm_rw, h1, nI_clamp (by omega)]
      by_cases q : i = t + (n0 - (d + 1))
      · rw [if_pos ⟨rfl, q⟩]
        unfold txx
        rw [if_neg (by omega)]
        congr 2
        omega
      · rw [if_neg (fun z => q z.2), h2 i (by omega)]
    · rw [gm_rw_o (by decide), gm_rw_o (by decide)]
      exact h4
    · rw [gm_rw_o (by decide), gm_rw_o (by decide)]
      exact h5 i hi
theorem fd_m {P : Int32 → Mem → Prop} (hn : n0 ≤ 8) (ht : t + n0 ≤ 400) (hP : ∀ μ', fc2 μ t n0 x a2 0 μ' → P (nI (t + n0)) μ') : ∀ d μ', d ≤ n0 → fc2 μ t n0 x a2 d μ' → hX10_feed_37 G l P a2 (nI d - 1) μ' := by
  intro d
  induction d with
  | zero =>
    intro μ' _ h
    refine eX10_feed_37 ⟨fun _ => ?_, fun q => absurd (by decide) q⟩
    rw [h.1]
    exact hP μ' h
  | succ d ih =>
    intro μ' hd h
    obtain ⟨h1, h2, h3, h4, h5⟩ := h
    rw [nI_pred]
    refine eX10_feed_37 ⟨fun q => absurd q (nI_pos (by omega)), fun _ => ⟨by rw [h1]; exact vp_in_nI (by omega) (by decide), ?_⟩⟩
    rw [bt_m a2 (by omega), show nI d + (-1 : Int32) = nI d - 1 from (Int32.sub_eq_add_neg _ _).symm]
    refine ih _ (by omega) ⟨?_, fun i hi => ?_, (h3.then_w (by rw [show own 84 _ = 1 from by simp [own]]; decide)).then_w (by decide), ?_, fun i hi => ?_⟩
    · rw [gm_rw_s, h1, nI_1]
      congr 1
      omega
    · rw [gm_rw_o (by decide), gm_rw, h1, nI_clamp (by omega)]
      by_cases q : i = t + (n0 - (d + 1))
      · rw [if_pos ⟨rfl, q⟩]
        unfold txx
        rw [if_neg (by omega)]
        congr 2
        omega
      · rw [if_neg (fun z => q z.2), h2 i (by omega)]
    · rw [gm_rw_o (by decide), gm_rw_o (by decide)]
      exact h4
    · rw [gm_rw_o (by decide), gm_rw_o (by decide)]
      exact h5 i hi
theorem pr_feed (hT : TX t x μ) (a1 : Int32) : qX9_feed G l a1 a2 μ (fun r1 μ1 => qX10_feed G l a1 a2 μ1 (fun r2 μ2 => r1 = r2 ∧ Fr [1] μ μ2 ∧ ∃ t x, TX t x μ2)) := by
  obtain ⟨h1, h2, h3, h4⟩ := hT
  have hT : TX t x μ := ⟨h1, h2, h3, h4⟩
  have mo : (¬ ∃ k, 1 ≤ k ∧ k ≤ 8 ∧ a1 = nI k) → qX10_feed G l a1 a2 μ (fun r2 μ2 => -1002 = r2 ∧ Fr [1] μ μ2 ∧ ∃ t x, TX t x μ2) := fun hno => by
    refine eX10_feed (t_inI 1 8 rfl rfl ?_)
    rw [if_neg (show ¬ ((1 : Int32) ≤ a1 ∧ a1 ≤ 8) from fun q => hno ((w_in (a := 1) (by decide) 8 (by decide)).mp q))]
    exact ⟨fun q => absurd rfl q, fun _ => ⟨rfl, Fr.rfl, t, x, hT⟩⟩
  by_cases hk : ∃ k, 1 ≤ k ∧ k ≤ 8 ∧ a1 = nI k
  · have hk' := (w_in (x := a1) (a := 1) (by decide) 8 (by decide)).mpr hk
    obtain ⟨n0, k1, k2, rfl⟩ := hk
    have es : gm_r μ 1 1 + nI n0 = nI (t + n0) := by rw [h1, nI_add]
    have es2 : gm_r μ 78 8 + nI n0 = nI (t + n0) := by rw [h2, nI_add]
    refine eX9_feed ⟨fun q => absurd hk'.1 (Int32.not_le.mpr q), fun _ => ⟨fun _ => ⟨fun q => ?_, fun q => ?_⟩, fun q => absurd hk'.2 q⟩⟩
    · rw [es, show (400 : Int32) = nI 400 from rfl, nI_leI (by omega) (by decide)] at q
      refine fd_c (μ := μ) (x := x) (by omega) q (fun μ1 f1 => ?_) n0 μ (Nat.le_refl _) ⟨by rw [h1]; congr 1; omega, fun i hi => ?_, Fr.rfl, h2, fun i hi => (h4 i hi).2.1⟩
      · obtain ⟨g1, g2, g3, g4, g5⟩ := f1
        refine eX10_feed (t_inI 1 8 rfl rfl ?_)
        rw [if_pos (show ((1 : Int32) ≤ nI n0 ∧ nI n0 ≤ 8) from hk')]
        refine ⟨fun _ => ⟨fun _ => ?_, fun q2 => absurd (by rw [g4, nI_add]; exact (nI_leI (b := 400) (by omega) (by decide)).mpr q) q2⟩, fun q => absurd q (by decide)⟩
        refine fd_m (μ := μ) (x := x) (by omega) q (fun μ2 f2 => ?_) n0 μ1 (Nat.le_refl _) ⟨by rw [g4]; congr 1; omega, fun i hi => ?_, g3, by rw [g1]; congr 1, fun i hi => g2 i (by omega)⟩
        · obtain ⟨z1, z2, z3, z4, z5⟩ := f2
          refine ⟨rfl, z3, t + n0, txx t n0 x a2, z4, by rw [z1]; congr 1, q, fun i hi => ⟨z5 i hi, z2 i (by omega), ?_⟩⟩
          unfold txx
          by_cases hi2 : i < t
          · rw [if_pos hi2]; exact (h4 i hi2).2.2
          · rw [if_neg hi2]; exact bt_lt _ _
        · have hi2 : i < t := by omega
          rw [g5 i hi2]
          unfold txx
          rw [if_pos hi2]
      · have hi2 : i < t := by omega
        rw [(h4 i hi2).1]
        unfold txx
        rw [if_pos hi2]
    · refine eX10_feed (t_inI 1 8 rfl rfl ?_)
      rw [if_pos (show ((1 : Int32) ≤ nI n0 ∧ nI n0 ≤ 8) from hk')]
      rw [es] at q
      refine ⟨fun _ => ⟨fun q2 => absurd (by rw [es2] at q2; exact q2) q, fun _ => ⟨rfl, Fr.rfl, t, x, hT⟩⟩, fun q => absurd q (by decide)⟩
  · refine eX9_feed ⟨fun _ => mo hk, fun q1 => ⟨fun q2 => absurd ((w_in (a := 1) (by decide) 8 (by decide)).mp ⟨Int32.not_lt.mp q1, q2⟩) hk, fun _ => mo hk⟩⟩
end FEED
