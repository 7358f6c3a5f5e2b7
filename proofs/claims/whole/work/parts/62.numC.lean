/-! a number: the class -/
section NUMC
variable {G : gC} {l : Launch} {μ : Mem} {t n w i j v : Nat} {x : Nat → Nat} {c : Nat → Nat → Nat} {D : Nat → Nat}
/-- the reader of the class stands at i, in the clause of SCENE n -/
def CR (i n : Nat) (c : Nat → Nat → Nat) (D : Nat → Nat) (μ : Mem) : Prop := ¬ gm_r μ 3 1 = 0 ∧ gm_r μ 3 2 = nI i ∧ gm_r μ 3 3 = 0 ∧ gm_r μ 3 4 = -1 ∧ gm_r μ 3 5 = nI (ur c 4 (n + 1)) ∧ gm_r μ 3 6 = nI (ur c 5 (n + 1)) ∧ gm_r μ 3 7 = nI (dr D (n + 1)) ∧ gm_r μ 16 1 = nI n ∧ ∀ k, k ≤ n → (∀ u, u < 8 → gm_r μ (17 + 1 + k) u = nI (c k u)) ∧ gm_r μ (17 + 1 + k) 8 = nI (D k) - 1
theorem CR.a2 {i' : Nat} {μ' : Mem} (h : CR i n c D μ) (ha : A2 μ μ') (hi : gm_r μ' 3 2 = nI i') : CR i' n c D μ' := by
  obtain ⟨h1, h2, h3, h4, h5, h6, h7, h8, h9⟩ := h
  refine ⟨?_, hi, ?_, ?_, ?_, ?_, ?_, ?_, fun k hk => ⟨fun u hu => ?_, ?_⟩⟩
  · rw [ha.2 _ _ (by decide)]; exact h1
  · rw [ha.2 _ _ (by decide)]; exact h3
  · rw [ha.2 _ _ (by decide)]; exact h4
  · rw [ha.2 _ _ (by decide)]; exact h5
  · rw [ha.2 _ _ (by decide)]; exact h6
  · rw [ha.2 _ _ (by decide)]; exact h7
  · rw [ha.2 _ _ (by decide)]; exact h8
  · rw [ha.2 _ _ (by omega)]; exact (h9 k hk).1 u hu
  · rw [ha.2 _ _ (by omega)]; exact (h9 k hk).2
theorem t7_isList {P : Int32 → Mem → Prop} (hw : w < 9) (h : P (if 2 ≤ w ∧ w ≤ 7 then 1 else 0) μ) : qX7_isList G l (nI w) μ P := by
  refine eX7_isList ?_
  rw [show (2 : Int32) = nI 2 from rfl, show (7 : Int32) = nI 7 from rfl, nI_ltI (by omega) (by decide), nI_ltI (by decide) (by omega)]
  refine ⟨fun q => ?_, fun q => ⟨fun q2 => ?_, fun q2 => ?_⟩⟩
  · rw [if_neg (by omega)] at h; exact h
  · rw [if_neg (by omega)] at h; exact h
  · rw [if_pos (by omega)] at h; exact h
theorem c_cell16 {P : Int32 → Mem → Prop} {k u : Nat} (hk : k < 10) (hu : u < 9) (h : P (gm_r μ (17 + 1 + k) u) μ) : qX7_cell_16 G l (nI k) (nI u) μ P := by
  refine eX7_cell_16 ⟨fun q => absurd q (nI_pos (by omega)), fun _ => ⟨fun q => absurd q (nI_ge (b := 10) (by omega) (by decide)), fun _ => ⟨fun q => absurd q (nI_pos (by omega)), fun _ => ⟨fun q => absurd q (nI_ge (b := 9) (by omega) (by decide)), fun _ => ⟨vp_in_nI (by omega) (by decide), vp_in_nI (by omega) (by decide), ?_⟩⟩⟩⟩⟩
  rw [nI_clamp (by omega), nI_clamp (by omega)]
  exact h
theorem c_put16 {P : Mem → Prop} {k u : Nat} {y : Int32} (hk : k < 10) (hu : u < 9) (h : P (gm_w μ (17 + 1 + k) u y)) : qX7_put_16 G l (nI k) (nI u) y μ P := by
  refine eX7_put_16 ⟨fun q => absurd q (nI_pos (by omega)), fun _ => ⟨fun q => absurd q (nI_ge (b := 10) (by omega) (by decide)), fun _ => ⟨fun q => absurd q (nI_pos (by omega)), fun _ => ⟨fun q => absurd q (nI_ge (b := 9) (by omega) (by decide)), fun _ => ⟨vp_in_nI (by omega) (by decide), vp_in_nI (by omega) (by decide), ?_⟩⟩⟩⟩⟩
  rw [nI_clamp (by omega), nI_clamp (by omega)]
  exact h
/-- the figures read so far -/
def VR (x : Nat → Nat) (i m : Nat) (y : Int32) : Prop := (m = 0 → y = 0) ∧ (m = 1 → y = nI (x i - 48)) ∧ (m = 2 → y = nI (10 * (x i - 48) + (x (i + 1) - 48)))
theorem c_faultOf {P : Int32 → Mem → Prop} {m : Nat} {y : Int32} (hx : ∀ k, i ≤ k → k < i + m → 48 ≤ x k ∧ x k ≤ 57) (hm : m ≤ 400) (hw : w < 9) (hN : NB n c D) (hR : CR j n c D μ) (hy : VR x i m y) (h : P (nI (nF x w n c D i (i + m))) μ) : qX4_faultOf G l (nI w) y (nI m) μ P := by
  obtain ⟨g0, g1, g2, g3⟩ := grt_ok w hw
  obtain ⟨h1, h2, h3, h4, h5, h6, h7, h8, h9⟩ := hR
  have hn := hN.1
  have u4 := ur_lt hN.2.1 (u := 4) (by decide) (n + 1) (Nat.le_refl _)
  have u5 := ur_lt hN.2.1 (u := 5) (by decide) (n + 1) (Nat.le_refl _)
  have d8 := dr_lt hN.2.2 (n + 1) (Nat.le_refl _)
  have sh : ∀ k, nF x w n c D i (i + m) = k → P (nI k) μ := fun k hk => by rw [← hk]; exact h
  refine eX4_faultOf ?_
  rw [nI_z (by omega), show (2 : Int32) = nI 2 from rfl, nI_ltI (by decide) (by omega)]
  refine ⟨fun q => ⟨fun q2 => sh 2 ?_, fun q2 => ⟨vp_in_nI (by omega) (by decide), ?_⟩⟩, fun q => sh 1 ?_⟩
  · unfold nF; rw [if_neg (by omega), if_pos (Or.inl (by omega))]
  · have hV : y = nI (vlu x i (i + m)) ∧ vlu x i (i + m) ≤ 99 := by
      unfold vlu
      by_cases e : m = 1
      · have := hx i (by omega) (by omega)
        rw [if_pos (by omega)]
        exact ⟨hy.2.1 e, by omega⟩
      · have a1 := hx i (by omega) (by omega)
        have a2 := hx (i + 1) (by omega) (by omega)
        rw [if_neg (by omega)]
        exact ⟨hy.2.2 (by omega), by omega⟩
    obtain ⟨rfl, hV2⟩ := hV
    rw [nI_clamp (by omega), g0, nI_ltI (by omega) (by omega), nI_z (by omega), nI_z (by omega)]
    have p1 : ¬ i + m = i := by omega
    have bits : ¬ (gr w < vlu x i (i + m) ∨ (w = 0 ∧ vlu x i (i + m) = 0)) → hX4_faultOf_30 G l P (nI w) (nI (vlu x i (i + m))) μ := fun z => by
      have p2 : ¬ (i + 2 < i + m ∨ gr w < vlu x i (i + m) ∨ (w = 0 ∧ vlu x i (i + m) = 0)) := by omega
      have hv9 : 2 ≤ w → vlu x i (i + m) ≤ 9 := fun y => by have := g2 y; omega
      -- the ends
      have c117 : ¬ ((2 ≤ w ∧ w ≤ 7) ∧ (c n w).testBit (vlu x i (i + m)) = true) → ¬ (w = 3 ∧ n ≤ vlu x i (i + m)) → ¬ ((w = 4 ∧ (ur c 4 (n + 1)).testBit (vlu x i (i + m)) = true) ∨ (w = 5 ∧ (ur c 5 (n + 1)).testBit (vlu x i (i + m)) = true)) → hX4_faultOf_117 G l P (nI w) (nI (vlu x i (i + m))) μ := fun p3 p4 p5 => by
        refine eX4_faultOf_117 ?_
        rw [show (8 : Int32) = nI 8 from rfl, nI_eq (by omega) (by decide), h7]
        refine ⟨fun z2 => sh 0 ?_, fun z2 => ?_⟩
        · unfold nF; rw [if_neg p1, if_neg p2, if_neg p3, if_neg p4, if_neg p5, if_neg (fun y => z2 y.1)]
        · have := hv9 (by omega)
          rw [nI_has (by omega) (by omega)]
          refine ⟨fun z3 => sh 0 ?_, fun z3 => sh 7 ?_⟩
          · unfold nF; rw [if_neg p1, if_neg p2, if_neg p3, if_neg p4, if_neg p5, if_neg (fun y => z3 y.2)]
          · unfold nF; rw [if_neg p1, if_neg p2, if_neg p3, if_neg p4, if_neg p5, if_pos ⟨z2, z3⟩]
      have c80 : ¬ ((2 ≤ w ∧ w ≤ 7) ∧ (c n w).testBit (vlu x i (i + m)) = true) → ¬ (w = 3 ∧ n ≤ vlu x i (i + m)) → hX4_faultOf_80 G l P (nI w) (nI (vlu x i (i + m))) μ := fun p3 p4 => by
        have six : ((w = 4 ∧ (ur c 4 (n + 1)).testBit (vlu x i (i + m)) = true) ∨ (w = 5 ∧ (ur c 5 (n + 1)).testBit (vlu x i (i + m)) = true)) → P (6 : Int32) μ := fun z2 => sh 6 (by unfold nF; rw [if_neg p1, if_neg p2, if_neg p3, if_neg p4, if_pos z2])
        refine eX4_faultOf_80 ?_
        rw [show (4 : Int32) = nI 4 from rfl, show (5 : Int32) = nI 5 from rfl, nI_eq (by omega) (by decide), nI_eq (by omega) (by decide), h5, h6]
        refine ⟨fun z2 => ⟨fun z3 => c117 p3 p4 (by omega), fun z3 => ?_⟩, fun z2 => ?_⟩
        · have := hv9 (by omega)
          rw [nI_has (by omega) (by omega)]
          refine ⟨fun z4 => c117 p3 p4 (fun y => ?_), fun z4 => six (Or.inr ⟨z3, z4⟩)⟩
          rcases y with y | y
          · exact z2 y.1
          · exact z4 y.2
        · have := hv9 (by omega)
          rw [nI_has (by omega) (by omega), nI_has (by omega) (by omega)]
          refine ⟨fun z4 => six (Or.inl ⟨z2, z4⟩), fun z4 => ⟨fun z5 => c117 p3 p4 (fun y => ?_), fun z5 => by omega⟩⟩
          rcases y with y | y
          · exact z4 y.2
          · omega
      refine eX4_faultOf_30 (t7_isList hw ?_)
      rw [show (3 : Int32) = nI 3 from rfl, nI_eq (by omega) (by decide), h8, nI_ltI (by omega) (by omega)]
      have four : ¬ ((2 ≤ w ∧ w ≤ 7) ∧ (c n w).testBit (vlu x i (i + m)) = true) → ((¬ w = 3) → hX4_faultOf_80 G l P (nI w) (nI (vlu x i (i + m))) μ) ∧ ((w = 3) → (¬ (gm_r μ 3 1) = 0) ∧ ((vlu x i (i + m) < n) → hX4_faultOf_80 G l P (nI w) (nI (vlu x i (i + m))) μ) ∧ ((¬ vlu x i (i + m) < n) → P (4 : Int32) μ)) := fun p3 => ⟨fun z2 => c80 p3 (by omega), fun z2 => ⟨h1, fun z3 => c80 p3 (by omega), fun z3 => sh 4 (by unfold nF; rw [if_neg p1, if_neg p2, if_neg p3, if_pos ⟨z2, by omega⟩])⟩⟩
      by_cases hl : 2 ≤ w ∧ w ≤ 7
      · rw [if_pos hl]
        refine ⟨fun z2 => absurd z2 (by decide), fun _ => ⟨h1, c_cell16 hn hw ?_⟩⟩
        have := hv9 hl.1
        have hb := hN.2.1 n w (Nat.le_refl _) (by omega)
        rw [(h9 n (Nat.le_refl _)).1 w (by omega), nI_has (by omega) (by omega), show nI 3 = (3 : Int32) from rfl, h8, ← show nI 3 = (3 : Int32) from rfl, nI_ltI (by omega) (by omega)]
        refine ⟨fun z2 => four (fun y => z2 y.2), fun z2 => sh 3 ?_⟩
        unfold nF; rw [if_neg p1, if_neg p2, if_pos ⟨hl, z2⟩]
      · rw [if_neg hl]
        exact ⟨fun _ => four (fun y => hl y.1), fun z2 => absurd rfl z2⟩
    refine ⟨fun z => sh 2 ?_, fun z => ⟨fun z2 => bits (by omega), fun z2 => ⟨fun z3 => bits (by omega), fun z3 => sh 2 ?_⟩⟩⟩
    · unfold nF; rw [if_neg p1, if_pos (Or.inr (Or.inl z))]
    · unfold nF; rw [if_neg p1, if_pos (Or.inr (Or.inr ⟨z2, z3⟩))]
  · unfold nF; rw [if_pos (by omega)]
end NUMC
