/-! a clause: the model -/
section CLAUSEM
variable {G : gC} {l : Launch} {μ : Mem} {t n i : Nat} {x : Nat → Nat} {c : Nat → Nat → Nat} {D : Nat → Nat}
theorem m_dying {P : Mem → Prop} (hT : TXM t x μ) (hi : i ≤ t) (hC : CI n 8 c D) (hD0 : D n = 0) (hM : MP i n μ) (hE : ME n c D (fun _ _ => False) μ)
    (hf : nF x 8 n c D (sk t x i) (de t x (sk t x i)) ≠ 0 → ∀ μ', MG μ μ' → gm_r μ' 78 12 = nI (nF x 8 n c D (sk t x i) (de t x (sk t x i))) → gm_r μ' 78 13 = nI (sk t x i) → P μ')
    (hok : nF x 8 n c D (sk t x i) (de t x (sk t x i)) = 0 → ∀ μ', MG μ μ' → MP (de t x (sk t x i)) n μ' → ME n (nC 8 n (vlu x (sk t x i) (de t x (sk t x i))) c) (nD 8 n (vlu x (sk t x i) (de t x (sk t x i))) D) (fun _ _ => False) μ' → P μ') : qX10_takeDying G l μ P := by
  have hn := hC.1
  have hNB := hC.nb
  have hg : gr 8 = 7 := rfl
  -- behind a fault of the number
  have drop : ∀ (x1 : Int32) μ1, gm_r μ1 78 14 = nI n → ¬ gm_r μ1 78 12 = 0 → P μ1 → ∀ d k x2, k + d = n → hX10_takeDying_12 G l P x1 x2 (nI k) μ1 := by
    intro x1 μ1 h14 h12 hP d
    induction d with
    | zero =>
      intro k x2 hk
      exact eX10_takeDying_12 ⟨fun _ => ⟨fun _ => hP, fun q => absurd q h12⟩, fun q => absurd (by rw [h14, show k = n by omega]; exact Int32.le_refl _) q⟩
    | succ d ih =>
      intro k x2 hk
      refine eX10_takeDying_12 ⟨fun q => absurd (by rw [h14] at q; exact q) (nI_ge (by omega) (by omega)), fun _ => ?_⟩
      rw [nI_1]
      exact ⟨fun _ => ih (k + 1) 0 (by omega), fun _ => ⟨vp_in_nI (by omega) (by decide), fun _ => ih (k + 1) 0 (by omega), fun _ => ih (k + 1) 1 (by omega)⟩⟩
  refine eX10_takeDying (m_number (low := 0) (high := 7) hT hi hM.1 hM.2.1 (by decide) (by decide) (fun q μ1 g5 k12 k13 => ?_) (fun q1 q2 y μ1 g5 k12 k13 => ?_) (fun q1 q2 q3 q4 μ1 a1 k9 k10 => ?_))
  · have e := nF_1 (x := x) (w := 8) (n := n) (c := c) (D := D) q
    rw [e] at hf
    exact drop 0 μ1 (by rw [g5.2 _ _ (by decide)]; exact hM.2.2.2) (by rw [k12]; decide) (hf (by decide) μ1 g5.mg k12 k13) n 0 1 (by omega)
  · have e := nF_2 (x := x) (w := 8) (n := n) (c := c) (D := D) q1 (by omega)
    rw [e] at hf
    exact drop y μ1 (by rw [g5.2 _ _ (by decide)]; exact hM.2.2.2) (by rw [k12]; decide) (hf (by decide) μ1 g5.mg k12 k13) n 0 1 (by omega)
  · have m1 := hM.a9 a1 k9
    have e1 := hE.g5 a1.g5
    have edr : dr D (n + 1) = dr D n := by
      show (if D n = 0 then dr D n else _) = _
      rw [if_pos hD0]
    generalize hV : vlu x (sk t x i) (de t x (sk t x i)) = V at *
    have p2 : ¬ (sk t x i + 2 < de t x (sk t x i) ∨ gr 8 < vlu x (sk t x i) (de t x (sk t x i))) := by rw [hV]; omega
    have loop : ∀ d k, k + d = n → hX10_takeDying_12 G l P (nI V) (if (dr D k).testBit V = true then 0 else 1) (nI k) μ1 := by
      intro d
      induction d with
      | zero =>
        intro k hk
        have ek : k = n := by omega
        subst ek
        refine eX10_takeDying_12 ⟨fun _ => ⟨fun q => absurd m1.2.1 q, fun _ => ?_⟩, fun q => absurd (by rw [m1.2.2.2]; exact Int32.le_refl _) q⟩
        by_cases q : (dr D k).testBit V = true
        · rw [if_pos q]
          have e := nF_7 (x := x) (n := k) (c := c) (D := D) q1 p2 (by rw [hV, edr]; exact q)
          rw [e] at hf
          refine m_no m1.2.1 (by decide) ⟨fun _ => hf (by decide) _ ((a1.g5.mg.w (Or.inl ⟨rfl, by decide, by decide⟩)).w (Or.inl ⟨rfl, by decide, by decide⟩)) ?_ ?_, fun z => absurd rfl z⟩
          · rw [gm_rw_k (by decide), gm_rw_s]; rfl
          · rw [gm_rw_s]; exact k10
        · rw [if_neg q]
          have e : nF x 8 k c D (sk t x i) (de t x (sk t x i)) = 0 := nF_0 q1 (by omega) (by omega) (by omega) (by omega) (fun z => q (by have := z.2; rw [hV, edr] at this; exact this))
          refine m_yes m1.2.1 (by decide) ⟨fun z => absurd z (by decide), fun _ => ?_⟩
          rw [m1.2.2.2, show (1 : Int32) = nI 1 from rfl, ix8_I, nI_clamp (by omega), nI_clamp (by omega), ← show (1 : Int32) = nI 1 from rfl, nI_bit1 (by omega), (e1 k (Nat.le_refl _)).2.1 1 (by decide) id, nI_or]
          refine ⟨vp_in_nI (by omega) (by decide), vp_in_nI (by omega) (by decide), hok e _ ((a1.g5.mg.w (Or.inr (by decide))).w (Or.inr (by decide))) ⟨?_, ?_, ?_, ?_⟩ (fun k' hk' => ⟨?_, fun u hu _ => ?_, ?_⟩)⟩
          · rw [gm_rw_o (by decide), gm_rw_o (by decide)]; exact m1.1
          · rw [gm_rw_o (by decide), gm_rw_o (by decide)]; exact m1.2.1
          · rw [gm_rw_o (by decide), gm_rw_o (by decide)]; exact m1.2.2.1
          · rw [gm_rw_o (by decide), gm_rw_o (by decide)]; exact m1.2.2.2
          · rw [gm_rw_o (by decide), gm_rw_o (by decide)]
            by_cases e2 : k' = k
            · subst e2; rw [nC_ne (by decide) (by omega)]; exact (e1 k' hk').1
            · rw [nC_old e2]; exact (e1 k' hk').1
          · by_cases e2 : k' = k
            · subst e2
              by_cases e3 : u = 1
              · subst e3; rw [gm_rw_s, nC_die]
              · rw [gm_rw_k (by omega), gm_rw_o (by decide), nC_ne (by omega) (by omega)]; exact (e1 k' hk').2.1 u hu id
            · rw [gm_rw_k (by omega), gm_rw_o (by decide), nC_old e2]; exact (e1 k' hk').2.1 u hu id
          · rw [gm_rw_o (by decide)]
            by_cases e2 : k' = k
            · subst e2; rw [gm_rw_s, nD_die, nI_pred]
            · rw [gm_rw_k e2, nD_old e2]; exact (e1 k' hk').2.2
      | succ d ih =>
        intro k hk
        have hDk := hNB.2.2 k (by omega)
        have ih1 := ih (k + 1) (by omega)
        have iff1 : (dr D (k + 1)).testBit V = true ↔ (dr D k).testBit V = true ∨ D k = V + 1 := by
          rw [dr_bit, dr_bit]
          constructor
          · rintro ⟨k', h1, h2⟩
            by_cases e : k' = k
            · subst e; exact Or.inr h2
            · exact Or.inl ⟨k', by omega, h2⟩
          · rintro (⟨k', h1, h2⟩ | h)
            · exact ⟨k', by omega, h2⟩
            · exact ⟨k, by omega, h⟩
        refine eX10_takeDying_12 ⟨fun q => absurd (by rw [m1.2.2.2] at q; exact q) (nI_ge (by omega) (by omega)), fun _ => ?_⟩
        rw [nI_clamp (by omega), (e1 k (by omega)).2.2, nI_1, ← nI_pred (n := V), dI_eq (by omega) (by omega)]
        by_cases q : (dr D k).testBit V = true
        · rw [if_pos q]
          rw [if_pos (iff1.mpr (Or.inl q)), ← nI_pred (n := V)] at ih1
          exact ⟨fun _ => ih1, fun z => absurd rfl z⟩
        · rw [if_neg q]
          refine ⟨fun z => absurd z (by decide), fun _ => ⟨vp_in_nI (by omega) (by decide), fun z => ?_, fun z => ?_⟩⟩
          · rw [if_pos (iff1.mpr (Or.inr z)), ← nI_pred (n := V)] at ih1; exact ih1
          · rw [if_neg (fun y => (iff1.mp y).elim q z), ← nI_pred (n := V)] at ih1; exact ih1
    have h0 := loop n 0 (by omega)
    have e0 : (if (dr D 0).testBit V = true then (0 : Int32) else 1) = 1 := by
      show (if (0 : Nat).testBit V = true then (0 : Int32) else 1) = 1
      rw [Nat.zero_testBit]; rfl
    rw [e0] at h0
    exact h0
end CLAUSEM
