/-! a number: the model -/
section NUMM
variable {G : gC} {l : Launch} {μ : Mem} {t n i v : Nat} {x : Nat → Nat} {c : Nat → Nat → Nat} {D : Nat → Nat}
def G5 (μ μ' : Mem) : Prop := μ'.1 = μ.1 ∧ ∀ o k, ¬ (o = 78 ∧ 9 ≤ k ∧ k ≤ 13) → gm_r μ' o k = gm_r μ o k
theorem G5.w {k : Nat} {μ μ' : Mem} {y : Int32} (h : G5 μ μ') (hk : 9 ≤ k ∧ k ≤ 13) : G5 μ (gm_w μ' 78 k y) := ⟨h.1, fun o k' p => by
  rw [gm_rw, if_neg (fun z => p ⟨z.1, by omega, by omega⟩)]
  exact h.2 o k' p⟩
theorem A9.g5 {μ μ' : Mem} (h : A9 μ μ') : G5 μ μ' := ⟨h.1, fun o k p => h.2 o k (fun z => p ⟨z.1, z.2.1, by omega⟩)⟩
/-- what the reader of the model leaves alone -/
def MG (μ μ' : Mem) : Prop := μ'.1 = μ.1 ∧ ∀ o k, ¬ (o = 78 ∧ 9 ≤ k ∧ k ≤ 14) → ¬ (85 ≤ o ∧ o ≤ 87) → gm_r μ' o k = gm_r μ o k
theorem MG.rfl {μ : Mem} : MG μ μ := ⟨Eq.refl _, fun _ _ _ _ => Eq.refl _⟩
theorem MG.trans {μ μ1 μ2 : Mem} (h1 : MG μ μ1) (h2 : MG μ1 μ2) : MG μ μ2 := ⟨h2.1.trans h1.1, fun o k p q => (h2.2 o k p q).trans (h1.2 o k p q)⟩
theorem G5.mg {μ μ' : Mem} (h : G5 μ μ') : MG μ μ' := ⟨h.1, fun o k p _ => h.2 o k (fun z => p ⟨z.1, z.2.1, by omega⟩)⟩
theorem MG.w {o k : Nat} {μ μ' : Mem} {y : Int32} (h : MG μ μ') (hk : (o = 78 ∧ 9 ≤ k ∧ k ≤ 14) ∨ (85 ≤ o ∧ o ≤ 87)) : MG μ (gm_w μ' o k y) := ⟨h.1, fun o' k' p q => by
  have hne : ¬ (o' = o ∧ k' = k) := fun z => by omega
  rw [gm_rw, if_neg hne]
  exact h.2 o' k' p q⟩
theorem TXM.mg {μ' : Mem} (h : TXM t x μ) (hf : MG μ μ') : TXM t x μ' := ⟨by rw [hf.2 _ _ (by decide) (by decide)]; exact h.1, h.2.1, fun i hi => by rw [hf.2 _ _ (by omega) (by decide)]; exact h.2.2 i hi⟩
theorem figM_I : ∀ a, a < 10 → (10 : Int32) * nI a = nI (10 * a) := by decide +kernel
theorem m_number {P : Int32 → Mem → Prop} {low high : Nat} (hT : TXM t x μ) (hi : i ≤ t) (h9 : gm_r μ 78 9 = nI i) (h12 : gm_r μ 78 12 = 0) (hh : high ≤ 99) (hl : low ≤ 1)
    (h1 : de t x (sk t x i) = sk t x i → ∀ μ', G5 μ μ' → gm_r μ' 78 12 = nI 1 → gm_r μ' 78 13 = nI (sk t x i) → P 0 μ')
    (h2 : de t x (sk t x i) ≠ sk t x i → (sk t x i + 2 < de t x (sk t x i) ∨ ¬ (low ≤ vlu x (sk t x i) (de t x (sk t x i)) ∧ vlu x (sk t x i) (de t x (sk t x i)) ≤ high)) → ∀ y μ', G5 μ μ' → gm_r μ' 78 12 = nI 2 → gm_r μ' 78 13 = nI (sk t x i) → P y μ')
    (h0 : de t x (sk t x i) ≠ sk t x i → ¬ sk t x i + 2 < de t x (sk t x i) → low ≤ vlu x (sk t x i) (de t x (sk t x i)) → vlu x (sk t x i) (de t x (sk t x i)) ≤ high → ∀ μ', A9 μ μ' → gm_r μ' 78 9 = nI (de t x (sk t x i)) → gm_r μ' 78 10 = nI (sk t x i) → P (nI (vlu x (sk t x i) (de t x (sk t x i)))) μ') : qX10_takeNumber G l (nI low) (nI high) μ P := by
  have ht := hT.2.1
  have hs : sk t x i ≤ t := (rn_ok (t := t) (p := isBl x) hi).2.1
  have hdg := rn_ok (t := t) (p := isDg x) hs
  have hde : sk t x i ≤ de t x (sk t x i) ∧ de t x (sk t x i) ≤ t := ⟨hdg.1, hdg.2.1⟩
  have hall : ∀ k, sk t x i ≤ k → k < de t x (sk t x i) → 48 ≤ x k ∧ x k ≤ 57 := fun k h1 h2 => by
    have := hdg.2.2.2 k h1 h2
    unfold isDg at this
    simpa using this
  have hfirst : de t x (sk t x i) ≠ sk t x i ↔ (sk t x i < t ∧ 48 ≤ x (sk t x i) ∧ x (sk t x i) ≤ 57) := by
    constructor
    · intro z
      exact ⟨by omega, hall _ (Nat.le_refl _) (by omega)⟩
    · rintro ⟨z1, z2⟩ z3
      have := hdg.2.2.1
      have e : rn t (isDg x) (sk t x i) = sk t x i := z3
      rw [e] at this
      exact this ⟨z1, by unfold isDg; simp; omega⟩
  refine eX10_takeNumber ⟨fun _ => m_here hT hi h9 (fun μ1 a1 g1 _ => ?_), fun z => absurd (by rw [h12]; exact Int32.le_refl _) z⟩
  have a2 : A9 μ (gm_w μ1 78 10 (gm_r μ1 78 9)) := a1.w (by decide)
  have k9 : gm_r (gm_w μ1 78 10 (gm_r μ1 78 9)) 78 9 = nI (sk t x i) := by rw [gm_rw_k (by decide)]; exact g1
  have k10 : gm_r (gm_w μ1 78 10 (gm_r μ1 78 9)) 78 10 = nI (sk t x i) := by rw [gm_rw_s]; exact g1
  have k12 : gm_r (gm_w μ1 78 10 (gm_r μ1 78 9)) 78 12 = 0 := by rw [a2.2 _ _ (by decide)]; exact h12
  generalize hμ2 : gm_w μ1 78 10 (gm_r μ1 78 9) = μ2 at *
  refine t_inI (nI 48) (nI 57) rfl rfl ?_
  have hiff : (nI 48 ≤ nI (chr t x (sk t x i)) - 1 ∧ nI (chr t x (sk t x i)) - 1 ≤ nI 57) ↔ de t x (sk t x i) ≠ sk t x i := by
    have hcl := chr_lt (x := x) (t := t) (i := sk t x i) (fun i hi => (hT.2.2 i hi).2)
    rw [dI_ge (by omega) (by decide), dI_le (by omega) (by decide), hfirst]
    unfold chr
    by_cases z : sk t x i < t
    · rw [if_pos z]; omega
    · rw [if_neg z]; omega
  have fin : ∀ k y μ', k = de t x (sk t x i) → de t x (sk t x i) ≠ sk t x i → A9 μ μ' → gm_r μ' 78 9 = nI k → gm_r μ' 78 10 = nI (sk t x i) → VR x (sk t x i) (k - sk t x i) y → hX10_takeNumber_129 G l P (nI low) (nI high) y μ' := by
    intro k y μ' hk hne a3 g9 g10 hy
    subst hk
    have k12' : gm_r μ' 78 12 = 0 := by rw [a3.2 _ _ (by decide)]; exact h12
    have bad : (sk t x i + 2 < de t x (sk t x i) ∨ ¬ (low ≤ vlu x (sk t x i) (de t x (sk t x i)) ∧ vlu x (sk t x i) (de t x (sk t x i)) ≤ high)) → qX10_want G l 0 2 (gm_r μ' 78 10) μ' (fun _ μ18 => P y μ18) := fun z => by
      refine m_no k12' (by decide) (h2 hne z y _ ((a3.g5.w (by decide)).w (by decide)) ?_ ?_)
      · rw [gm_rw_k (by decide), gm_rw_s]; rfl
      · rw [gm_rw_s]; exact g10
    refine eX10_takeNumber_129 ?_
    have e3 : ((3 : Int32) ≤ gm_r μ' 78 9 - gm_r μ' 78 10) ↔ 3 ≤ de t x (sk t x i) - sk t x i := by
      rw [g9, g10, pk_sub hde.1, show (3 : Int32) = nI 3 from rfl, nI_leI (by decide) (by omega)]
    rw [e3]
    refine ⟨fun z => bad (Or.inl (by omega)), fun z => ?_⟩
    have hV : y = nI (vlu x (sk t x i) (de t x (sk t x i))) ∧ vlu x (sk t x i) (de t x (sk t x i)) ≤ 99 := by
      unfold vlu
      by_cases e : de t x (sk t x i) = sk t x i + 1
      · have := hall (sk t x i) (Nat.le_refl _) (by omega)
        rw [if_pos e]
        exact ⟨hy.2.1 (by omega), by omega⟩
      · have b1 := hall (sk t x i) (Nat.le_refl _) (by omega)
        have b2 := hall (sk t x i + 1) (by omega) (by omega)
        rw [if_neg e]
        exact ⟨hy.2.2 (by omega), by omega⟩
    obtain ⟨rfl, hV2⟩ := hV
    refine t_inI _ _ rfl rfl ?_
    have hiff2 : (nI low ≤ nI (vlu x (sk t x i) (de t x (sk t x i))) ∧ nI (vlu x (sk t x i) (de t x (sk t x i))) ≤ nI high) ↔ (low ≤ vlu x (sk t x i) (de t x (sk t x i)) ∧ vlu x (sk t x i) (de t x (sk t x i)) ≤ high) := by
      rw [nI_leI (by omega) (by omega), nI_leI (by omega) (by omega)]
    by_cases q : low ≤ vlu x (sk t x i) (de t x (sk t x i)) ∧ vlu x (sk t x i) (de t x (sk t x i)) ≤ high
    · rw [if_pos (hiff2.mpr q)]
      exact ⟨fun u => absurd u (by decide), fun _ => m_yes k12' (by decide) (h0 hne (by omega) q.1 q.2 μ' a3 g9 g10)⟩
    · rw [if_neg (fun u => q (hiff2.mp u))]
      exact ⟨fun _ => bad (Or.inr q), fun u => absurd rfl u⟩
  have loop : de t x (sk t x i) ≠ sk t x i → ∀ d k y μ', k + d = t → sk t x i ≤ k → de t x k = de t x (sk t x i) → A9 μ μ' → gm_r μ' 78 9 = nI k → gm_r μ' 78 10 = nI (sk t x i) → VR x (sk t x i) (k - sk t x i) y → hX10_takeNumber_50 G l P (nI low) (nI high) y μ' := by
    intro hne d
    induction d with
    | zero =>
      intro k y μ' hk hle he a3 g9 g10 hy
      have e1 : de t x k = k := rn_stop (by omega)
      refine eX10_takeNumber_50 ?_
      rw [g9, (hT.a9 a3).1, nI_leI (by omega) (by omega)]
      exact ⟨fun _ => fin k y μ' (by rw [← he, e1]) hne a3 g9 g10 hy, fun q => absurd (by omega) q⟩
    | succ d ih =>
      intro k y μ' hk hle he a3 g9 g10 hy
      have hx := (hT.2.2 k (by omega)).2
      have hT2 := hT.a9 a3
      refine eX10_takeNumber_50 ?_
      rw [g9, hT2.1, nI_leI (by omega) (by omega), nI_clamp (by omega), (hT2.2.2 k (by omega)).1]
      refine ⟨fun q => absurd q (by omega), fun _ => ⟨vp_in_nI (by omega) (by decide), t_inI (nI 48) (nI 57) rfl rfl ?_⟩⟩
      have hiff3 : (nI 48 ≤ nI (x k) ∧ nI (x k) ≤ nI 57) ↔ (48 ≤ x k ∧ x k ≤ 57) := by rw [nI_leI (by decide) (by omega), nI_leI (by omega) (by decide)]
      rw [g9, nI_clamp (by omega), (hT2.2.2 k (by omega)).1, nI_1]
      by_cases q : 48 ≤ x k ∧ x k ≤ 57
      · rw [if_pos (hiff3.mpr q)]
        have he2 : de t x (k + 1) = de t x (sk t x i) := by
          rw [← he]
          exact (rn_go (by omega) (by unfold isDg; simp; omega)).symm
        have step : ∀ y', VR x (sk t x i) (k + 1 - sk t x i) y' → hX10_takeNumber_50 G l P (nI low) (nI high) y' (gm_w μ' 78 9 (nI (k + 1))) := fun y' hy' => ih (k + 1) y' _ (by omega) (by omega) he2 (a3.w (by decide)) gm_rw_s (by rw [gm_rw_k (by decide)]; exact g10) hy'
        refine ⟨fun z => absurd z (by decide), fun _ => ⟨fun z => ⟨vp_in_nI (by omega) (by decide), fun v16 e16 => step v16 ⟨fun u => by omega, fun u => ?_, fun u => ?_⟩⟩, fun z => step y ⟨fun u => by omega, fun u => ?_, fun u => ?_⟩⟩⟩
        · have ek : k = sk t x i := by omega
          have ey : y = 0 := hy.1 (by omega)
          rw [e16, ey, ← ek, show (10 : Int32) * 0 = nI 0 from by decide, nI_add, show (48 : Int32) = nI 48 from rfl, pk_sub (by omega), Nat.zero_add]
        · have ek : k = sk t x i + 1 := by omega
          have ey : y = nI (x (sk t x i) - 48) := hy.2.1 (by omega)
          have hx0 := hall (sk t x i) (Nat.le_refl _) (by omega)
          have hxk : 48 ≤ x (sk t x i + 1) := by rw [← ek]; omega
          rw [e16, ey, figM_I _ (by omega), nI_add, show (48 : Int32) = nI 48 from rfl, pk_sub (by omega), ek]
          congr 1
          omega
        · have ey : y = 0 := hy.1 (by omega)
          rw [ey] at z; exact absurd (by decide) z
        · have ey : y = nI (x (sk t x i) - 48) := hy.2.1 (by omega)
          have hx0 := hall (sk t x i) (Nat.le_refl _) (by omega)
          rw [ey, show (999 : Int32) = nI 999 from rfl, nI_leI (by omega) (by decide)] at z
          omega
      · rw [if_neg (fun z => q (hiff3.mp z))]
        have e1 : de t x k = k := rn_stop (fun y => q (by have := y.2; unfold isDg at this; simpa using this))
        exact ⟨fun _ => fin k y μ' (by rw [← he, e1]) hne a3 g9 g10 hy, fun z => absurd rfl z⟩
  by_cases q : de t x (sk t x i) ≠ sk t x i
  · rw [if_pos (hiff.mpr q)]
    refine m_yes k12 (by decide) ⟨fun _ => loop q (t - sk t x i) (sk t x i) 0 μ2 (by omega) (Nat.le_refl _) rfl a2 k9 k10 ⟨fun _ => rfl, fun z => by omega, fun z => by omega⟩, fun z => absurd z (by decide)⟩
  · rw [if_neg (fun z => q (hiff.mp z))]
    refine m_no k12 (by decide) ⟨fun z => absurd rfl z, fun _ => h1 (Classical.not_not.mp q) _ ((a2.g5.w (by decide)).w (by decide)) ?_ ?_⟩
    · rw [gm_rw_k (by decide), gm_rw_s]; rfl
    · rw [gm_rw_s]; exact k9
end NUMM
