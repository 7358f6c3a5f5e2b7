/-! THE TEXT: the model's blanks, words -/
section TXM
variable {G : gC} {l : Launch} {μ : Mem} {t : Nat} {x : Nat → Nat}
/-- the place where the model reads -/
def A9 (μ μ' : Mem) : Prop := μ'.1 = μ.1 ∧ ∀ o k, ¬ (o = 78 ∧ 9 ≤ k ∧ k ≤ 11) → gm_r μ' o k = gm_r μ o k
theorem A9.rfl {μ : Mem} : A9 μ μ := ⟨Eq.refl _, fun _ _ _ => Eq.refl _⟩
theorem A9.trans {μ μ1 μ2 : Mem} (h1 : A9 μ μ1) (h2 : A9 μ1 μ2) : A9 μ μ2 := ⟨h2.1.trans h1.1, fun o k p => (h2.2 o k p).trans (h1.2 o k p)⟩
theorem A9.w {k : Nat} {μ μ' : Mem} {v : Int32} (h : A9 μ μ') (hk : 9 ≤ k ∧ k ≤ 11) : A9 μ (gm_w μ' 78 k v) := ⟨h.1, fun o k' p => by
  rw [gm_rw, if_neg (fun z => p ⟨z.1, by omega, by omega⟩)]
  exact h.2 o k' p⟩
theorem TXM.a9 {μ' : Mem} (h : TXM t x μ) (hf : A9 μ μ') : TXM t x μ' := ⟨by rw [hf.2 _ _ (by decide)]; exact h.1, h.2.1, fun i hi => by rw [hf.2 _ _ (by omega)]; exact h.2.2 i hi⟩
theorem m_here {P : Int32 → Mem → Prop} {i : Nat} (hT : TXM t x μ) (hi : i ≤ t) (hat : gm_r μ 78 9 = nI i) (h : ∀ μ', A9 μ μ' → gm_r μ' 78 9 = nI (sk t x i) → (∀ k, k ≠ 9 → gm_r μ' 78 k = gm_r μ 78 k) → P (nI (chr t x (sk t x i)) - 1) μ') : qX10_here G l μ P := by
  have ht := hT.2.1
  have loop : ∀ d k μ', k + d = t → sk t x k = sk t x i → A9 μ μ' → gm_r μ' 78 9 = nI k → (∀ z, z ≠ 9 → gm_r μ' 78 z = gm_r μ 78 z) → hX10_here_0 G l P μ' := by
    intro d
    induction d with
    | zero =>
      intro k μ' hk he a1 g1 g2
      have e1 : sk t x k = k := rn_stop (by omega)
      have ec : chr t x k = 0 := by unfold chr; rw [if_neg (by omega)]
      have hP := h μ' a1 (by rw [← he, e1]; exact g1) g2
      rw [← he, e1, ec] at hP
      refine eX10_here_0 ?_
      rw [g1, (hT.a9 a1).1, nI_leI (by omega) (by omega)]
      exact ⟨fun _ => ⟨fun _ => hP, fun q => absurd (by omega) q⟩, fun q => absurd (by omega) q⟩
    | succ d ih =>
      intro k μ' hk he a1 g1 g2
      have hx := (hT.2.2 k (by omega)).2
      refine eX10_here_0 ?_
      rw [g1, (hT.a9 a1).1, nI_leI (by omega) (by omega), nI_clamp (by omega), ((hT.a9 a1).2.2 k (by omega)).1, show (32 : Int32) = nI 32 from rfl, nI_eq (by omega) (by decide)]
      refine ⟨fun q => absurd q (by omega), fun _ => ⟨vp_in_nI (by omega) (by decide), fun q => ?_, fun q => ?_⟩⟩
      · have e1 : sk t x k = k := rn_stop (fun z => q (by have := z.2; unfold isBl at this; simpa using this))
        have hP := h μ' a1 (by rw [← he, e1]; exact g1) g2
        rw [← he, e1, chr_in (by omega)] at hP
        exact ⟨fun z => absurd z (by omega), fun _ => hP⟩
      · rw [nI_1]
        refine ih (k + 1) _ (by omega) ?_ (a1.w (by decide)) gm_rw_s (fun z hz => by rw [gm_rw_k hz]; exact g2 z hz)
        rw [← he]
        exact (rn_go (by omega) (by unfold isBl; simpa using q)).symm
  exact eX10_here (loop (t - i) i μ (by omega) rfl A9.rfl hat (fun _ _ => rfl))
theorem m_yes {P : Int32 → Mem → Prop} {a1 a2 a3 : Int32} (h12 : gm_r μ 78 12 = 0) (ha : ¬ a1 = 0) (h : P 1 μ) : qX10_want G l a1 a2 a3 μ P := eX10_want ⟨fun _ => ⟨fun q => absurd h12 q, fun _ => h⟩, fun q => absurd q ha⟩
theorem m_no {P : Int32 → Mem → Prop} {a2 a3 : Int32} (h12 : gm_r μ 78 12 = 0) (ha : ¬ a2 = 0) (h : P 0 (gm_w (gm_w μ 78 12 a2) 78 13 a3)) : qX10_want G l 0 a2 a3 μ P := eX10_want ⟨fun q => absurd rfl q, fun _ => ⟨fun q => absurd h12 q, fun _ => ⟨fun _ => h, fun q => absurd q ha⟩⟩⟩
theorem m_takeWord {P : Mem → Prop} {i : Nat} (hT : TXM t x μ) (hi : i ≤ t) (hat : gm_r μ 78 9 = nI i) (h : ∀ μ', A9 μ μ' → gm_r μ' 78 9 = nI (we t x (sk t x i)) → gm_r μ' 78 10 = nI (sk t x i) → gm_r μ' 78 11 = nI (we t x (sk t x i) - sk t x i) → P μ') : qX10_takeWord G l μ P := by
  have ht := hT.2.1
  have hs := rn_ok (t := t) (p := isBl x) hi
  have hs2 : sk t x i ≤ t := hs.2.1
  refine eX10_takeWord (m_here hT hi hat (fun μ1 a1 g1 _ => ?_))
  have loop : ∀ d k μ', k + d = t → sk t x i ≤ k → we t x k = we t x (sk t x i) → A9 μ μ' → gm_r μ' 78 9 = nI k → gm_r μ' 78 10 = nI (sk t x i) → hX10_takeWord_13 G l P μ' := by
    intro d
    induction d with
    | zero =>
      intro k μ' hk hle he a2 g2 g3
      have e1 : we t x k = k := rn_stop (by omega)
      refine eX10_takeWord_13 ?_
      rw [g2, g3, (hT.a9 a2).1, nI_leI (by omega) (by omega), pk_sub hle]
      refine ⟨fun _ => h _ (a2.w (by decide)) ?_ ?_ ?_, fun q => absurd (by omega) q⟩
      · rw [gm_rw_k (by decide), g2, ← he, e1]
      · rw [gm_rw_k (by decide), g3]
      · rw [gm_rw_s, ← he, e1]
    | succ d ih =>
      intro k μ' hk hle he a2 g2 g3
      have hx := (hT.2.2 k (by omega)).2
      refine eX10_takeWord_13 ?_
      rw [g2, (hT.a9 a2).1, nI_leI (by omega) (by omega), nI_clamp (by omega), ((hT.a9 a2).2.2 k (by omega)).1]
      refine ⟨fun q => absurd q (by omega), fun _ => ⟨vp_in_nI (by omega) (by decide), t_inI (nI 97) (nI 122) rfl rfl ?_⟩⟩
      have hiff : (nI 97 ≤ nI (x k) ∧ nI (x k) ≤ nI 122) ↔ (97 ≤ x k ∧ x k ≤ 122) := by rw [nI_leI (by decide) (by omega), nI_leI (by omega) (by decide)]
      rw [g2, g3, pk_sub hle, nI_1]
      by_cases q : 97 ≤ x k ∧ x k ≤ 122
      · rw [if_pos (hiff.mpr q)]
        refine ⟨fun z => absurd z (by decide), fun _ => ih (k + 1) _ (by omega) (by omega) ?_ (a2.w (by decide)) gm_rw_s (by rw [gm_rw_k (by decide)]; exact g3)⟩
        rw [← he]
        exact (rn_go (by omega) (by unfold isLt; simp; omega)).symm
      · rw [if_neg (fun z => q (hiff.mp z))]
        have e1 : we t x k = k := rn_stop (fun y => q (by have := y.2; unfold isLt at this; simpa using this))
        refine ⟨fun _ => h _ (a2.w (by decide)) ?_ ?_ ?_, fun z => absurd rfl z⟩
        · rw [gm_rw_k (by decide), g2, ← he, e1]
        · rw [gm_rw_k (by decide), g3]
        · rw [gm_rw_s, ← he, e1]
  refine loop (t - sk t x i) (sk t x i) _ (by omega) (Nat.le_refl _) rfl (a1.w (by decide)) (by rw [gm_rw_k (by decide)]; exact g1) (by rw [gm_rw_s]; exact g1)
def sel (a2 a3 a4 a5 a6 : Int32) (k : Nat) : Int32 := if k = 0 then a2 else if k = 1 then a3 else if k = 2 then a4 else if k = 3 then a5 else a6
theorem m_isWord {P : Int32 → Mem → Prop} {i j w : Nat} {a1 a2 a3 a4 a5 a6 : Int32} (hT : TXM t x μ) (hij : i ≤ j) (hj : j ≤ t) (hw : w < 9) (hfr : gm_r μ 78 10 = nI i) (hle : gm_r μ 78 11 = nI (j - i)) (e1 : a1 = nI (wsz w)) (es : ∀ k, k < 5 → k < wsz w → sel a2 a3 a4 a5 a6 k = nI (wch w k)) (h : P (if mtc x i j w = true then 1 else 0) μ) : qX10_isWord G l a1 a2 a3 a4 a5 a6 μ P := by
  have ht := hT.2.1
  obtain ⟨h5, hc⟩ := wsz_ok w hw
  subst e1
  have no : ¬ mtc x i j w = true → P 0 μ := fun z => by rw [if_neg z] at h; exact h
  have zero : ∀ k : Int32, ¬ mtc x i j w = true → hX10_isWord_18 G l P (nI (wsz w)) a2 a3 a4 a5 a6 0 k μ := fun k z => eX10_isWord_18 ⟨fun _ => ⟨rfl, no z⟩, fun _ => ⟨fun _ => ⟨rfl, no z⟩, fun q => absurd rfl q⟩⟩
  have loop : ∀ d k, k + d = wsz w → j - i = wsz w → (∀ k', k' < k → x (i + k') = wch w k') → hX10_isWord_18 G l P (nI (wsz w)) a2 a3 a4 a5 a6 1 (nI k) μ := by
    intro d
    induction d with
    | zero =>
      intro k hk hz ha
      rw [if_pos (mtc_iff.mpr ⟨hz, fun k' hk' => ha k' (by omega)⟩)] at h
      exact eX10_isWord_18 ⟨fun _ => ⟨rfl, h⟩, fun q => absurd (by rw [show k = wsz w by omega]; exact Int32.le_refl _) q⟩
    | succ d ih =>
      intro k hk hz ha
      have hk5 : k < 5 := by omega
      have hkw : k < wsz w := by omega
      have hes := es k hk5 hkw
      have hx := (hT.2.2 (i + k) (by omega)).2
      have hcb := (hc k hk5).1 hkw
      have yes : nI (x (i + k)) = sel a2 a3 a4 a5 a6 k → hX10_isWord_18 G l P (nI (wsz w)) a2 a3 a4 a5 a6 1 (nI (k + 1)) μ := fun z => by
        rw [hes, nI_eq (by omega) (by omega)] at z
        exact ih (k + 1) (by omega) hz (fun k' hk' => by
          by_cases e : k' = k
          · subst e; exact z
          · exact ha k' (by omega))
      have not : ¬ nI (x (i + k)) = sel a2 a3 a4 a5 a6 k → hX10_isWord_18 G l P (nI (wsz w)) a2 a3 a4 a5 a6 0 (nI (k + 1)) μ := fun z => zero _ (fun y => z (by rw [hes, (mtc_iff.mp y).2 k hkw]))
      refine eX10_isWord_18 ⟨fun q => absurd q (nI_ge (by omega) (by omega)), fun _ => ⟨fun q => absurd q (by decide), fun _ => ?_⟩⟩
      rw [hfr, nI_add, nI_clamp (by omega), (hT.2.2 (i + k) (by omega)).1, nI_1, nI_z (by omega), show (1 : Int32) = nI 1 from rfl, show (2 : Int32) = nI 2 from rfl, show (3 : Int32) = nI 3 from rfl, nI_eq (by omega) (by decide), nI_eq (by omega) (by decide), nI_eq (by omega) (by decide)]
      have s0 : k = 0 → sel a2 a3 a4 a5 a6 k = a2 := fun z => by unfold sel; rw [if_pos z]
      have s1 : k = 1 → sel a2 a3 a4 a5 a6 k = a3 := fun z => by unfold sel; rw [if_neg (by omega), if_pos z]
      have s2 : k = 2 → sel a2 a3 a4 a5 a6 k = a4 := fun z => by unfold sel; rw [if_neg (by omega), if_neg (by omega), if_pos z]
      have s3 : k = 3 → sel a2 a3 a4 a5 a6 k = a5 := fun z => by unfold sel; rw [if_neg (by omega), if_neg (by omega), if_neg (by omega), if_pos z]
      have s4 : ¬ k = 0 → ¬ k = 1 → ¬ k = 2 → ¬ k = 3 → sel a2 a3 a4 a5 a6 k = a6 := fun z0 z1 z2 z3 => by unfold sel; rw [if_neg z0, if_neg z1, if_neg z2, if_neg z3]
      refine ⟨vp_in_nI (by omega) (by decide), fun z0 => ⟨fun z1 => ⟨fun z2 => ⟨fun z3 => ?_, fun z3 => ?_⟩, fun z2 => ?_⟩, fun z1 => ?_⟩, fun z0 => ?_⟩
      · exact ⟨fun y => not (by rw [s4 z0 z1 z2 z3]; exact y), fun y => yes (by rw [s4 z0 z1 z2 z3]; exact y)⟩
      · exact ⟨fun y => not (by rw [s3 z3]; exact y), fun y => yes (by rw [s3 z3]; exact y)⟩
      · exact ⟨fun y => not (by rw [s2 z2]; exact y), fun y => yes (by rw [s2 z2]; exact y)⟩
      · exact ⟨fun y => not (by rw [s1 z1]; exact y), fun y => yes (by rw [s1 z1]; exact y)⟩
      · exact ⟨fun y => not (by rw [s0 z0]; exact y), fun y => yes (by rw [s0 z0]; exact y)⟩
  refine eX10_isWord ?_
  rw [hle, nI_eq (by omega) (by omega)]
  exact ⟨fun q => zero _ (fun y => q (mtc_iff.mp y).1), fun q => loop (wsz w) 0 (by omega) q (fun k' hk' => absurd hk' (by omega))⟩
theorem mt_uniq {i j : Nat} (h : mtc x i j 0 = true) : ∀ w, 0 < w → w < 9 → ¬ mtc x i j w = true := fun w h0 hw z => by
  have k : ∀ w, w < 9 → 0 < w → ¬ (wsz 0 = wsz w ∧ ∀ k, k < 5 → wch 0 k = wch w k) := by decide +kernel
  rw [mtc_iff] at h z
  have hs : wsz 0 = wsz w := by omega
  refine k w hw h0 ⟨hs, fun k hk => ?_⟩
  have e5 : wsz 0 = 5 := rfl
  rw [← h.2 k (by omega), z.2 k (by omega)]
theorem m_kindOf {P : Int32 → Mem → Prop} {i j : Nat} (hT : TXM t x μ) (hij : i ≤ j) (hj : j ≤ t) (hfr : gm_r μ 78 10 = nI i) (hle : gm_r μ 78 11 = nI (j - i)) (h : P (nI (wdF x i j - 1) - 1) μ) : qX10_kindOf G l μ P := by
  have ef : wdF x i j = if mtc x i j 0 = true then 1 else if mtc x i j 1 = true then 2 else if mtc x i j 2 = true then 3 else if mtc x i j 3 = true then 4 else if mtc x i j 4 = true then 5 else if mtc x i j 5 = true then 6 else if mtc x i j 6 = true then 7 else if mtc x i j 7 = true then 8 else if mtc x i j 8 = true then 9 else 0 := rfl
  refine eX10_kindOf ?_
  refine m_isWord (w := 1) hT hij hj (by decide) hfr hle rfl (by decide) ?_
  by_cases q1 : mtc x i j 1 = true
  · rw [if_pos q1]
    have n0 : ¬ mtc x i j 0 = true := fun z => mt_uniq z 1 (by decide) (by decide) q1
    rw [if_neg n0, if_pos q1] at ef
    rw [ef] at h
    exact ⟨fun z => absurd z (by decide), fun _ => h⟩
  rw [if_neg q1]
  refine ⟨fun _ => ?_, fun z => absurd rfl z⟩
  refine m_isWord (w := 2) hT hij hj (by decide) hfr hle rfl (by decide) ?_
  by_cases q2 : mtc x i j 2 = true
  · rw [if_pos q2]
    have n0 : ¬ mtc x i j 0 = true := fun z => mt_uniq z 2 (by decide) (by decide) q2
    rw [if_neg n0, if_neg q1, if_pos q2] at ef
    rw [ef] at h
    exact ⟨fun z => absurd z (by decide), fun _ => h⟩
  rw [if_neg q2]
  refine ⟨fun _ => ?_, fun z => absurd rfl z⟩
  refine m_isWord (w := 3) hT hij hj (by decide) hfr hle rfl (by decide) ?_
  by_cases q3 : mtc x i j 3 = true
  · rw [if_pos q3]
    have n0 : ¬ mtc x i j 0 = true := fun z => mt_uniq z 3 (by decide) (by decide) q3
    rw [if_neg n0, if_neg q1, if_neg q2, if_pos q3] at ef
    rw [ef] at h
    exact ⟨fun z => absurd z (by decide), fun _ => h⟩
  rw [if_neg q3]
  refine ⟨fun _ => ?_, fun z => absurd rfl z⟩
  refine m_isWord (w := 4) hT hij hj (by decide) hfr hle rfl (by decide) ?_
  by_cases q4 : mtc x i j 4 = true
  · rw [if_pos q4]
    have n0 : ¬ mtc x i j 0 = true := fun z => mt_uniq z 4 (by decide) (by decide) q4
    rw [if_neg n0, if_neg q1, if_neg q2, if_neg q3, if_pos q4] at ef
    rw [ef] at h
    exact ⟨fun z => absurd z (by decide), fun _ => h⟩
  rw [if_neg q4]
  refine ⟨fun _ => ?_, fun z => absurd rfl z⟩
  refine m_isWord (w := 5) hT hij hj (by decide) hfr hle rfl (by decide) ?_
  by_cases q5 : mtc x i j 5 = true
  · rw [if_pos q5]
    have n0 : ¬ mtc x i j 0 = true := fun z => mt_uniq z 5 (by decide) (by decide) q5
    rw [if_neg n0, if_neg q1, if_neg q2, if_neg q3, if_neg q4, if_pos q5] at ef
    rw [ef] at h
    exact ⟨fun z => absurd z (by decide), fun _ => h⟩
  rw [if_neg q5]
  refine ⟨fun _ => ?_, fun z => absurd rfl z⟩
  refine m_isWord (w := 6) hT hij hj (by decide) hfr hle rfl (by decide) ?_
  by_cases q6 : mtc x i j 6 = true
  · rw [if_pos q6]
    have n0 : ¬ mtc x i j 0 = true := fun z => mt_uniq z 6 (by decide) (by decide) q6
    rw [if_neg n0, if_neg q1, if_neg q2, if_neg q3, if_neg q4, if_neg q5, if_pos q6] at ef
    rw [ef] at h
    exact ⟨fun z => absurd z (by decide), fun _ => h⟩
  rw [if_neg q6]
  refine ⟨fun _ => ?_, fun z => absurd rfl z⟩
  refine m_isWord (w := 7) hT hij hj (by decide) hfr hle rfl (by decide) ?_
  by_cases q7 : mtc x i j 7 = true
  · rw [if_pos q7]
    have n0 : ¬ mtc x i j 0 = true := fun z => mt_uniq z 7 (by decide) (by decide) q7
    rw [if_neg n0, if_neg q1, if_neg q2, if_neg q3, if_neg q4, if_neg q5, if_neg q6, if_pos q7] at ef
    rw [ef] at h
    exact ⟨fun z => absurd z (by decide), fun _ => h⟩
  rw [if_neg q7]
  refine ⟨fun _ => ?_, fun z => absurd rfl z⟩
  refine m_isWord (w := 8) hT hij hj (by decide) hfr hle rfl (by decide) ?_
  by_cases q8 : mtc x i j 8 = true
  · rw [if_pos q8]
    have n0 : ¬ mtc x i j 0 = true := fun z => mt_uniq z 8 (by decide) (by decide) q8
    rw [if_neg n0, if_neg q1, if_neg q2, if_neg q3, if_neg q4, if_neg q5, if_neg q6, if_neg q7, if_pos q8] at ef
    rw [ef] at h
    exact ⟨fun z => absurd z (by decide), fun _ => h⟩
  rw [if_neg q8]
  rw [if_neg q1, if_neg q2, if_neg q3, if_neg q4, if_neg q5, if_neg q6, if_neg q7, if_neg q8] at ef
  refine ⟨fun _ => ?_, fun z => absurd rfl z⟩
  by_cases q0 : mtc x i j 0 = true
  · rw [if_pos q0] at ef
    rw [ef] at h
    exact h
  · rw [if_neg q0] at ef
    rw [ef] at h
    exact h
end TXM
