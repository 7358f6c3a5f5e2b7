/-! THE TEXT read: the model -/
section STORYM
variable {G : gC} {l : Launch} {μ : Mem} {t n i : Nat} {x : Nat → Nat} {c : Nat → Nat → Nat} {D : Nat → Nat}
theorem wdf_ge {j : Nat} : ∀ d w, wdf x i j d w = 0 ∨ w + 1 ≤ wdf x i j d w := by
  intro d
  induction d with
  | zero => intro w; exact Or.inl rfl
  | succ d ih =>
    intro w
    show (if mtc x i j w = true then w + 1 else wdf x i j d (w + 1)) = 0 ∨ w + 1 ≤ (if mtc x i j w = true then w + 1 else wdf x i j d (w + 1))
    by_cases q : mtc x i j w = true
    · rw [if_pos q]; omega
    · rw [if_neg q]; have := ih (w + 1); omega
theorem wdF_1 {j : Nat} : wdF x i j = 1 ↔ mtc x i j 0 = true := by
  have e : wdF x i j = if mtc x i j 0 = true then 1 else wdf x i j 8 1 := rfl
  rw [e]
  by_cases q : mtc x i j 0 = true
  · rw [if_pos q]; exact ⟨fun _ => q, fun _ => rfl⟩
  · rw [if_neg q]
    have := wdf_ge (x := x) (i := i) (j := j) 8 1
    exact ⟨fun z => by omega, fun z => absurd z q⟩
theorem m_clr {P : Mem → Prop} (hn : n < 10) (h14 : gm_r μ 78 14 = nI n) (h : ∀ μ', (μ'.1 = μ.1 ∧ ∀ o k, ¬ (o = 87 ∧ 8 * n ≤ k ∧ k < 8 * n + 8) → gm_r μ' o k = gm_r μ o k) → (∀ j, j < 8 → gm_r μ' 87 (8 * n + j) = 0) → hX10_takeScene_114 G l P (-1) μ') : hX10_takeScene_85 G l P (0 : Int32) μ := by
  have loop : ∀ d k μ', k + d = 8 → (μ'.1 = μ.1 ∧ ∀ o k, ¬ (o = 87 ∧ 8 * n ≤ k ∧ k < 8 * n + 8) → gm_r μ' o k = gm_r μ o k) → (∀ j, j < k → gm_r μ' 87 (8 * n + j) = 0) → hX10_takeScene_85 G l P (nI k) μ' := by
    intro d
    induction d with
    | zero =>
      intro k μ' hk f1 k1
      exact eX10_takeScene_85 ⟨fun _ => h μ' f1 (fun j hj => k1 j (by omega)), fun q => absurd (by rw [show k = 8 by omega]; exact Int32.le_refl _) q⟩
    | succ d ih =>
      intro k μ' hk f1 k1
      refine eX10_takeScene_85 ⟨fun q => absurd q (by rw [show (8 : Int32) = nI 8 from rfl, nI_leI (by decide) (by omega)]; omega), fun _ => ?_⟩
      rw [f1.2 78 14 (by omega), h14, ix8_I, nI_clamp (by omega), nI_1]
      refine ⟨vp_in_nI (by omega) (by decide), ih (k + 1) _ (by omega) ⟨f1.1, fun o k' hne => ?_⟩ (fun j hj => ?_)⟩
      · rw [gm_rw, if_neg (fun z => hne ⟨z.1, by omega, by omega⟩)]
        exact f1.2 o k' hne
      · by_cases e : j = k
        · subst e; rw [gm_rw_s]
        · rw [gm_rw_k (by omega)]; exact k1 j (by omega)
  exact loop 8 0 μ (by omega) ⟨rfl, fun _ _ _ => rfl⟩ (fun j hj => absurd hj (by omega))
theorem m_scene {P : Mem → Prop} (hK : SK n c D) (hT : TXM t x μ) (hi : i ≤ t) (hsk : sk t x i = i) (hM : MZ i n c D μ) (hf : (SF t x n i c D).1 ≠ 0 → ∀ μ', MG μ μ' → gm_r μ' 78 12 = nI (SF t x n i c D).1 → gm_r μ' 78 13 = nI (SF t x n i c D).2.1 → (SF t x n i c D).1 ≤ 9 → P μ') (hok : (SF t x n i c D).1 = 0 → ∀ μ', MG μ μ' → (SF t x n i c D).2.2.1 ≤ t → SK (n + 1) (SF t x n i c D).2.2.2.1 (SF t x n i c D).2.2.2.2 → MZ (SF t x n i c D).2.2.1 (n + 1) (SF t x n i c D).2.2.2.1 (SF t x n i c D).2.2.2.2 μ' → P μ') : qX10_takeScene G l μ P := by
  have ht := hT.2.1
  have hn10 := hK.1
  have hwo := rn_ok (t := t) (p := isLt x) hi
  have hwl : we t x i ≤ t := hwo.2.1
  have hwg : i ≤ we t x i := hwo.1
  have eS : SF t x n i c D = if wdF x i (we t x i) ≠ 1 then (1, i, i, c, D) else if 10 ≤ n then (5, i, i, c, D) else if nF x 0 n (cz n c) (dz n D) (sk t x (we t x i)) (de t x (sk t x (we t x i))) ≠ 0 then (nF x 0 n (cz n c) (dz n D) (sk t x (we t x i)) (de t x (sk t x (we t x i))), sk t x (we t x i), i, c, D) else QF t x n 9 0 (de t x (sk t x (we t x i))) (nC 0 n (vlu x (sk t x (we t x i)) (de t x (sk t x (we t x i)))) (cz n c)) (nD 0 n (vlu x (sk t x (we t x i)) (de t x (sk t x (we t x i)))) (dz n D)) := rfl
  rw [eS] at hf hok
  refine eX10_takeScene (m_takeWord hT hi hM.1.1 (fun μ1 a1 k9 k10 k11 => ?_))
  rw [hsk] at k9 k10 k11
  have hT1 := hT.a9 a1
  have m1 := hM.1.a9 a1 k9
  refine m_isWord (w := 0) hT1 hwg hwl (by decide) k10 k11 rfl (by decide) ?_
  by_cases q : mtc x i (we t x i) 0 = true
  · rw [if_pos q]
    have hw1 := wdF_1.mpr q
    rw [if_neg (fun z => z hw1)] at hf hok
    refine m_yes m1.2.1 (by decide) ⟨fun z => absurd z (by decide), fun _ => ?_⟩
    rw [m1.2.2.2, show (10 : Int32) = nI 10 from rfl, nI_leI (by decide) (by omega)]
    refine ⟨fun hn => ?_, fun hn => ?_⟩
    · rw [if_pos hn] at hf
      refine eX10_takeScene_46 (m_no m1.2.1 (by decide) ⟨fun _ => hf (by show 5 ≠ 0; decide) _ ((a1.g5.mg.w (Or.inl ⟨rfl, by decide, by decide⟩)).w (Or.inl ⟨rfl, by decide, by decide⟩)) ?_ ?_ (by show 5 ≤ 9; decide), fun z => absurd rfl z⟩)
      · rw [gm_rw_k (by decide), gm_rw_s]; rfl
      · rw [gm_rw_s]; exact k10
    · rw [if_neg hn] at hf hok
      have hn' : n < 10 := by omega
      have hs : sk t x (we t x i) ≤ t := (rn_ok (t := t) (p := isBl x) hwl).2.1
      have hde : de t x (sk t x (we t x i)) ≤ t := (rn_ok (t := t) (p := isDg x) hs).2.1
      have hg : gr 0 = 99 := rfl
      refine eX10_takeScene_46 (m_yes m1.2.1 (by decide) ⟨fun z => absurd z (by decide), fun _ => ?_⟩)
      rw [m1.2.2.2, nI_clamp (by omega)]
      have bad : nF x 0 n (cz n c) (dz n D) (sk t x (we t x i)) (de t x (sk t x (we t x i))) ≠ 0 → ∀ (y : Int32) μ2, G5 μ1 μ2 → gm_r μ2 78 12 = nI (nF x 0 n (cz n c) (dz n D) (sk t x (we t x i)) (de t x (sk t x (we t x i)))) → gm_r μ2 78 13 = nI (sk t x (we t x i)) → vp_in (nI n) 10 ∧ vp_in (gm_r μ2 78 14) 10 ∧ hX10_takeScene_85 G l P (0 : Int32) (gm_w (gm_w μ2 85 n y) 86 (gm_r μ2 78 14).toNatClampNeg (-1)) := fun z y μ2 g2 k12 k13 => by
        have h14 : gm_r μ2 78 14 = nI n := by rw [g2.2 _ _ (by decide)]; exact m1.2.2.2
        have hle := nF_le (x := x) (w := 0) (n := n) (c := cz n c) (D := dz n D) (i := sk t x (we t x i)) (j := de t x (sk t x (we t x i)))
        rw [h14, nI_clamp (by omega)]
        refine ⟨vp_in_nI (by omega) (by decide), vp_in_nI (by omega) (by decide), m_clr hn' (by rw [gm_rw_o (by decide), gm_rw_o (by decide)]; exact h14) (fun μ3 f3 _ => ?_)⟩
        rw [if_pos z] at hf
        have c3 : MG μ μ3 := by
          refine ((a1.g5.mg.trans g2.mg).w (o := 85) (k := n) (y := y) (Or.inr (by decide))).w (o := 86) (k := n) (y := -1) (Or.inr (by decide)) |>.trans ⟨f3.1, fun o k q1 q2 => f3.2 o k (fun z => by omega)⟩
        refine m_cend z (by omega) (by rw [f3.2 _ _ (by omega), gm_rw_o (by decide), gm_rw_o (by decide)]; exact k12) (by rw [f3.2 _ _ (by omega), gm_rw_o (by decide), gm_rw_o (by decide)]; exact k13) (fun μ4 c4 q12 q13 => hf z μ4 (c3.trans c4) q12 q13 (by show nF x 0 n (cz n c) (dz n D) (sk t x (we t x i)) (de t x (sk t x (we t x i))) ≤ 9; omega))
      refine m_number (low := 1) (high := 99) hT1 hwl m1.1 m1.2.1 (by decide) (by decide) (fun z μ2 g5 k12 k13 => ?_) (fun z1 z2 y μ2 g5 k12 k13 => ?_) (fun z1 z2 z3 z4 μ2 a2 j9 j10 => ?_)
      · have e := nF_1 (x := x) (w := 0) (n := n) (c := cz n c) (D := dz n D) z
        exact bad (by rw [e]; decide) 0 μ2 g5 (by rw [e]; exact k12) k13
      · have e := nF_2 (x := x) (w := 0) (n := n) (c := cz n c) (D := dz n D) z1 (by omega)
        exact bad (by rw [e]; decide) y μ2 g5 (by rw [e]; exact k12) k13
      · have e := nF_0 (x := x) (w := 0) (n := n) (c := cz n c) (D := dz n D) z1 (by omega) (by omega) (by omega) (by omega) (by omega)
        rw [if_neg (fun u => u e)] at hf hok
        have m2 := m1.a9 a2 j9
        rw [m2.2.2.2, nI_clamp (by omega)]
        refine ⟨vp_in_nI (by omega) (by decide), vp_in_nI (by omega) (by decide), m_clr hn' (by rw [gm_rw_o (by decide), gm_rw_o (by decide)]; exact m2.2.2.2) (fun μ3 f3 k3 => ?_)⟩
        have c3 : MG μ μ3 := by
          refine (((a1.trans a2).g5.mg).w (o := 85) (k := n) (y := nI (vlu x (sk t x (we t x i)) (de t x (sk t x (we t x i))))) (Or.inr (by decide))).w (o := 86) (k := n) (y := -1) (Or.inr (by decide)) |>.trans ⟨f3.1, fun o k q1 q2 => f3.2 o k (fun z => by omega)⟩
        have old : ∀ o k, o ≠ 85 → o ≠ 86 → ¬ (o = 87 ∧ 8 * n ≤ k ∧ k < 8 * n + 8) → gm_r μ3 o k = gm_r μ2 o k := fun o k q1 q2 q3 => by rw [f3.2 o k q3, gm_rw_o q2, gm_rw_o q1]
        have hcl : hX10_takeScene_114 G l P (nI 0 - 1) μ3 := by
          refine m_clause 9 0 0 (de t x (sk t x (we t x i))) (de t x (sk t x (we t x i))) _ _ μ3 (by omega) (by omega) (by omega) hde rfl hde (CI_first hK hn' e) (hT.mg c3) ⟨?_, ?_, ?_, ?_⟩ (fun k hk => ⟨?_, fun u hu _ => ?_, ?_⟩) (fun u μ4 c4 => hf u μ4 (c3.trans c4)) (fun u μ4 c4 => hok u μ4 (c3.trans c4))
          · rw [old _ _ (by decide) (by decide) (by omega)]; exact j9
          · rw [old _ _ (by decide) (by decide) (by omega)]; exact m2.2.1
          · rw [old _ _ (by decide) (by decide) (by omega)]; exact m2.2.2.1
          · rw [old _ _ (by decide) (by decide) (by omega)]; exact m2.2.2.2
          · rw [f3.2 _ _ (by omega), gm_rw_o (by decide)]
            by_cases e4 : k = n
            · subst e4; rw [gm_rw_s, nC_num (by decide)]
            · rw [gm_rw_k e4, (a1.trans a2).2 _ _ (by omega), nC_old e4]
              have : cz n c k 0 = c k 0 := by unfold cz; rw [if_neg e4]
              rw [this]
              exact (hM.2 k (by omega)).1
          · by_cases e4 : k = n
            · subst e4
              rw [k3 u (by omega), nC_ne (by omega) (by omega)]
              have : cz k c k (u + 1) = 0 := by unfold cz; rw [if_pos rfl]
              rw [this]; rfl
            · rw [old _ _ (by decide) (by decide) (by omega), (a1.trans a2).2 _ _ (by omega), nC_old e4]
              have : cz n c k (u + 1) = c k (u + 1) := by unfold cz; rw [if_neg e4]
              rw [this]
              exact (hM.2 k (by omega)).2.1 u hu
          · rw [f3.2 _ _ (by omega), nD_ne (by decide)]
            by_cases e4 : k = n
            · subst e4
              have : dz k D k = 0 := by unfold dz; rw [if_pos rfl]
              rw [gm_rw_s, this]; rfl
            · rw [gm_rw_k e4, gm_rw_o (by decide), (a1.trans a2).2 _ _ (by omega)]
              have : dz n D k = D k := by unfold dz; rw [if_neg e4]
              rw [this]
              exact (hM.2 k (by omega)).2.2
        exact hcl
  · rw [if_neg q]
    have hw1 : wdF x i (we t x i) ≠ 1 := fun z => q (wdF_1.mp z)
    rw [if_pos hw1] at hf
    refine m_no m1.2.1 (by decide) ⟨fun _ => hf Nat.one_ne_zero _ ((a1.g5.mg.w (Or.inl ⟨rfl, by decide, by decide⟩)).w (Or.inl ⟨rfl, by decide, by decide⟩)) ?_ ?_ (by show 1 ≤ 9; decide), fun z => absurd rfl z⟩
    · rw [gm_rw_k (by decide), gm_rw_s]; rfl
    · rw [gm_rw_s]; exact k10
theorem MZ.a9 {i' : Nat} {μ' : Mem} (h : MZ i n c D μ) (hf : A9 μ μ') (hi : gm_r μ' 78 9 = nI i') : MZ i' n c D μ' := ⟨h.1.a9 hf hi, fun k hk => ⟨by rw [hf.2 _ _ (by omega)]; exact (h.2 k hk).1, fun j hj => by rw [hf.2 _ _ (by omega)]; exact (h.2 k hk).2.1 j hj, by rw [hf.2 _ _ (by omega)]; exact (h.2 k hk).2.2⟩⟩
theorem m_story {P : Int32 → Mem → Prop} : ∀ d n i c D μ, n + d = 11 → SK n c D → i ≤ t → TXM t x μ → MZ i n c D μ → ((HF t x d n i c D).1 ≠ 0 → ∀ μ', MG μ μ' → gm_r μ' 78 12 = nI (HF t x d n i c D).1 → gm_r μ' 78 13 = nI (HF t x d n i c D).2.1 → (HF t x d n i c D).1 ≤ 9 → hX10_story_41 G l P μ') → ((HF t x d n i c D).1 = 0 → ∀ μ' i', MG μ μ' → MZ i' (HF t x d n i c D).2.2.1 (HF t x d n i c D).2.2.2.1 (HF t x d n i c D).2.2.2.2 μ' → hX10_story_41 G l P μ') → hX10_story_20 G l P μ := by
  intro d
  induction d with
  | zero => intro n i c D μ h1 h2; have := h2.1; omega
  | succ d ih =>
    intro n i c D μ hd hK hi hT hM hf hok
    have hs : sk t x i ≤ t := (rn_ok (t := t) (p := isBl x) hi).2.1
    rw [HF_succ] at hf hok
    refine eX10_story_20 ⟨fun z => absurd hM.1.2.1 z, fun _ => m_here hT hi hM.1.1 (fun μ1 a1 k9 _ => ?_)⟩
    have hT1 := hT.a9 a1
    have m1 := hM.a9 a1 k9
    have hcl := chr_lt (x := x) (t := t) (i := sk t x i) (fun i hi => (hT.2.2 i hi).2)
    rw [dI_neg (by omega)]
    refine ⟨fun z => ?_, fun z => ?_⟩
    · have hlt : ¬ sk t x i < t := fun y => by
        unfold chr at z; rw [if_pos y] at z; omega
      rw [if_pos hlt] at hok
      exact hok rfl μ1 _ a1.g5.mg m1
    · have hlt : sk t x i < t := Nat.lt_of_not_le (fun y => z (by unfold chr; rw [if_neg (by omega)]))
      rw [if_neg (fun y => y hlt)] at hf hok
      refine m_scene hK hT1 hs (rn_idem hi) m1 (fun y μ2 c2 g2 g3 g4 => ?_) (fun y μ2 c2 k1 k2 k3 => ?_)
      · rw [if_pos y] at hf
        have := hf y μ2 (a1.g5.mg.trans c2) g2 g3 g4
        refine eX10_story_20 ⟨fun _ => this, fun u => absurd u ?_⟩
        rw [g2, nI_z (by omega)]
        exact y
      · rw [if_neg (fun u => u y)] at hf hok
        exact ih (n + 1) _ _ _ μ2 (by omega) k2 k1 (hT1.mg c2) k3 (fun u μ3 c3 => hf u μ3 ((a1.g5.mg.trans c2).trans c3)) (fun u μ3 i' c3 => hok u μ3 i' ((a1.g5.mg.trans c2).trans c3))
end STORYM
