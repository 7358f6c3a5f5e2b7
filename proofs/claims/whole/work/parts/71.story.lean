/-! story -/
section PRSTORY
variable {G : gC} {l : Launch} {μ : Mem} {t n i : Nat} {x : Nat → Nat} {c : Nat → Nat → Nat} {D : Nat → Nat}
theorem CF.fr {μ μ' : Mem} (h : CF μ μ') : Fr [0, 2] μ μ' := ⟨fun o k q => by
  refine h.2 o k (fun z => q ?_) (fun z => q ?_)
  · subst z
    unfold own
    rw [if_neg (by decide), if_neg (by decide), if_pos (Eq.refl 3)]
    by_cases e : k = 4
    · rw [if_pos e]; decide
    · rw [if_neg e]; decide
  · unfold own
    rw [if_neg (by omega), if_neg (by omega), if_neg (by omega), if_neg (by omega), if_neg (by omega), if_neg (by omega), if_neg (by omega), if_neg (by omega), if_neg (by omega), if_neg (by omega), if_neg (by omega)]
    decide, fun _ => h.1⟩
theorem MG.fr {μ μ' : Mem} (h : MG μ μ') : Fr [0, 2] μ μ' := ⟨fun o k q => by
  refine h.2 o k (fun z => q ?_) (fun z => q ?_)
  · obtain ⟨rfl, z1, z2⟩ := z
    rcases (show k = 9 ∨ k = 10 ∨ k = 11 ∨ k = 12 ∨ k = 13 ∨ k = 14 by omega) with rfl | rfl | rfl | rfl | rfl | rfl <;> decide
  · rw [own_m (by omega)]; decide, fun _ => h.1⟩
theorem own_not9 {o k : Nat} (h : 78 ≤ o) (h2 : o ≤ 105) : ¬ own o k = 9 := by
  unfold own
  rw [if_neg (by omega)]
  by_cases c1 : o = 1 ∨ o = 2 ∨ o = 84
  · rw [if_pos c1]; decide
  rw [if_neg c1, if_neg (by omega)]
  by_cases c2 : o = 4 ∨ (6 ≤ o ∧ o ≤ 15) ∨ (79 ≤ o ∧ o ≤ 81)
  · rw [if_pos c2]; decide
  rw [if_neg c2]
  by_cases c3 : (28 ≤ o ∧ o ≤ 29) ∨ o = 82
  · rw [if_pos c3]; decide
  rw [if_neg c3]
  by_cases c4 : o = 45 ∨ o = 83
  · rw [if_pos c4]; decide
  rw [if_neg c4]
  by_cases c5 : (42 ≤ o ∧ o ≤ 44) ∨ (92 ≤ o ∧ o ≤ 94)
  · rw [if_pos c5]; decide
  rw [if_neg c5]
  by_cases c6 : (69 ≤ o ∧ o ≤ 77) ∨ (103 ≤ o ∧ o ≤ 105)
  · rw [if_pos c6]; decide
  rw [if_neg c6, if_neg (by omega), if_neg (by omega)]
  by_cases c7 : o = 78
  · rw [if_pos c7]
    by_cases d0 : k = 0
    · rw [if_pos d0]; decide
    rw [if_neg d0]
    by_cases d1 : k = 1
    · rw [if_pos d1]; decide
    rw [if_neg d1]
    by_cases d2 : k = 8
    · rw [if_pos d2]; decide
    rw [if_neg d2]
    by_cases d3 : k = 13
    · rw [if_pos d3]; decide
    rw [if_neg d3]
    by_cases d4 : k = 22 ∨ k = 23 ∨ k = 26 ∨ k = 27
    · rw [if_pos d4]; decide
    rw [if_neg d4]; decide
  · rw [if_neg c7]; decide
/-- the cells of SCENES, in the class -/
theorem c_become {P : Mem → Prop} (hK : SK n c D) (hR : CZ i n c D μ) (h : ∀ μ', (μ'.1 = μ.1 ∧ ∀ o k, o ≠ 4 → ¬ (6 ≤ o ∧ o ≤ 15) → gm_r μ' o k = gm_r μ o k) → SC n c D μ' → P μ') : qX7_become G l μ P := by
  have hn := hK.1
  have loop : ∀ d k μ', k + d = 10 → (μ'.1 = μ.1 ∧ ∀ o z, ¬ (6 ≤ o ∧ o ≤ 15) → gm_r μ' o z = gm_r μ o z) → (∀ k' u, k' < k → u < 9 → gm_r μ' (5 + 1 + k') u = gm_r μ (17 + 1 + k') u) → hX7_become_2 G l P (nI k) μ' := by
    intro d
    induction d with
    | zero =>
      intro k μ' hk f1 k1
      refine eX7_become_2 ⟨fun _ => ?_, fun q => absurd (by rw [show k = 10 by omega]; exact Int32.le_refl _) q⟩
      rw [f1.2 16 1 (by decide), hR.2.2.2.2.2.2.2.1]
      refine h _ ⟨f1.1, fun o z q1 q2 => by rw [gm_rw_o q1]; exact f1.2 o z q2⟩ ⟨by rw [gm_rw_s], fun k' hk' => ⟨fun u hu => ?_, ?_⟩⟩
      · rw [gm_rw_o (by omega), k1 k' u (by omega) (by omega)]; exact (hR.2.2.2.2.2.2.2.2 k' hk').1 u hu
      · rw [gm_rw_o (by omega), k1 k' 8 (by omega) (by omega)]; exact (hR.2.2.2.2.2.2.2.2 k' hk').2
    | succ d ih =>
      intro k μ' hk f1 k1
      refine eX7_become_2 ⟨fun q => absurd q (by rw [show (10 : Int32) = nI 10 from rfl, nI_leI (by decide) (by omega)]; omega), fun _ => ⟨vp_in_nI (by omega) (by decide), ?_⟩⟩
      rw [nI_clamp (by omega), nI_1]
      refine ih (k + 1) _ (by omega) ⟨f1.1, fun o z q => by rw [gm_rr_o (by omega)]; exact f1.2 o z q⟩ (fun k' u hk' hu => ?_)
      by_cases e : k' = k
      · subst e
        rw [gm_rr_s, cpy_in hu]
        exact f1.2 (17 + 1 + k') u (by omega)
      · rw [gm_rr_o (by omega)]; exact k1 k' u (by omega) hu
  exact eX7_become (loop 10 0 μ (by omega) ⟨rfl, fun _ _ _ => rfl⟩ (fun k' u hk' => absurd hk' (by omega)))
/-- the cells of SCENES, in the model -/
def Md (μ μ' : Mem) : Prop := μ'.1 = μ.1 ∧ ∀ o k, o ≠ 79 → o ≠ 80 → o ≠ 81 → gm_r μ' o k = gm_r μ o k
theorem m_copy {P : Int32 → Mem → Prop} (hn : n ≤ 10) (h0 : gm_r μ 78 0 = nI n) (hM : ∀ k, k < n → gm_r μ 85 k = nI (c k 0) ∧ (∀ j, j < 7 → gm_r μ 87 (8 * k + j) = nI (c k (j + 1))) ∧ gm_r μ 86 k = nI (D k) - 1) (h : ∀ μ', Md μ μ' → SM n c D μ' → P (gm_r μ' 78 0) (gm_w (gm_w (gm_w (gm_w (gm_w μ' 78 22 0) 78 23 0) 78 26 0) 78 27 0) 78 1 (gm_r μ' 78 1 + 1))) : hX10_story_71 G l P (0 : Int32) μ := by
  have two : ∀ d k μ', k + d = 80 → Md μ μ' → (∀ z, z < k → gm_r μ' 81 z = gm_r μ 87 z) → (∀ z, z < n → gm_r μ' 79 z = gm_r μ 85 z ∧ gm_r μ' 80 z = gm_r μ 86 z) → hX10_story_111 G l P (nI k) μ' := by
    intro d
    induction d with
    | zero =>
      intro k μ' hk f1 k1 k2
      refine eX10_story_111 ⟨fun _ => h μ' f1 ⟨by rw [f1.2 _ _ (by decide) (by decide) (by decide)]; exact h0, fun z hz => ⟨?_, fun j hj => ?_, ?_⟩⟩, fun q => absurd (by rw [show k = 80 by omega]; exact Int32.le_refl _) q⟩
      · rw [(k2 z hz).1]; exact (hM z hz).1
      · rw [k1 _ (by omega)]; exact (hM z hz).2.1 j hj
      · rw [(k2 z hz).2]; exact (hM z hz).2.2
    | succ d ih =>
      intro k μ' hk f1 k1 k2
      refine eX10_story_111 ⟨fun q => absurd q (by rw [show (80 : Int32) = nI 80 from rfl, nI_leI (by decide) (by omega)]; omega), fun _ => ⟨vp_in_nI (by omega) (by decide), ?_⟩⟩
      rw [nI_clamp (by omega), nI_1]
      refine ih (k + 1) _ (by omega) ⟨f1.1, fun o z q1 q2 q3 => by rw [gm_rw_o q3]; exact f1.2 o z q1 q2 q3⟩ (fun z hz => ?_) (fun z hz => by rw [gm_rw_o (by decide), gm_rw_o (by decide)]; exact k2 z hz)
      by_cases e : z = k
      · subst e; rw [gm_rw_s]; exact f1.2 87 z (by decide) (by decide) (by decide)
      · rw [gm_rw_k e]; exact k1 z (by omega)
  have one : ∀ d k μ', k + d = n → Md μ μ' → (∀ z, z < k → gm_r μ' 79 z = gm_r μ 85 z ∧ gm_r μ' 80 z = gm_r μ 86 z) → hX10_story_71 G l P (nI k) μ' := by
    intro d
    induction d with
    | zero =>
      intro k μ' hk f1 k1
      refine eX10_story_71 ⟨fun _ => two 80 0 μ' (by omega) f1 (fun z hz => absurd hz (by omega)) (fun z hz => k1 z (by omega)), fun q => absurd (by rw [f1.2 _ _ (by decide) (by decide) (by decide), h0, show k = n by omega]; exact Int32.le_refl _) q⟩
    | succ d ih =>
      intro k μ' hk f1 k1
      refine eX10_story_71 ⟨fun q => absurd (by rw [f1.2 _ _ (by decide) (by decide) (by decide), h0] at q; exact q) (nI_ge (by omega) (by omega)), fun _ => ⟨vp_in_nI (by omega) (by decide), ?_⟩⟩
      rw [nI_clamp (by omega), nI_1, f1.2 85 _ (by decide) (by decide) (by decide), f1.2 86 _ (by decide) (by decide) (by decide)]
      refine ih (k + 1) _ (by omega) ⟨f1.1, fun o z q1 q2 q3 => by rw [gm_rw_o q2, gm_rw_o q1]; exact f1.2 o z q1 q2 q3⟩ (fun z hz => ?_)
      by_cases e : z = k
      · subst e
        refine ⟨?_, by rw [gm_rw_s]⟩
        rw [gm_rw_o (by decide), gm_rw_s]
      · rw [gm_rw_o (by decide), gm_rw_k e, gm_rw_k e]; exact k1 z (by omega)
  exact one n 0 μ (by omega) ⟨rfl, fun _ _ _ _ _ => rfl⟩ (fun z hz => absurd hz (by omega))
theorem pr_story {k n0 : Nat} (hT : TX t x μ) (hQ : KP k n0 μ) (hP : PO μ) : qX9_story G l μ (fun r1 μ1 => qX10_story G l μ1 (fun r2 μ2 => r1 = r2 ∧ FA μ2 ∧ TX 0 x μ2 ∧ (Fr [0, 1, 2] μ μ2 ∨ (Fr [0, 1, 2, 3, 6, 7, 8, 9] μ μ2 ∧ PO μ2 ∧ FG μ2 ∧ gm_r μ2 30 2 = 0 ∧ ∃ n c D, ST n c D μ2 ∧ KP (k + 1) n μ2 ∧ ∀ r e : Nat → Nat, BO n r 0 0 e μ2)))) := by
  have hTC : TXC t x μ := ⟨hT.1, hT.2.2.1, fun i hi => ⟨(hT.2.2.2 i hi).1, (hT.2.2.2 i hi).2.2⟩⟩
  have hTM : TXM t x μ := ⟨hT.2.1, hT.2.2.1, fun i hi => ⟨(hT.2.2.2 i hi).2.1, (hT.2.2.2 i hi).2.2⟩⟩
  generalize hH : HF t x 11 0 0 zC zD = R
  -- the model, from any memory with its own text
  have model : ∀ (P : Int32 → Mem → Prop) μ1, TXM t x μ1 → (R.1 ≠ 0 → ∀ μ', MG μ1 μ' → gm_r μ' 78 12 = nI R.1 → gm_r μ' 78 13 = nI R.2.1 → R.1 ≤ 9 → hX10_story_41 G l P μ') → (R.1 = 0 → ∀ μ' i', MG μ1 μ' → MZ i' R.2.2.1 R.2.2.2.1 R.2.2.2.2 μ' → hX10_story_41 G l P μ') → qX10_story G l μ1 P := fun P μ1 hT1 hf hok => by
    refine eX10_story ?_
    have c0 : MG μ1 (gm_w (gm_w (gm_w (gm_w μ1 78 9 0) 78 12 0) 78 13 (-1)) 78 14 0) := (((MG.rfl.w (Or.inl ⟨rfl, by decide, by decide⟩)).w (Or.inl ⟨rfl, by decide, by decide⟩)).w (Or.inl ⟨rfl, by decide, by decide⟩)).w (Or.inl ⟨rfl, by decide, by decide⟩)
    refine m_story (t := t) (x := x) 11 0 0 zC zD _ (by omega) ⟨by decide, fun k hk => absurd hk (by omega)⟩ (Nat.zero_le _) (hT1.mg c0) ⟨⟨?_, ?_, ?_, ?_⟩, fun k hk => absurd hk (by omega)⟩ (fun u μ3 c3 => ?_) (fun u μ3 i' c3 => ?_)
    · rw [gm_rw_k (by decide), gm_rw_k (by decide), gm_rw_k (by decide), gm_rw_s]; rfl
    · rw [gm_rw_k (by decide), gm_rw_k (by decide), gm_rw_s]
    · rw [gm_rw_k (by decide), gm_rw_s]
    · rw [gm_rw_s]; rfl
    · rw [hH] at u ⊢; exact hf u μ3 (c0.trans c3)
    · rw [hH] at u ⊢; exact hok u μ3 i' (c0.trans c3)
  refine eX9_story (c_read hTC (fun q μ1 c1 g1 g2 => ?_) (fun q μ1 i1 c1 k1 r1 => ?_))
  · rw [hH] at q g1 g2 ⊢
    rw [nI_z (by omega)]
    refine ⟨fun z => absurd z q, fun _ => ?_⟩
    have f1 : Fr [0, 1, 2] μ (gm_w μ1 1 1 0) := (c1.fr.mono (by decide)).then_w (by decide)
    have same : ∀ o k, 78 ≤ o → gm_r (gm_w μ1 1 1 0) o k = gm_r μ o k := fun o k ho => by
      rw [gm_rw_o (by omega)]; exact c1.2 o k (by omega) (by omega)
    refine model _ _ ⟨by rw [same _ _ (by decide)]; exact hTM.1, hTM.2.1, fun i hi => by rw [same _ _ (by decide)]; exact hTM.2.2 i hi⟩ (fun _ μ2 m2 k12 k13 _ => ?_) (fun z => absurd z q)
    refine eX10_story_41 ?_
    rw [k12]
    refine ⟨fun z => absurd z (by rw [show (0 : Int32) = nI 0 from rfl, nI_leI (by omega) (by decide)]; omega), fun _ => ⟨rfl, ?_, ⟨?_, ?_, by decide, fun i hi => absurd hi (by omega)⟩, Or.inl ((f1.trans (m2.fr.mono (by decide))).then_w (by decide))⟩⟩
    · show gm_r (gm_w μ2 78 8 0) 3 4 = gm_r (gm_w μ2 78 8 0) 78 13
      rw [gm_rw_o (by decide), gm_rw_k (by decide), k13, m2.2 _ _ (by decide) (by decide), gm_rw_o (by decide)]
      exact g1
    · rw [gm_rw_o (by decide), m2.2 _ _ (by decide) (by decide), gm_rw_s]; rfl
    · rw [gm_rw_s]; rfl
  · rw [hH] at q k1 r1
    have hn := k1.1
    refine ⟨fun _ => ?_, fun z => absurd rfl z⟩
    have r1' : CZ i1 R.2.2.1 R.2.2.2.1 R.2.2.2.2 (gm_w μ1 1 1 0) := by
      obtain ⟨h1, h2, h3, h4, h5, h6, h7, h8, h9⟩ := r1
      refine ⟨?_, ?_, ?_, ?_, ?_, ?_, ?_, ?_, fun k hk => ⟨fun u hu => ?_, ?_⟩⟩
      · rw [gm_rw_o (by decide)]; exact h1
      · rw [gm_rw_o (by decide)]; exact h2
      · rw [gm_rw_o (by decide)]; exact h3
      · rw [gm_rw_o (by decide)]; exact h4
      · rw [gm_rw_o (by decide)]; exact h5
      · rw [gm_rw_o (by decide)]; exact h6
      · rw [gm_rw_o (by decide)]; exact h7
      · rw [gm_rw_o (by decide)]; exact h8
      · rw [gm_rw_o (by omega)]; exact (h9 k hk).1 u hu
      · rw [gm_rw_o (by omega)]; exact (h9 k hk).2
    have f1 : Fr [0, 1, 2] μ (gm_w μ1 1 1 0) := (c1.fr.mono (by decide)).then_w (by decide)
    refine c_become k1 r1' (fun μ2 b2 s2 => eX0_clear ?_)
    have f2 : Fr [3] (gm_w μ1 1 1 0) μ2 := ⟨fun o k q => b2.2 o k (fun z => q (by rw [z]; simp [own])) (fun z => q (by
      have : own o k = 3 := by
        obtain ⟨z1, z2⟩ := z
        have := own_st (k := o - 6) (w := k) (by omega)
        rw [show 5 + 1 + (o - 6) = o by omega] at this
        exact this
      rw [this]; decide)), fun _ => b2.1⟩
    generalize hμ3 : gm_w (gm_w (gm_w (gm_w (gm_w μ2 42 1 0) 42 3 0) 77 0 0) 77 1 0) 30 2 0 = μ3
    have f3 : Fr [6, 7, 8] μ2 μ3 := by
      rw [← hμ3]
      exact ((((Fr.w (by decide)).then_w (by decide)).then_w (by decide)).then_w (by decide)).then_w (by decide)
    have F3 : Fr [0, 1, 2, 3, 6, 7, 8, 9] μ μ3 := ((f1.mono (by decide)).trans (f2.mono (by decide))).trans (f3.mono (by decide))
    have P3 : PO μ3 := by
      refine (hP.fr (f1) (by decide)).fr f2 (by decide) |>.fr f3 (by decide)
    refine t9_forget P3 (fun μ4 f4 P4 G4 => ?_)
    have F4 : Fr [0, 1, 2, 3, 6, 7, 8, 9] μ μ4 := F3.trans (f4.mono (by decide))
    -- what the class leaves of the model
    have same : ∀ o k, 78 ≤ o → o ≤ 105 → gm_r μ4 o k = gm_r μ o k := fun o k ho ho2 => by
      have h9 : ¬ own o k ∈ [9] := by
        intro z
        exact own_not9 (k := k) ho ho2 (by simpa using z)
      rw [f4.1 o k h9, ← hμ3, gm_rw_o (by omega), gm_rw_o (by omega), gm_rw_o (by omega), gm_rw_o (by omega), gm_rw_o (by omega), b2.2 o k (by omega) (by omega), gm_rw_o (by omega)]
      exact c1.2 o k (by omega) (by omega)
    have lo : ∀ o k, ¬ own o k = 9 → gm_r μ4 o k = gm_r μ3 o k := fun o k ho => f4.1 o k (by simpa using ho)
    have s4 : SC R.2.2.1 R.2.2.2.1 R.2.2.2.2 μ4 := by
      have hs : ∀ o k, own o k = 3 → gm_r μ4 o k = gm_r μ2 o k := fun o k ho => by
        rw [lo o k (by rw [ho]; decide)]
        exact f3.r 3 ho (by decide)
      refine ⟨by rw [hs _ _ rfl]; exact s2.1, fun k hk => ⟨fun u hu => ?_, ?_⟩⟩
      · rw [hs _ _ (own_st (by omega))]; exact (s2.2 k hk).1 u hu
      · rw [hs _ _ (own_st (by omega))]; exact (s2.2 k hk).2
    have e41 : gm_r μ4 4 1 = nI R.2.2.1 := s4.1
    rw [e41]
    refine model _ μ4 ⟨by rw [same _ _ (by decide) (by decide)]; exact hTM.1, hTM.2.1, fun i hi => by rw [same _ _ (by decide) (by decide)]; exact hTM.2.2 i hi⟩ (fun z => absurd q z) (fun _ μ5 i5 m5 z5 => eX10_story_41 ?_)
    rw [z5.1.2.1]
    refine ⟨fun _ => ?_, fun z => absurd (Int32.le_refl _) z⟩
    rw [z5.1.2.2.2]
    refine m_copy (n := R.2.2.1) (c := R.2.2.2.1) (D := R.2.2.2.2) hn (by rw [gm_rw_s]) (fun k hk => ⟨?_, fun j hj => ?_, ?_⟩) (fun μ6 d6 s6 => ?_)
    · rw [gm_rw_o (by decide), gm_rw_o (by decide)]; exact (z5.2 k hk).1
    · rw [gm_rw_o (by decide), gm_rw_o (by decide)]; exact (z5.2 k hk).2.1 j hj
    · rw [gm_rw_o (by decide), gm_rw_o (by decide)]; exact (z5.2 k hk).2.2
    · have f5 : Fr [0, 2] μ4 μ5 := m5.fr
      have f6 : Fr [1, 3] μ5 μ6 := by
        refine ((Fr.w (o := 78) (k := 8) (x := 0) (by decide)).then_w (o := 78) (k := 0) (x := nI R.2.2.1) (by decide)).trans ⟨fun o k q => d6.2 o k (fun z => q (by rw [z]; simp [own])) (fun z => q (by rw [z]; simp [own])) (fun z => q (by rw [z]; simp [own])), fun _ => d6.1⟩
      have f7 : Fr [6, 7] μ6 (gm_w (gm_w (gm_w (gm_w (gm_w μ6 78 22 0) 78 23 0) 78 26 0) 78 27 0) 78 1 (gm_r μ6 78 1 + 1)) := ((((Fr.w (by decide)).then_w (by decide)).then_w (by decide)).then_w (by decide)).then_w (by decide)
      have F46 : Fr [0, 1, 2, 3, 6, 7] μ4 (gm_w (gm_w (gm_w (gm_w (gm_w μ6 78 22 0) 78 23 0) 78 26 0) 78 27 0) 78 1 (gm_r μ6 78 1 + 1)) := ((f5.mono (by decide)).trans (f6.mono (by decide))).trans (f7.mono (by decide))
      have out : ∀ o k, o < 78 → gm_r (gm_w (gm_w (gm_w (gm_w (gm_w μ6 78 22 0) 78 23 0) 78 26 0) 78 27 0) 78 1 (gm_r μ6 78 1 + 1)) o k = gm_r μ4 o k := fun o k ho => by
        rw [gm_rw_o (by omega), gm_rw_o (by omega), gm_rw_o (by omega), gm_rw_o (by omega), gm_rw_o (by omega), d6.2 o k (by omega) (by omega) (by omega), gm_rw_o (by omega), gm_rw_o (by omega)]
        exact m5.2 o k (by omega) (by omega)
      have h1 : gm_r μ6 78 1 = gm_r μ 78 1 := by
        rw [d6.2 _ _ (by decide) (by decide) (by decide), gm_rw_k (by decide), gm_rw_k (by decide), m5.2 _ _ (by decide) (by decide)]
        exact same _ _ (by decide) (by decide)
      refine ⟨s6.1.symm, ?_, ⟨?_, ?_, by decide, fun i hi => absurd hi (by omega)⟩, Or.inr ⟨F4.trans (F46.mono (by decide)), P4.fr F46 (by decide), G4.fr F46 (by decide), ?_, R.2.2.1, R.2.2.2.1, R.2.2.2.2, ⟨?_, ?_, k1⟩, ?_, fun r e => ?_⟩⟩
      · show gm_r _ 3 4 = gm_r _ 78 13
        rw [out _ _ (by decide), gm_rw_k (by decide), gm_rw_k (by decide), gm_rw_k (by decide), gm_rw_k (by decide), gm_rw_k (by decide), d6.2 _ _ (by decide) (by decide) (by decide), gm_rw_k (by decide), gm_rw_k (by decide), z5.1.2.2.1, lo _ _ (by decide), ← hμ3, gm_rw_o (by decide), gm_rw_o (by decide), gm_rw_o (by decide), gm_rw_o (by decide), gm_rw_o (by decide), b2.2 _ _ (by decide) (by decide), gm_rw_o (by decide)]
        exact r1.2.2.2.1
      · rw [out _ _ (by decide), lo _ _ (by decide), ← hμ3, gm_rw_o (by decide), gm_rw_o (by decide), gm_rw_o (by decide), gm_rw_o (by decide), gm_rw_o (by decide), b2.2 _ _ (by decide) (by decide), gm_rw_s]; rfl
      · rw [gm_rw_k (by decide), gm_rw_k (by decide), gm_rw_k (by decide), gm_rw_k (by decide), gm_rw_k (by decide), d6.2 _ _ (by decide) (by decide) (by decide), gm_rw_k (by decide), gm_rw_s]; rfl
      · rw [out _ _ (by decide), lo _ _ (by decide), ← hμ3, gm_rw_s]
      · refine ⟨by rw [out _ _ (by decide)]; exact s4.1, fun k hk => ⟨fun u hu => ?_, ?_⟩⟩
        · rw [out _ _ (by omega)]; exact (s4.2 k hk).1 u hu
        · rw [out _ _ (by omega)]; exact (s4.2 k hk).2
      · refine ⟨?_, fun k hk => ⟨?_, fun j hj => ?_, ?_⟩⟩
        · rw [gm_rw_k (by decide), gm_rw_k (by decide), gm_rw_k (by decide), gm_rw_k (by decide), gm_rw_k (by decide)]; exact s6.1
        · rw [gm_rw_o (by decide), gm_rw_o (by decide), gm_rw_o (by decide), gm_rw_o (by decide), gm_rw_o (by decide)]; exact (s6.2 k hk).1
        · rw [gm_rw_o (by decide), gm_rw_o (by decide), gm_rw_o (by decide), gm_rw_o (by decide), gm_rw_o (by decide)]; exact (s6.2 k hk).2.1 j hj
        · rw [gm_rw_o (by decide), gm_rw_o (by decide), gm_rw_o (by decide), gm_rw_o (by decide), gm_rw_o (by decide)]; exact (s6.2 k hk).2.2
      · obtain ⟨T, t1, t2, t3⟩ := hQ
        have old : ∀ o k, o = 104 ∨ o = 105 → gm_r (gm_w (gm_w (gm_w (gm_w (gm_w μ6 78 22 0) 78 23 0) 78 26 0) 78 27 0) 78 1 (gm_r μ6 78 1 + 1)) o k = gm_r μ o k := fun o k ho => by
          rw [gm_rw_o (by omega), gm_rw_o (by omega), gm_rw_o (by omega), gm_rw_o (by omega), gm_rw_o (by omega), d6.2 o k (by omega) (by omega) (by omega), gm_rw_o (by omega), gm_rw_o (by omega), m5.2 o k (by omega) (by omega)]
          exact same o k (by omega) (by omega)
        refine ⟨T + 1, by rw [gm_rw_s, h1, t1, nI_1], by omega, fun j hj => Or.inl ⟨?_, ?_⟩⟩
        · rw [out _ _ (by decide), lo _ _ (by simp [own]), ← hμ3, gm_rw_o (by decide)]
          by_cases e : j = 1
          · subst e; rw [gm_rw_s]
          · rw [gm_rw_k e]
            have e0 : j = 0 := by omega
            subst e0; rw [gm_rw_s]
        · rw [old 105 j (Or.inr rfl), old 104 j (Or.inl rfl)]
          rcases t3 j hj with ⟨_, u | ⟨a, u1, u2⟩⟩ | ⟨_, _, u, _⟩
          · exact Or.inl u
          · exact Or.inr ⟨a, by omega, u2⟩
          · exact Or.inr ⟨T, by omega, u⟩
      · have b0 : bst e 0 = 0 := rfl
        refine ⟨⟨?_, ?_, fun i hi => absurd hi (by omega), fun j hj => absurd hj (by omega)⟩, ⟨?_, ?_, ?_, ?_, fun j hj => absurd hj (by omega), fun i hi => absurd hi (by omega)⟩, hn, Nat.zero_le _, fun i hi => absurd hi (by omega), fun i j hi => absurd hi (by omega), fun j hj => absurd hj (by omega), by rw [b0]; exact Nat.le_refl _, by omega⟩
        · rw [out _ _ (by decide), lo _ _ (by decide), ← hμ3, gm_rw_o (by decide), gm_rw_o (by decide), gm_rw_o (by decide), gm_rw_k (by decide), gm_rw_s]; rfl
        · rw [out _ _ (by decide), lo _ _ (by decide), ← hμ3, gm_rw_o (by decide), gm_rw_o (by decide), gm_rw_o (by decide), gm_rw_s]; rfl
        · rw [gm_rw_k (by decide), gm_rw_k (by decide), gm_rw_k (by decide), gm_rw_k (by decide), gm_rw_s]; rfl
        · rw [gm_rw_k (by decide), gm_rw_k (by decide), gm_rw_k (by decide), gm_rw_s]; rfl
        · rw [gm_rw_k (by decide), gm_rw_k (by decide), gm_rw_s]; rfl
        · rw [gm_rw_k (by decide), gm_rw_s]; rfl
end PRSTORY
