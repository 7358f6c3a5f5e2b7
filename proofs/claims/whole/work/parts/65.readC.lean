/-! THE TEXT read: the class -/
section READC
variable {G : gC} {l : Launch} {μ : Mem} {t n i : Nat} {x : Nat → Nat} {c : Nat → Nat → Nat} {D : Nat → Nat}
theorem c_clear {P : Mem → Prop} (hn : n < 10) (h : ∀ μ', (μ'.1 = μ.1 ∧ ∀ o k, o ≠ 17 + 1 + n → gm_r μ' o k = gm_r μ o k) → (∀ u, u < 9 → gm_r μ' (17 + 1 + n) u = if u = 8 then -1 else 0) → P μ') : qX7_clearScene_16 G l (nI n) μ P := by
  have loop : ∀ d u μ', u + d = 9 → (μ'.1 = μ.1 ∧ ∀ o k, o ≠ 17 + 1 + n → gm_r μ' o k = gm_r μ o k) → (∀ u', u' < u → gm_r μ' (17 + 1 + n) u' = if u' = 8 then -1 else 0) → hX7_clearScene_16_2 G l P (nI n) (nI u) μ' := by
    intro d
    induction d with
    | zero =>
      intro u μ' hu f1 k1
      exact eX7_clearScene_16_2 ⟨fun _ => h μ' f1 (fun u' hu' => k1 u' (by omega)), fun q => absurd (by rw [show u = 9 by omega]; exact Int32.le_refl _) q⟩
    | succ d ih =>
      intro u μ' hu f1 k1
      refine eX7_clearScene_16_2 ⟨fun q => absurd q (by rw [show (9 : Int32) = nI 9 from rfl, nI_leI (by decide) (by omega)]; omega), fun _ => ?_⟩
      rw [show (8 : Int32) = nI 8 from rfl, nI_eq (by omega) (by decide), nI_1]
      have step : ∀ y : Int32, y = (if u = 8 then -1 else 0) → hX7_clearScene_16_2 G l P (nI n) (nI (u + 1)) (gm_w μ' (17 + 1 + n) u y) := fun y hy => by
        refine ih (u + 1) _ (by omega) ⟨f1.1, fun o k ho => by rw [gm_rw_o ho]; exact f1.2 o k ho⟩ (fun u' hu' => ?_)
        by_cases e : u' = u
        · subst e; rw [gm_rw_s, hy]
        · rw [gm_rw_k e]; exact k1 u' (by omega)
      exact ⟨fun q => c_put16 hn (by omega) (step _ (by rw [if_neg q])), fun q => c_put16 hn (by omega) (step _ (by rw [if_pos q]))⟩
  exact eX7_clearScene_16 (loop 9 0 μ (by omega) ⟨rfl, fun _ _ _ => rfl⟩ (fun u' hu' => absurd hu' (by omega)))
theorem SK_cz (h : SK n c D) (hn : n < 10) : NB n (cz n c) (dz n D) ∧ SK n (cz n c) (dz n D) := by
  refine ⟨⟨hn, fun k u hk hu => ?_, fun k hk => ?_⟩, h.1, fun k hk => ?_⟩
  · unfold cz
    by_cases e : k = n
    · rw [if_pos e]; omega
    · rw [if_neg e]; exact SKb h (by omega) hu
  · unfold dz
    by_cases e : k = n
    · rw [if_pos e]; omega
    · rw [if_neg e]; exact (h.2 k (by omega)).2.2.2.2.2.2.2.2
  · have e1 : ∀ u, cz n c k u = c k u := fun u => by unfold cz; rw [if_neg (by omega)]
    have e2 : dz n D k = D k := by unfold dz; rw [if_neg (by omega)]
    rw [e1, e1, e1, e1, e1, e1, e1, e1, e2]
    exact h.2 k hk
/-- behind the first number of a clause -/
theorem CI_first {j k : Nat} (h : SK n c D) (hn : n < 10) (hF : nF x 0 n (cz n c) (dz n D) j k = 0) : CI n 0 (nC 0 n (vlu x j k) (cz n c)) (nD 0 n (vlu x j k) (dz n D)) := by
  obtain ⟨k1, k2, k3, k4, _⟩ := nF_ok hF
  have hz : ∀ u, cz n c n u = 0 := fun u => by unfold cz; rw [if_pos rfl]
  have hg : gr 0 = 99 := rfl
  have hv := k4 rfl
  generalize vlu x j k = v at *
  have e0 : nC 0 n v (cz n c) n 0 = v := nC_num (by decide)
  have e1 : ∀ u, u ≠ 0 → nC 0 n v (cz n c) n u = 0 := fun u hu => by rw [nC_ne hu (by omega)]; exact hz u
  have eD : nD 0 n v (dz n D) n = 0 := by rw [nD_ne (by decide)]; unfold dz; rw [if_pos rfl]
  have hp := Nat.two_pow_pos n
  refine ⟨hn, SK_num (SK_cz h hn).2, ?_, fun u hu _ => e1 u (by omega), fun _ => eD⟩
  rw [e0, e1 1 (by decide), e1 2 (by decide), e1 3 (by decide), e1 4 (by decide), e1 5 (by decide), e1 6 (by decide), e1 7 (by decide), eD]
  omega
theorem CZ.cr {μ' : Mem} {i' : Nat} (h : CZ i n c D μ) (hn : n < 10) (hf : μ'.1 = μ.1 ∧ ∀ o k, o ≠ 17 + 1 + n → ¬ (o = 3 ∧ k = 2) → gm_r μ' o k = gm_r μ o k) (hi : gm_r μ' 3 2 = nI i') (hr : ∀ u, u < 9 → gm_r μ' (17 + 1 + n) u = if u = 8 then -1 else 0) : CR i' n (cz n c) (dz n D) μ' := by
  obtain ⟨h1, h2, h3, h4, h5, h6, h7, h8, h9⟩ := h
  have eu : ∀ u, ur (cz n c) u (n + 1) = ur c u n := fun u => by
    show ur (cz n c) u n ||| cz n c n u = _
    rw [ur_congr (c := cz n c) (c' := c) n (fun k hk => by unfold cz; rw [if_neg (by omega)])]
    unfold cz
    rw [if_pos rfl, Nat.or_zero]
  have ed : dr (dz n D) (n + 1) = dr D n := by
    show (if dz n D n = 0 then dr (dz n D) n else _) = _
    rw [if_pos (by unfold dz; rw [if_pos rfl]), dr_congr (D := dz n D) (D' := D) n (fun k hk => by unfold dz; rw [if_neg (by omega)])]
  refine ⟨?_, hi, ?_, ?_, ?_, ?_, ?_, ?_, fun k hk => ⟨fun u hu => ?_, ?_⟩⟩
  · rw [hf.2 _ _ (by omega) (by decide)]; exact h1
  · rw [hf.2 _ _ (by omega) (by decide)]; exact h3
  · rw [hf.2 _ _ (by omega) (by decide)]; exact h4
  · rw [hf.2 _ _ (by omega) (by decide), eu]; exact h5
  · rw [hf.2 _ _ (by omega) (by decide), eu]; exact h6
  · rw [hf.2 _ _ (by omega) (by decide), ed]; exact h7
  · rw [hf.2 _ _ (by omega) (by decide)]; exact h8
  · unfold cz
    by_cases e : k = n
    · subst e; rw [if_pos rfl, hr u (by omega), if_neg (by omega)]; rfl
    · rw [if_neg e, hf.2 _ _ (by omega) (by omega)]; exact (h9 k (by omega)).1 u hu
  · unfold dz
    by_cases e : k = n
    · subst e; rw [if_pos rfl, hr 8 (by omega), if_pos rfl]; rfl
    · rw [if_neg e, hf.2 _ _ (by omega) (by omega)]; exact (h9 k (by omega)).2
theorem c_scene {P : Mem → Prop} (hK : SK n c D) (hT : TXC t x μ) (hi : i ≤ t) (hR : CZ i n c D μ) (hf : (SF t x n i c D).1 ≠ 0 → ∀ μ', CF μ μ' → gm_r μ' 3 3 = nI (SF t x n i c D).1 → gm_r μ' 3 4 = nI (SF t x n i c D).2.1 → (SF t x n i c D).1 ≤ 7 → P μ') (hok : (SF t x n i c D).1 = 0 → ∀ μ', CF μ μ' → (SF t x n i c D).2.2.1 ≤ t → SK (n + 1) (SF t x n i c D).2.2.2.1 (SF t x n i c D).2.2.2.2 → CZ (SF t x n i c D).2.2.1 (n + 1) (SF t x n i c D).2.2.2.1 (SF t x n i c D).2.2.2.2 μ' → P μ') : qX4_readClause G l μ P := by
  have ht := hT.2.1
  have hn10 := hK.1
  have hwl : we t x i ≤ t := (rn_ok (t := t) (p := isLt x) hi).2.1
  have eS : SF t x n i c D = if wdF x i (we t x i) ≠ 1 then (1, i, i, c, D) else if 10 ≤ n then (5, i, i, c, D) else if nF x 0 n (cz n c) (dz n D) (sk t x (we t x i)) (de t x (sk t x (we t x i))) ≠ 0 then (nF x 0 n (cz n c) (dz n D) (sk t x (we t x i)) (de t x (sk t x (we t x i))), sk t x (we t x i), i, c, D) else QF t x n 9 0 (de t x (sk t x (we t x i))) (nC 0 n (vlu x (sk t x (we t x i)) (de t x (sk t x (we t x i)))) (cz n c)) (nD 0 n (vlu x (sk t x (we t x i)) (de t x (sk t x (we t x i)))) (dz n D)) := rfl
  rw [eS] at hf hok
  have bad : wdF x i (we t x i) ≠ 1 → ∀ μ2, A2 μ μ2 → qX4_fail G l (1 : Int32) (gm_r μ 3 2) μ2 (fun μ12 => P μ12) := fun z μ2 a2 => by
    rw [if_pos z] at hf
    exact eX4_fail (hf Nat.one_ne_zero _ ((a2.cf.w (Or.inl rfl)).w (Or.inl rfl)) (by rw [gm_rw_k (by decide), gm_rw_s]; rfl) (by rw [gm_rw_s]; exact hR.2.1) (by show 1 ≤ 7; decide))
  refine eX4_readClause (c_takeWord hT hi hR.2.1 (fun z => ⟨fun y => absurd y (by decide), fun _ => bad (by omega) μ A2.rfl⟩) (fun w hw hw9 μ1 a1 g1 => ?_))
  rw [nI_z (by omega)]
  refine ⟨fun z => ?_, fun z => bad (by omega) μ1 a1⟩
  subst z
  rw [if_neg (fun y => y hw)] at hf hok
  have h31 : gm_r μ1 3 1 = gm_r μ 3 1 := a1.2 _ _ (by decide)
  have h161 : gm_r μ1 16 1 = nI n := by rw [a1.2 _ _ (by decide)]; exact hR.2.2.2.2.2.2.2.1
  rw [h31, h161, show (10 : Int32) = nI 10 from rfl, nI_ltI (by omega) (by decide)]
  refine ⟨hR.1, fun hn => c_clear hn (fun μ2 f2 k2 => ?_), fun hn => ?_⟩
  · rw [if_neg (by omega)] at hf hok
    have hcf2 : CF μ μ2 := ⟨f2.1.trans a1.1, fun o k q1 q2 => (f2.2 o k (by omega)).trans (a1.2 o k (fun z => q1 z.1))⟩
    have r2 : CR (we t x i) n (cz n c) (dz n D) μ2 := hR.cr hn ⟨f2.1.trans a1.1, fun o k q1 q2 => (f2.2 o k q1).trans (a1.2 o k q2)⟩ (by rw [f2.2 _ _ (by omega)]; exact g1) k2
    have hN := SK_cz hK hn
    refine c_number (w := 0) (hT.cf hcf2) hwl (by decide) hN.1 r2 (fun z => by omega) (fun q μ3 c3 g3 g4 => ?_) (fun q μ3 c3 r3 => ?_)
    · rw [if_pos q] at hf
      have hle := nF_le (x := x) (w := 0) (n := n) (c := cz n c) (D := dz n D) (i := sk t x (we t x i)) (j := de t x (sk t x (we t x i)))
      have hP := hf q μ3 (hcf2.trans c3) g3 g4 hle
      refine eX4_readClause_61 ⟨fun _ => hP, fun _ => ⟨fun _ => hP, fun y => absurd y ?_⟩⟩
      rw [g3, nI_z (by omega)]
      exact q
    · rw [if_neg (fun y => y q)] at hf hok
      have hs : sk t x (we t x i) ≤ t := (rn_ok (t := t) (p := isBl x) hwl).2.1
      have hde : de t x (sk t x (we t x i)) ≤ t := (rn_ok (t := t) (p := isDg x) hs).2.1
      exact c_clause 9 0 0 _ _ _ μ3 (by omega) (by omega) (by omega) hde (CI_first hK hn q) (hT.cf (hcf2.trans c3)) r3 (fun y μ4 c4 => hf y μ4 ((hcf2.trans c3).trans c4)) (fun y μ4 c4 => hok y μ4 ((hcf2.trans c3).trans c4))
  · rw [if_pos (by omega)] at hf
    exact eX4_fail (hf (by show 5 ≠ 0; decide) _ ((a1.cf.w (Or.inl rfl)).w (Or.inl rfl)) (by rw [gm_rw_k (by decide), gm_rw_s]; rfl) (by rw [gm_rw_s]; exact hR.2.1) (by show 5 ≤ 7; decide))
theorem HF_succ {d : Nat} : HF t x (d + 1) n i c D = if ¬ sk t x i < t then (0, 0, n, c, D) else if (SF t x n (sk t x i) c D).1 ≠ 0 then ((SF t x n (sk t x i) c D).1, (SF t x n (sk t x i) c D).2.1, n, c, D) else HF t x d (n + 1) (SF t x n (sk t x i) c D).2.2.1 (SF t x n (sk t x i) c D).2.2.2.1 (SF t x n (sk t x i) c D).2.2.2.2 := rfl
theorem CZ.a2 {i' : Nat} {μ' : Mem} (h : CZ i n c D μ) (ha : A2 μ μ') (hi : gm_r μ' 3 2 = nI i') : CZ i' n c D μ' := by
  obtain ⟨h1, h2, h3, h4, h5, h6, h7, h8, h9⟩ := h
  refine ⟨?_, hi, ?_, ?_, ?_, ?_, ?_, ?_, fun k hk => ⟨fun u hu => ?_, ?_⟩⟩
  · rw [ha.2 _ _ (by decide)]; exact h1
  · rw [ha.2 _ _ (by decide)]; exact h3
  · rw [ha.2 _ _ (by decide)]; exact h4
  · rw [ha.2 _ _ (by decide)]; exact h5
  · rw [ha.2 _ _ (by decide)]; exact h6
  · rw [ha.2 _ _ (by decide)]; exact h7
  · rw [ha.2 _ _ (by decide)]; exact h8
  · rw [ha.2 _ _ (by omega)]; exact (h9 k hk).1 u hu
  · rw [ha.2 _ _ (by omega)]; exact (h9 k hk).2
theorem c_story {P : Int32 → Mem → Prop} : ∀ d n i c D μ, n + d = 11 → SK n c D → i ≤ t → TXC t x μ → CZ i n c D μ → ((HF t x d n i c D).1 ≠ 0 → ∀ μ', CF μ μ' → gm_r μ' 3 4 = nI (HF t x d n i c D).2.1 → (HF t x d n i c D).1 ≤ 7 → P (nI (HF t x d n i c D).1) μ') → ((HF t x d n i c D).1 = 0 → ∀ μ' i', CF μ μ' → SK (HF t x d n i c D).2.2.1 (HF t x d n i c D).2.2.2.1 (HF t x d n i c D).2.2.2.2 → CZ i' (HF t x d n i c D).2.2.1 (HF t x d n i c D).2.2.2.1 (HF t x d n i c D).2.2.2.2 μ' → P 0 μ') → hX4_read_45 G l P (nI n) μ := by
  intro d
  induction d with
  | zero => intro n i c D μ h1 h2; have := h2.1; omega
  | succ d ih =>
    intro n i c D μ hd hK hi hT hR hf hok
    have ht := hT.2.1
    have hn := hK.1
    have hs : sk t x i ≤ t := (rn_ok (t := t) (p := isBl x) hi).2.1
    rw [HF_succ] at hf hok
    refine eX4_read_45 ⟨fun z => absurd z (nI_nlt (b := n) (a := 10) (by omega) (by omega)), fun _ => ⟨fun z => absurd hR.2.2.1 z, fun _ => c_skip hT hi hR.2.1 (fun μ1 a1 g1 => ?_)⟩⟩
    have hT1 := hT.cf a1.cf
    have r1 := hR.a2 a1 g1
    rw [g1, hT1.1, nI_ltI (by omega) (by omega)]
    refine ⟨fun z => ?_, fun z => ?_⟩
    · rw [if_neg (fun y => y z)] at hf hok
      refine c_scene hK hT1 hs r1 (fun y μ2 c2 g2 g3 g4 => ?_) (fun y μ2 c2 k1 k2 k3 => ?_)
      · rw [if_pos y] at hf
        have hP := hf y μ2 (a1.cf.trans c2) g3 g4
        have hP' : P (gm_r μ2 3 3) μ2 := by rw [g2]; exact hP
        refine eX4_read_45 ⟨fun _ => hP', fun _ => ⟨fun _ => hP', fun u => absurd u ?_⟩⟩
        rw [g2, nI_z (by omega)]
        exact y
      · rw [if_neg (fun u => u y)] at hf hok
        rw [nI_1]
        exact ih (n + 1) _ _ _ μ2 (by omega) k2 k1 (hT1.cf c2) k3 (fun u μ3 c3 => hf u μ3 ((a1.cf.trans c2).trans c3)) (fun u μ3 i' c3 => hok u μ3 i' ((a1.cf.trans c2).trans c3))
    · rw [if_pos z] at hok
      exact hok rfl μ1 _ a1.cf hK r1
def zC : Nat → Nat → Nat := fun _ _ => 0
def zD : Nat → Nat := fun _ => 0
theorem c_read {P : Int32 → Mem → Prop} (hT : TXC t x μ) (hf : (HF t x 11 0 0 zC zD).1 ≠ 0 → ∀ μ', CF μ μ' → gm_r μ' 3 4 = nI (HF t x 11 0 0 zC zD).2.1 → (HF t x 11 0 0 zC zD).1 ≤ 7 → P (nI (HF t x 11 0 0 zC zD).1) μ') (hok : (HF t x 11 0 0 zC zD).1 = 0 → ∀ μ' i', CF μ μ' → SK (HF t x 11 0 0 zC zD).2.2.1 (HF t x 11 0 0 zC zD).2.2.2.1 (HF t x 11 0 0 zC zD).2.2.2.2 → CZ i' (HF t x 11 0 0 zC zD).2.2.1 (HF t x 11 0 0 zC zD).2.2.2.1 (HF t x 11 0 0 zC zD).2.2.2.2 μ' → P 0 μ') : qX4_read G l μ P := by
  refine eX4_read ⟨by decide, ?_⟩
  have c0 : CF μ (gm_w (gm_w (gm_w (gm_w (gm_w (gm_w (gm_w (gm_w μ 3 1 1) 16 1 0) 3 2 0) 3 3 0) 3 4 (-1)) 3 5 0) 3 6 0) 3 7 0) := (((((((CF.rfl.w (Or.inl rfl)).w (Or.inr (by decide))).w (Or.inl rfl)).w (Or.inl rfl)).w (Or.inl rfl)).w (Or.inl rfl)).w (Or.inl rfl)).w (Or.inl rfl)
  refine c_story 11 0 0 zC zD _ (by omega) ⟨by decide, fun k hk => absurd hk (by omega)⟩ (Nat.zero_le _) (hT.cf c0) ⟨?_, ?_, ?_, ?_, ?_, ?_, ?_, ?_, fun k hk => absurd hk (by omega)⟩ (fun u μ3 c3 => hf u μ3 (c0.trans c3)) (fun u μ3 i' c3 => hok u μ3 i' (c0.trans c3))
  · rw [gm_rw_k (by decide), gm_rw_k (by decide), gm_rw_k (by decide), gm_rw_k (by decide), gm_rw_k (by decide), gm_rw_k (by decide), gm_rw_o (by decide), gm_rw_s]; decide
  · rw [gm_rw_k (by decide), gm_rw_k (by decide), gm_rw_k (by decide), gm_rw_k (by decide), gm_rw_k (by decide), gm_rw_s]; rfl
  · rw [gm_rw_k (by decide), gm_rw_k (by decide), gm_rw_k (by decide), gm_rw_k (by decide), gm_rw_s]
  · rw [gm_rw_k (by decide), gm_rw_k (by decide), gm_rw_k (by decide), gm_rw_s]
  · rw [gm_rw_k (by decide), gm_rw_k (by decide), gm_rw_s]; rfl
  · rw [gm_rw_k (by decide), gm_rw_s]; rfl
  · rw [gm_rw_s]; rfl
  · rw [gm_rw_o (by decide), gm_rw_o (by decide), gm_rw_o (by decide), gm_rw_o (by decide), gm_rw_o (by decide), gm_rw_o (by decide), gm_rw_s]; rfl
end READC
