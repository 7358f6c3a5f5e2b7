/-! a number taken: the class -/
section TAKEC
variable {G : gC} {l : Launch} {μ : Mem} {t n w i j v : Nat} {x : Nat → Nat} {c : Nat → Nat → Nat} {D : Nat → Nat}
def CC (n : Nat) (c : Nat → Nat → Nat) (D : Nat → Nat) (μ : Mem) : Prop := ∀ k, k ≤ n → (∀ u, u < 8 → gm_r μ (17 + 1 + k) u = nI (c k u)) ∧ gm_r μ (17 + 1 + k) 8 = nI (D k) - 1
theorem CC.put {c' : Nat → Nat → Nat} {D' : Nat → Nat} (h : CC n c D μ) {u : Nat} {y : Int32} (hc : ∀ k u', k ≤ n → u' < 8 → ¬ (k = n ∧ u' = u) → c' k u' = c k u') (hy : u < 8 → y = nI (c' n u)) (hd : ∀ k, k ≤ n → ¬ (k = n ∧ u = 8) → D' k = D k) (hy8 : u = 8 → y = nI (D' n) - 1) : CC n c' D' (gm_w μ (17 + 1 + n) u y) := by
  intro k hk
  refine ⟨fun u' hu' => ?_, ?_⟩
  · by_cases e : k = n ∧ u' = u
    · obtain ⟨rfl, rfl⟩ := e
      rw [gm_rw_s]; exact hy hu'
    · have hne : ¬ (17 + 1 + k = 17 + 1 + n ∧ u' = u) := fun z => e ⟨by omega, z.2⟩
      rw [gm_rw, if_neg hne, hc k u' hk hu' e]
      exact (h k hk).1 u' hu'
  · by_cases e : k = n ∧ u = 8
    · obtain ⟨rfl, rfl⟩ := e
      rw [gm_rw_s]; exact hy8 rfl
    · have hne : ¬ (17 + 1 + k = 17 + 1 + n ∧ 8 = u) := fun z => e ⟨by omega, z.2.symm⟩
      rw [gm_rw, if_neg hne, hd k hk e]
      exact (h k hk).2
theorem CC.three {k : Nat} {y : Int32} (h : CC n c D μ) : CC n c D (gm_w μ 3 k y) := fun k' hk => ⟨fun u hu => by rw [gm_rw_o (by omega)]; exact (h k' hk).1 u hu, by rw [gm_rw_o (by omega)]; exact (h k' hk).2⟩
theorem c_include {P : Mem → Prop} {u : Nat} (hn : n < 10) (hu : u < 9) (hv : v < 31) {s : Nat} (hs : gm_r μ (17 + 1 + n) u = nI s) (h : P (gm_w μ (17 + 1 + n) u (nI (s ||| 2 ^ v)))) : qX7_include_16 G l (nI n) (nI u) (nI v) μ P := by
  refine eX7_include_16 ⟨fun q => absurd q (nI_pos (by omega)), fun _ => ⟨fun q => absurd q (nI_ge (b := 10) (by omega) (by decide)), fun _ => ⟨fun q => absurd q (nI_pos (by omega)), fun _ => ⟨fun q => absurd q (nI_ge (b := 9) (by omega) (by decide)), fun _ => ⟨vp_in_nI (by omega) (by decide), vp_in_nI (by omega) (by decide), ?_⟩⟩⟩⟩⟩
  rw [nI_clamp (by omega), nI_clamp (by omega), hs, nI_bit1 hv, nI_or]
  exact h
theorem c_take {P : Mem → Prop} (hw : w < 9) (hN : NB n c D) (hR : CR j n c D μ) (hv : v ≤ gr w) (hD : w = 8 → D n = 0) (h : ∀ μ', CF μ μ' → CR j n (nC w n v c) (nD w n v D) μ' → P μ') : qX4_take G l (nI w) (nI v) μ P := by
  obtain ⟨g0, g1, g2, g3⟩ := grt_ok w hw
  obtain ⟨h1, h2, h3, h4, h5, h6, h7, h8, h9⟩ := hR
  have hn := hN.1
  have urn : ∀ u, u ≠ w → ¬ (u = 2 ∧ w = 8) → ur (nC w n v c) u (n + 1) = ur c u (n + 1) := fun u q1 q2 => ur_congr (n + 1) (fun k hk => by
    by_cases e : k = n
    · subst e; exact nC_ne q1 q2
    · exact nC_old e)
  have urw : 2 ≤ w ∧ w ≤ 7 → ur (nC w n v c) w (n + 1) = ur c w (n + 1) ||| 2 ^ v := fun q => by
    show ur (nC w n v c) w n ||| nC w n v c n w = (ur c w n ||| c n w) ||| 2 ^ v
    rw [nC_lst q, ur_congr (c := nC w n v c) (c' := c) n (fun k hk => nC_old (by omega)), Nat.or_assoc]
  refine eX4_take (t7_isList hw ?_)
  by_cases hl : 2 ≤ w ∧ w ≤ 7
  · rw [if_pos hl]
    have hv9 := g2 hl.1
    refine ⟨fun z => absurd z (by decide), fun _ => ⟨h1, ?_⟩⟩
    rw [h8]
    refine c_include hn hw (by omega) ((h9 n (Nat.le_refl _)).1 w (by omega)) (eX4_take_42 ?_)
    have cc : CC n (nC w n v c) (nD w n v D) (gm_w μ (17 + 1 + n) w (nI (c n w ||| 2 ^ v))) := by
      rw [nD_ne (by omega)]
      refine CC.put h9 (fun k u' hk hu' hne => ?_) (fun _ => by rw [nC_lst hl]) (fun _ _ _ => rfl) (fun z => by omega)
      by_cases e : k = n
      · subst e; exact nC_ne (fun z => hne ⟨rfl, z⟩) (by omega)
      · exact nC_old e
    have hcf : CF μ (gm_w μ (17 + 1 + n) w (nI (c n w ||| 2 ^ v))) := CF.rfl.w (Or.inr (by omega))
    rw [show (4 : Int32) = nI 4 from rfl, show (5 : Int32) = nI 5 from rfl, show (8 : Int32) = nI 8 from rfl, nI_eq (by omega) (by decide), nI_eq (by omega) (by decide), nI_eq (by omega) (by decide), nI_bit1 (by omega)]
    refine ⟨fun z4 => ⟨fun z5 => ⟨fun z8 => h _ hcf ⟨?_, ?_, ?_, ?_, ?_, ?_, ?_, ?_, cc⟩, fun z8 => by omega⟩, fun z5 => h _ (hcf.w (Or.inl rfl)) ⟨?_, ?_, ?_, ?_, ?_, ?_, ?_, ?_, cc.three⟩⟩, fun z4 => h _ (hcf.w (Or.inl rfl)) ⟨?_, ?_, ?_, ?_, ?_, ?_, ?_, ?_, cc.three⟩⟩
    · rw [gm_rw_o (by omega)]; exact h1
    · rw [gm_rw_o (by omega)]; exact h2
    · rw [gm_rw_o (by omega)]; exact h3
    · rw [gm_rw_o (by omega)]; exact h4
    · rw [gm_rw_o (by omega), urn 4 (by omega) (by omega)]; exact h5
    · rw [gm_rw_o (by omega), urn 5 (by omega) (by omega)]; exact h6
    · rw [gm_rw_o (by omega), nD_ne (by omega)]; exact h7
    · rw [gm_rw_o (by omega)]; exact h8
    · rw [gm_rw_k (by decide), gm_rw_o (by omega)]; exact h1
    · rw [gm_rw_k (by decide), gm_rw_o (by omega)]; exact h2
    · rw [gm_rw_k (by decide), gm_rw_o (by omega)]; exact h3
    · rw [gm_rw_k (by decide), gm_rw_o (by omega)]; exact h4
    · rw [gm_rw_k (by decide), gm_rw_o (by omega), urn 4 (by omega) (by omega)]; exact h5
    · have e5 := urw hl
      rw [z5] at e5
      rw [gm_rw_s, gm_rw_o (by omega), h6, nI_or, z5, e5]
    · rw [gm_rw_k (by decide), gm_rw_o (by omega), nD_ne (by omega)]; exact h7
    · rw [gm_rw_o (by decide), gm_rw_o (by omega)]; exact h8
    · rw [gm_rw_k (by decide), gm_rw_o (by omega)]; exact h1
    · rw [gm_rw_k (by decide), gm_rw_o (by omega)]; exact h2
    · rw [gm_rw_k (by decide), gm_rw_o (by omega)]; exact h3
    · rw [gm_rw_k (by decide), gm_rw_o (by omega)]; exact h4
    · have e4 := urw hl
      rw [z4] at e4
      rw [gm_rw_s, gm_rw_o (by omega), h5, nI_or, z4, e4]
    · rw [gm_rw_k (by decide), gm_rw_o (by omega), urn 5 (by omega) (by omega)]; exact h6
    · rw [gm_rw_k (by decide), gm_rw_o (by omega), nD_ne (by omega)]; exact h7
    · rw [gm_rw_o (by decide), gm_rw_o (by omega)]; exact h8
  · rw [if_neg hl]
    refine ⟨fun _ => ⟨h1, ?_⟩, fun z => absurd rfl z⟩
    rw [h8]
    refine c_put16 hn hw (eX4_take_42 ?_)
    have hcf : CF μ (gm_w μ (17 + 1 + n) w (nI v)) := CF.rfl.w (Or.inr (by omega))
    have r3 : ∀ k, gm_r (gm_w μ (17 + 1 + n) w (nI v)) 3 k = gm_r μ 3 k := fun k => gm_rw_o (by omega)
    have r16 : gm_r (gm_w μ (17 + 1 + n) w (nI v)) 16 1 = gm_r μ 16 1 := gm_rw_o (by omega)
    rw [show (4 : Int32) = nI 4 from rfl, show (5 : Int32) = nI 5 from rfl, show (8 : Int32) = nI 8 from rfl, nI_eq (by omega) (by decide), nI_eq (by omega) (by decide), nI_eq (by omega) (by decide)]
    refine ⟨fun z4 => ⟨fun z5 => ⟨fun z8 => h _ hcf ⟨?_, ?_, ?_, ?_, ?_, ?_, ?_, ?_, ?_⟩, fun z8 => ?_⟩, fun z5 => by omega⟩, fun z4 => by omega⟩
    · rw [r3]; exact h1
    · rw [r3]; exact h2
    · rw [r3]; exact h3
    · rw [r3]; exact h4
    · rw [r3, urn 4 (by omega) (by omega)]; exact h5
    · rw [r3, urn 5 (by omega) (by omega)]; exact h6
    · rw [r3, nD_ne (by omega)]; exact h7
    · rw [r16]; exact h8
    · rw [nD_ne (by omega)]
      refine CC.put h9 (fun k u' hk hu' hne => ?_) (fun _ => by rw [nC_num (by omega)]) (fun _ _ _ => rfl) (fun z => by omega)
      by_cases e : k = n
      · subst e; exact nC_ne (fun z => hne ⟨rfl, z⟩) (by omega)
      · exact nC_old e
    · subst z8
      have hv7 := g3 (by decide) (by decide)
      have hD0 := hD rfl
      have r3' : ∀ y k, k ≠ 7 → gm_r (gm_w (gm_w μ (17 + 1 + n) 8 (nI v)) 3 7 y) 3 k = gm_r μ 3 k := fun y k hk => by rw [gm_rw_k hk, r3]
      have hb := (h9 n (Nat.le_refl _)).1 2 (by decide)
      refine ⟨by rw [r3]; exact h1, ?_⟩
      rw [r16, h8]
      refine c_include (u := 2) (s := c n 2) hn (by decide) (by omega) (by rw [gm_rw_o (by omega), gm_rw_k (by decide)]; exact hb) (h _ ((hcf.w (Or.inl rfl)).w (Or.inr (by omega))) ⟨?_, ?_, ?_, ?_, ?_, ?_, ?_, ?_, ?_⟩)
      · rw [gm_rw_o (by omega), r3' _ 1 (by decide)]; exact h1
      · rw [gm_rw_o (by omega), r3' _ 2 (by decide)]; exact h2
      · rw [gm_rw_o (by omega), r3' _ 3 (by decide)]; exact h3
      · rw [gm_rw_o (by omega), r3' _ 4 (by decide)]; exact h4
      · rw [gm_rw_o (by omega), r3' _ 5 (by decide), urn 4 (by omega) (by omega)]; exact h5
      · rw [gm_rw_o (by omega), r3' _ 6 (by decide), urn 5 (by omega) (by omega)]; exact h6
      · rw [gm_rw_o (by omega), gm_rw_s, r3, h7, nI_bit1 (by omega), nI_or]
        congr 1
        show (if D n = 0 then dr D n else _) ||| 2 ^ v = if nD 8 n v D n = 0 then _ else dr (nD 8 n v D) n ||| 2 ^ (nD 8 n v D n - 1)
        rw [if_pos hD0, nD_die, if_neg (by omega), dr_congr (D := nD 8 n v D) (D' := D) n (fun k hk => nD_old (by omega)), Nat.add_sub_cancel]
      · rw [gm_rw_o (by omega), gm_rw_o (by decide), r16]; exact h8
      · have cc1 : CC n c (nD 8 n v D) (gm_w μ (17 + 1 + n) 8 (nI v)) := CC.put h9 (fun _ _ _ _ _ => rfl) (fun z => by omega) (fun k hk hne => nD_old (fun z => hne ⟨z, rfl⟩)) (fun _ => by rw [nD_die, nI_pred])
        refine CC.put cc1.three (fun k u' hk hu' hne => ?_) (fun _ => by rw [nC_die]) (fun _ _ _ => rfl) (fun z => by omega)
        by_cases e : k = n
        · subst e; exact nC_ne (by omega) (fun z => hne ⟨rfl, z.1⟩)
        · exact nC_old e
theorem fig_I : ∀ a, a < 10 → (nI a - nI a / (100 : Int32) * (100 : Int32)) * (10 : Int32) = nI (10 * a) := by decide +kernel
theorem c_number {P : Mem → Prop} (hT : TXC t x μ) (hi : i ≤ t) (hw : w < 9) (hN : NB n c D) (hR : CR i n c D μ) (hD : w = 8 → D n = 0) (hf : nF x w n c D (sk t x i) (de t x (sk t x i)) ≠ 0 → ∀ μ', CF μ μ' → gm_r μ' 3 3 = nI (nF x w n c D (sk t x i) (de t x (sk t x i))) → gm_r μ' 3 4 = nI (sk t x i) → P μ') (hok : nF x w n c D (sk t x i) (de t x (sk t x i)) = 0 → ∀ μ', CF μ μ' → CR (de t x (sk t x i)) n (nC w n (vlu x (sk t x i) (de t x (sk t x i))) c) (nD w n (vlu x (sk t x i) (de t x (sk t x i))) D) μ' → P μ') : qX4_readNumber G l (nI w) μ P := by
  have ht := hT.2.1
  have hs : sk t x i ≤ t := (rn_ok (t := t) (p := isBl x) hi).2.1
  have hdg := rn_ok (t := t) (p := isDg x) hs
  have hall : ∀ k, sk t x i ≤ k → k < de t x (sk t x i) → 48 ≤ x k ∧ x k ≤ 57 := fun k h1 h2 => by
    have := hdg.2.2.2 k h1 h2
    unfold isDg at this
    simpa using this
  have hde : sk t x i ≤ de t x (sk t x i) ∧ de t x (sk t x i) ≤ t := ⟨hdg.1, hdg.2.1⟩
  refine eX4_readNumber (c_skip hT hi hR.2.1 (fun μ1 a1 g1 => ?_))
  rw [g1]
  have fin : ∀ k y μ', k = de t x (sk t x i) → A2 μ μ' → gm_r μ' 3 2 = nI k → VR x (sk t x i) (k - sk t x i) y → hX4_readNumber_93 G l P (nI w) (nI (sk t x i)) y μ' := by
    intro k y μ' hk a2 g2 hy
    subst hk
    have hR2 := hR.a2 a2 g2
    refine eX4_readNumber_93 ?_
    rw [g2, pk_sub hde.1]
    refine c_faultOf (i := sk t x i) (j := de t x (sk t x i)) (fun k h1 h2 => hall k h1 (by omega)) (by omega) hw hN hR2 hy ?_
    rw [show sk t x i + (de t x (sk t x i) - sk t x i) = de t x (sk t x i) by omega]
    have hle := nF_le (x := x) (w := w) (n := n) (c := c) (D := D) (i := sk t x i) (j := de t x (sk t x i))
    rw [nI_z (by omega)]
    refine ⟨fun q => ?_, fun q => eX4_fail (hf q _ ((a2.cf.w (Or.inl rfl)).w (Or.inl rfl)) ?_ ?_)⟩
    · obtain ⟨k1, k2, k3, _⟩ := nF_ok q
      have ey : y = nI (vlu x (sk t x i) (de t x (sk t x i))) := by
        unfold vlu
        by_cases e : de t x (sk t x i) = sk t x i + 1
        · rw [if_pos e]; exact hy.2.1 (by omega)
        · rw [if_neg e]; exact hy.2.2 (by omega)
      rw [ey]
      exact c_take hw hN hR2 k3 hD (fun μ3 c3 r3 => hok q μ3 (a2.cf.trans c3) r3)
    · rw [gm_rw_k (by decide), gm_rw_s]
    · rw [gm_rw_s]
  have loop : ∀ d k y μ', k + d = t → sk t x i ≤ k → de t x k = de t x (sk t x i) → A2 μ μ' → gm_r μ' 3 2 = nI k → VR x (sk t x i) (k - sk t x i) y → hX4_readNumber_11 G l P (nI w) (nI (sk t x i)) y μ' := by
    intro d
    induction d with
    | zero =>
      intro k y μ' hk hle he a2 g2 hy
      have e1 : de t x k = k := rn_stop (by omega)
      refine eX4_readNumber_11 ?_
      rw [g2, (hT.cf a2.cf).1, nI_leI (by omega) (by omega)]
      exact ⟨fun _ => fin k y μ' (by rw [← he, e1]) a2 g2 hy, fun q => absurd (by omega) q⟩
    | succ d ih =>
      intro k y μ' hk hle he a2 g2 hy
      have hx := (hT.2.2 k (by omega)).2
      have stop : ¬ (48 ≤ x k ∧ x k ≤ 57) → hX4_readNumber_93 G l P (nI w) (nI (sk t x i)) y μ' := fun z => by
        have e1 : de t x k = k := rn_stop (fun y => z (by have := y.2; unfold isDg at this; simpa using this))
        exact fin k y μ' (by rw [← he, e1]) a2 g2 hy
      have hT2 := hT.cf a2.cf
      refine eX4_readNumber_11 ?_
      rw [g2, hT2.1, nI_leI (by omega) (by omega)]
      refine ⟨fun q => absurd q (by omega), fun _ => c_at hT2 (by omega) ?_⟩
      rw [chr_in (by omega), show (48 : Int32) = nI 48 from rfl, nI_ltI (by omega) (by decide)]
      refine ⟨fun q => stop (by omega), fun q => ?_⟩
      rw [g2]
      refine c_at hT2 (by omega) ?_
      rw [chr_in (by omega), show (57 : Int32) = nI 57 from rfl, nI_ltI (by decide) (by omega)]
      refine ⟨fun q2 => stop (by omega), fun q2 => ?_⟩
      rw [g2]
      refine c_at hT2 (by omega) (fun v12 e12 => ?_)
      rw [chr_in (by omega)] at e12
      rw [g2, nI_1]
      refine ih (k + 1) v12 _ (by omega) (by omega) ?_ a2.w gm_rw_s ⟨fun z => by omega, fun z => ?_, fun z => ?_⟩
      · rw [← he]
        exact (rn_go (by omega) (by unfold isDg; simp; omega)).symm
      · have ek : k = sk t x i := by omega
        have ey : y = 0 := hy.1 (by omega)
        rw [e12, ey, ← ek, show ((0 : Int32) - 0 / 100 * 100) * 10 = nI 0 from by decide, nI_add, pk_sub (by omega), Nat.zero_add]
      · have ek : k = sk t x i + 1 := by omega
        have ey : y = nI (x (sk t x i) - 48) := hy.2.1 (by omega)
        have hx0 := hall (sk t x i) (Nat.le_refl _) (by
          have e1 : de t x k = de t x (k + 1) := rn_go (by omega) (by unfold isDg; simp; omega)
          have := (rn_ok (t := t) (p := isDg x) (i := k + 1) (by omega)).1
          have h3 : de t x (k + 1) = rn t (isDg x) (k + 1) := rfl
          omega)
        have hxk : 48 ≤ x (sk t x i + 1) := by rw [← ek]; omega
        rw [e12, ey, fig_I _ (by omega), nI_add, pk_sub (by omega), ek]
        congr 1
        omega
  exact loop (t - sk t x i) (sk t x i) 0 μ1 (by omega) (Nat.le_refl _) rfl a1 g1 ⟨fun _ => rfl, fun z => by omega, fun z => by omega⟩
end TAKEC
