/-! lists: the model -/
section NFS
variable {n w i j : Nat} {x : Nat → Nat} {c : Nat → Nat → Nat} {D : Nat → Nat}
theorem nF_1 (h : j = i) : nF x w n c D i j = 1 := by unfold nF; rw [if_pos h]
theorem nF_2 (h1 : j ≠ i) (h2 : i + 2 < j ∨ gr w < vlu x i j ∨ (w = 0 ∧ vlu x i j = 0)) : nF x w n c D i j = 2 := by unfold nF; rw [if_neg h1, if_pos h2]
theorem nF_3 (h1 : j ≠ i) (h2 : ¬ (i + 2 < j ∨ gr w < vlu x i j ∨ (w = 0 ∧ vlu x i j = 0))) (h3 : (2 ≤ w ∧ w ≤ 7) ∧ (c n w).testBit (vlu x i j) = true) : nF x w n c D i j = 3 := by unfold nF; rw [if_neg h1, if_neg h2, if_pos h3]
theorem nF_4 (h1 : j ≠ i) (h2 : ¬ (i + 2 < j ∨ gr w < vlu x i j ∨ (w = 0 ∧ vlu x i j = 0))) (h3 : ¬ ((2 ≤ w ∧ w ≤ 7) ∧ (c n w).testBit (vlu x i j) = true)) (h4 : w = 3 ∧ n ≤ vlu x i j) : nF x w n c D i j = 4 := by unfold nF; rw [if_neg h1, if_neg h2, if_neg h3, if_pos h4]
theorem nF_6 (h1 : j ≠ i) (h2 : ¬ (i + 2 < j ∨ gr w < vlu x i j ∨ (w = 0 ∧ vlu x i j = 0))) (h3 : ¬ ((2 ≤ w ∧ w ≤ 7) ∧ (c n w).testBit (vlu x i j) = true)) (h4 : ¬ (w = 3 ∧ n ≤ vlu x i j)) (h5 : (w = 4 ∧ (ur c 4 (n + 1)).testBit (vlu x i j) = true) ∨ (w = 5 ∧ (ur c 5 (n + 1)).testBit (vlu x i j) = true)) : nF x w n c D i j = 6 := by unfold nF; rw [if_neg h1, if_neg h2, if_neg h3, if_neg h4, if_pos h5]
theorem nF_7 (h1 : j ≠ i) (h2 : ¬ (i + 2 < j ∨ gr 8 < vlu x i j)) (h6 : (dr D (n + 1)).testBit (vlu x i j) = true) : nF x 8 n c D i j = 7 := by
  unfold nF; rw [if_neg h1, if_neg (by omega), if_neg (by omega), if_neg (by omega), if_neg (by omega), if_pos ⟨rfl, h6⟩]
theorem nF_0 (h1 : j ≠ i) (h2 : ¬ (i + 2 < j ∨ gr w < vlu x i j ∨ (w = 0 ∧ vlu x i j = 0))) (h3 : ¬ ((2 ≤ w ∧ w ≤ 7) ∧ (c n w).testBit (vlu x i j) = true)) (h4 : ¬ (w = 3 ∧ n ≤ vlu x i j)) (h5 : ¬ ((w = 4 ∧ (ur c 4 (n + 1)).testBit (vlu x i j) = true) ∨ (w = 5 ∧ (ur c 5 (n + 1)).testBit (vlu x i j) = true))) (h6 : ¬ (w = 8 ∧ (dr D (n + 1)).testBit (vlu x i j) = true)) : nF x w n c D i j = 0 := by unfold nF; rw [if_neg h1, if_neg h2, if_neg h3, if_neg h4, if_neg h5, if_neg h6]
theorem ur_top {u v : Nat} (h : (c n u).testBit v = false) : (ur c u (n + 1)).testBit v = (ur c u n).testBit v := by
  show (ur c u n ||| c n u).testBit v = _
  rw [Nat.testBit_or, h, Bool.or_false]
theorem dr_bit {v : Nat} : ∀ m, (dr D m).testBit v = true ↔ ∃ k, k < m ∧ D k = v + 1
  | 0 => by simp [dr]
  | m + 1 => by
    have ih := dr_bit (v := v) m
    unfold dr
    by_cases e : D m = 0
    · rw [if_pos e, ih]
      constructor
      · rintro ⟨k, h1, h2⟩; exact ⟨k, by omega, h2⟩
      · rintro ⟨k, h1, h2⟩
        by_cases e2 : k = m
        · subst e2; omega
        · exact ⟨k, by omega, h2⟩
    · rw [if_neg e, or_bit, Bool.or_eq_true, decide_eq_true_eq, ih]
      constructor
      · rintro (⟨k, h1, h2⟩ | h)
        · exact ⟨k, by omega, h2⟩
        · exact ⟨m, by omega, by omega⟩
      · rintro ⟨k, h1, h2⟩
        by_cases e2 : k = m
        · subst e2; exact Or.inr (by omega)
        · exact Or.inl ⟨k, by omega, h2⟩
end NFS
section LISTM
variable {G : gC} {l : Launch} {μ : Mem} {t n i v : Nat} {x : Nat → Nat} {c : Nat → Nat → Nat} {D : Nat → Nat}
def ME (n : Nat) (c : Nat → Nat → Nat) (D : Nat → Nat) (S : Nat → Nat → Prop) (μ : Mem) : Prop := ∀ k, k ≤ n → gm_r μ 85 k = nI (c k 0) ∧ (∀ j, j < 7 → ¬ S k j → gm_r μ 87 (8 * k + j) = nI (c k (j + 1))) ∧ gm_r μ 86 k = nI (D k) - 1
def MP (i n : Nat) (μ : Mem) : Prop := gm_r μ 78 9 = nI i ∧ gm_r μ 78 12 = 0 ∧ gm_r μ 78 13 = -1 ∧ gm_r μ 78 14 = nI n
theorem ME.g5 {S : Nat → Nat → Prop} {μ' : Mem} (h : ME n c D S μ) (hf : G5 μ μ') : ME n c D S μ' := fun k hk => ⟨by rw [hf.2 _ _ (by omega)]; exact (h k hk).1, fun j hj hS => by rw [hf.2 _ _ (by omega)]; exact (h k hk).2.1 j hj hS, by rw [hf.2 _ _ (by omega)]; exact (h k hk).2.2⟩
theorem MP.a9 {i' : Nat} {μ' : Mem} (h : MP i n μ) (hf : A9 μ μ') (hi : gm_r μ' 78 9 = nI i') : MP i' n μ' := ⟨hi, by rw [hf.2 _ _ (by decide)]; exact h.2.1, by rw [hf.2 _ _ (by decide)]; exact h.2.2.1, by rw [hf.2 _ _ (by decide)]; exact h.2.2.2⟩
theorem ix8_I {k j : Nat} : (8 : Int32) * nI k + nI j = nI (8 * k + j) := by
  rw [show (8 : Int32) = nI 8 from rfl, pk_mul, nI_add]
theorem m_ahead {P : Int32 → Mem → Prop} {j : Nat} (hn : n ≤ 10) (hj : j < 7) (hv : v < 32) (h14 : gm_r μ 78 14 = nI n) (hb : ∀ k, k < n → gm_r μ 87 (8 * k + j) = nI (c k (j + 1)) ∧ c k (j + 1) < 1024) (h : P (if (ur c (j + 1) n).testBit v then 1 else 0) μ) : qX10_isAhead G l (nI j) (nI v) μ P := by
  refine eX10_isAhead ?_
  have e0 : (if (ur c (j + 1) 0).testBit v = true then (1 : Int32) else 0) = 0 := by
    show (if (0 : Nat).testBit v = true then (1 : Int32) else 0) = 0
    rw [Nat.zero_testBit]; rfl
  suffices hh : hX10_isAhead_5 G l P (nI j) (nI v) (if (ur c (j + 1) 0).testBit v = true then (1 : Int32) else 0) (nI 0) μ by
    rw [e0] at hh; exact hh
  refine down (H := fun k => hX10_isAhead_5 G l P (nI j) (nI v) (if (ur c (j + 1) k).testBit v then 1 else 0) (nI k) μ) (n := n) ?_ ?_
  · refine eX10_isAhead_5 ⟨fun _ => ⟨?_, h⟩, fun q => absurd (by rw [h14]; exact Int32.le_refl _) q⟩
    cases (ur c (j + 1) n).testBit v <;> rfl
  · intro k hk ih
    obtain ⟨b1, b2⟩ := hb k hk
    have es : (ur c (j + 1) (k + 1)).testBit v = ((ur c (j + 1) k).testBit v || (c k (j + 1)).testBit v) := by
      show (ur c (j + 1) k ||| c k (j + 1)).testBit v = _
      rw [Nat.testBit_or]
    rw [es] at ih
    refine eX10_isAhead_5 ⟨fun q => absurd (by rw [h14] at q; exact q) (nI_ge (by omega) (by omega)), fun _ => ?_⟩
    rw [ix8_I, nI_clamp (by omega), b1, nI_1]
    by_cases q : (ur c (j + 1) k).testBit v = true
    · rw [q] at ih ⊢
      exact ⟨fun _ => ih, fun z => absurd z (by decide)⟩
    · rw [Bool.not_eq_true] at q
      rw [q, Bool.false_or] at ih
      rw [q]
      refine ⟨fun z => absurd rfl z, fun _ => ⟨vp_in_nI (by omega) (by decide), t_has (by omega) (by omega) ⟨fun z => ?_, fun z => ?_⟩⟩⟩
      · rw [(if_has rfl).1] at z
        rw [z] at ih; exact ih
      · rw [(if_has rfl).2] at z
        rw [z] at ih; exact ih
theorem m_lend {P : Mem → Prop} {j : Nat} {x3 : Int32} (hn : n < 10) (hj : j < 7) (h14 : gm_r μ 78 14 = nI n) (h : P (gm_w μ 87 (8 * n + j) x3)) : hX10_takeList_4 G l P (nI j) 0 x3 μ := by
  refine eX10_takeList_4 ⟨fun _ => ?_, fun q => absurd rfl q⟩
  rw [h14, ix8_I, nI_clamp (by omega)]
  exact ⟨vp_in_nI (by omega) (by decide), h⟩
theorem m_lfail {P : Mem → Prop} {j : Nat} {x3 x4 f y : Int32} (hn : n < 10) (hj : j < 7) (h14 : gm_r μ 78 14 = nI n) (h12 : gm_r μ 78 12 = f) (h13 : gm_r μ 78 13 = y) (h : ∀ μ', MG μ μ' → gm_r μ' 78 12 = f → gm_r μ' 78 13 = y → gm_r μ' 78 14 = nI n → P μ') : hX10_takeList_115 G l P (nI j) x3 x4 0 μ ∧ hX10_takeList_181 G l P (nI j) 0 0 x3 μ := by
  have k : hX10_takeList_181 G l P (nI j) 0 0 x3 μ := by
    refine eX10_takeList_181 ⟨fun _ => t_one ?_, fun q => absurd rfl q⟩
    refine m_lend hn hj (by rw [gm_rw_k (by decide)]; exact h14) (h _ ((MG.rfl.w (Or.inl ⟨rfl, by decide, by decide⟩)).w (Or.inr (by decide))) ?_ ?_ ?_)
    · rw [gm_rw_o (by decide), gm_rw_k (by decide)]; exact h12
    · rw [gm_rw_o (by decide), gm_rw_k (by decide)]; exact h13
    · rw [gm_rw_o (by decide), gm_rw_k (by decide)]; exact h14
  exact ⟨eX10_takeList_115 ⟨fun _ => ⟨fun _ => k, fun q => absurd rfl q⟩, fun q => absurd rfl q⟩, k⟩
theorem m_list {P : Mem → Prop} {j : Nat} (hj : 1 ≤ j ∧ j ≤ 6) : ∀ d i c D μ, i ≤ t → CI n (j + 1) c D → pc (c n (j + 1)) + d = 11 → TXM t x μ → MP i n μ → ME n c D (fun k u => k = n ∧ u = j) μ → ((LF t x (j + 1) n d i c D).1 ≠ 0 → ∀ μ', MG μ μ' → gm_r μ' 78 12 = nI (LF t x (j + 1) n d i c D).1 → gm_r μ' 78 13 = nI (LF t x (j + 1) n d i c D).2.1 → gm_r μ' 78 14 = nI n → P μ') → ((LF t x (j + 1) n d i c D).1 = 0 → ∀ μ', MG μ μ' → MP (LF t x (j + 1) n d i c D).2.2.1 n μ' → ME n (LF t x (j + 1) n d i c D).2.2.2.1 (LF t x (j + 1) n d i c D).2.2.2.2 (fun _ _ => False) μ' → P μ') → hX10_takeList_4 G l P (nI j) 1 (nI (c n (j + 1))) μ := by
  intro d
  induction d with
  | zero =>
    intro i c D μ _ _ hpc
    have : pc (c n (j + 1)) ≤ 10 := pcn_le _ _
    omega
  | succ d ih =>
    intro i c D μ hi hC hpc hT hM hE hf hok
    have ht := hT.2.1
    have hn := hC.1
    have hNB := hC.nb
    have hl : 2 ≤ j + 1 ∧ j + 1 ≤ 7 := by omega
    obtain ⟨g0, g1, g2, g3⟩ := grt_ok (j + 1) (by omega)
    have hs : sk t x i ≤ t := (rn_ok (t := t) (p := isBl x) hi).2.1
    have hde : de t x (sk t x i) ≤ t := (rn_ok (t := t) (p := isDg x) hs).2.1
    have hs2 : sk t x (de t x (sk t x i)) ≤ t := (rn_ok (t := t) (p := isBl x) hde).2.1
    have hcb := hNB.2.1 n (j + 1) (Nat.le_refl _) (by omega)
    rw [LF_succ] at hf hok
    -- a fault
    have bad : ∀ f μ1 (x4 : Int32), nF x (j + 1) n c D (sk t x i) (de t x (sk t x i)) = f → f ≠ 0 → MG μ μ1 → gm_r μ1 78 12 = nI f → gm_r μ1 78 13 = nI (sk t x i) → gm_r μ1 78 14 = nI n → hX10_takeList_115 G l P (nI j) (nI (c n (j + 1))) x4 0 μ1 ∧ hX10_takeList_181 G l P (nI j) 0 0 (nI (c n (j + 1))) μ1 := fun f μ1 x4 ef hf0 m1 k12 k13 k14 => by
      rw [ef, if_pos hf0] at hf
      exact m_lfail hn (by omega) k14 k12 k13 (fun μ2 m2 q12 q13 q14 => hf hf0 μ2 (m1.trans m2) q12 q13 q14)
    have bad72 : ∀ f μ1 (x4 : Int32), nF x (j + 1) n c D (sk t x i) (de t x (sk t x i)) = f → f ≠ 0 → MG μ μ1 → gm_r μ1 78 12 = nI f → gm_r μ1 78 13 = nI (sk t x i) → gm_r μ1 78 14 = nI n → hX10_takeList_72 G l P (nI j) (nI (c n (j + 1))) x4 0 μ1 := fun f μ1 x4 ef hf0 m1 k12 k13 k14 => eX10_takeList_72 ⟨fun _ => (bad f μ1 x4 ef hf0 m1 k12 k13 k14).1, fun q => absurd rfl q⟩
    have num : ∀ hi : Nat, hi = gr (j + 1) → hX10_takeList_29 G l P (nI j) (nI (c n (j + 1))) (nI hi) (nI 0) μ := fun hgh hge => by
      refine eX10_takeList_29 (m_number hT hi hM.1 hM.2.1 (by omega) (by decide) (fun q μ1 g5 k12 k13 => ?_) (fun q1 q2 y μ1 g5 k12 k13 => ?_) (fun q1 q2 q3 q4 μ1 a1 k9 k10 => ?_))
      · refine ⟨fun _ => bad72 1 μ1 _ (nF_1 q) (by decide) g5.mg k12 k13 (by rw [g5.2 _ _ (by decide)]; exact hM.2.2.2), fun z => absurd z ?_⟩
        rw [k12]; decide
      · refine ⟨fun _ => bad72 2 μ1 _ (nF_2 q1 (by omega)) (by decide) g5.mg k12 k13 (by rw [g5.2 _ _ (by decide)]; exact hM.2.2.2), fun z => absurd z ?_⟩
        rw [k12]; decide
      · have m1 := hM.a9 a1 k9
        have e1 := hE.g5 a1.g5
        have hT1 := hT.a9 a1
        have hv9 := g2 (by omega)
        have p2 : ¬ (sk t x i + 2 < de t x (sk t x i) ∨ gr (j + 1) < vlu x (sk t x i) (de t x (sk t x i)) ∨ (j + 1 = 0 ∧ vlu x (sk t x i) (de t x (sk t x i)) = 0)) := by omega
        have hvr : vlu x (sk t x i) (de t x (sk t x i)) ≤ 9 := by omega
        refine ⟨fun z => absurd m1.2.1 z, fun _ => t_has (by omega) (by omega) ⟨fun z => ?_, fun z => ?_⟩⟩
        · rw [(if_has rfl).2] at z
          refine m_no m1.2.1 (by decide) ⟨fun _ => bad72 3 _ _ (nF_3 q1 p2 ⟨hl, z⟩) (by decide) ((a1.g5.mg.w (Or.inl ⟨rfl, by decide, by decide⟩)).w (Or.inl ⟨rfl, by decide, by decide⟩)) ?_ ?_ ?_, fun u => absurd rfl u⟩
          · rw [gm_rw_k (by decide), gm_rw_s]; rfl
          · rw [gm_rw_s]; exact k10
          · rw [gm_rw_k (by decide), gm_rw_k (by decide)]; exact m1.2.2.2
        · rw [(if_has rfl).1] at z
          have p3 : ¬ ((2 ≤ j + 1 ∧ j + 1 ≤ 7) ∧ (c n (j + 1)).testBit (vlu x (sk t x i) (de t x (sk t x i))) = true) := fun u => by rw [z] at u; exact absurd u.2 (by decide)
          refine m_yes m1.2.1 (by decide) ⟨fun u => absurd u (by decide), fun _ => ?_⟩
          -- behind 4 and 6
          have good : nF x (j + 1) n c D (sk t x i) (de t x (sk t x i)) = 0 → hX10_takeList_148 G l P (nI j) (nI (c n (j + 1))) (nI (vlu x (sk t x i) (de t x (sk t x i)))) 1 μ1 := fun e0 => by
            rw [if_neg (fun u => u e0)] at hf hok
            have hC1 := CI_num hC (by omega) (by omega) e0
            refine eX10_takeList_148 (m_yes m1.2.1 (by decide) ⟨fun u => absurd u (by decide), fun _ => ⟨fun u => absurd u (by decide), fun _ => ?_⟩⟩)
            have eset : nI (c n (j + 1)) ||| ((1 : Int32) <<< (nI (vlu x (sk t x i) (de t x (sk t x i))) &&& 31)) = nI (nC (j + 1) n (vlu x (sk t x i) (de t x (sk t x i))) c n (j + 1)) := by
              rw [nI_bit1 (by omega), nI_or, nC_lst hl]
            -- the table but for the list that is read
            have e2 : ∀ μ2, ME n c D (fun k u => k = n ∧ u = j) μ2 → ME n (nC (j + 1) n (vlu x (sk t x i) (de t x (sk t x i))) c) (nD (j + 1) n (vlu x (sk t x i) (de t x (sk t x i))) D) (fun k u => k = n ∧ u = j) μ2 := fun μ2 hE2 k hk => by
              rw [nD_ne (by omega)]
              have hk0 := hE2 k hk
              refine ⟨?_, fun u hu hS => ?_, hk0.2.2⟩
              · by_cases e : k = n
                · subst e; rw [nC_ne (by omega) (by omega)]; exact hk0.1
                · rw [nC_old e]; exact hk0.1
              · by_cases e : k = n
                · subst e
                  rw [nC_ne (fun z2 => hS ⟨rfl, by omega⟩) (by omega)]
                  exact hk0.2.1 u hu hS
                · rw [nC_old e]; exact hk0.2.1 u hu hS
            refine eX10_takeList_181 ⟨fun u => absurd u (by decide), fun _ => m_here hT1 hde k9 (fun μ2 a2 j9 _ => ?_)⟩
            have m2 := m1.a9 a2 j9
            have E2 := e2 μ2 (e1.g5 a2.g5)
            have hcl := chr_lt (x := x) (t := t) (i := sk t x (de t x (sk t x i))) (fun i hi => (hT.2.2 i hi).2)
            rw [show (44 : Int32) = nI 45 - 1 from by decide, dI_eq (by omega) (by decide), eset, j9]
            refine ⟨fun u => t_one ?_, fun u => t_one ?_⟩
            · rw [if_neg (fun y => u y.2)] at hok
              rw [if_pos rfl, Int32.add_zero]
              have m3 : MG μ (gm_w μ2 78 9 (nI (sk t x (de t x (sk t x i))))) := ((a1.trans a2).g5.mg).w (Or.inl ⟨rfl, by decide, by decide⟩)
              refine m_lend hn (by omega) (by rw [gm_rw_k (by decide)]; exact m2.2.2.2) (hok rfl _ (m3.w (Or.inr (by decide))) ⟨?_, ?_, ?_, ?_⟩ (fun k hk => ⟨?_, fun u' hu' _ => ?_, ?_⟩))
              · rw [gm_rw_o (by decide), gm_rw_s]
              · rw [gm_rw_o (by decide), gm_rw_k (by decide)]; exact m2.2.1
              · rw [gm_rw_o (by decide), gm_rw_k (by decide)]; exact m2.2.2.1
              · rw [gm_rw_o (by decide), gm_rw_k (by decide)]; exact m2.2.2.2
              · rw [gm_rw_o (by decide), gm_rw_o (by decide)]; exact (E2 k hk).1
              · by_cases e : k = n ∧ u' = j
                · obtain ⟨rfl, rfl⟩ := e
                  rw [gm_rw_s]
                · rw [gm_rw_k (by omega), gm_rw_o (by decide)]
                  exact (E2 k hk).2.1 u' hu' e
              · rw [gm_rw_o (by decide), gm_rw_o (by decide)]; exact (E2 k hk).2.2
            · rw [if_pos ⟨hl, u⟩] at hf hok
              have hlt := chr_pos (k := 44) u
              rw [if_neg (by decide), nI_1]
              have a3 : A9 μ2 (gm_w μ2 78 9 (nI (sk t x (de t x (sk t x i)) + 1))) := A9.rfl.w (by decide)
              have m3 : MG μ (gm_w μ2 78 9 (nI (sk t x (de t x (sk t x i)) + 1))) := ((a1.trans a2).trans a3).g5.mg
              refine ih _ _ _ _ (by omega) hC1 ?_ ((hT1.a9 a2).a9 a3) (m2.a9 a3 gm_rw_s) (E2.g5 a3.g5) (fun y μ4 c4 => hf y μ4 (m3.trans c4)) (fun y μ4 c4 => hok y μ4 (m3.trans c4))
              rw [pc_num hC hl e0]
              omega
          -- behind 4
          have six : ¬ (j + 1 = 3 ∧ n ≤ vlu x (sk t x i) (de t x (sk t x i))) → hX10_takeList_115 G l P (nI j) (nI (c n (j + 1))) (nI (vlu x (sk t x i) (de t x (sk t x i)))) 1 μ1 := fun p4 => by
            have ok0 : ¬ ((j + 1 = 4 ∧ (ur c 4 (n + 1)).testBit (vlu x (sk t x i) (de t x (sk t x i))) = true) ∨ (j + 1 = 5 ∧ (ur c 5 (n + 1)).testBit (vlu x (sk t x i) (de t x (sk t x i))) = true)) → hX10_takeList_148 G l P (nI j) (nI (c n (j + 1))) (nI (vlu x (sk t x i) (de t x (sk t x i)))) 1 μ1 := fun p5 => good (nF_0 q1 p2 p3 p4 p5 (by omega))
            have ahead : (j + 1 = 4 ∨ j + 1 = 5) → qX10_isAhead G l (nI j) (nI (vlu x (sk t x i) (de t x (sk t x i)))) μ1 (fun r34 μ33 => ((¬ r34 = 0) → hX10_takeList_148 G l P (nI j) (nI (c n (j + 1))) (nI (vlu x (sk t x i) (de t x (sk t x i)))) 0 μ33) ∧ ((r34 = 0) → hX10_takeList_148 G l P (nI j) (nI (c n (j + 1))) (nI (vlu x (sk t x i) (de t x (sk t x i)))) 1 μ33)) := fun hjj => by
              refine m_ahead (c := c) (n := n) (by omega) (by omega) (by omega) m1.2.2.2 (fun k hk => ⟨(e1 k (by omega)).2.1 j (by omega) (fun u => by omega), hNB.2.1 k (j + 1) (by omega) (by omega)⟩) ?_
              have eur := ur_top (c := c) (n := n) (u := j + 1) z
              by_cases q : (ur c (j + 1) n).testBit (vlu x (sk t x i) (de t x (sk t x i))) = true
              · rw [if_pos q]
                rw [q] at eur
                refine ⟨fun _ => ?_, fun u => absurd u (by decide)⟩
                have h5 : (j + 1 = 4 ∧ (ur c 4 (n + 1)).testBit (vlu x (sk t x i) (de t x (sk t x i))) = true) ∨ (j + 1 = 5 ∧ (ur c 5 (n + 1)).testBit (vlu x (sk t x i) (de t x (sk t x i))) = true) := by
                  rcases hjj with e | e
                  · rw [e] at eur; exact Or.inl ⟨e, eur⟩
                  · rw [e] at eur; exact Or.inr ⟨e, eur⟩
                refine eX10_takeList_148 (m_no m1.2.1 (by decide) ⟨fun _ => ⟨fun _ => (bad 6 _ 0 (nF_6 q1 p2 p3 p4 h5) (by decide) ((a1.g5.mg.w (Or.inl ⟨rfl, by decide, by decide⟩)).w (Or.inl ⟨rfl, by decide, by decide⟩)) ?_ ?_ ?_).2, fun u => absurd rfl u⟩, fun u => absurd rfl u⟩)
                · rw [gm_rw_k (by decide), gm_rw_s]; rfl
                · rw [gm_rw_s]; exact k10
                · rw [gm_rw_k (by decide), gm_rw_k (by decide)]; exact m1.2.2.2
              · rw [if_neg q]
                rw [Bool.not_eq_true] at q
                rw [q] at eur
                refine ⟨fun u => absurd rfl u, fun _ => ok0 (fun u => ?_)⟩
                rcases u with u | u
                · have e := u.1
                  rw [e, u.2] at eur; exact absurd eur (by decide)
                · have e := u.1
                  rw [e, u.2] at eur; exact absurd eur (by decide)
            refine eX10_takeList_115 ⟨fun u => absurd u (by decide), fun _ => ?_⟩
            rw [show (3 : Int32) = nI 3 from rfl, show (4 : Int32) = nI 4 from rfl, nI_eq (by omega) (by decide), nI_eq (by omega) (by decide)]
            exact ⟨fun u => ahead (by omega), fun u => ⟨fun u2 => ok0 (by omega), fun u2 => ahead (by omega)⟩⟩
          refine eX10_takeList_72 ⟨fun u => absurd u (by decide), fun _ => ?_⟩
          rw [show (2 : Int32) = nI 2 from rfl, nI_eq (by omega) (by decide), m1.2.2.2, nI_leI (by omega) (by omega)]
          refine ⟨fun u => m_yes m1.2.1 (by decide) ⟨fun y => absurd y (by decide), fun _ => six (by omega)⟩, fun u => ⟨fun u2 => m_no m1.2.1 (by decide) ⟨fun _ => (bad 4 _ _ (nF_4 q1 p2 p3 ⟨by omega, u2⟩) (by decide) ((a1.g5.mg.w (Or.inl ⟨rfl, by decide, by decide⟩)).w (Or.inl ⟨rfl, by decide, by decide⟩)) ?_ ?_ ?_).1, fun y => absurd rfl y⟩, fun u2 => m_yes m1.2.1 (by decide) ⟨fun y => absurd y (by decide), fun _ => six (by omega)⟩⟩⟩
          · rw [gm_rw_k (by decide), gm_rw_s]; rfl
          · rw [gm_rw_s]; exact k10
          · rw [gm_rw_k (by decide), gm_rw_k (by decide)]; exact m1.2.2.2
    refine eX10_takeList_4 ⟨fun q => absurd q (by decide), fun _ => ⟨fun q => absurd hM.2.1 q, fun _ => ?_⟩⟩
    rw [show (2 : Int32) = nI 2 from rfl, nI_eq (by omega) (by decide)]
    refine ⟨fun q => num 7 ?_, fun q => num 9 ?_⟩
    · have k : ∀ j, j < 7 → 1 ≤ j → ¬ j = 2 → 7 = gr (j + 1) := by decide
      exact k j (by omega) hj.1 q
    · subst q; rfl
end LISTM
