/-! the WORTH of parts: the class's table -/
def okW (n : Nat) (c : Nat → Nat → Nat) (W : Nat → Nat) : Nat → Bool := fun u => decide (pc u < 6) && decide (sm c 0 u n ≤ W 1)
theorem okW_iff {n : Nat} {c : Nat → Nat → Nat} {W : Nat → Nat} {u : Nat} : okW n c W u = true ↔ pc u < 6 ∧ sm c 0 u n ≤ W 1 := by
  unfold okW; rw [Bool.and_eq_true, decide_eq_true_eq, decide_eq_true_eq]
theorem sm_mono {c : Nat → Nat → Nat} {w s t : Nat} (h : Sb s t) : ∀ n, sm c w s n ≤ sm c w t n
  | 0 => Nat.le_refl _
  | n + 1 => by
    have ih := sm_mono (c := c) (w := w) h n
    unfold sm
    by_cases q : s.testBit n = true
    · rw [if_pos q, if_pos (h n q)]; omega
    · rw [if_neg q]
      split <;> omega
section RCO
variable {n b : Nat} {c : Nat → Nat → Nat} {D N W : Nat → Nat}
theorem rc_tt (hn : n ≤ 10) {ok : Nat → Bool} {A : Nat → Nat → Bool} : ∀ p, p < 1024 → RC ok A n b p = true → RC tt A n b p = true := by
  intro p
  induction p using Nat.strongRecOn with
  | _ p ih =>
    intro hp h
    rw [RC_iff hn hp] at h ⊢
    rcases h with h | ⟨k, h1, h2, h3, h4, h5⟩
    · exact Or.inl h
    · have := cl_lt hp h2
      exact Or.inr ⟨k, h1, h2, rfl, h4, ih _ this (by omega) h5⟩
theorem rc_ok (hn : n ≤ 10) {A : Nat → Nat → Bool} : ∀ p, p < 1024 → pc p ≤ 6 → sm c 0 p n ≤ W 1 → RC tt A n b p = true → RC (okW n c W) A n b p = true := by
  intro p
  induction p using Nat.strongRecOn with
  | _ p ih =>
    intro hp h6 hl h
    rw [RC_iff hn hp] at h ⊢
    rcases h with h | ⟨k, h1, h2, h3, h4, h5⟩
    · exact Or.inl h
    · have e1 := cl_lt hp h2
      have e2 := pc_cl hp (k := k) (by omega) h2
      have e3 := sm_mono (c := c) (w := 0) (cl_sb (p := p) (k := k)) n
      exact Or.inr ⟨k, h1, h2, okW_iff.mpr ⟨by omega, by omega⟩, h4, ih _ e1 (by omega) (by omega) (by omega) h5⟩
theorem rc_6 (hn : n ≤ 10) {A : Nat → Nat → Bool} {p : Nat} (hp : p < 1024) (h : RC (okW n c W) A n b p = true) : pc p ≤ 6 := by
  rw [RC_iff hn hp] at h
  rcases h with h | ⟨k, h1, h2, h3, _⟩
  · subst h; decide
  · have e2 := pc_cl hp (k := k) (by omega) h2
    have := (okW_iff.mp h3).1
    omega
end RCO
/-- what the table of parts holds when the edges T have been walked -/
def PI (n : Nat) (c : Nat → Nat → Nat) (b w : Nat) (T : Nat → Nat → Prop) (μ : Mem) : Prop := ∀ p, Sb p w → ∃ v, v ≤ 2 ∧ gm_r μ 107 p = nI v ∧ (1 ≤ v ↔ p = 0 ∨ ∃ k, k < n ∧ p.testBit k = true ∧ T (cl p k) k) ∧ (v = 2 ↔ ∃ k, k < n ∧ p.testBit k = true ∧ T (cl p k) k ∧ ¬ (c k 4 &&& opN n c (b ||| p)) = 0)
theorem PI.congr {n : Nat} {c : Nat → Nat → Nat} {b w : Nat} {T T' : Nat → Nat → Prop} {μ : Mem} (h : PI n c b w T μ) (e : ∀ u k, Sb u w → k < n → w.testBit k = true → u.testBit k = false → (T u k ↔ T' u k)) (hw : w < 1024) : PI n c b w T' μ := fun p hp => by
  obtain ⟨v, h1, h2, h3, h4⟩ := h p hp
  have hp2 := Nat.lt_of_le_of_lt (sb_le hp) hw
  refine ⟨v, h1, h2, h3.trans ?_, h4.trans ?_⟩
  · constructor
    · rintro (q | ⟨k, q1, q2, q3⟩)
      · exact Or.inl q
      · exact Or.inr ⟨k, q1, q2, (e _ _ (sb_trans cl_sb hp) q1 (hp k q2) (cl_bk hp2)).mp q3⟩
    · rintro (q | ⟨k, q1, q2, q3⟩)
      · exact Or.inl q
      · exact Or.inr ⟨k, q1, q2, (e _ _ (sb_trans cl_sb hp) q1 (hp k q2) (cl_bk hp2)).mpr q3⟩
  · constructor
    · rintro ⟨k, q1, q2, q3, q4⟩
      exact ⟨k, q1, q2, (e _ _ (sb_trans cl_sb hp) q1 (hp k q2) (cl_bk hp2)).mp q3, q4⟩
    · rintro ⟨k, q1, q2, q3, q4⟩
      exact ⟨k, q1, q2, (e _ _ (sb_trans cl_sb hp) q1 (hp k q2) (cl_bk hp2)).mpr q3, q4⟩
section CPARTS
variable {G : gC} {l : Launch} {μ : Mem} {n : Nat} {c : Nat → Nat → Nat} {D N W : Nat → Nat}
theorem pi_edge {b w u K : Nat} {T : Nat → Nat → Prop} {μ0 : Mem} {y : Int32} (hw : w < 1024) (hu : Sb u w) (hK10 : K < 10) (hKn : K < n) (hKw : w.testBit K = true) (hKu : u.testBit K = false) (h : PI n c b w T μ0) (hy : ∀ v, v ≤ 2 → gm_r μ0 107 (u ||| 2 ^ K) = nI v → y = nI (max v (if c K 4 &&& opN n c (b ||| (u ||| 2 ^ K)) = 0 then 1 else 2))) : PI n c b w (fun s k => T s k ∨ (s = u ∧ k = K)) (gm_w μ0 107 (u ||| 2 ^ K) y) := by
  have hu2 := Nat.lt_of_le_of_lt (sb_le hu) hw
  intro p hp
  have hp2 := Nat.lt_of_le_of_lt (sb_le hp) hw
  obtain ⟨v, h1, h2, h3, h4⟩ := h p hp
  by_cases e : p = u ||| 2 ^ K
  · subst e
    have ecl : cl (u ||| 2 ^ K) K = u := cl_or hu2 hK10 hKu
    have hbit : (u ||| 2 ^ K).testBit K = true := by rw [or_bit]; simp
    have hv := hy v h1 h2
    refine ⟨_, ?_, by rw [gm_rw_s]; exact hv, ?_, ?_⟩
    · split <;> omega
    · refine ⟨fun _ => Or.inr ⟨K, hKn, hbit, Or.inr ⟨ecl, rfl⟩⟩, fun _ => ?_⟩
      split <;> omega
    · by_cases hk : c K 4 &&& opN n c (b ||| (u ||| 2 ^ K)) = 0
      · rw [if_pos hk]
        have : max v 1 = 2 ↔ v = 2 := by omega
        rw [this, h4]
        constructor
        · rintro ⟨k, q1, q2, q3, q4⟩
          exact ⟨k, q1, q2, Or.inl q3, q4⟩
        · rintro ⟨k, q1, q2, q3 | ⟨q3, rfl⟩, q4⟩
          · exact ⟨k, q1, q2, q3, q4⟩
          · exact absurd hk q4
      · rw [if_neg hk]
        exact ⟨fun _ => ⟨K, hKn, hbit, Or.inr ⟨ecl, rfl⟩, hk⟩, fun _ => by omega⟩
  · have hno : ∀ k, p.testBit k = true → ¬ (cl p k = u ∧ k = K) := by
      rintro k hk ⟨q1, rfl⟩
      have := or_cl hp2 hk
      rw [q1] at this
      exact e this.symm
    refine ⟨v, h1, by rw [gm_rw_k e]; exact h2, h3.trans ?_, h4.trans ?_⟩
    · constructor
      · rintro (q | ⟨k, q1, q2, q3⟩)
        · exact Or.inl q
        · exact Or.inr ⟨k, q1, q2, Or.inl q3⟩
      · rintro (q | ⟨k, q1, q2, q3 | q3⟩)
        · exact Or.inl q
        · exact Or.inr ⟨k, q1, q2, q3⟩
        · exact absurd q3 (hno k q2)
    · constructor
      · rintro ⟨k, q1, q2, q3, q4⟩
        exact ⟨k, q1, q2, Or.inl q3, q4⟩
      · rintro ⟨k, q1, q2, q3 | q3, q4⟩
        · exact ⟨k, q1, q2, q3, q4⟩
        · exact absurd q3 (hno k q2)
theorem on7 {μ μ' : Mem} (h : On [107] μ μ') : Fr [9] μ μ' := h.fr (fun _ _ z => on_c (by decide) z)
theorem c_grow {P : Mem → Prop} {b w u M : Nat} {T : Nat → Nat → Prop} (hS : ST n c D μ) (hV : SVt n c D N μ) (h144 : μ.1 = 144) (hb : b < 2 ^ n) (hw : w < 2 ^ n) (hu : Sb u w) (hM : M < 1024) (hMb : ∀ k, M.testBit k = true → k < n ∧ w.testBit k = true ∧ u.testBit k = false) (h : ∀ μ', On [107] μ μ' → PI n c b w (fun s k => T s k ∨ (s = u ∧ M.testBit k = true)) μ' → P μ') : ∀ μ0, On [107] μ μ0 → PI n c b w T μ0 → qX2_growPart G l (nI b) (nI u) (nI M) μ0 P := by
  intro μ0 o0 p0
  have hK := hS.2.2
  have hn := hK.1
  have hb2 := lt1024 hn hb
  have hw2 := lt1024 hn hw
  have hu2 := Nat.lt_of_le_of_lt (sb_le hu) hw2
  have loop : ∀ d K μ', K + d = n → On [107] μ μ' → PI n c b w (fun s k => T s k ∨ (s = u ∧ k < K ∧ M.testBit k = true)) μ' → hX2_growPart_3 G l P (nI b) (nI u) (nI M) (nI K) μ' := by
    intro d
    induction d with
    | zero =>
      intro K μ' hKd o1 p1
      have s1 := (hS.fr (on7 o1) (by decide)).1
      refine eX2_growPart_3 ⟨by rw [o1.1, h144]; decide, fun _ => h μ' o1 (p1.congr (fun s k _ hk _ _ => ?_) hw2), fun q => absurd (by rw [s1.1, show K = n by omega]; exact Int32.le_refl _) q⟩
      have : k < K := by omega
      simp [this]
    | succ d ih =>
      intro K μ' hKd o1 p1
      have hKn : K < n := by omega
      have s1 := (hS.fr (on7 o1) (by decide)).1
      refine eX2_growPart_3 ⟨by rw [o1.1, h144]; decide, fun q => absurd (by rw [s1.1] at q; exact q) (nI_ge (by omega) (by omega)), fun _ => ?_⟩
      rw [nI_has (by omega) (by omega), nI_shr (by omega) (by omega), nI_z (Nat.lt_of_le_of_lt (Nat.div_le_self _ _) (by omega)), nI_1]
      refine ⟨fun q => h μ' o1 (p1.congr (fun s k _ hk _ _ => ?_) hw2), fun q => ⟨fun q2 => ?_, fun q2 v5 e5 => ?_⟩⟩
      · by_cases hkK : k < K
        · simp [hkK]
        · have : M.testBit k = false := by
            rw [← Bool.not_eq_true]
            intro z
            have h1 : 2 ^ k ≤ M := Nat.ge_two_pow_of_testBit z
            have h2 : 2 ^ K ≤ 2 ^ k := Nat.pow_le_pow_right (by decide) (by omega)
            have := Nat.div_pos (Nat.le_trans h2 h1) (Nat.two_pow_pos K)
            omega
          simp [this]
      · refine ih (K + 1) μ' (by omega) o1 (p1.congr (fun s k _ hk _ _ => ?_) hw2)
        by_cases e : k = K
        · subst e; simp [q2]
        · have : k < K + 1 ↔ k < K := by omega
          rw [this]
      · rw [nI_bit1 (by omega), nI_or] at e5
        subst e5
        have hb1 := hMb K q2
        have hg : u ||| 2 ^ K < 2 ^ n := or_lt (Nat.lt_of_le_of_lt (sb_le hu) hw) hKn
        have hg2 := lt1024 hn hg
        have hbg : b ||| (u ||| 2 ^ K) < 2 ^ n := Nat.or_lt_two_pow hb hg
        have hbg2 := lt1024 hn hbg
        have hsg : Sb (u ||| 2 ^ K) w := or_sb hu (pw_sb hb1.2.1)
        have hop := opN_lt hK (b ||| (u ||| 2 ^ K))
        refine t7_cell s1 hn hKn (w := 4) (by decide) ⟨by rw [o1.1, h144]; decide, ?_⟩
        rw [nI_or, nI_clamp (by omega), o1.2.2 37 _ (by decide), (hV.2 _ hbg).2.2.1, nI_and, nI_z (Nat.lt_of_le_of_lt Nat.and_le_right (by omega))]
        refine ⟨vp_in_nI (by omega) (by decide), ?_⟩
        obtain ⟨v0, v1, v2, _⟩ := p1 _ hsg
        have step : ∀ y : Int32, y = nI (max v0 (if c K 4 &&& opN n c (b ||| (u ||| 2 ^ K)) = 0 then 1 else 2)) → hX2_growPart_3 G l P (nI b) (nI u) (nI M) (nI (K + 1)) (gm_w μ' 107 (u ||| 2 ^ K) y) := fun y hy => by
          refine ih (K + 1) _ (by omega) (o1.w (by decide)) (PI.congr (pi_edge (K := K) (y := y) hw2 hu (by omega) hKn hb1.2.1 hb1.2.2 p1 (fun v hv1 hv2 => ?_)) (fun s k _ hk _ _ => ?_) hw2)
          · rw [v2] at hv2
            rw [nI_eq (by omega) (by omega)] at hv2
            rw [hy, hv2]
          · constructor
            · rintro ((q5 | ⟨q5, q6, q7⟩) | ⟨q5, rfl⟩)
              · exact Or.inl q5
              · exact Or.inr ⟨q5, by omega, q7⟩
              · exact Or.inr ⟨q5, by omega, q2⟩
            · rintro (q5 | ⟨q5, q6, q7⟩)
              · exact Or.inl (Or.inl q5)
              · by_cases e : k = K
                · exact Or.inr ⟨q5, e⟩
                · exact Or.inl (Or.inr ⟨q5, by omega, q7⟩)
        refine ⟨fun q3 => eX2_growPart_71 ⟨by rw [o1.1, h144]; decide, vp_in_nI (by omega) (by decide), fun _ => ?_, fun z => absurd rfl z⟩, fun q3 => eX2_growPart_71 ⟨by rw [o1.1, h144]; decide, vp_in_nI (by omega) (by decide), fun z => absurd z (by decide), fun _ => ?_⟩⟩
        · rw [nI_clamp (by omega), v2, show (1 : Int32) = nI 1 from rfl, nI_max (by omega) (by decide), ← show (1 : Int32) = nI 1 from rfl, nI_1]
          refine step _ ?_
          rw [if_pos q3]
        · rw [nI_clamp (by omega), v2, show (2 : Int32) = nI 2 from rfl, nI_max (by omega) (by decide), nI_1]
          refine step _ ?_
          rw [if_neg q3]
  refine eX2_growPart (loop n 0 μ0 (by omega) o0 (p0.congr (fun s k _ _ _ _ => ?_) hw2))
  simp
def ACT (n : Nat) (c : Nat → Nat → Nat) (D N W : Nat → Nat) (b u k : Nat) : Prop := RC (okW n c W) (mA n c D N) n b u = true ∧ okW n c W u = true ∧ mA n c D N (b ||| u) k = true
end CPARTS
