/-! plan -/
section PLANP
variable {G : gC} {l : Launch} {μ : Mem} {n : Nat} {c : Nat → Nat → Nat} {D N W : Nat → Nat} {pb w : Nat}
/-- what the tables of the plans hold -/
def PQ (n : Nat) (c : Nat → Nat → Nat) (D N W : Nat → Nat) (pb : Nat) (μ : Mem) : Prop := (gm_r μ 106 7 = -1 ∨ ∃ w, w < 2 ^ n ∧ gm_r μ 106 7 = nI w ∧ PT n c D N W pb w μ) ∧ (gm_r μ 106 9 = -1 ∨ ∃ w, w < 2 ^ n ∧ gm_r μ 106 9 = nI w ∧ GT n c D N W pb w μ)
def PL (n : Nat) (c : Nat → Nat → Nat) (D N W : Nat → Nat) (pb : Nat) (μ : Mem) : Prop := PO μ ∧ (¬ gm_r μ 0 11 = 0 → PQ n c D N W pb μ)
theorem PQ.hi {μ' : Mem} (h : PQ n c D N W pb μ) (hf : ∀ o k, 106 ≤ o → gm_r μ' o k = gm_r μ o k) : PQ n c D N W pb μ' := by
  refine ⟨?_, ?_⟩
  · rw [hf 106 7 (by decide)]
    rcases h.1 with h1 | ⟨w, h1, h2, h3⟩
    · exact Or.inl h1
    · refine Or.inr ⟨w, h1, h2, fun a ha j hj => ?_⟩
      rw [hf _ _ (by omega), hf (120 + 1 + j) _ (by omega)]
      exact h3 a ha j hj
  · rw [hf 106 9 (by decide)]
    rcases h.2 with h1 | ⟨w, h1, h2, h3⟩
    · exact Or.inl h1
    · refine Or.inr ⟨w, h1, h2, fun j t hj ht => ?_⟩
      rw [hf _ _ (by omega)]
      exact h3 j t hj ht
theorem PL.fr {L : List Nat} {μ' : Mem} (hf : Fr L μ μ') (hL : ¬ 9 ∈ L) (h : PL n c D N W pb μ) : PL n c D N W pb μ' := by
  refine ⟨h.1.fr hf hL, fun q => ?_⟩
  rw [hf.r 9 rfl hL] at q
  exact (h.2 q).hi (fun o k ho => hf.r 9 (own_big ho) hL)
theorem PL.forgot (h1 : PO μ) (h2 : FG μ) : PL n c D N W pb μ := ⟨h1, fun q => ⟨Or.inl (h2 q).1, Or.inl (h2 q).2⟩⟩
theorem c_fresh {P : Mem → Prop} (hS : ST n c D μ) (hV : NV N μ) (hE : SE n c D N μ) (hP : PL n c D N W pb μ) (h : ∀ μ', Fr [8, 9] μ μ' → SV n c D N μ' → SE n c D N μ' → μ'.1 = 144 → ¬ gm_r μ' 0 11 = 0 → PQ n c D N W pb μ' → P μ') : qX9_freshPlans G l μ P := by
  refine eX9_freshPlans (t9_fresh hS hV hE (fun μ1 f1 v1 e1 => ⟨fun q => ?_, fun q => ?_⟩))
  · have hp1 : PL n c D N W pb μ1 := hP.fr f1 (by decide)
    have hm : μ1.1 = 106 := by
      rcases hp1.1 with h1 | h1
      · exact h1.2
      · exact absurd q h1.1
    refine ⟨hm, ?_⟩
    have lo : ∀ o k, ¬ own o k = 9 → gm_r (gm_w (gmk μ1) 0 11 1) o k = gm_r μ1 o k := fun o k hk => by
      rw [gm_rw, if_neg (fun z => hk (by rw [z.1, z.2]; rfl))]
      have ho : o < 106 := Nat.lt_of_not_le (fun z => hk (own_big z))
      show (if o < 106 then μ1.2.1 o else gmk_row o) k = _
      rw [if_pos ho]
      rfl
    have f2 : Fr [9] μ1 (gm_w (gmk μ1) 0 11 1) := ⟨fun o k hk => lo o k (fun z => hk (by rw [z]; decide)), fun z => absurd (by decide) z⟩
    refine h _ ((f1.mono (by decide)).trans (f2.mono (by decide))) (v1.fr f2 (by decide) (by decide)) (e1.fr f2 (by decide) (by decide)) rfl (by rw [gm_rw_s]; decide) ⟨Or.inl ?_, Or.inl ?_⟩
    · rw [gm_rw_o (by decide)]; rfl
    · rw [gm_rw_o (by decide)]; rfl
  · have hp1 : PL n c D N W pb μ1 := hP.fr f1 (by decide)
    refine h μ1 (f1.mono (by decide)) v1 e1 ?_ q (hp1.2 q)
    rcases hp1.1 with h1 | h1
    · exact absurd h1.1 q
    · exact h1.2
theorem bs_none (hw : w < 1024) {j : Nat} (hj : 10 < j) : bs n c D N W pb w j 0 = 0 := Nat.eq_zero_of_not_pos (fun z => by
  have h1 := bs_pc hw j 0 sb_zero z
  have : pc w ≤ 10 := pcn_le _ _
  omega)
def lf (val : Nat → Nat) (M : Nat) : Nat → Nat → Nat | 0, p => p | d + 1, p => if val p = M then p else lf val M d (p + 1)
theorem lf_succ (val : Nat → Nat) (M d p : Nat) : lf val M (d + 1) p = if val p = M then p else lf val M d (p + 1) := rfl
theorem lf_eq {val : Nat → Nat} {M p : Nat} (h : isF val M p) (d : Nat) : ∀ q, q ≤ p → p < q + d → lf val M d q = p := by
  induction d with
  | zero => intro q h1 h2; omega
  | succ d ih =>
    intro q h1 h2
    rw [lf_succ]
    by_cases e : val q = M
    · rw [if_pos e]
      by_cases e2 : q = p
      · exact e2
      · have := h.2 q (by omega); omega
    · rw [if_neg e]
      refine ih (q + 1) ?_ (by omega)
      by_cases e2 : q = p
      · subst e2; exact absurd h.1 e
      · omega
/-- the first of j parts behind a; what the first i of j0 parts hold -/
def fp (n : Nat) (c : Nat → Nat → Nat) (D N W : Nat → Nat) (pb w j a : Nat) : Nat := lf (vl n c D N W pb w (j - 1) a) (bs n c D N W pb w j a) 1024 0
def ch (n : Nat) (c : Nat → Nat → Nat) (D N W : Nat → Nat) (pb w j0 : Nat) : Nat → Nat | 0 => 0 | i + 1 => ch n c D N W pb w j0 i ||| fp n c D N W pb w (j0 - i) (ch n c D N W pb w j0 i)
theorem ch_succ (j0 i : Nat) : ch n c D N W pb w j0 (i + 1) = ch n c D N W pb w j0 i ||| fp n c D N W pb w (j0 - i) (ch n c D N W pb w j0 i) := rfl
theorem fp_ok {j a p : Nat} (hw : w < 1024) (ha : Sb a w) (hj : 0 < j) (hb : 0 < bs n c D N W pb w j a) (hf : isF (vl n c D N W pb w (j - 1) a) (bs n c D N W pb w j a) p) : p = fp n c D N W pb w j a ∧ Sb (a ||| p) w ∧ 0 < bs n c D N W pb w (j - 1) (a ||| p) := by
  obtain ⟨i, rfl⟩ : ∃ i, j = i + 1 := ⟨j - 1, by omega⟩
  obtain ⟨q, q1, q2⟩ := mxv_ex (val := vl n c D N W pb w i a) (x := 1024) hb
  have hp : p < 1024 := by
    refine Nat.lt_of_not_le (fun z => ?_)
    have h1 : vl n c D N W pb w i a q < bs n c D N W pb w (i + 1) a := hf.2 q (by omega)
    rw [bs_succ] at h1
    omega
  have h1 : vl n c D N W pb w i a p = bs n c D N W pb w (i + 1) a := hf.1
  refine ⟨(lf_eq hf 1024 0 (Nat.zero_le _) (by omega)).symm, ?_⟩
  rw [← h1] at hb
  obtain ⟨k1, k2, k3, k4⟩ := vl_pos hb
  obtain ⟨g1, g2, g3, g4, g5, g6⟩ := part_ok hw ha k1 ((sd_zero hp).mp k2)
  exact ⟨g1, k3⟩
theorem ch_ok {j0 : Nat} (hw : w < 1024) (hj0 : j0 ≤ 10) (hT : PT n c D N W pb w μ) (h0 : 0 < bs n c D N W pb w j0 0) : ∀ i, i ≤ j0 → Sb (ch n c D N W pb w j0 i) w ∧ 0 < bs n c D N W pb w (j0 - i) (ch n c D N W pb w j0 i)
  | 0, _ => ⟨sb_zero, h0⟩
  | i + 1, hi => by
    have ih := ch_ok hw hj0 hT h0 i (by omega)
    obtain ⟨f, _, f2⟩ := (hT _ ih.1 (j0 - i) (by omega)).2 (by omega) (by rw [bp_top]; exact ih.2)
    have f2' : isF (vl n c D N W pb w (j0 - i - 1) (ch n c D N W pb w j0 i)) (bs n c D N W pb w (j0 - i) (ch n c D N W pb w j0 i)) f := by
      rw [← bp_top]; exact f2
    obtain ⟨e, g1, g2⟩ := fp_ok hw ih.1 (by omega) ih.2 f2'
    rw [ch_succ, ← e]
    exact ⟨g1, by rw [show j0 - (i + 1) = j0 - i - 1 by omega]; exact g2⟩
theorem c_best {P : Int32 → Mem → Prop} {j0 : Nat} (h144 : μ.1 = 144) (hw : w < 1024) (hj0 : j0 ≤ 12) (hT : PT n c D N W pb w μ) (h : P (nI (bs n c D N W pb w j0 0) - 1) μ) : qX2_worthOfBest G l (nI j0) μ P := by
  refine eX2_worthOfBest ⟨fun q => absurd q (nI_pos (by omega)), fun _ => ?_⟩
  rw [show (10 : Int32) = nI 10 from rfl, nI_leI (by omega) (by decide)]
  refine ⟨fun q => ⟨by rw [h144]; decide, vp_in_nI (by omega) (by decide), ?_⟩, fun q => ?_⟩
  · rw [nI_clamp (by omega), (hT 0 sb_zero j0 q).1, bp_top]
    exact h
  · rw [bs_none hw (by omega)] at h
    exact h
theorem c_part {P : Int32 → Mem → Prop} {j0 i : Nat} (h144 : μ.1 = 144) (hw : w < 1024) (hj0 : j0 ≤ 10) (hi : i < j0) (hT : PT n c D N W pb w μ) (h0 : 0 < bs n c D N W pb w j0 0) (h : P (nI (fp n c D N W pb w (j0 - i) (ch n c D N W pb w j0 i))) μ) : hX2_partOfBest_25 G l P (nI j0) (nI i) (0 : Int32) (0 : Int32) μ := by
  have get : ∀ k, k < j0 → gm_r μ (120 + 1 + (j0 - k)) (ch n c D N W pb w j0 k) = nI (fp n c D N W pb w (j0 - k) (ch n c D N W pb w j0 k)) ∧ ch n c D N W pb w j0 k < 1024 := fun k hk => by
    have ih := ch_ok hw hj0 hT h0 k (by omega)
    obtain ⟨f, f1, f2⟩ := (hT _ ih.1 (j0 - k) (by omega)).2 (by omega) (by rw [bp_top]; exact ih.2)
    have f2' : isF (vl n c D N W pb w (j0 - k - 1) (ch n c D N W pb w j0 k)) (bs n c D N W pb w (j0 - k) (ch n c D N W pb w j0 k)) f := by
      rw [← bp_top]; exact f2
    obtain ⟨e, _, _⟩ := fp_ok hw ih.1 (by omega) ih.2 f2'
    rw [f1, ← e]
    exact ⟨rfl, Nat.lt_of_le_of_lt (sb_le ih.1) hw⟩
  refine down (H := fun k => hX2_partOfBest_25 G l P (nI j0) (nI i) (nI (ch n c D N W pb w j0 k)) (nI k) μ) (n := i) ?_ ?_
  · obtain ⟨g1, g2⟩ := get i hi
    refine eX2_partOfBest_25 ⟨fun _ => ⟨by rw [h144]; decide, ?_⟩, fun q => absurd (Int32.le_refl _) q⟩
    rw [pk_sub (by omega), nI_clamp (by omega), nI_clamp (by omega), g1]
    exact ⟨vp_in_nI (by omega) (by decide), vp_in_nI (by omega) (by decide), h⟩
  · intro k hk ih
    obtain ⟨g1, g2⟩ := get k (by omega)
    refine eX2_partOfBest_25 ⟨fun q => absurd q (nI_ge (by omega) (by omega)), fun _ => ⟨by rw [h144]; decide, ?_⟩⟩
    rw [pk_sub (by omega), nI_clamp (by omega), nI_clamp (by omega), g1, nI_or, nI_1]
    refine ⟨vp_in_nI (by omega) (by decide), vp_in_nI (by omega) (by decide), fun v e => ?_⟩
    rw [e, ← ch_succ]
    exact ih
theorem m_part {P : Int32 → Mem → Prop} {j0 : Nat} {x3 : Int32} {μ0 : Mem} (hw : w < 1024) (hj0 : j0 ≤ 10) (hT0 : PT n c D N W pb w μ0) (hT : ∀ a, Sb a w → ∀ j, j ≤ j0 → MB1 n c D N W pb w a j μ) (h0 : 0 < bs n c D N W pb w j0 0) (hin : ∀ i, i < j0 → x3 = nI i → P (nI (fp n c D N W pb w (j0 - i) (ch n c D N W pb w j0 i))) μ) (hout : (¬ ∃ i, i < j0 ∧ x3 = nI i) → P (-1) μ) : hX10_plan_78 G l P (nI j0) x3 (0 : Int32) (0 : Int32) μ := by
  have loop : ∀ d k, k + d = j0 → (∀ i, i < k → x3 ≠ nI i) → hX10_plan_78 G l P (nI j0) x3 (nI (ch n c D N W pb w j0 k)) (nI k) μ := by
    intro d
    induction d with
    | zero =>
      intro k hk hno
      refine eX10_plan_78 ⟨fun _ => hout (fun ⟨i, h1, h2⟩ => hno i (by omega) h2), fun q => absurd (by rw [show k = j0 by omega]; exact Int32.le_refl _) q⟩
    | succ d ih =>
      intro k hk hno
      have ihk := ch_ok hw hj0 hT0 h0 k (by omega)
      obtain ⟨f, f1, f2⟩ := (hT _ ihk.1 (j0 - k) (by omega)).2 (by omega) ihk.2
      obtain ⟨e, _, _⟩ := fp_ok hw ihk.1 (by omega) ihk.2 f2
      have hc2 := Nat.lt_of_le_of_lt (sb_le ihk.1) hw
      refine eX10_plan_78 ⟨fun q => absurd q (nI_ge (by omega) (by omega)), fun _ => ?_⟩
      rw [pk_sub (by omega), ix_I, nI_clamp (by omega), f1, e, nI_1]
      refine ⟨vp_in_nI (by omega) (by decide), fun v ev => ⟨fun q => ?_, fun q => ?_⟩⟩
      · rw [ev, nI_or, ← ch_succ]
        refine ih (k + 1) (by omega) (fun i hi z => ?_)
        by_cases e2 : i = k
        · subst e2; exact q z.symm
        · exact hno i (by omega) z
      · rw [ev]
        exact hin k (by omega) q.symm
  exact loop j0 0 (by omega) (fun i hi => absurd hi (by omega))
end PLANP
