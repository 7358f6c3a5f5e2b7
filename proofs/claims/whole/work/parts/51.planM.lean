/-! plan: the model's tables -/
def Mf (i : Nat) (μ μ' : Mem) : Prop := μ'.1 = μ.1 ∧ μ'.2.2 = μ.2.2 ∧ ∀ o k, ((o ≠ 97 ∧ o ≠ 98) ∨ k ≠ i) → gm_r μ' o k = gm_r μ o k
theorem Mf.rfl {i : Nat} {μ : Mem} : Mf i μ μ := ⟨Eq.refl _, Eq.refl _, fun _ _ _ => Eq.refl _⟩
theorem Mf.w {i o : Nat} {μ μ' : Mem} {v : Int32} (h : Mf i μ μ') (ho : o = 97 ∨ o = 98) : Mf i μ (gm_w μ' o i v) := ⟨h.1, h.2.1, fun o' k q => by
  rw [gm_rw, if_neg (fun z => by omega)]
  exact h.2.2 o' k q⟩
theorem Mf.on {i : Nat} {μ μ' : Mem} (h : Mf i μ μ') : On [90, 95, 96, 97, 98] μ μ' := ⟨h.1, h.2.1, fun o k q => h.2.2 o k (Or.inl (by simp at q; omega))⟩
theorem mx_of {val : Nat → Nat} {v : Nat} (h0 : val 0 = 0) (h1 : ∀ p, 0 < p → p < 1024 → val p ≤ v) (h2 : v = 0 ∨ ∃ f, f < 1024 ∧ val f = v) : mxv val 1024 = v := by
  refine Nat.le_antisymm (mxv_le (fun p hp => ?_)) ?_
  · by_cases e : p = 0
    · rw [e, h0]; omega
    · exact h1 p (by omega) hp
  · rcases h2 with h2 | ⟨f, h3, h4⟩
    · omega
    · rw [← h4]; exact mxv_ge h3
theorem ix_I {j x : Nat} : (1024 : Int32) * nI j + nI x = nI (1024 * j + x) := by
  rw [show (1024 : Int32) = nI 1024 from rfl, pk_mul, nI_add]
section PLANM
variable {G : gC} {l : Launch} {μ : Mem} {n : Nat} {c : Nat → Nat → Nat} {D N W : Nat → Nat} {pb w : Nat}
def MB1 (n : Nat) (c : Nat → Nat → Nat) (D N W : Nat → Nat) (pb w a j : Nat) (μ : Mem) : Prop := gm_r μ 97 (1024 * j + a) = nI (bs n c D N W pb w j a) - 1 ∧ (0 < j → 0 < bs n c D N W pb w j a → ∃ f, gm_r μ 98 (1024 * j + a) = nI f ∧ isF (vl n c D N W pb w (j - 1) a) (bs n c D N W pb w j a) f)
theorem MB1.mf {a j i : Nat} {μ' : Mem} (h : MB1 n c D N W pb w a j μ) (hf : Mf i μ μ') (hi : 1024 * j + a ≠ i) : MB1 n c D N W pb w a j μ' := by
  unfold MB1
  rw [hf.2.2 _ _ (Or.inr hi), hf.2.2 98 _ (Or.inr hi)]
  exact h
theorem MB1.on {a j : Nat} {μ' : Mem} (h : MB1 n c D N W pb w a j μ) (hf : On [95, 96] μ μ') : MB1 n c D N W pb w a j μ' := by
  unfold MB1
  rw [hf.2.2 _ _ (by decide), hf.2.2 98 _ (by decide)]
  exact h
/-- the parts behind x, for j + 1 of them -/
theorem m_row {P : Mem → Prop} {x j j0 : Nat} (hK : SK n c D) (hW : LK W) (hw : w < 2 ^ n) (hx : Sb x w) (hj : j < j0) (hj0 : j0 ≤ 12) (hWT : ∀ p, Sb p (sd w x) → 0 < p → gm_r μ 96 p = nI (wo n c D N W (pb ||| x) p) - 1) (hT : ∀ a, Sb a w → x < a → MB1 n c D N W pb w a j μ) (h97 : gm_r μ 97 (1024 * (j + 1) + x) = -1) (h : ∀ μ', Mf (1024 * (j + 1) + x) μ μ' → MB1 n c D N W pb w x (j + 1) μ' → hX10_findPlan_40 G l P (nI j0) (nI w) (nI x) (nI (sd w x)) (nI (j + 1 + 1)) μ') : hX10_findPlan_90 G l P (nI j0) (nI w) (nI x) (nI (sd w x)) (nI (j + 1)) (nI (1024 * (j + 1) + x)) (nI (sd w x)) μ := by
  have hn := hK.1
  have hw2 := lt1024 hn hw
  have hx2 := Nat.lt_of_le_of_lt (sb_le hx) hw2
  have hl2 : sd w x < 1024 := Nat.lt_of_le_of_lt (sd_le w x) hw2
  have all : ∀ μ' v, Mf (1024 * (j + 1) + x) μ μ' → gm_r μ' 97 (1024 * (j + 1) + x) = nI v - 1 → v ≤ 400 * (j + 1) + 1 → (∀ p, sd w x < p → p < 1024 → vl n c D N W pb w j x p ≤ v) → (0 < v → ∃ f, gm_r μ' 98 (1024 * (j + 1) + x) = nI f ∧ sd w x < f ∧ f < 1024 ∧ vl n c D N W pb w j x f = v ∧ ∀ q, sd w x < q → q < f → vl n c D N W pb w j x q < v) → hX10_findPlan_90 G l P (nI j0) (nI w) (nI x) (nI (sd w x)) (nI (j + 1)) (nI (1024 * (j + 1) + x)) (nI (sd w x)) μ' := by
    refine desc (H := fun y => ∀ μ' v, Mf (1024 * (j + 1) + x) μ μ' → gm_r μ' 97 (1024 * (j + 1) + x) = nI v - 1 → v ≤ 400 * (j + 1) + 1 → (∀ p, y < p → p < 1024 → vl n c D N W pb w j x p ≤ v) → (0 < v → ∃ f, gm_r μ' 98 (1024 * (j + 1) + x) = nI f ∧ y < f ∧ f < 1024 ∧ vl n c D N W pb w j x f = v ∧ ∀ q, y < q → q < f → vl n c D N W pb w j x q < v) → hX10_findPlan_90 G l P (nI j0) (nI w) (nI x) (nI (sd w x)) (nI (j + 1)) (nI (1024 * (j + 1) + x)) (nI y) μ') (l := sd w x) ?_ ?_
    · intro μ' v f1 k1 k2 k3 k4
      have ev : bs n c D N W pb w (j + 1) x = v := by
        rw [bs_succ]
        refine mx_of vl_0 k3 ?_
        by_cases e : v = 0
        · exact Or.inl e
        · obtain ⟨f, _, _, h3, h4, _⟩ := k4 (by omega)
          exact Or.inr ⟨f, h3, h4⟩
      refine eX10_findPlan_90 ⟨fun _ => ?_, fun q => absurd (Int32.le_refl _) q⟩
      rw [nI_1]
      refine h μ' f1 ⟨by rw [ev]; exact k1, fun _ hp => ?_⟩
      rw [ev] at hp ⊢
      obtain ⟨f, h1, _, h3, h4, h5⟩ := k4 hp
      refine ⟨f, h1, h4, fun q hq => ?_⟩
      by_cases e : q = 0
      · rw [e]
        show vl n c D N W pb w j x 0 < v
        rw [vl_0]; exact hp
      · exact h5 q (by omega) hq
    · intro y hy hy0 _ hylt hlow ih μ' v f1 k1 k2 k3 k4
      have hy2 : y < 1024 := Nat.lt_of_le_of_lt (sb_le hy) hl2
      obtain ⟨g1, g2, g3, g4, g5, g6⟩ := part_ok hw2 hx (by omega) hy
      have hsd : sd y (sd w x) = 0 := (sd_zero g5).mpr hy
      have hag : x ||| y < 1024 := Nat.lt_of_le_of_lt (sb_le g1) hw2
      have hwo := wo_le (N := N) hK hW (pb ||| x) y
      have hbi := bs_le (N := N) (pb := pb) (w := w) hK hW j (x ||| y)
      have hvl : vl n c D N W pb w j x y ≤ 400 * j + 400 + 1 := by
        rw [vl_of (by omega) hsd]; exact comb_le hbi hwo
      have gap : ∀ p, (y - 1) &&& sd w x < p → p < 1024 → p < y → vl n c D N W pb w j x p = 0 := fun p h1 h2 h3 => Nat.eq_zero_of_not_pos (fun z => by
        have := hlow p ((sd_zero h2).mp (vl_pos z).2.1) h3
        omega)
      have skip : vl n c D N W pb w j x y ≤ v → vl n c D N W pb w j x y < v ∨ v = 0 → hX10_findPlan_90 G l P (nI j0) (nI w) (nI x) (nI (sd w x)) (nI (j + 1)) (nI (1024 * (j + 1) + x)) ((nI y - (1 : Int32)) &&& nI (sd w x)) μ' := fun hle hlt => by
        rw [dn_I hy0]
        refine ih μ' v f1 k1 k2 (fun p h1 h2 => ?_) (fun hv => ?_)
        · by_cases e : p = y
          · rw [e]; exact hle
          · by_cases e2 : p < y
            · rw [gap p h1 h2 e2]; omega
            · exact k3 p (by omega) h2
        · obtain ⟨f, h1, h2, h3, h4, h5⟩ := k4 hv
          refine ⟨f, h1, by omega, h3, h4, fun q h6 h7 => ?_⟩
          by_cases e : q = y
          · rw [e]; omega
          · by_cases e2 : q < y
            · rw [gap q h6 (by omega) e2]; exact hv
            · exact h5 q (by omega) h7
      refine eX10_findPlan_90 ⟨fun q => absurd q (by rw [show (0 : Int32) = nI 0 from rfl, nI_leI (by omega) (by decide)]; omega), fun _ => ⟨fun q => absurd q (by rw [show (0 : Int32) = nI 0 from rfl, nI_leI (by omega) (by decide)]; omega), fun _ => ⟨vp_in_nI (by omega) (by decide), ?_⟩⟩⟩
      rw [nI_clamp (by omega), f1.2.2 96 _ (Or.inl (by decide)), hWT y hy hy0, dI_0le (by omega), nI_pred, nI_or, ix_I, nI_clamp (by omega), f1.2.2 97 _ (Or.inr (by omega)), (hT _ g1 g2).1]
      refine ⟨fun q => ⟨vp_in_nI (by omega) (by decide), eX10_findPlan_132 ?_⟩, fun q => eX10_findPlan_132 ⟨fun _ => skip ?_ ?_, fun z => absurd (by decide) z⟩⟩
      · rw [dI_neg (by omega), nI_clamp (by omega), nI_clamp (by omega), f1.2.2 96 _ (Or.inl (by decide)), hWT y hy hy0, k1]
        refine ⟨fun z => skip ?_ ?_, fun z => ⟨vp_in_nI (by omega) (by decide), vp_in_nI (by omega) (by decide), ?_⟩⟩
        · rw [vl_of (by omega) hsd, z]; unfold comb; rw [if_pos (Or.inl rfl)]; omega
        · rw [vl_of (by omega) hsd, z]; unfold comb; rw [if_pos (Or.inl rfl)]; omega
        · rw [dI_add (by omega) (by omega), ← vl_of (by omega) hsd, dI_dlt (by omega) (by omega)]
          refine ⟨fun z2 => skip (by omega) (by omega), fun z2 => ?_⟩
          rw [dn_I hy0]
          have hvp : 0 < vl n c D N W pb w j x y := by
            rw [vl_of (by omega) hsd, comb_pos]; omega
          refine ih _ (vl n c D N W pb w j x y) ((f1.w (Or.inl rfl)).w (Or.inr rfl)) (by rw [gm_rw_o (by decide), gm_rw_s]) (by omega) (fun p h1 h2 => ?_) (fun hv => ⟨y, by rw [gm_rw_s], hylt, hy2, rfl, fun q h6 h7 => ?_⟩)
          · by_cases e : p = y
            · rw [e]; omega
            · by_cases e2 : p < y
              · rw [gap p h1 h2 e2]; omega
              · have := k3 p (by omega) h2; omega
          · rw [gap q h6 (by omega) h7]; exact hvp
      · have : wo n c D N W (pb ||| x) y = 0 := by omega
        rw [vl_of (by omega) hsd, this]; unfold comb; rw [if_pos (Or.inr rfl)]; omega
      · have : wo n c D N W (pb ||| x) y = 0 := by omega
        rw [vl_of (by omega) hsd, this]; unfold comb; rw [if_pos (Or.inr rfl)]; omega
  refine all μ 0 Mf.rfl (by rw [h97]; rfl) (by omega) (fun p h1 h2 => Nat.le_of_eq (Nat.eq_zero_of_not_pos (fun z => ?_))) (fun z => absurd z (by omega))
  have := sb_le ((sd_zero h2).mp (vl_pos z).2.1)
  omega
theorem m_plan {P : Mem → Prop} {j0 : Nat} (hS : ST n c D μ) (hV : NV N μ) (hL : LW W μ) (hpr : gm_r μ 78 23 = nI pb) (hpn : pb < 2 ^ n) (hw : w < 2 ^ n) (hd : pb &&& w = 0) (hj0 : j0 ≤ 12) (h : ∀ μ', On [90, 95, 96, 97, 98] μ μ' → (∀ a, Sb a w → ∀ j, j ≤ j0 → MB1 n c D N W pb w a j μ') → P μ') : qX10_findPlan G l (nI j0) (nI w) μ P := by
  have hK := hS.2.2
  have hn := hK.1
  have hW := hL.2.2
  have hw2 := lt1024 hn hw
  refine eX10_findPlan (m_coming hS hV (fun μ1 o1 c1 => ?_))
  have o1' : On [90, 95, 96, 97, 98] μ μ1 := o1.on (by decide)
  have loop : ∀ S, S ≤ w + 1 → ∀ μ', On [90, 95, 96, 97, 98] μ μ' → CM n c D N μ' → (∀ a, Sb a w → S ≤ a → ∀ j, j ≤ j0 → MB1 n c D N W pb w a j μ') → hX10_findPlan_6 G l P (nI j0) (nI w) (nI S - 1) μ' := by
    intro S
    induction S with
    | zero =>
      intro _ μ' o2 _ t2
      exact eX10_findPlan_6 ⟨fun _ => h μ' o2 (fun a ha => t2 a ha (Nat.zero_le _)), fun q => absurd (by decide) q⟩
    | succ x ih =>
      intro hS1 μ' o2 c2 t2
      have hx2 : x < 1024 := by omega
      rw [nI_pred]
      refine eX10_findPlan_6 ⟨fun q => absurd q (nI_pos (by omega)), fun _ => ?_⟩
      rw [nI_sd, nI_z (Nat.lt_of_le_of_lt (sd_le _ _) (by omega)), show nI x + (-1 : Int32) = nI x - 1 from (Int32.sub_eq_add_neg _ _).symm]
      refine ⟨fun q => ih (by omega) μ' o2 c2 (fun a ha hle => t2 a ha ?_), fun q => ?_⟩
      · by_cases e : a = x
        · subst e; exact absurd ((sd_zero hx2).mpr ha) q
        · omega
      · have hx : Sb x w := (sd_zero hx2).mp q
        have hxn : x < 2 ^ n := by omega
        have hln : sd w x < 2 ^ n := Nat.lt_of_le_of_lt (sd_le w x) hw
        have hl2 := lt1024 hn hln
        have hb : pb ||| x < 2 ^ n := Nat.or_lt_two_pow hpn hxn
        have hdj : (pb ||| x) &&& sd w x = 0 := by
          apply Nat.eq_of_testBit_eq
          intro i
          rw [Nat.testBit_and, Nat.zero_testBit]
          by_cases q : (sd w x).testBit i = true
          · have hi : i < 10 := Nat.lt_of_not_le (fun z => by rw [hi_bit hl2 z] at q; exact absurd q (by decide))
            have q2 := q
            rw [sd_bit (by omega), Bool.and_eq_true] at q2
            have h1 : pb.testBit i = false := dj_bit hd q2.1
            have h2 : x.testBit i = false := by simpa using q2.2
            rw [Nat.testBit_or, h1, h2]; rfl
          · rw [Bool.not_eq_true] at q
            rw [q, Bool.and_false]
        have f2 : Fr [0] μ μ' := o2.fr (fun o k z => on_m (by simp at z ⊢; omega))
        rw [o2.2.2 78 _ (by decide), hpr, nI_or, nI_sd]
        refine m_worths (hS.fr f2 (by decide)) c2 (hL.fr f2 (by decide)) hb hln hdj (fun μ3 o3 w3 => ?_)
        have rows : ∀ d j μ4, j + d = j0 + 1 → On [90, 95, 96, 97, 98] μ μ4 → CM n c D N μ4 → (∀ p, Sb p (sd w x) → 0 < p → gm_r μ4 96 p = nI (wo n c D N W (pb ||| x) p) - 1) → (∀ a, Sb a w → x < a → ∀ j, j ≤ j0 → MB1 n c D N W pb w a j μ4) → (∀ i, i < j → MB1 n c D N W pb w x i μ4) → hX10_findPlan_40 G l P (nI j0) (nI w) (nI x) (nI (sd w x)) (nI j) μ4 := by
          intro d
          induction d with
          | zero =>
            intro j μ4 hj o4 c4 w4 t4 u4
            refine eX10_findPlan_40 ⟨fun _ => ?_, fun z => absurd (nI_lt (by omega) (by omega)) z⟩
            rw [show nI x + (-1 : Int32) = nI x - 1 from (Int32.sub_eq_add_neg _ _).symm]
            refine ih (by omega) μ4 o4 c4 (fun a ha hle i hi => ?_)
            by_cases e : a = x
            · subst e; exact u4 i (by omega)
            · exact t4 a ha (by omega) i hi
          | succ d ihd =>
            intro j μ4 hj o4 c4 w4 t4 u4
            have mfw : ∀ (v : Int32), Mf (1024 * j + x) μ4 (gm_w (gm_w μ4 97 (1024 * j + x) v) 98 (1024 * j + x) (-1)) := fun v => (Mf.rfl.w (Or.inl rfl)).w (Or.inr rfl)
            have keep : ∀ μ5 μ6, On [90, 95, 96, 97, 98] μ μ5 → CM n c D N μ5 → Mf (1024 * j + x) μ5 μ6 → On [90, 95, 96, 97, 98] μ μ6 ∧ CM n c D N μ6 := fun μ5 μ6 q1 q2 q3 => ⟨q1.trans q3.on, fun s hs => by rw [q3.2.2 90 _ (Or.inl (by decide))]; exact q2 s hs⟩
            refine eX10_findPlan_40 ⟨fun z => absurd z (nI_nlt (by omega) (by omega)), fun _ => ?_⟩
            rw [ix_I, nI_clamp (by omega), nI_z (by omega)]
            have fin : ∀ μ5, Mf (1024 * j + x) μ4 μ5 → MB1 n c D N W pb w x j μ5 → hX10_findPlan_40 G l P (nI j0) (nI w) (nI x) (nI (sd w x)) (nI (j + 1)) μ5 := fun μ5 m5 b5 => by
              obtain ⟨o5, c5⟩ := keep μ4 μ5 o4 c4 m5
              refine ihd (j + 1) μ5 (by omega) o5 c5 (fun p hp h0 => by rw [m5.2.2 96 _ (Or.inl (by decide))]; exact w4 p hp h0) (fun a ha hlt i hi => (t4 a ha hlt i hi).mf m5 ?_) (fun i hi => ?_)
              · have := sb_le ha; omega
              · by_cases e : i = j
                · subst e; exact b5
                · exact (u4 i (by omega)).mf m5 (by omega)
            have zero : ∀ v : Int32, j = 0 → v = nI (bs n c D N W pb w 0 x) - 1 → hX10_findPlan_90 G l P (nI j0) (nI w) (nI x) (nI (sd w x)) (nI j) (nI (1024 * j + x)) (nI (sd w x)) (gm_w (gm_w μ4 97 (1024 * j + x) v) 98 (1024 * j + x) (-1)) := fun v hz hv => by
              have := fin _ (mfw v) ⟨by rw [gm_rw_o (by decide), gm_rw_s, hv, hz], fun z => absurd z (by omega)⟩
              rw [← nI_1] at this
              refine eX10_findPlan_90 ⟨fun _ => this, fun _ => ⟨fun _ => this, fun z => absurd (by rw [hz]; exact Int32.le_refl _) z⟩⟩
            refine ⟨fun z => ⟨vp_in_nI (by omega) (by decide), ?_⟩, fun z => ?_⟩
            · obtain ⟨i, rfl⟩ : ∃ i, j = i + 1 := ⟨j - 1, by omega⟩
              have m5 := mfw (-1)
              refine m_row hK hW hw hx (by omega) hj0 (fun p hp h0 => by rw [m5.2.2 96 _ (Or.inl (by decide))]; exact w4 p hp h0) (fun a ha hlt => (t4 a ha hlt i (by omega)).mf m5 (by have := sb_le ha; omega)) (by rw [gm_rw_o (by decide), gm_rw_s]) (fun μ6 m6 b6 => ?_)
              have m7 : Mf (1024 * (i + 1) + x) μ4 μ6 := ⟨m6.1.trans m5.1, m6.2.1.trans m5.2.1, fun o k q => (m6.2.2 o k q).trans (m5.2.2 o k q)⟩
              exact fin μ6 m7 b6
            · rw [nI_eq (by omega) (by omega)]
              refine ⟨fun z2 => ⟨vp_in_nI (by omega) (by decide), zero _ z ?_⟩, fun z2 => ⟨vp_in_nI (by omega) (by decide), zero _ z ?_⟩⟩
              · show _ = nI (if x = w then 1 else 0) - 1
                rw [if_neg z2]; rfl
              · show _ = nI (if x = w then 1 else 0) - 1
                rw [if_pos z2]; rfl
        exact rows (j0 + 1) 0 μ3 (by omega) (o2.trans (o3.mono (by decide))) (fun s hs => by rw [o3.2.2 90 _ (by decide)]; exact c2 s hs) w3 (fun a ha hlt j hj => (t2 a ha (by omega) j hj).on o3) (fun i hi => absurd hi (by omega))
  have := loop (w + 1) (Nat.le_refl _) μ1 o1' c1 (fun a ha hle => absurd (sb_le ha) (by omega))
  rw [nI_pred] at this
  exact this
end PLANM
