/-! the WORTH of parts: the model's table -/
section MWORTH
variable {G : gC} {l : Launch} {μ : Mem} {n : Nat} {c : Nat → Nat → Nat} {D N W : Nat → Nat}
def RT (n : Nat) (c : Nat → Nat → Nat) (D N : Nat → Nat) (b w : Nat) (μ : Mem) : Prop := ∀ p, Sb p w → gm_r μ 95 (b ||| p) = if RC tt (mA n c D N) n b p then 1 else 0
theorem m_hooks {P : Int32 → Mem → Prop} {b w p : Nat} (hS : ST n c D μ) (hC : CM n c D N μ) (hb : b < 2 ^ n) (hw : w < 2 ^ n) (hd : b &&& w = 0) (hR : RT n c D N b w μ) (hp : Sb p w) (h : P (if hkK n c (mA n c D N) b p n then 1 else 0) μ) : qX10_hooks G l (nI b) (nI p) μ P := by
  have hK := hS.2.2
  have hn := hK.1
  have hb2 := lt1024 hn hb
  have hw2 := lt1024 hn hw
  have hp2 : p < 1024 := Nat.lt_of_le_of_lt (sb_le hp) hw2
  have hbp : b ||| p < 1024 := Nat.or_lt_two_pow (n := 10) hb2 hp2
  refine eX10_hooks ?_
  rw [nI_or]
  refine t_open hS.2.1 hn (by omega) ?_
  have e1 : sd (un c 4 (b ||| p) n) (un c 5 (b ||| p) n) = opN n c (b ||| p) := rfl
  rw [e1]
  have hop := opN_lt hK (b ||| p)
  refine down (H := fun j => hX10_hooks_17 G l P (nI p) (nI (b ||| p)) (nI (opN n c (b ||| p))) (if hkK n c (mA n c D N) b p j then 1 else 0) (nI j) μ) (n := n) ?_ ?_
  · refine eX10_hooks_17 ⟨fun _ => ⟨?_, h⟩, fun q => absurd (by rw [hS.2.1.1]; exact Int32.le_refl _) q⟩
    cases hkK n c (mA n c D N) b p n <;> rfl
  · intro K hKn ih
    refine eX10_hooks_17 ⟨fun q => absurd (by rw [hS.2.1.1] at q; exact q) (nI_ge (by omega) (by omega)), fun _ v4 e4 => ?_⟩
    rw [nI_bit1 (by omega), nI_sd] at e4
    subst e4
    rw [nI_1]
    have one : hkK n c (mA n c D N) b p (K + 1) = true → hX10_hooks_17 G l P (nI p) (nI (b ||| p)) (nI (opN n c (b ||| p))) 1 (nI (K + 1)) μ := fun z => by rw [if_pos z] at ih; exact ih
    have zero : hkK n c (mA n c D N) b p (K + 1) = false → hX10_hooks_17 G l P (nI p) (nI (b ||| p)) (nI (opN n c (b ||| p))) 0 (nI (K + 1)) μ := fun z => by rw [z] at ih; exact ih
    rw [hkK_succ] at one zero
    refine ⟨fun q => one ?_, fun q => t_has (by omega) (by omega) ⟨fun q2 => zero ?_, fun q2 => ?_⟩⟩
    · have : hkK n c (mA n c D N) b p K = true := by
        by_cases z : hkK n c (mA n c D N) b p K = true
        · exact z
        · rw [if_neg z] at q; exact absurd rfl q
      rw [this]; rfl
    · rw [(if_has rfl).1] at q2
      have : ¬ hkK n c (mA n c D N) b p K = true := fun z => by rw [if_pos z] at q; exact absurd q (by decide)
      simp [this, q2]
    · rw [(if_has rfl).2] at q2
      have hnk : ¬ hkK n c (mA n c D N) b p K = true := fun z => by rw [if_pos z] at q; exact absurd q (by decide)
      have hbk : b.testBit K = false := dj_bit hd (hp K q2)
      have ecl : sd (b ||| p) (2 ^ K) = b ||| cl p K := cl_base hb2 hp2 hbk
      have hcl : cl p K < p := cl_lt hp2 q2
      have hbc : b ||| cl p K < 2 ^ n := Nat.or_lt_two_pow hb (Nat.lt_of_lt_of_le (Nat.lt_of_lt_of_le hcl (sb_le hp)) (by omega))
      have hbc2 := lt1024 hn hbc
      have hnx := lt1024 hn (nx_lt n c D N (b ||| cl p K))
      rw [ecl]
      refine t_setOf hS.2.1 hn hKn (j := 3) (by decide) ?_
      rw [nI_and, nI_z (Nat.lt_of_le_of_lt Nat.and_le_right (by omega)), nI_clamp (by omega)]
      refine ⟨fun q3 => zero ?_, fun q3 => ⟨vp_in_nI (by omega) (by decide), ?_⟩⟩
      · have q3' : c K 4 &&& opN n c (b ||| p) = 0 := q3
        simp [hnk, q3']
      · rw [hR _ (sb_trans cl_sb hp), hC _ hbc]
        refine ⟨fun q4 => zero ?_, fun q4 => t_has (by omega) (by omega) ⟨fun q5 => zero ?_, fun q5 => one ?_⟩⟩
        · have : ¬ RC tt (mA n c D N) n b (cl p K) = true := fun z => by rw [if_pos z] at q4; exact absurd q4 (by decide)
          simp [this, hnk]
        · rw [(if_has rfl).1, nx_bit hKn] at q5
          have q6 : mA n c D N (b ||| cl p K) K = false := q5
          simp [q6, hnk]
        · rw [(if_has rfl).2, nx_bit hKn] at q5
          have q6 : mA n c D N (b ||| cl p K) K = true := q5
          have q7 : RC tt (mA n c D N) n b (cl p K) = true := by
            by_cases z : RC tt (mA n c D N) n b (cl p K) = true
            · exact z
            · rw [if_neg z] at q4; exact absurd rfl q4
          have q3' : ¬ (c K 4 &&& opN n c (b ||| p)) = 0 := q3
          simp [q6, q7, q2, q3']
theorem m_worths {P : Mem → Prop} {b w : Nat} (hS : ST n c D μ) (hC : CM n c D N μ) (hL : LW W μ) (hb : b < 2 ^ n) (hw : w < 2 ^ n) (hd : b &&& w = 0) (h : ∀ μ', On [95, 96] μ μ' → (∀ p, Sb p w → 0 < p → gm_r μ' 96 p = nI (wo n c D N W b p) - 1) → P μ') : qX10_findWorths G l (nI b) (nI w) μ P := by
  have hK := hS.2.2
  have hn := hK.1
  have hb2 := lt1024 hn hb
  have hw2 := lt1024 hn hw
  refine eX10_findWorths (m_reach hS hC hb hw hd (fun μ1 o1 r1 => ?_))
  have o1' : On [95, 96] μ μ1 := o1.mono (by decide)
  have all : ∀ μ', On [95, 96] μ μ' → RT n c D N b w μ' → (∀ p, Sb p w → w < p → gm_r μ' 96 p = nI (wo n c D N W b p) - 1) → hX10_findWorths_8 G l P (nI b) (nI w) (nI w) μ' := by
    refine desc (H := fun x => ∀ μ', On [95, 96] μ μ' → RT n c D N b w μ' → (∀ p, Sb p w → x < p → gm_r μ' 96 p = nI (wo n c D N W b p) - 1) → hX10_findWorths_8 G l P (nI b) (nI w) (nI x) μ') (l := w) ?_ ?_
    · intro μ' o2 r2 k2
      exact eX10_findWorths_8 ⟨fun _ => h μ' o2 k2, fun q => absurd (Int32.le_refl _) q⟩
    · intro x hx hx0 _ _ hlow ih μ' o2 r2 k2
      have hx2 : x < 1024 := Nat.lt_of_le_of_lt (sb_le hx) hw2
      have hbx : b ||| x < 1024 := Nat.or_lt_two_pow (n := 10) hb2 hx2
      have f2 : Fr [0] μ μ' := o2.fr (fun o k z => on_m (by simp at z ⊢; omega))
      have hS2 := hS.fr f2 (by decide)
      have hC2 : CM n c D N μ' := fun s hs => by rw [o2.2.2 90 s (by decide)]; exact hC s hs
      have hL2 := (hL.fr f2 (by decide))
      have hop := opN_lt hK (b ||| x)
      have hli : sm c 0 x n ≤ 990 := by
        have := sm_le (c := c) (w := 0) (s := x) (m := 99) (n := n) (fun k hk => (hK.2 k hk).1.2)
        omega
      have step : ∀ v : Int32, v = nI (wo n c D N W b x) - 1 → hX10_findWorths_8 G l P (nI b) (nI w) ((nI x - (1 : Int32)) &&& nI w) (gm_w μ' 96 (nI x).toNatClampNeg v) := fun v hv => by
        rw [nI_clamp (by omega), dn_I hx0]
        refine ih _ (o2.w (by decide)) (fun p hp => by rw [gm_rw_o (by decide)]; exact r2 p hp) (fun p hp hlt => ?_)
        by_cases e : p = x
        · subst e; rw [gm_rw_s, hv]
        · rw [gm_rw_k e]
          exact k2 p hp (Nat.lt_of_le_of_ne (Nat.le_of_not_lt (fun z => by have := hlow p hp z; omega)) (Ne.symm e))
      have none : wo n c D N W b x = 0 → hX10_findWorths_63 G l P (nI b) (nI w) (nI x) 0 μ' := fun hz => eX10_findWorths_63 ⟨fun q => absurd rfl q, fun _ => ⟨vp_in_nI (by omega) (by decide), step _ (by rw [hz]; rfl)⟩⟩
      refine eX10_findWorths_8 ⟨fun q => absurd q (by rw [show (0 : Int32) = nI 0 from rfl, nI_leI (by omega) (by decide)]; omega), fun _ => ?_⟩
      rw [nI_or, nI_clamp (by omega), r2 x hx]
      refine ⟨vp_in_nI (by omega) (by decide), fun q => none ?_, fun q => t_ones (by omega) ⟨fun q2 => none ?_, fun q2 => t_lines hS2.2.1 hn (by omega) ?_⟩⟩
      · have : ¬ RC tt (mA n c D N) n b x = true := fun z => by rw [if_pos z] at q; exact absurd q (by decide)
        unfold wo; rw [if_neg (fun z => this z.1)]
      · rw [show (6 : Int32) = nI 6 from rfl, nI_ltI (by decide) (by have := pcn_le x 10; show pcn x 10 < _; omega)] at q2
        unfold wo; rw [if_neg (fun z => by omega)]
      · have hrc : RC tt (mA n c D N) n b x = true := by
          by_cases z : RC tt (mA n c D N) n b x = true
          · exact z
          · rw [if_neg z] at q; exact absurd rfl q
        rw [show (6 : Int32) = nI 6 from rfl, nI_ltI (by decide) (by have := pcn_le x 10; show pcn x 10 < _; omega)] at q2
        have w0 := hL2.2.1 0 (by decide)
        have w1 := hL2.2.1 1 (by decide)
        have hW := hL2.2.2
        refine t_inI _ _ rfl rfl ?_
        rw [w0, w1]
        have hiff : (nI (W 0) ≤ nI (sm c 0 x n) ∧ nI (sm c 0 x n) ≤ nI (W 1)) ↔ (W 0 ≤ sm c 0 x n ∧ sm c 0 x n ≤ W 1) := by
          rw [nI_leI (by have := hW.1; omega) (by omega), nI_leI (by omega) (by have := hW.1; omega)]
        refine ⟨fun q3 => none ?_, fun q3 => ?_⟩
        · have : ¬ (W 0 ≤ sm c 0 x n ∧ sm c 0 x n ≤ W 1) := fun z => by rw [if_pos (hiff.mpr z)] at q3; exact absurd q3 (by decide)
          unfold wo; rw [if_neg (fun z => this z.2.2)]
        · have hin : W 0 ≤ sm c 0 x n ∧ sm c 0 x n ≤ W 1 := by
            by_cases z : W 0 ≤ sm c 0 x n ∧ sm c 0 x n ≤ W 1
            · exact z
            · rw [if_neg (fun y => z (hiff.mp y))] at q3; exact absurd rfl q3
          have ew : wo n c D N W b x = sm c 1 x n + W 5 * pc (opN n c (b ||| x)) + (if hkK n c (mA n c D N) b x n = true then W 4 else 0) + 1 := by
            unfold wo; rw [if_pos ⟨hrc, by omega, hin⟩]
          refine eX10_findWorths_63 ⟨fun _ => t_joy hS2.2.1 hn (by omega) ?_, fun z => absurd z (by decide)⟩
          rw [nI_or]
          refine t_open hS2.2.1 hn (by omega) ?_
          have e1 : sd (un c 4 (b ||| x) n) (un c 5 (b ||| x) n) = opN n c (b ||| x) := rfl
          rw [e1]
          refine t_ones (by omega) (m_hooks hS2 hC2 hb hw hd r2 hx ?_)
          rw [hL2.2.1 5 (by decide), hL2.2.1 4 (by decide), pk_mul, nI_add]
          refine ⟨fun q4 => ⟨vp_in_nI (by omega) (by decide), step _ ?_⟩, fun q4 => ⟨vp_in_nI (by omega) (by decide), step _ ?_⟩⟩
          · have : ¬ hkK n c (mA n c D N) b x n = true := fun z => by rw [if_pos z] at q4; exact absurd q4 (by decide)
            rw [ew, if_neg this, nI_pred, Int32.add_zero]
          · have : hkK n c (mA n c D N) b x n = true := by
              by_cases z : hkK n c (mA n c D N) b x n = true
              · exact z
              · rw [if_neg z] at q4; exact absurd rfl q4
            rw [ew, if_pos this, nI_pred, nI_add]
  exact all μ1 o1' r1 (fun p hp hlt => absurd (sb_le hp) (by omega))
end MWORTH
