/-! order -/
/-- the SCENES below K looked at behind now: 0 none yet, k + 1 found; what is left -/
def scn (A : Nat → Nat → Bool) (n w now left : Nat) : Nat → Nat × Nat | 0 => (0, left) | K + 1 => if (scn A n w now left K).1 ≠ 0 then scn A n w now left K else if A now K = true ∧ w.testBit K = true then (if (scn A n w now left K).2 < en A n w (now ||| 2 ^ K) then (K + 1, (scn A n w now left K).2) else (0, (scn A n w now left K).2 - en A n w (now ||| 2 ^ K))) else scn A n w now left K
def wkR (A : Nat → Nat → Bool) (n w : Nat) : Nat → Nat → Nat → Nat | 0, now, left => (scn A n w now left n).1 - 1 | d + 1, now, left => wkR A n w d (now ||| 2 ^ ((scn A n w now left n).1 - 1)) (scn A n w now left n).2
section SCN
variable {A : Nat → Nat → Bool} {n w now left : Nat}
theorem scn_succ (K : Nat) : scn A n w now left (K + 1) = if (scn A n w now left K).1 ≠ 0 then scn A n w now left K else if A now K = true ∧ w.testBit K = true then (if (scn A n w now left K).2 < en A n w (now ||| 2 ^ K) then (K + 1, (scn A n w now left K).2) else (0, (scn A n w now left K).2 - en A n w (now ||| 2 ^ K))) else scn A n w now left K := rfl
theorem scn_stay {K : Nat} (h : (scn A n w now left K).1 ≠ 0) : ∀ d, scn A n w now left (K + d) = scn A n w now left K
  | 0 => rfl
  | d + 1 => by
    have ih := scn_stay h d
    rw [← Nat.add_assoc, scn_succ, ih, if_pos h]
theorem scn_inv : ∀ K, ((scn A n w now left K).1 = 0 ∧ (scn A n w now left K).2 + fsum (fun k => if A now k = true ∧ w.testBit k = true then en A n w (now ||| 2 ^ k) else 0) K = left) ∨ (∃ k, k < K ∧ (scn A n w now left K).1 = k + 1 ∧ A now k = true ∧ w.testBit k = true ∧ (scn A n w now left K).2 < en A n w (now ||| 2 ^ k))
  | 0 => Or.inl ⟨rfl, rfl⟩
  | K + 1 => by
    have ih := scn_inv K
    rw [scn_succ]
    rcases ih with ⟨h1, h2⟩ | ⟨k, h1, h2, h3⟩
    · rw [if_neg (fun q => q h1)]
      have ef : fsum (fun k => if A now k = true ∧ w.testBit k = true then en A n w (now ||| 2 ^ k) else 0) (K + 1) = fsum (fun k => if A now k = true ∧ w.testBit k = true then en A n w (now ||| 2 ^ k) else 0) K + (if A now K = true ∧ w.testBit K = true then en A n w (now ||| 2 ^ K) else 0) := rfl
      by_cases h : A now K = true ∧ w.testBit K = true
      · rw [if_pos h]
        by_cases q : (scn A n w now left K).2 < en A n w (now ||| 2 ^ K)
        · rw [if_pos q]
          exact Or.inr ⟨K, by omega, rfl, h.1, h.2, q⟩
        · rw [if_neg q]
          refine Or.inl ⟨rfl, ?_⟩
          rw [ef, if_pos h]
          show (scn A n w now left K).2 - _ + _ = left
          omega
      · rw [if_neg h]
        refine Or.inl ⟨h1, ?_⟩
        rw [ef, if_neg h]
        exact h2
    · rw [if_pos (by omega)]
      exact Or.inr ⟨k, by omega, h2, h3⟩
theorem scn_le : ∀ K, (scn A n w now left K).1 ≤ K ∧ (scn A n w now left K).2 ≤ left
  | 0 => ⟨Nat.le_refl _, Nat.le_refl _⟩
  | K + 1 => by
    have ih := scn_le K
    rw [scn_succ]
    by_cases h1 : (scn A n w now left K).1 ≠ 0
    · rw [if_pos h1]; omega
    · rw [if_neg h1]
      by_cases h2 : A now K = true ∧ w.testBit K = true
      · rw [if_pos h2]
        by_cases h3 : (scn A n w now left K).2 < en A n w (now ||| 2 ^ K)
        · rw [if_pos h3]; exact ⟨Nat.le_refl _, ih.2⟩
        · rw [if_neg h3]; exact ⟨Nat.zero_le _, Nat.le_trans (Nat.sub_le _ _) ih.2⟩
      · rw [if_neg h2]; omega
theorem scn_ok (hn : n ≤ 10) (hA : ∀ s k, A s k = true → s.testBit k = false) (hw : w < 1024) (hnow : now < 1024) (hsub : sd now w = 0) (hne : now ≠ w) (hl : left < en A n w now) : ∃ k, k < n ∧ (scn A n w now left n).1 = k + 1 ∧ A now k = true ∧ w.testBit k = true ∧ (scn A n w now left n).2 < en A n w (now ||| 2 ^ k) := by
  rcases scn_inv (A := A) (n := n) (w := w) (now := now) (left := left) n with ⟨h1, h2⟩ | h
  · rw [en_rec hn hA hw hnow hsub, if_neg hne] at hl
    omega
  · exact h
end SCN
section ORDER
variable {G : gC} {l : Launch} {μ : Mem} {n : Nat} {c : Nat → Nat → Nat} {D N : Nat → Nat}
/-- where the walk stands behind p SCENES -/
def wkI (n : Nat) (c : Nat → Nat → Nat) (D N : Nat → Nat) (w p now left : Nat) : Prop := now < 2 ^ n ∧ sd now w = 0 ∧ pc now = p ∧ left < en (mA n c D N) n w now
theorem wkI_next {w p now left : Nat} (hn : n ≤ 10) (hw : w < 2 ^ n) (h : wkI n c D N w p now left) (hne : now ≠ w) : ∃ k, k < n ∧ (scn (mA n c D N) n w now left n).1 = k + 1 ∧ wkI n c D N w (p + 1) (now ||| 2 ^ k) (scn (mA n c D N) n w now left n).2 := by
  obtain ⟨h1, h2, h3, h4⟩ := h
  have hA := mA_no n c D N
  obtain ⟨k, g1, g2, g3, g4, g5⟩ := scn_ok hn hA (lt1024 hn hw) (lt1024 hn h1) h2 hne h4
  refine ⟨k, g1, g2, or_lt h1 g1, ?_, ?_, g5⟩
  · have hsub := (sd_zero (lt1024 hn h1)).mp h2
    refine (sd_zero (lt1024 hn (or_lt h1 g1))).mpr (fun i hi => ?_)
    rw [or_bit] at hi
    by_cases q : i = k
    · rw [q]; exact g4
    · simp [q] at hi; exact hsub i hi
  · rw [pc_or (by omega) (hA now k g3), h3]
theorem wk_ne {w p now left : Nat} (h : wkI n c D N w p now left) (hp : p < pc w) : now ≠ w := fun e => by
  rw [← e, h.2.2.1] at hp
  omega
theorem c_walk {P : Int32 → Mem → Prop} {w j : Nat} (hn : n ≤ 10) (hw : w < 2 ^ n) (hj : j < pc w) (hc : gm_r μ 4 1 = nI n) (hT : SVt n c D N μ) (hF : ∀ s, s ≤ w → gm_r μ 41 s = nI (en (mA n c D N) n w s)) : ∀ d p now left, p + d = j → wkI n c D N w p now left → P (nI (wkR (mA n c D N) n w d now left)) μ → ∀ x8, hX6_sceneOfOrder_45 G l P (nI w) (nI j) (nJ left) (nI now) x8 (nI p) μ := by
  have hA := mA_no n c D N
  have hw2 := lt1024 hn hw
  have hj10 : pc w ≤ 10 := pcn_le w 10
  -- looking through the SCENES
  have scan : ∀ p now left, wkI n c D N w p now left → p ≤ j → ∀ k, (scn (mA n c D N) n w now left n).1 = k + 1 → k < n → hX6_sceneOfOrder_45 G l P (nI w) (nI j) (nJ (scn (mA n c D N) n w now left n).2) (nI (now ||| 2 ^ k)) (nI k) (nI (p + 1)) μ → ∀ M : Nat, M < 1024 → (∀ i, i < n → M.testBit i = (mA n c D N now i && w.testBit i)) → hX6_sceneOfOrder_69 G l P (nI w) (nI j) (nJ left) (nI now) (-1) (nI p) (nI M) 0 μ := by
    intro p now left hI hpj k hk hkn hnext M hM hMb
    have hnow2 := lt1024 hn hI.1
    have hleft : left ≤ 3628800 := by
      have := en_le hn hA w now
      have := hI.2.2.2
      omega
    -- behind the loop
    have done : ∀ x8 lf : _, x8 = nI k → lf = (scn (mA n c D N) n w now left n).2 → ((¬ x8 = (-1 : Int32)) → ∀ v14 : Int32, v14 = (nI now ||| ((1 : Int32) <<< (x8 &&& 31))) → hX6_sceneOfOrder_45 G l P (nI w) (nI j) (nJ lf) v14 x8 (nI p + 1) μ) ∧ ((x8 = (-1 : Int32)) → P (-1) μ) := fun x8 lf e1 e2 => by
      subst e1 e2
      refine ⟨fun _ v e => ?_, fun q => absurd q (nI_nm1 (by omega))⟩
      rw [e, nI_bit1 (by omega), nI_or, nI_1]
      exact hnext
    have loop : ∀ d K, K + d = n → hX6_sceneOfOrder_69 G l P (nI w) (nI j) (nJ (scn (mA n c D N) n w now left K).2) (nI now) (nI (scn (mA n c D N) n w now left K).1 - 1) (nI p) (nI M) (nI K) μ := by
      intro d
      induction d with
      | zero =>
        intro K hK
        have eK : K = n := by omega
        subst eK
        refine eX6_sceneOfOrder_69 ⟨fun _ => done _ _ (by rw [hk, nI_pred]) rfl, fun q => absurd (by rw [hc]; exact Int32.le_refl _) q⟩
      | succ d ih =>
        intro K hK
        have hsl := scn_le (A := mA n c D N) (n := n) (w := w) (now := now) (left := left) K
        have ih1 := ih (K + 1) (by omega)
        refine eX6_sceneOfOrder_69 ⟨fun q => absurd (by rw [hc] at q; exact q) (nI_ge (by omega) (by omega)), fun _ => ?_⟩
        rw [dI_m1 (by omega)]
        refine ⟨fun q => ?_, fun q => ?_⟩
        · have est := scn_stay (A := mA n c D N) (n := n) (w := w) (now := now) (left := left) q (d + 1)
          rw [hK] at est
          have := done (nI (scn (mA n c D N) n w now left K).1 - 1) (scn (mA n c D N) n w now left K).2 (by rw [← est, hk, nI_pred]) (by rw [est])
          rw [dI_m1 (by omega)] at this
          exact this
        · rw [nI_has (by omega) (by omega), hMb K (by omega)]
          have es := scn_succ (A := mA n c D N) (n := n) (w := w) (now := now) (left := left) K
          rw [if_neg (fun z => z q)] at es
          refine ⟨fun z => ?_, fun z => ?_⟩
          · rw [if_neg (fun y => z (by rw [y.1, y.2]; rfl))] at es
            rw [es] at ih1
            refine eX6_sceneOfOrder_114 ⟨fun _ => ?_, fun y => absurd ?_ y⟩
            · rw [nI_1, show (0 : Int32).toInt64 = nJ 0 from rfl, nJ_sub (Nat.zero_le _), Nat.sub_zero]
              exact ih1
            · rw [cmp_ge, show (0 : Int32).toInt64 = nJ 0 from rfl, nJ_lt (by omega) (by decide)]
              omega
          · rw [Bool.and_eq_true] at z
            rw [if_pos z] at es
            have hsub := hI.2.1
            have hle := or_le_w hnow2 (show K < 10 by omega) hsub z.2
            have hel := en_le hn hA w (now ||| 2 ^ K)
            rw [nI_bit1 (by omega), nI_or, nI_clamp (by omega), hF _ hle]
            refine ⟨vp_in_nI (by omega) (by decide), eX6_sceneOfOrder_114 ?_⟩
            rw [nI_J (by omega), cmp_ge, nJ_lt (by omega) (by omega), nI_1]
            refine ⟨fun y => ?_, fun y => ?_⟩
            · rw [if_neg y] at es
              rw [es] at ih1
              rw [nJ_sub (by omega), q]
              exact ih1
            · have y' : (scn (mA n c D N) n w now left K).2 < en (mA n c D N) n w (now ||| 2 ^ K) := Decidable.byContradiction y
              rw [if_pos y'] at es
              rw [es, nI_pred] at ih1
              exact ih1
    exact loop n 0 (by omega)
  intro d
  induction d with
  | zero =>
    intro p now left hpd hI hP x8
    obtain ⟨k, k1, k2, k3⟩ := wkI_next hn hw hI (wk_ne hI (by omega))
    have hnx := lt1024 hn (nx_lt n c D N now)
    have hnow2 := lt1024 hn hI.1
    refine eX6_sceneOfOrder_45 ⟨fun q => absurd q (nI_nlt (by omega) (by omega)), fun _ => ⟨vp_in_nI (by omega) (by decide), fun v11 e11 => ?_⟩⟩
    rw [nI_clamp (by omega), (hT.2 now hI.1).2.2.2, nI_and] at e11
    subst e11
    refine scan p now left hI (by omega) k k2 k1 (eX6_sceneOfOrder_45 ⟨fun _ => ?_, fun q => absurd (nI_lt (by omega) (by omega)) q⟩) _ (Nat.lt_of_le_of_lt Nat.and_le_left hnx) (fun i hi => by rw [Nat.testBit_and, nx_bit hi]; rfl)
    have e : wkR (mA n c D N) n w 0 now left = k := by
      show (scn (mA n c D N) n w now left n).1 - 1 = k
      omega
    rw [e] at hP
    exact hP
  | succ d ih =>
    intro p now left hpd hI hP x8
    obtain ⟨k, k1, k2, k3⟩ := wkI_next hn hw hI (wk_ne hI (by omega))
    have hnx := lt1024 hn (nx_lt n c D N now)
    have hnow2 := lt1024 hn hI.1
    refine eX6_sceneOfOrder_45 ⟨fun q => absurd q (nI_nlt (by omega) (by omega)), fun _ => ⟨vp_in_nI (by omega) (by decide), fun v11 e11 => ?_⟩⟩
    rw [nI_clamp (by omega), (hT.2 now hI.1).2.2.2, nI_and] at e11
    subst e11
    refine scan p now left hI (by omega) k k2 k1 (ih (p + 1) _ _ (by omega) k3 ?_ _) _ (Nat.lt_of_le_of_lt Nat.and_le_left hnx) (fun i hi => by rw [Nat.testBit_and, nx_bit hi]; rfl)
    have e : wkR (mA n c D N) n w (d + 1) now left = wkR (mA n c D N) n w d (now ||| 2 ^ k) (scn (mA n c D N) n w now left n).2 := by
      show wkR (mA n c D N) n w d (now ||| 2 ^ ((scn (mA n c D N) n w now left n).1 - 1)) _ = _
      rw [k2]
      rfl
    rw [e] at hP
    exact hP
theorem m_walk {P : Int32 → Mem → Prop} {w j : Nat} (hn : n ≤ 10) (hw : w < 2 ^ n) (hj : j < 2 ^ 31) (hc : gm_r μ 78 0 = nI n) (hT : CM n c D N μ) (hF : ∀ s, s ≤ w → gm_l μ s = nJ (en (mA n c D N) n w s)) : ∀ d p now left, p + d = pc w → wkI n c D N w p now left → (pc w ≤ j → P (-1) μ) → p ≤ j → (j < pc w → P (nI (wkR (mA n c D N) n w (j - p) now left)) μ) → hX10_order_54 G l P (nI w) (nI j) (nJ left) (nI now) (nI p) μ := by
  have hA := mA_no n c D N
  have hw2 := lt1024 hn hw
  have hj10 : pc w ≤ 10 := pcn_le w 10
  have scan : ∀ p now left, wkI n c D N w p now left → p ≤ j → p ≤ 10 → ∀ k, (scn (mA n c D N) n w now left n).1 = k + 1 → k < n → (p = j → P (nI k) μ) → (p ≠ j → hX10_order_54 G l P (nI w) (nI j) (nJ (scn (mA n c D N) n w now left n).2) (nI (now ||| 2 ^ k)) (nI (p + 1)) μ) → hX10_order_66 G l P (nI w) (nI j) (nJ left) (nI now) (nI p) (-1) 0 μ := by
    intro p now left hI hpj hp10 k hk hkn hfin hnext
    have hnow2 := lt1024 hn hI.1
    have hleft : left ≤ 3628800 := by
      have := en_le hn hA w now
      have := hI.2.2.2
      omega
    have done : ∀ x9 lf : _, x9 = nI k → lf = (scn (mA n c D N) n w now left n).2 → ((¬ nI p = nI j) → ∀ v12 : Int32, v12 = (nI now ||| ((1 : Int32) <<< (x9 &&& 31))) → hX10_order_54 G l P (nI w) (nI j) (nJ lf) v12 (nI p + 1) μ) ∧ ((nI p = nI j) → P x9 μ) := fun x9 lf e1 e2 => by
      subst e1 e2
      rw [nI_eq (by omega) (by omega)]
      refine ⟨fun q v e => ?_, fun q => hfin q⟩
      rw [e, nI_bit1 (by omega), nI_or, nI_1]
      exact hnext q
    have loop : ∀ d K, K + d = n → hX10_order_66 G l P (nI w) (nI j) (nJ (scn (mA n c D N) n w now left K).2) (nI now) (nI p) (nI (scn (mA n c D N) n w now left K).1 - 1) (nI K) μ := by
      intro d
      induction d with
      | zero =>
        intro K hK
        have eK : K = n := by omega
        subst eK
        refine eX10_order_66 ⟨fun _ => done _ _ (by rw [hk, nI_pred]) rfl, fun q => absurd (by rw [hc]; exact Int32.le_refl _) q⟩
      | succ d ih =>
        intro K hK
        have hsl := scn_le (A := mA n c D N) (n := n) (w := w) (now := now) (left := left) K
        have ih1 := ih (K + 1) (by omega)
        have hnx := lt1024 hn (nx_lt n c D N now)
        refine eX10_order_66 ⟨fun q => absurd (by rw [hc] at q; exact q) (nI_ge (by omega) (by omega)), fun _ => ?_⟩
        rw [show (0 : Int32) ≤ nI (scn (mA n c D N) n w now left K).1 - 1 ↔ 0 + 1 ≤ (scn (mA n c D N) n w now left K).1 from dI_ge (p := 0) (by omega) (by decide)]
        refine ⟨fun q => ?_, fun q => ?_⟩
        · have est := scn_stay (A := mA n c D N) (n := n) (w := w) (now := now) (left := left) (K := K) (by omega) (d + 1)
          rw [hK] at est
          exact done (nI (scn (mA n c D N) n w now left K).1 - 1) (scn (mA n c D N) n w now left K).2 (by rw [← est, hk, nI_pred]) (by rw [est])
        · have q0 : (scn (mA n c D N) n w now left K).1 = 0 := by omega
          have es := scn_succ (A := mA n c D N) (n := n) (w := w) (now := now) (left := left) K
          rw [if_neg (fun z => z q0)] at es
          have skip : ¬ (mA n c D N now K = true ∧ w.testBit K = true) → hX10_order_66 G l P (nI w) (nI j) (nJ (scn (mA n c D N) n w now left K).2) (nI now) (nI p) (nI (scn (mA n c D N) n w now left K).1 - 1) (nI K + 1) μ := fun z => by
            rw [if_neg z] at es
            rw [es] at ih1
            rw [nI_1]
            exact ih1
          refine t_has (by omega) (by omega) ⟨fun z => ?_, fun z => ⟨vp_in_nI (by omega) (by decide), ?_⟩⟩
          · rw [(if_has rfl).1] at z
            exact skip (fun y => absurd (y.2.symm.trans z) (by decide))
          · rw [(if_has rfl).2] at z
            rw [nI_clamp (by omega), hT now hI.1]
            refine t_has (by omega) (by omega) ⟨fun y => ?_, fun y => ?_⟩
            · rw [(if_has rfl).1, nx_bit (by omega)] at y
              exact skip (fun x => absurd (x.1.symm.trans y) (by decide))
            · rw [(if_has rfl).2, nx_bit (by omega)] at y
              rw [if_pos ⟨y, z⟩] at es
              have hle := or_le_w hnow2 (show K < 10 by omega) hI.2.1 z
              have hel := en_le hn hA w (now ||| 2 ^ K)
              rw [nI_bit1 (by omega), nI_or, nI_clamp (by omega), hF _ hle]
              refine ⟨vp_in_nI (by omega) (by decide), fun v24 e24 => ?_⟩
              subst e24
              rw [cmp_ge, nJ_lt (by omega) (by omega), nI_1]
              refine ⟨fun x => ?_, fun x => ?_⟩
              · rw [if_neg x] at es
                rw [es] at ih1
                rw [nJ_sub (by omega), q0]
                exact ih1
              · have x' : (scn (mA n c D N) n w now left K).2 < en (mA n c D N) n w (now ||| 2 ^ K) := Decidable.byContradiction x
                rw [if_pos x'] at es
                rw [es, nI_pred] at ih1
                exact ih1
    exact loop n 0 (by omega)
  intro d
  induction d with
  | zero =>
    intro p now left hpd hI h1 hpj h2
    have hnow2 := lt1024 hn hI.1
    have e : now = w := by
      have hsub := (sd_zero hnow2).mp hI.2.1
      have h3 : pcn (sd w now) 10 + pcn now 10 = pcn w 10 := pcn_sd hsub 10 (by omega)
      have e1 : pcn now 10 = p := hI.2.2.1
      have e2 : pcn w 10 = p := by show pc w = p; omega
      have hz := pc_zero (t := sd w now) (Nat.lt_of_le_of_lt (sd_le _ _) hw2) (show pcn (sd w now) 10 = 0 by omega)
      have := (sd_zero hw2).mp hz
      apply Nat.eq_of_testBit_eq
      intro i
      rw [Bool.eq_iff_iff]
      exact ⟨hsub i, this i⟩
    subst e
    exact eX10_order_54 ⟨fun _ => h1 (by omega), fun q => absurd rfl q⟩
  | succ d ih =>
    intro p now left hpd hI h1 hpj h2
    have hne := wk_ne hI (by omega)
    have hnow2 := lt1024 hn hI.1
    obtain ⟨k, k1, k2, k3⟩ := wkI_next hn hw hI hne
    refine eX10_order_54 ⟨fun q => absurd ((nI_eq (by omega) (by omega)).mp q) hne, fun _ => scan p now left hI hpj (by omega) k k2 k1 (fun e => ?_) (fun e => ih (p + 1) _ _ (by omega) k3 h1 (by omega) (fun hjw => ?_))⟩
    · have := h2 (by omega)
      rw [show j - p = 0 by omega] at this
      have e2 : wkR (mA n c D N) n w 0 now left = k := by
        show (scn (mA n c D N) n w now left n).1 - 1 = k
        omega
      rw [e2] at this
      exact this
    · have := h2 hjw
      rw [show j - p = j - (p + 1) + 1 by omega] at this
      have e2 : wkR (mA n c D N) n w (j - (p + 1) + 1) now left = wkR (mA n c D N) n w (j - (p + 1)) (now ||| 2 ^ k) (scn (mA n c D N) n w now left n).2 := by
        show wkR (mA n c D N) n w (j - (p + 1)) (now ||| 2 ^ ((scn (mA n c D N) n w now left n).1 - 1)) _ = _
        rw [k2]
        rfl
      rw [e2] at this
      exact this
theorem pr_order (hS : ST n c D μ) (hV : NV N μ) (hE : SE n c D N μ) (a1 : Int32) (a2 : Int64) (a3 : Int32) : qX9_order G l a1 a2 a3 μ (fun r1 μ1 => qX10_order G l a1 a2 a3 μ1 (fun r2 μ2 => r1 = r2 ∧ Fr [0, 8] μ μ2 ∧ SE n c D N μ2)) := by
  have hK := hS.2.2
  have hn := hK.1
  have hA := mA_no n c D N
  refine eX9_order (t9_areScenes hS.1 hn (fun w hw e => ⟨fun _ => ⟨fun hp => ?_, fun hp => ?_⟩, fun q => absurd q (by decide)⟩) (fun hno => ⟨fun q => absurd rfl q, fun _ => ?_⟩))
  · subst e
    have hw2 := lt1024 hn hw
    have hwl := wy_le hn hA w
    refine t9_fresh hS hV hE (fun μ1 f1 v1 e1 => ?_)
    have hS1 := hS.fr f1 (by decide)
    -- the reference
    have mo : ∀ (μ1 : Mem) (V : Int32), Fr [8] μ μ1 → SE n c D N μ1 → (¬ a2 < nJ (wy (mA n c D N) n w) → V = -1) → (a3 < 0 → V = -1) → (∀ a j, a < wy (mA n c D N) n w → a2 = nJ a → j < 2 ^ 31 → a3 = nI j → (pc w ≤ j → V = -1) ∧ (j < pc w → V = nI (wkR (mA n c D N) n w j 0 a))) → qX10_order G l (nI w) a2 a3 μ1 (fun r2 μ2 => V = r2 ∧ Fr [0, 8] μ μ2 ∧ SE n c D N μ2) := by
      intro μ1 V f1 e1 g0 g1 g2
      have hS1 := hS.fr f1 (by decide)
      have hV1 := hV.fr f1 (by decide)
      refine eX10_order (t_noSet hS1.2.1 hn (fun s' hs' e' => ⟨fun _ => ⟨fun _ => m_ways hS1 hV1 hw (fun μ2 f2 c2 l2 => ?_), fun q => absurd hp q⟩, fun q => absurd rfl q⟩) (fun q => absurd ⟨w, hw, rfl⟩ q))
      have tail : Fr [0, 8] μ μ2 ∧ SE n c D N μ2 := ⟨(f1.mono (by decide)).trans (f2.mono (by decide)), e1.fr f2 (by decide) (by decide)⟩
      have hS2 := hS1.fr f2 (by decide)
      rw [l2 0 (Nat.zero_le w), en_zero, cmp_le]
      refine ⟨fun q => ⟨g0 q, tail⟩, fun q => ⟨fun q3 => ?_, fun q3 => ⟨g1 (Int32.not_le.mp q3), tail⟩⟩⟩
      have q' : a2 < nJ (wy (mA n c D N) n w) := Decidable.byContradiction q
      obtain ⟨a, ha, rfl⟩ : ∃ a, a < wy (mA n c D N) n w ∧ a2 = nJ a := by
        rw [cmp_ge, Int64.lt_iff_toInt_lt, show (0 : Int64).toInt = 0 from rfl] at hp
        rw [Int64.lt_iff_toInt_lt, nJ_toInt (by omega)] at q'
        refine ⟨a2.toInt.toNat, by omega, ?_⟩
        apply Int64.toInt_inj.mp
        rw [nJ_toInt (by omega)]
        omega
      obtain ⟨j, hj, rfl⟩ := nI_of (Int32.not_lt.mpr q3)
      obtain ⟨z1, z2⟩ := g2 a j ha rfl hj rfl
      refine m_walk hn hw hj hS2.2.1.1 c2 l2 (pc w) 0 0 a (by omega) ⟨Nat.two_pow_pos n, ?_, rfl, by rw [en_zero]; exact ha⟩ (fun y => ⟨z1 y, tail⟩) (Nat.zero_le j) (fun y => ⟨?_, tail⟩)
      · exact (sd_zero (by decide)).mpr (fun i hi => by simp at hi)
      · rw [Nat.sub_zero]; exact z2 y
    refine eX6_sceneOfOrder ⟨vp_in_nI (by omega) (by decide), ?_⟩
    rw [nI_clamp (by omega), (v1.2.1 w hw).1, nI_J (by omega), cmp_ge]
    have nope : ∀ a b : Int32, a = b → b = a := fun _ _ e => e.symm
    refine ⟨fun q => mo μ1 _ f1 e1 (fun _ => rfl) (fun _ => rfl) (fun a j ha e2 => absurd (by rw [e2]; exact (nJ_lt (by omega) (by omega)).mpr ha) q), fun q => ⟨fun q3 => mo μ1 _ f1 e1 (fun _ => rfl) (fun _ => rfl) (fun a j _ _ hj e3 => absurd (e3 ▸ q3) (nI_pos hj)), fun q3 => t_bc hw2 ?_⟩⟩
    have q' : a2 < nJ (wy (mA n c D N) n w) := Decidable.byContradiction q
    obtain ⟨j, hj, rfl⟩ := nI_of q3
    have hp10 : pc w ≤ 10 := pcn_le w 10
    rw [nI_ltI hj (by omega)]
    refine ⟨fun hjw => ?_, fun hjw => mo μ1 _ f1 e1 (fun _ => rfl) (fun _ => rfl) (fun a j' _ _ hj' e3 => ?_)⟩
    · obtain ⟨a, ha, rfl⟩ : ∃ a, a < wy (mA n c D N) n w ∧ a2 = nJ a := by
        rw [cmp_ge, Int64.lt_iff_toInt_lt, show (0 : Int64).toInt = 0 from rfl] at hp
        rw [Int64.lt_iff_toInt_lt, nJ_toInt (by omega)] at q'
        refine ⟨a2.toInt.toNat, by omega, ?_⟩
        apply Int64.toInt_inj.mp
        rw [nJ_toInt (by omega)]
        omega
      refine s_endings hS1 hw v1 (fun μ2 f2 v2 z2 g2 => ?_)
      have e2 : SE n c D N μ2 := ⟨e1.1.fr f2 (by decide), Or.inr v2⟩
      refine c_walk hn hw hjw (hS1.fr f2 (by decide)).1.1 v2.1 g2 j 0 0 a (by omega) ⟨Nat.two_pow_pos n, ?_, rfl, by rw [en_zero]; exact ha⟩ (mo μ2 _ (f1.trans f2) e2 (fun y => absurd q' y) (fun y => absurd y (nI_pos hj)) (fun a' j' ha' ea hj' ej => ?_)) _
      · exact (sd_zero (by decide)).mpr (fun i hi => by simp at hi)
      · have e3 : j = j' := (nI_eq (by omega) (by omega)).mp ej
        have e4 : a = a' := by
          have := congrArg Int64.toInt ea
          rw [nJ_toInt (by omega), nJ_toInt (by omega)] at this
          omega
        subst e3 e4
        exact ⟨fun y => by omega, fun _ => rfl⟩
    · have e4 : j = j' := (nI_eq (by omega) (by omega)).mp e3
      subst e4
      exact ⟨fun _ => rfl, fun y => absurd y hjw⟩
  · subst e
    exact eX10_order (t_noSet hS.2.1 hn (fun s' hs' e' => ⟨fun _ => ⟨fun q => absurd q hp, fun _ => ⟨rfl, Fr.rfl, hE⟩⟩, fun q => absurd rfl q⟩) (fun q => absurd ⟨w, hw, rfl⟩ q))
  · exact eX10_order (t_noSet hS.2.1 hn (fun s' hs' e' => absurd ⟨s', hs', e'⟩ hno) (fun _ => ⟨fun q => absurd q (by decide), fun _ => ⟨rfl, Fr.rfl, hE⟩⟩))
end ORDER
