/-! law -/
def lwlo (j : Nat) : Nat := [1, 1, 1, 0, 0, 0, 0, 0].getD j 0
def lwhi (j : Nat) : Nat := [99, 200, 9, 20, 20, 20, 20, 99].getD j 0
def okL (W : Nat → Nat) (j v : Nat) : Prop := (lwlo j ≤ v ∧ v ≤ lwhi j) ∧ (j = 0 → v ≤ W 1) ∧ (j = 1 → W 0 ≤ v)
def updN (W : Nat → Nat) (j v : Nat) : Nat → Nat := fun i => if i = j then v else W i
theorem LKup {W : Nat → Nat} {j v : Nat} (hj : j < 8) (hW : LK W) (h : okL W j v) : LK (updN W j v) := by
  obtain ⟨⟨h1, h2⟩, h3, h4⟩ := h
  obtain ⟨⟨a1, a2, a3, a4⟩, ⟨a5, a6⟩, a7, a8, a9, a10, a11⟩ := hW
  rcases (show j = 0 ∨ j = 1 ∨ j = 2 ∨ j = 3 ∨ j = 4 ∨ j = 5 ∨ j = 6 ∨ j = 7 by omega) with rfl | rfl | rfl | rfl | rfl | rfl | rfl | rfl <;> simp [lwlo, lwhi] at h1 h2 h3 h4 <;> simp [LK, updN] <;> omega
section LAW
variable {G : gC} {l : Launch} {μ : Mem} {W : Nat → Nat}
theorem t_mayBecome {P : Int32 → Mem → Prop} (hL : LC W μ) (hW : LK W) {a1 a2 : Int32} (h1 : ∀ j v, j < 8 → a1 = nI j → a2 = nI v → okL W j v → P 1 μ) (h0 : (¬ ∃ j v, j < 8 ∧ a1 = nI j ∧ a2 = nI v ∧ okL W j v) → P 0 μ) : qX0_mayBecome G l a1 a2 μ P := by
  by_cases hj : ∃ j, j < 8 ∧ a1 = nI j
  · obtain ⟨j, hj, rfl⟩ := hj
    have el : gz_lowest.getD (nI j).toNatClampNeg 0 = nI (lwlo j) := by
      rw [nI_clamp (by omega)]
      have : ∀ j : Nat, j < 8 → gz_lowest.getD j 0 = nI (lwlo j) := by decide
      exact this j hj
    have eh : gz_highest.getD (nI j).toNatClampNeg 0 = nI (lwhi j) := by
      rw [nI_clamp (by omega)]
      have : ∀ j : Nat, j < 8 → gz_highest.getD j 0 = nI (lwhi j) := by decide
      exact this j hj
    have b1 : ∀ j : Nat, j < 8 → lwlo j ≤ 1 ∧ lwhi j ≤ 200 := by decide
    have hb := b1 j hj
    have no : (∀ v, a2 = nI v → okL W j v → False) → P 0 μ := fun q => h0 (fun ⟨j', v, g1, g2, g3, g4⟩ => by
      have : j = j' := (nI_eq (by omega) (by omega)).mp g2
      subst this
      exact q v g3 g4)
    have vv : ∀ v, a2 = nI v → okL W j v → v ≤ 200 := fun v _ q => by have := q.1.2; omega
    have ej : ∀ a : Nat, a < 8 → (nI j = nI a ↔ j = a) := fun a ha => nI_eq (by omega) (by omega)
    refine eX0_mayBecome ⟨fun q => absurd q (nI_pos (by omega)), fun _ => ⟨fun q => absurd q (nI_ge (b := 8) hj (by decide)), fun _ => ⟨vp_in_nI hj (by decide), fun q => ?_, fun q1 => ⟨vp_in_nI hj (by decide), fun q2 => ?_, fun q => ?_⟩⟩⟩⟩
    · refine no (fun v e1 e2 => ?_)
      subst e1
      have := vv v rfl e2
      rw [el, nI_ltI (by omega) (by omega)] at q
      have := e2.1.1
      omega
    · rw [el] at q1
      rw [eh] at q2
      obtain ⟨v, g1, g2, rfl⟩ := (w_in (x := a2) (by omega) (lwhi j) (by omega)).mp ⟨Int32.not_lt.mp q1, q2⟩
      have h45 : (j = 0 → v ≤ W 1) → hX0_mayBecome_44 G l P (nI j) (nI v) μ := fun h00 => by
        refine eX0_mayBecome_44 ⟨fun q => ?_, fun q => ⟨fun q2 => ?_, fun q2 => ?_⟩⟩
        · exact h1 j v hj rfl rfl ⟨⟨g1, g2⟩, h00, fun e => absurd (by rw [e]; rfl) q⟩
        · refine no (fun v' e1 e2 => ?_)
          have : v = v' := (nI_eq (by omega) (by have := vv v' e1 e2; omega)).mp e1
          subst this
          rw [hL 0 (by decide), nI_ltI (by omega) (by have := hW.1; omega)] at q2
          have := e2.2.2 ((ej 1 (by decide)).mp q)
          omega
        · rw [hL 0 (by decide), nI_ltI (by omega) (by have := hW.1; omega)] at q2
          exact h1 j v hj rfl rfl ⟨⟨g1, g2⟩, h00, fun _ => by omega⟩
      refine ⟨fun q => h45 (fun e => absurd (by rw [e]; rfl) q), fun q => ⟨fun q2 => ?_, fun q2 => h45 (fun _ => ?_)⟩⟩
      · refine no (fun v' e1 e2 => ?_)
        have : v = v' := (nI_eq (by omega) (by have := vv v' e1 e2; omega)).mp e1
        subst this
        rw [hL 1 (by decide), nI_ltI (by have := hW.1; omega) (by omega)] at q2
        have := e2.2.1 ((ej 0 (by decide)).mp q)
        omega
      · rw [hL 1 (by decide), nI_ltI (by have := hW.1; omega) (by omega)] at q2
        omega
    · refine no (fun v e1 e2 => ?_)
      subst e1
      have := vv v rfl e2
      rw [eh, nI_leI (by omega) (by omega)] at q
      exact q e2.1.2
  · have no : P 0 μ := h0 (fun ⟨j, v, g1, g2, _⟩ => hj ⟨j, g1, g2⟩)
    refine eX0_mayBecome ⟨fun _ => no, fun q1 => ⟨fun _ => no, fun q2 => ?_⟩⟩
    obtain ⟨j, g, rfl⟩ := nI_of q1
    rw [show (8 : Int32) = nI 8 from rfl, nI_leI (by decide) g] at q2
    exact absurd ⟨j, by omega, rfl⟩ hj
theorem t_lawM {P : Int32 → Mem → Prop} (hL : LM W μ) (hW : LK W) {a1 a2 : Int32} (h1 : ∀ j v, j < 8 → a1 = nI j → a2 = nI v → okL W j v → P (nI (W j)) (gm_w μ 83 j (nI v))) (h0 : (¬ ∃ j v, j < 8 ∧ a1 = nI j ∧ a2 = nI v ∧ okL W j v) → P (-1002) μ) : qX10_law G l a1 a2 μ P := by
  refine eX10_law (t_inI 0 7 rfl rfl ?_)
  by_cases hj : ∃ j, j < 8 ∧ a1 = nI j
  · rw [if_pos (show (0 : Int32) ≤ a1 ∧ a1 ≤ 7 from (w_in (a := 0) (by decide) 7 (by decide)).mpr (by obtain ⟨j, g1, g2⟩ := hj; exact ⟨j, by omega, by omega, g2⟩))]
    refine ⟨fun _ => ?_, fun q => absurd q (by decide)⟩
    obtain ⟨j, hj, rfl⟩ := hj
    have b1 : ∀ j : Nat, j < 8 → lwlo j ≤ 1 ∧ lwhi j ≤ 200 := by decide
    have hb := b1 j hj
    have no : (∀ v, a2 = nI v → okL W j v → False) → P (-1002) μ := fun q => h0 (fun ⟨j', v, g1, g2, g3, g4⟩ => by
      have : j = j' := (nI_eq (by omega) (by omega)).mp g2
      subst this
      exact q v g3 g4)
    have vv : ∀ v, okL W j v → v ≤ 200 := fun v q => by have := q.1.2; omega
    have ej : ∀ a : Nat, a < 8 → (nI j = nI a ↔ j = a) := fun a ha => nI_eq (by omega) (by omega)
    have k94 : ∀ v, a2 = nI v → (lwlo j ≤ v ∧ v ≤ lwhi j) → (j = 0 → v ≤ W 1) → hX10_law_94 G l P (nI j) a2 μ := fun v e1 g h00 => by
      have fin : (j = 1 → W 0 ≤ v) → vp_in (nI j) 8 ∧ P (gm_r μ 83 (nI j).toNatClampNeg) (gm_w μ 83 (nI j).toNatClampNeg a2) := fun h11 => by
        refine ⟨vp_in_nI hj (by decide), ?_⟩
        rw [nI_clamp (by omega), hL j hj, e1]
        exact h1 j v hj rfl e1 ⟨g, h00, h11⟩
      refine eX10_law_94 ⟨fun q => fin (fun e => absurd (by rw [e]; rfl) q), fun q => ⟨fun q2 => fin (fun _ => ?_), fun q2 => no (fun v' e2 e3 => ?_)⟩⟩
      · rw [e1, hL 0 (by decide), nI_leI (by have := hW.1; omega) (by omega)] at q2
        exact q2
      · have : v = v' := (nI_eq (by omega) (by have := vv v' e3; omega)).mp (e1.symm.trans e2)
        subst this
        rw [e1, hL 0 (by decide), nI_leI (by have := hW.1; omega) (by omega)] at q2
        exact q2 (e3.2.2 ((ej 1 (by decide)).mp q))
    have k65 : hX10_law_65 G l P (nI j) a2 (nI (lwlo j)) (nI (lwhi j)) μ := by
      refine eX10_law_65 (t_inI _ _ rfl rfl ?_)
      by_cases hv : ∃ v, lwlo j ≤ v ∧ v ≤ lwhi j ∧ a2 = nI v
      · rw [if_pos ((w_in (by omega) _ (by omega)).mpr hv)]
        obtain ⟨v, v1, v2, v3⟩ := hv
        refine ⟨fun q => absurd q (by decide), fun _ => ⟨fun q => k94 v v3 ⟨v1, v2⟩ (fun e => absurd (by rw [e]; rfl) q), fun q => ⟨fun q2 => no (fun v' e2 e3 => ?_), fun q2 => k94 v v3 ⟨v1, v2⟩ (fun _ => ?_)⟩⟩⟩
        · have : v = v' := (nI_eq (by omega) (by have := vv v' e3; omega)).mp (v3.symm.trans e2)
          subst this
          rw [v3, hL 1 (by decide), nI_ltI (by have := hW.1; omega) (by omega)] at q2
          have := e3.2.1 ((ej 0 (by decide)).mp q)
          omega
        · rw [v3, hL 1 (by decide), nI_ltI (by have := hW.1; omega) (by omega)] at q2
          omega
      · rw [if_neg (fun q => hv ((w_in (by omega) _ (by omega)).mp q))]
        exact ⟨fun _ => no (fun v e1 e2 => hv ⟨v, e2.1.1, e2.1.2, e1⟩), fun q => absurd rfl q⟩
    have k26 : hX10_law_26 G l P (nI j) a2 (nI (lwlo j)) μ := by
      refine eX10_law_26 ⟨fun q => ?_, fun q0 => ⟨fun q7 => ⟨fun q1 => ⟨fun q2 => ?_, fun q2 => ?_⟩, fun q1 => ?_⟩, fun q7 => ?_⟩⟩
      · have : j = 0 := (ej 0 (by decide)).mp q
        subst this; exact k65
      · have h3 : lwhi j = 20 := by
          have n0 : j ≠ 0 := fun e => q0 (by rw [e]; rfl)
          have n1 : j ≠ 1 := fun e => q1 (by rw [e]; rfl)
          have n2 : j ≠ 2 := fun e => q2 (by rw [e]; rfl)
          have n7 : j ≠ 7 := fun e => q7 (by rw [e]; rfl)
          rcases (show j = 3 ∨ j = 4 ∨ j = 5 ∨ j = 6 by omega) with rfl | rfl | rfl | rfl <;> rfl
        rw [h3] at k65; exact k65
      · have : j = 2 := (ej 2 (by decide)).mp q2
        subst this; exact k65
      · have : j = 1 := (ej 1 (by decide)).mp q1
        subst this; exact k65
      · have : j = 7 := (ej 7 (by decide)).mp q7
        subst this; exact k65
    refine ⟨fun q => ?_, fun q => ?_⟩
    · rw [show (3 : Int32) = nI 3 from rfl, nI_leI (by decide) (by omega)] at q
      have h3 : lwlo j = 0 := by rcases (show j = 3 ∨ j = 4 ∨ j = 5 ∨ j = 6 ∨ j = 7 by omega) with rfl | rfl | rfl | rfl | rfl <;> rfl
      rw [h3] at k26; exact k26
    · rw [show (3 : Int32) = nI 3 from rfl, nI_leI (by decide) (by omega)] at q
      have h3 : lwlo j = 1 := by rcases (show j = 0 ∨ j = 1 ∨ j = 2 by omega) with rfl | rfl | rfl <;> rfl
      rw [h3] at k26; exact k26
  · rw [if_neg (show ¬ ((0 : Int32) ≤ a1 ∧ a1 ≤ 7) from fun q => hj (by obtain ⟨j, _, g1, g2⟩ := (w_in (a := 0) (by decide) 7 (by decide)).mp q; exact ⟨j, by omega, g2⟩))]
    exact ⟨fun q => absurd rfl q, fun _ => h0 (fun ⟨j, v, g1, g2, _⟩ => hj ⟨j, g1, g2⟩)⟩
theorem pr_law (hL : LW W μ) (hP : PO μ) (a1 a2 : Int32) : qX9_law G l a1 a2 μ (fun r1 μ1 => qX10_law G l a1 a2 μ1 (fun r2 μ2 => r1 = r2 ∧ (μ2 = μ ∨ (Fr [5, 9] μ μ2 ∧ PO μ2 ∧ FG μ2 ∧ ∃ W, LW W μ2)))) := by
  obtain ⟨hC, hM, hK⟩ := hL
  refine eX9_law (t_mayBecome hC hK (fun j v hj e1 e2 hok => ⟨fun _ => ⟨by rw [e1]; exact vp_in_nI hj (by decide), ?_⟩, fun q => absurd q (by decide)⟩) (fun hno => ⟨fun q => absurd rfl q, fun _ => t_lawM hM hK (fun j v g1 g2 g3 g4 => absurd ⟨j, v, g1, g2, g3, g4⟩ hno) (fun _ => ⟨rfl, Or.inl rfl⟩)⟩))
  subst e1 e2
  rw [nI_clamp (by omega), hC j hj]
  have f1 : Fr [5, 9] μ (gm_w μ 45 j (nI v)) := Fr.w (by rw [show own 45 j = 5 from by simp [own]]; decide)
  have hP1 : PO (gm_w μ 45 j (nI v)) := by
    unfold PO
    rw [gm_rw_o (by decide)]
    exact hP
  refine t9_forget hP1 (fun μ1 f2 p2 g2 => ?_)
  have f3 : Fr [5, 9] μ μ1 := f1.trans (f2.mono (by decide))
  have m1 : LM W μ1 := fun i hi => by rw [f2.r 5 (by simp [own]) (by decide), gm_rw_o (by decide)]; exact hM i hi
  refine t_lawM m1 hK (fun j' v' g1 g3 g4 g5 => ?_) (fun hno => absurd ⟨j, v, hj, rfl, rfl, hok⟩ hno)
  have ej : j = j' := (nI_eq (by omega) (by omega)).mp g3
  subst ej
  have b1 : ∀ j : Nat, j < 8 → lwlo j ≤ 1 ∧ lwhi j ≤ 200 := by decide
  have hb := b1 j hj
  have ev : v = v' := (nI_eq (by have := hok.1.2; omega) (by have := g5.1.2; omega)).mp g4
  subst ev
  refine ⟨rfl, Or.inr ⟨f3.then_w (by rw [show own 83 j = 5 from by simp [own]]; decide), ?_, ?_, updN W j v, fun i hi => ?_, fun i hi => ?_, LKup hj hK hok⟩⟩
  · unfold PO
    rw [gm_rw_o (by decide)]
    exact p2
  · unfold FG
    rw [gm_rw_o (by decide), gm_rw_o (by decide), gm_rw_o (by decide)]
    exact g2
  · rw [gm_rw_o (by decide), f2.r 5 (by simp [own]) (by decide), gm_rw]
    unfold updN
    by_cases q : i = j
    · rw [if_pos ⟨rfl, q⟩, if_pos q]
    · rw [if_neg (fun z => q z.2), if_neg q]; exact hC i hi
  · rw [gm_rw]
    unfold updN
    by_cases q : i = j
    · rw [if_pos ⟨rfl, q⟩, if_pos q]
    · rw [if_neg (fun z => q z.2), if_neg q]; exact m1 i hi
end LAW
