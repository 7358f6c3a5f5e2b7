/-! place, shortest, order -/
def plL (A : Nat → Nat → Bool) (n k : Nat) : Nat → Nat | 0 => 0 | S + 1 => if (0 < wy A n S ∧ A S k = true ∧ 0 < en A n (2 ^ n - 1) (S ||| 2 ^ k)) ∧ (plL A n k S = 0 ∨ pc S + 1 < plL A n k S) then pc S + 1 else plL A n k S
def plG (A : Nat → Nat → Bool) (n k : Nat) : Nat → Nat | 0 => 0 | S + 1 => if (0 < wy A n S ∧ A S k = true ∧ 0 < en A n (2 ^ n - 1) (S ||| 2 ^ k)) ∧ (plG A n k S = 0 ∨ plG A n k S < pc S + 1) then pc S + 1 else plG A n k S
theorem plL_le (A : Nat → Nat → Bool) (n k : Nat) : ∀ S, plL A n k S ≤ 11
  | 0 => Nat.zero_le _
  | S + 1 => by
    have ih := plL_le A n k S
    have := pcn_le S 10
    unfold plL
    split
    · show pcn S 10 + 1 ≤ 11; omega
    · exact ih
theorem plG_le (A : Nat → Nat → Bool) (n k : Nat) : ∀ S, plG A n k S ≤ 11
  | 0 => Nat.zero_le _
  | S + 1 => by
    have ih := plG_le A n k S
    have := pcn_le S 10
    unfold plG
    split
    · show pcn S 10 + 1 ≤ 11; omega
    · exact ih
def shS (A : Nat → Nat → Bool) (n k : Nat) (L : Nat → Nat) : Nat → Nat | 0 => 0 | S + 1 => if (0 < wy A n S ∧ S.testBit k = true) ∧ (shS A n k L S = 0 ∨ L S < L (shS A n k L S - 1)) then S + 1 else shS A n k L S
theorem shS_le (A : Nat → Nat → Bool) (n k : Nat) (L : Nat → Nat) : ∀ S, shS A n k L S ≤ S
  | 0 => Nat.le_refl _
  | S + 1 => by
    have ih := shS_le A n k L S
    unfold shS
    split <;> omega
section PLACE
variable {G : gC} {l : Launch} {μ : Mem} {n : Nat} {c : Nat → Nat → Nat} {D N : Nat → Nat}
theorem t_isPlace {P : Int32 → Mem → Prop} {s k : Nat} (hn : n ≤ 10) (hs : s < 2 ^ n) (hk : k < n) (hE : SV n c D N μ) (hF : ∀ s, s ≤ 2 ^ n - 1 → gm_r μ 41 s = nI (en (mA n c D N) n (2 ^ n - 1) s)) (h1 : (0 < wy (mA n c D N) n s ∧ mA n c D N s k = true ∧ 0 < en (mA n c D N) n (2 ^ n - 1) (s ||| 2 ^ k)) → P 1 μ) (h0 : ¬ (0 < wy (mA n c D N) n s ∧ mA n c D N s k = true ∧ 0 < en (mA n c D N) n (2 ^ n - 1) (s ||| 2 ^ k)) → P 0 μ) : qX6_isPlace G l (nI s) (nI k) μ P := by
  have hA := mA_no n c D N
  have hs2 := lt1024 hn hs
  have hl := wy_le hn hA s
  have hnx := lt1024 hn (nx_lt n c D N s)
  have hor := or_lt hs hk
  have hor2 := lt1024 hn hor
  have hel := en_le hn hA (2 ^ n - 1) (s ||| 2 ^ k)
  refine eX6_isPlace ⟨vp_in_nI (by omega) (by decide), ?_⟩
  rw [nI_clamp (by omega), (hE.2.1 s hs).1, (hE.1.2 s hs).2.2.2, nI_has (by omega) (by omega), nx_bit hk, nI_bit1 (by omega), nI_or, nI_clamp (by omega), hF _ (by omega), show (0 : Int32) = nI 0 from rfl, nI_leI (by omega) (by decide), nI_leI (by omega) (by decide)]
  refine ⟨fun q => h0 (fun z => by omega), fun q => ⟨fun q2 => h0 (fun z => q2 z.2.1), fun q2 => ⟨vp_in_nI (by omega) (by decide), fun q3 => h0 (fun z => by omega), fun q3 => h1 ⟨by omega, q2, by omega⟩⟩⟩⟩
theorem pr_place (hS : ST n c D μ) (hV : NV N μ) (hE : SE n c D N μ) (a1 a2 : Int32) : qX9_place G l a1 a2 μ (fun r1 μ1 => qX10_place G l a1 a2 μ1 (fun r2 μ2 => r1 = r2 ∧ Fr [0, 8] μ μ2 ∧ SE n c D N μ2)) := by
  have hK := hS.2.2
  have hn := hK.1
  have hA := mA_no n c D N
  have hp : 2 ^ n ≤ 1024 := Nat.pow_le_pow_right (by decide) hn
  have h2 := Nat.two_pow_pos n
  refine eX9_place (t9_isScene hS.1 hn (fun k hk e => ⟨fun _ => ?_, fun q => absurd q (by decide)⟩) (fun hno => ⟨fun q => absurd rfl q, fun _ => ?_⟩))
  · subst e
    have out : (¬ ∃ w, 0 ≤ w ∧ w ≤ 1 ∧ a2 = nI w) → qX10_place G l (nI k) a2 μ (fun r2 μ2 => -1002 = r2 ∧ Fr [0, 8] μ μ2 ∧ SE n c D N μ2) := fun hno => by
      refine eX10_place (t_noScene hS.2.1 hn (fun k' hk' e' => ⟨fun _ => t_inI 0 1 rfl rfl ?_, fun q => absurd rfl q⟩) (fun q => absurd ⟨k, hk, rfl⟩ q))
      rw [if_neg (show ¬ ((0 : Int32) ≤ a2 ∧ a2 ≤ 1) from fun q => hno ((w_in (a := 0) (by decide) 1 (by decide)).mp q))]
      exact ⟨fun q => absurd rfl q, fun _ => ⟨rfl, Fr.rfl, hE⟩⟩
    -- the reference
    have mo : ∀ (μ1 : Mem) (V : Int32), Fr [8] μ μ1 → SE n c D N μ1 → (a2 = 0 ∨ a2 = 1) → (a2 = 0 → V = nI (plL (mA n c D N) n k (2 ^ n)) - 1) → (a2 = 1 → V = nI (plG (mA n c D N) n k (2 ^ n)) - 1) → qX10_place G l (nI k) a2 μ1 (fun r2 μ2 => V = r2 ∧ Fr [0, 8] μ μ2 ∧ SE n c D N μ2) := by
      intro μ1 V f1 e1 ha g0 g1
      have hS1 := hS.fr f1 (by decide)
      have hV1 := hV.fr f1 (by decide)
      refine eX10_place (t_noScene hS1.2.1 hn (fun k' hk' e' => ⟨fun _ => t_inI 0 1 rfl rfl ?_, fun q => absurd rfl q⟩) (fun q => absurd ⟨k, hk, rfl⟩ q))
      rw [if_pos (show (0 : Int32) ≤ a2 ∧ a2 ≤ 1 from by rcases ha with rfl | rfl <;> decide)]
      refine ⟨fun _ => t_all hS1.2.1 hn (m_ways hS1 hV1 (show 2 ^ n - 1 < 2 ^ n by omega) (fun μ2 f2 c2 g2 => m_good (hS1.fr f2 (by decide)) (hV1.fr f2 (by decide)) (fun μ3 f3 l3 c3 g3 => ?_))), fun q => absurd q (by decide)⟩
      have f4 : Fr [0] μ1 μ3 := f2.trans f3
      have hS3 := hS1.fr f4 (by decide)
      have gl3 : ∀ s, s ≤ 2 ^ n - 1 → gm_l μ3 s = nJ (en (mA n c D N) n (2 ^ n - 1) s) := fun s hs => by
        show μ3.2.2 s = _
        rw [l3]
        exact g2 s hs
      have tail : Fr [0, 8] μ μ3 ∧ SE n c D N μ3 := ⟨(f1.mono (by decide)).trans (f4.mono (by decide)), e1.fr f4 (by decide) (by decide)⟩
      -- one step
      have stepP : ∀ (X X' j : Nat), j < 2 ^ n → X ≤ 11 → (((0 < wy (mA n c D N) n j ∧ mA n c D N j k = true ∧ 0 < en (mA n c D N) n (2 ^ n - 1) (j ||| 2 ^ k)) ∧ (X = 0 ∨ (a2 = 0 ∧ pc j + 1 < X) ∨ (¬ a2 = 0 ∧ X < pc j + 1))) → X' = pc j + 1) → (¬ ((0 < wy (mA n c D N) n j ∧ mA n c D N j k = true ∧ 0 < en (mA n c D N) n (2 ^ n - 1) (j ||| 2 ^ k)) ∧ (X = 0 ∨ (a2 = 0 ∧ pc j + 1 < X) ∨ (¬ a2 = 0 ∧ X < pc j + 1))) → X' = X) → hX10_place_43 G l (fun r2 μ2 => V = r2 ∧ Fr [0, 8] μ μ2 ∧ SE n c D N μ2) (nI k) a2 (nI X' - 1) (nI (j + 1)) μ3 → hX10_place_43 G l (fun r2 μ2 => V = r2 ∧ Fr [0, 8] μ μ2 ∧ SE n c D N μ2) (nI k) a2 (nI X - 1) (nI j) μ3 := by
        intro X X' j hj hX hXt hXk ih
        have hnx := lt1024 hn (nx_lt n c D N j)
        have hor := or_lt hj hk
        have hel := en_le hn hA (2 ^ n - 1) (j ||| 2 ^ k)
        have hpj := pcn_le j 10
        have hpj' : pc j ≤ 10 := hpj
        have keep : ¬ ((0 < wy (mA n c D N) n j ∧ mA n c D N j k = true ∧ 0 < en (mA n c D N) n (2 ^ n - 1) (j ||| 2 ^ k)) ∧ (X = 0 ∨ (a2 = 0 ∧ pc j + 1 < X) ∨ (¬ a2 = 0 ∧ X < pc j + 1))) → hX10_place_43 G l (fun r2 μ2 => V = r2 ∧ Fr [0, 8] μ μ2 ∧ SE n c D N μ2) (nI k) a2 (nI X - 1) (nI (j + 1)) μ3 := fun z => by
          rw [hXk z] at ih
          exact ih
        have take : ((0 < wy (mA n c D N) n j ∧ mA n c D N j k = true ∧ 0 < en (mA n c D N) n (2 ^ n - 1) (j ||| 2 ^ k)) ∧ (X = 0 ∨ (a2 = 0 ∧ pc j + 1 < X) ∨ (¬ a2 = 0 ∧ X < pc j + 1))) → hX10_place_43 G l (fun r2 μ2 => V = r2 ∧ Fr [0, 8] μ μ2 ∧ SE n c D N μ2) (nI k) a2 (nI (pc j)) (nI (j + 1)) μ3 := fun z => by
          rw [hXt z, nI_pred] at ih
          exact ih
        refine eX10_place_43 (t_all hS3.2.1 hn ⟨fun q => absurd q (nI_nlt (by omega) (by omega)), fun _ => ⟨vp_in_nI (by omega) (by decide), ?_⟩⟩)
        rw [nI_clamp (by omega), g3 j hj, c3 j hj, nI_1, nI_bit1 (by omega), nI_or, nI_clamp (by omega)]
        have e88 : (lg_cmp (gm_l μ3 (j ||| 2 ^ k)) 0 ≤ 0) ↔ ¬ 0 < en (mA n c D N) n (2 ^ n - 1) (j ||| 2 ^ k) := by rw [gl3 _ (by omega), cmp_le, show (0 : Int64) = nJ 0 from rfl, nJ_lt (by decide) (by omega)]
        refine ⟨fun q => keep (fun z => by rw [if_pos z.1.1] at q; exact absurd q (by decide)), fun q => t_has (by omega) (by omega) ⟨fun q2 => ?_, fun q2 => ⟨vp_in_nI (by omega) (by decide), fun q3 => keep (fun z => e88.mp q3 z.1.2.2), fun q3 => t_ones (by omega) ?_⟩⟩⟩
        · rw [(if_has rfl).1, nx_bit hk] at q2
          exact keep (fun z => absurd (z.1.2.1.symm.trans q2) (by decide))
        · rw [(if_has rfl).2, nx_bit hk] at q2
          have hw : 0 < wy (mA n c D N) n j := by
            apply Decidable.byContradiction
            intro y
            rw [if_neg y] at q
            exact q rfl
          have hP : 0 < wy (mA n c D N) n j ∧ mA n c D N j k = true ∧ 0 < en (mA n c D N) n (2 ^ n - 1) (j ||| 2 ^ k) := ⟨hw, q2, Decidable.byContradiction (fun y => q3 (e88.mpr y))⟩
          rw [dI_neg (by omega), dI_ge (by omega) (by omega), dI_le (by omega) (by omega)]
          refine ⟨fun z => take ⟨hP, Or.inl z⟩, fun z => ⟨fun y => ⟨fun x => keep (fun w => ?_), fun x => take ⟨hP, Or.inr ?_⟩⟩, fun y => ⟨fun x => keep (fun w => ?_), fun x => take ⟨hP, Or.inr ?_⟩⟩⟩⟩
          · rcases w.2 with w | w | w
            · exact z w
            · exact y w.1
            · omega
          · exact Or.inr ⟨y, by omega⟩
          · rcases w.2 with w | w | w
            · exact z w
            · omega
            · exact w.1 y
          · exact Or.inl ⟨y, by omega⟩
      have endP : ∀ X, V = nI X - 1 → hX10_place_43 G l (fun r2 μ2 => V = r2 ∧ Fr [0, 8] μ μ2 ∧ SE n c D N μ2) (nI k) a2 (nI X - 1) (nI (2 ^ n)) μ3 := fun X hX => eX10_place_43 (t_all hS3.2.1 hn ⟨fun _ => ⟨hX, tail⟩, fun q => absurd (nI_lt (by omega) (by omega)) q⟩)
      rcases ha with ha | ha
      · refine down (H := fun j => hX10_place_43 G l _ (nI k) a2 (nI (plL (mA n c D N) n k j) - 1) (nI j) μ3) (n := 2 ^ n) (endP _ (g0 ha)) (fun j hj ih => stepP _ _ j hj (plL_le _ _ _ _) (fun z => if_pos ⟨z.1, ?_⟩) (fun z => if_neg (fun y => z ⟨y.1, ?_⟩)) ih)
        · rcases y.2 with w | w
          · exact Or.inl w
          · exact Or.inr (Or.inl ⟨ha, w⟩)
        · rcases z.2 with w | w | w
          · exact Or.inl w
          · exact Or.inr w.2
          · exact absurd ha w.1
      · refine down (H := fun j => hX10_place_43 G l _ (nI k) a2 (nI (plG (mA n c D N) n k j) - 1) (nI j) μ3) (n := 2 ^ n) (endP _ (g1 ha)) (fun j hj ih => stepP _ _ j hj (plG_le _ _ _ _) (fun z => if_pos ⟨z.1, ?_⟩) (fun z => if_neg (fun y => z ⟨y.1, ?_⟩)) ih)
        · rcases y.2 with w | w
          · exact Or.inl w
          · exact Or.inr (Or.inr ⟨fun x => absurd (x.symm.trans ha) (by decide), w⟩)
        · rcases z.2 with w | w | w
          · exact Or.inl w
          · exact absurd (w.1.symm.trans ha) (by decide)
          · exact Or.inr w.2
    refine ⟨fun q => out (fun ⟨w, _, w1, w2⟩ => absurd (w2 ▸ q) (nI_pos (by omega))), fun q0 => ⟨fun q1 => ?_, fun q => out (fun ⟨w, _, w1, w2⟩ => q (w2 ▸ (nI_leI (b := 1) (by omega) (by decide)).mpr w1))⟩⟩
    have ha : a2 = 0 ∨ a2 = 1 := by
      obtain ⟨w, _, w1, w2⟩ := (w_in (x := a2) (a := 0) (by decide) 1 (by decide)).mp ⟨Int32.not_lt.mp q0, q1⟩
      rcases (show w = 0 ∨ w = 1 by omega) with rfl | rfl
      · exact Or.inl w2
      · exact Or.inr w2
    have sz : ∀ μ1, SV n c D N μ1 → gm_r μ1 30 3 - 1 = nI (2 ^ n - 1) := fun μ1 v1 => by rw [v1.1.1, nI_one, pk_sub (by omega)]
    refine ⟨fun q => t9_fresh hS hV hE (fun μ1 f1 v1 e1 => eX6_greatestPlace ?_), fun q => t9_fresh hS hV hE (fun μ1 f1 v1 e1 => eX6_leastPlace ?_)⟩
    · have ha1 : a2 = 1 := ha.resolve_left q
      rw [sz μ1 v1]
      refine s_endings (hS.fr f1 (by decide)) (show 2 ^ n - 1 < 2 ^ n by omega) v1 (fun μ2 f2 v2 z2 g2 => ?_)
      have f3 : Fr [8] μ μ2 := f1.trans f2
      have e2 : SE n c D N μ2 := ⟨e1.1.fr f2 (by decide), Or.inr v2⟩
      refine down (H := fun j => hX6_greatestPlace_14 G l _ (nI k) (nI (plG (mA n c D N) n k j) - 1) (nI j) μ2) (n := 2 ^ n) ?_ ?_
      · exact eX6_greatestPlace_14 ⟨fun _ => mo μ2 _ f3 e2 ha (fun z => absurd (z.symm.trans ha1) (by decide)) (fun _ => rfl), fun q => absurd (by rw [v2.1.1]; exact Int32.le_refl _) q⟩
      · intro j hj ih
        have hX := plG_le (mA n c D N) n k j
        have hpj : pc j ≤ 10 := pcn_le j 10
        have e : plG (mA n c D N) n k (j + 1) = if (0 < wy (mA n c D N) n j ∧ mA n c D N j k = true ∧ 0 < en (mA n c D N) n (2 ^ n - 1) (j ||| 2 ^ k)) ∧ (plG (mA n c D N) n k j = 0 ∨ plG (mA n c D N) n k j < pc j + 1) then pc j + 1 else plG (mA n c D N) n k j := rfl
        rw [e] at ih
        refine eX6_greatestPlace_14 ⟨fun q => absurd (by rw [v2.1.1] at q; exact q) (nI_ge hj (by omega)), fun _ => t_isPlace hn hj hk v2 g2 (fun hP => ⟨fun q => absurd q (by decide), fun _ => t_bc (by omega) ?_⟩) (fun hP => ⟨fun _ => ?_, fun q => absurd rfl q⟩)⟩
        · rw [nI_1]
          by_cases z : plG (mA n c D N) n k j < pc j + 1
          · rw [if_pos ((dI_lt (by omega) (by omega)).mpr z)]
            rw [if_pos ⟨hP, Or.inr z⟩, nI_pred] at ih
            exact ih
          · rw [if_neg (fun y => z ((dI_lt (by omega) (by omega)).mp y))]
            rw [if_neg (fun y => by omega)] at ih
            exact ih
        · rw [if_neg (fun z => hP z.1)] at ih
          rw [nI_1]
          exact ih
    · rw [sz μ1 v1]
      refine s_endings (hS.fr f1 (by decide)) (show 2 ^ n - 1 < 2 ^ n by omega) v1 (fun μ2 f2 v2 z2 g2 => ?_)
      have f3 : Fr [8] μ μ2 := f1.trans f2
      have e2 : SE n c D N μ2 := ⟨e1.1.fr f2 (by decide), Or.inr v2⟩
      refine down (H := fun j => hX6_leastPlace_14 G l _ (nI k) (nI (plL (mA n c D N) n k j) - 1) (nI j) μ2) (n := 2 ^ n) ?_ ?_
      · exact eX6_leastPlace_14 ⟨fun _ => mo μ2 _ f3 e2 ha (fun _ => rfl) (fun z => absurd (q.symm.trans z) (by decide)), fun q => absurd (by rw [v2.1.1]; exact Int32.le_refl _) q⟩
      · intro j hj ih
        have hX := plL_le (mA n c D N) n k j
        have hpj : pc j ≤ 10 := pcn_le j 10
        have e : plL (mA n c D N) n k (j + 1) = if (0 < wy (mA n c D N) n j ∧ mA n c D N j k = true ∧ 0 < en (mA n c D N) n (2 ^ n - 1) (j ||| 2 ^ k)) ∧ (plL (mA n c D N) n k j = 0 ∨ pc j + 1 < plL (mA n c D N) n k j) then pc j + 1 else plL (mA n c D N) n k j := rfl
        rw [e] at ih
        refine eX6_leastPlace_14 ⟨fun q => absurd (by rw [v2.1.1] at q; exact q) (nI_ge hj (by omega)), fun _ => t_bc (by omega) (t_isPlace hn hj hk v2 g2 (fun hP => ⟨fun q => absurd q (by decide), fun _ => ?_⟩) (fun hP => ⟨fun _ => ?_, fun q => absurd rfl q⟩))⟩
        · rw [nI_1, dI_m1 (by omega), dI_le (by omega) (by omega)]
          refine ⟨fun z => ?_, fun z => ⟨fun y => ?_, fun y => ?_⟩⟩
          · rw [if_pos ⟨hP, Or.inl z⟩, nI_pred] at ih; exact ih
          · rw [if_neg (fun x => by omega)] at ih; exact ih
          · rw [if_pos ⟨hP, Or.inr (by omega)⟩, nI_pred] at ih; exact ih
        · rw [if_neg (fun z => hP z.1)] at ih
          rw [nI_1]
          exact ih
  · exact eX10_place (t_noScene hS.2.1 hn (fun k' hk' e' => absurd ⟨k', hk', e'⟩ hno) (fun _ => ⟨fun q => absurd q (by decide), fun _ => ⟨rfl, Fr.rfl, hE⟩⟩))
theorem pr_shortest (hS : ST n c D μ) (hV : NV N μ) (hE : SE n c D N μ) (a1 a2 : Int32) : qX9_shortest G l a1 a2 μ (fun r1 μ1 => qX10_shortest G l a1 a2 μ1 (fun r2 μ2 => r1 = r2 ∧ Fr [0, 8] μ μ2 ∧ SE n c D N μ2)) := by
  have hK := hS.2.2
  have hn := hK.1
  have hA := mA_no n c D N
  have hp : 2 ^ n ≤ 1024 := Nat.pow_le_pow_right (by decide) hn
  have h2 := Nat.two_pow_pos n
  have hsm : ∀ s, sm c 0 s n ≤ 990 := fun s => by
    have := sm_le (c := c) (w := 0) (s := s) (m := 99) (n := n) (fun k hk => (hK.2 k hk).1.2)
    omega
  refine eX9_shortest (t9_isScene hS.1 hn (fun k hk e => ⟨fun _ => ?_, fun q => absurd q (by decide)⟩) (fun hno => ⟨fun q => absurd rfl q, fun _ => ?_⟩))
  · subst e
    have out : (¬ ∃ w, 0 ≤ w ∧ w ≤ 1 ∧ a2 = nI w) → qX10_shortest G l (nI k) a2 μ (fun r2 μ2 => -1002 = r2 ∧ Fr [0, 8] μ μ2 ∧ SE n c D N μ2) := fun hno => by
      refine eX10_shortest (t_noScene hS.2.1 hn (fun k' hk' e' => ⟨fun _ => t_inI 0 1 rfl rfl ?_, fun q => absurd rfl q⟩) (fun q => absurd ⟨k, hk, rfl⟩ q))
      rw [if_neg (show ¬ ((0 : Int32) ≤ a2 ∧ a2 ≤ 1) from fun q => hno ((w_in (a := 0) (by decide) 1 (by decide)).mp q))]
      exact ⟨fun q => absurd rfl q, fun _ => ⟨rfl, Fr.rfl, hE⟩⟩
    refine ⟨fun q => out (fun ⟨w, _, w1, w2⟩ => absurd (w2 ▸ q) (nI_pos (by omega))), fun q0 => ⟨fun q1 => ?_, fun q => out (fun ⟨w, _, w1, w2⟩ => q (w2 ▸ (nI_leI (b := 1) (by omega) (by decide)).mpr w1))⟩⟩
    refine t9_fresh hS hV hE (fun μ1 f1 v1 e1 => eX6_shortestTo ?_)
    have hS1 := hS.fr f1 (by decide)
    have hV1 := hV.fr f1 (by decide)
    have hX := shS_le (mA n c D N) n k (fun s => sm c 0 s n)
    -- the reference
    have mo : ∀ V : Int32, (shS (mA n c D N) n k (fun s => sm c 0 s n) (2 ^ n) = 0 → V = -1) → (shS (mA n c D N) n k (fun s => sm c 0 s n) (2 ^ n) ≠ 0 → (a2 = 0 → V = nI (shS (mA n c D N) n k (fun s => sm c 0 s n) (2 ^ n)) - 1) ∧ (¬ a2 = 0 → V = nI (sm c 0 (shS (mA n c D N) n k (fun s => sm c 0 s n) (2 ^ n) - 1) n))) → qX10_shortest G l (nI k) a2 μ1 (fun r2 μ2 => V = r2 ∧ Fr [0, 8] μ μ2 ∧ SE n c D N μ2) := by
      intro V g0 g1
      refine eX10_shortest (t_noScene hS1.2.1 hn (fun k' hk' e' => ⟨fun _ => t_inI 0 1 rfl rfl ?_, fun q => absurd rfl q⟩) (fun q => absurd ⟨k, hk, rfl⟩ q))
      rw [if_pos (show (0 : Int32) ≤ a2 ∧ a2 ≤ 1 from ⟨Int32.not_lt.mp q0, q1⟩)]
      refine ⟨fun _ => m_good hS1 hV1 (fun μ2 f2 _ c2 g2 => ?_), fun q => absurd q (by decide)⟩
      have hS2 := hS1.fr f2 (by decide)
      have tail : Fr [0, 8] μ μ2 ∧ SE n c D N μ2 := ⟨(f1.mono (by decide)).trans (f2.mono (by decide)), e1.fr f2 (by decide) (by decide)⟩
      refine down (H := fun j => hX10_shortest_35 G l _ (nI k) a2 (nI (shS (mA n c D N) n k (fun s => sm c 0 s n) j) - 1) (nI j) μ2) (n := 2 ^ n) ?_ ?_
      · have hx := hX (2 ^ n)
        refine eX10_shortest_35 (t_all hS2.2.1 hn ⟨fun _ => ?_, fun q => absurd (nI_lt (by omega) (by omega)) q⟩)
        rw [dI_neg (by omega)]
        refine ⟨fun z => ⟨?_, tail⟩, fun z => ⟨fun y => ?_, fun y => ⟨(g1 z).1 y, tail⟩⟩⟩
        · rw [g0 z, z]; rfl
        · rw [nI_one, pk_sub (by omega)]
          exact t_lines hS2.2.1 hn (by omega) ⟨(g1 z).2 y, tail⟩
      · intro j hj ih
        have hx := hX j
        have e : shS (mA n c D N) n k (fun s => sm c 0 s n) (j + 1) = if (0 < wy (mA n c D N) n j ∧ j.testBit k = true) ∧ (shS (mA n c D N) n k (fun s => sm c 0 s n) j = 0 ∨ sm c 0 j n < sm c 0 (shS (mA n c D N) n k (fun s => sm c 0 s n) j - 1) n) then j + 1 else shS (mA n c D N) n k (fun s => sm c 0 s n) j := rfl
        rw [e] at ih
        refine eX10_shortest_35 (t_all hS2.2.1 hn ⟨fun q => absurd q (nI_nlt (by omega) (by omega)), fun _ => ⟨vp_in_nI (by omega) (by decide), ?_⟩⟩)
        rw [nI_clamp (by omega), g2 j hj, nI_1, dI_neg (by omega)]
        by_cases hw : 0 < wy (mA n c D N) n j
        · rw [if_pos hw]
          refine ⟨fun q => absurd q (by decide), fun _ => t_has (by omega) (by omega) ⟨fun q => ?_, fun q => ⟨fun z => ?_, fun z => ?_⟩⟩⟩
          · rw [(if_has rfl).1] at q
            rw [if_neg (fun y => absurd (y.1.2.symm.trans q) (by decide))] at ih
            exact ih
          · rw [(if_has rfl).2] at q
            rw [if_pos ⟨⟨hw, q⟩, Or.inl z⟩, nI_pred] at ih
            exact ih
          · rw [(if_has rfl).2] at q
            have ex : nI (shS (mA n c D N) n k (fun s => sm c 0 s n) j) - 1 = nI (shS (mA n c D N) n k (fun s => sm c 0 s n) j - 1) := by rw [nI_one, pk_sub (by omega)]
            have s1 := hsm j
            have s2 := hsm (shS (mA n c D N) n k (fun s => sm c 0 s n) j - 1)
            refine t_lines hS2.2.1 hn (by omega) ?_
            rw [ex]
            refine t_lines hS2.2.1 hn (by omega) ?_
            rw [nI_leI (by omega) (by omega)]
            refine ⟨fun y => ?_, fun y => ?_⟩
            · rw [if_neg (fun x => by omega), ex] at ih; exact ih
            · rw [if_pos ⟨⟨hw, q⟩, Or.inr (by omega)⟩, nI_pred] at ih; exact ih
        · rw [if_neg hw]
          rw [if_neg (fun y => hw y.1.1)] at ih
          exact ⟨fun _ => ih, fun q => absurd rfl q⟩
    refine down (H := fun j => hX6_shortestTo_4 G l _ (nI k) (nI (shS (mA n c D N) n k (fun s => sm c 0 s n) j) - 1) (nI j) μ1) (n := 2 ^ n) ?_ ?_
    · have hx := hX (2 ^ n)
      refine eX6_shortestTo_4 ⟨fun _ => ⟨fun q => ?_, fun q => ?_⟩, fun q => absurd (by rw [v1.1.1]; exact Int32.le_refl _) q⟩
      · exact mo _ (fun z => by rw [z]; rfl) (fun z => ⟨fun _ => rfl, fun y => absurd q y⟩)
      · rw [dI_m1 (by omega)]
        refine ⟨fun z => ?_, fun z => mo _ (fun _ => by rw [z]; rfl) (fun y => absurd z y)⟩
        rw [nI_one, pk_sub (by omega)]
        exact t7_sum (w := 0) hS1.1 hn (by omega) (by decide) (mo _ (fun y => absurd y z) (fun _ => ⟨fun y => absurd y q, fun _ => rfl⟩))
    · intro j hj ih
      have hx := hX j
      have hl := wy_le hn hA j
      have e : shS (mA n c D N) n k (fun s => sm c 0 s n) (j + 1) = if (0 < wy (mA n c D N) n j ∧ j.testBit k = true) ∧ (shS (mA n c D N) n k (fun s => sm c 0 s n) j = 0 ∨ sm c 0 j n < sm c 0 (shS (mA n c D N) n k (fun s => sm c 0 s n) j - 1) n) then j + 1 else shS (mA n c D N) n k (fun s => sm c 0 s n) j := rfl
      rw [e] at ih
      refine eX6_shortestTo_4 ⟨fun q => absurd (by rw [v1.1.1] at q; exact q) (nI_ge hj (by omega)), fun _ => ⟨vp_in_nI (by omega) (by decide), ?_⟩⟩
      rw [nI_clamp (by omega), (v1.2.1 j hj).1, nI_has (by omega) (by omega), nI_1, dI_m1 (by omega), show nI (wy (mA n c D N) n j) ≤ 0 ↔ wy (mA n c D N) n j ≤ 0 from nI_leI (b := 0) (by omega) (by decide)]
      refine ⟨fun q => ?_, fun q => ⟨fun q2 => ?_, fun q2 => ⟨fun z => ?_, fun z => ?_⟩⟩⟩
      · rw [if_neg (fun y => by omega)] at ih; exact ih
      · rw [if_neg (fun y => q2 y.1.2)] at ih; exact ih
      · rw [if_pos ⟨⟨by omega, q2⟩, Or.inl z⟩, nI_pred] at ih; exact ih
      · have ex : nI (shS (mA n c D N) n k (fun s => sm c 0 s n) j) - 1 = nI (shS (mA n c D N) n k (fun s => sm c 0 s n) j - 1) := by rw [nI_one, pk_sub (by omega)]
        have s1 := hsm j
        have s2 := hsm (shS (mA n c D N) n k (fun s => sm c 0 s n) j - 1)
        rw [ex, nI_clamp (by omega), (v1.1.2 j hj).1, (v1.1.2 _ (by omega)).1, nI_leI (by omega) (by omega)]
        refine ⟨vp_in_nI (by omega) (by decide), fun y => ?_, fun y => ?_⟩
        · rw [if_neg (fun x => by omega), ex] at ih; exact ih
        · rw [if_pos ⟨⟨by omega, q2⟩, Or.inr (by omega)⟩, nI_pred] at ih; exact ih
  · exact eX10_shortest (t_noScene hS.2.1 hn (fun k' hk' e' => absurd ⟨k', hk', e'⟩ hno) (fun _ => ⟨fun q => absurd q (by decide), fun _ => ⟨rfl, Fr.rfl, hE⟩⟩))
end PLACE
