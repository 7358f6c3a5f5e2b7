/-! count, add, drop, print -/
theorem seg_no {r : Nat → Nat} {a b f k : Nat} (hk : ∀ i, a ≤ i → i < b → r i ≠ k) : (seg r a b).testBit k = false := by
  have := seg_bit r a k b
  cases h : (seg r a b).testBit k
  · rfl
  · obtain ⟨i, h1, h2, h3⟩ := this.mp h
    exact absurd h3 (hk i h1 h2)
theorem or_xor {a k : Nat} (hb : a.testBit k = false) : a ||| 2 ^ k = a ^^^ 2 ^ k := by
  apply Nat.eq_of_testBit_eq
  intro i
  rw [Nat.testBit_or, Nat.testBit_xor, Nat.testBit_two_pow]
  by_cases q : k = i
  · subst q; simp [hb]
  · simp [q]
theorem pc_or {a k : Nat} (hk : k < 10) (hb : a.testBit k = false) : pc (a ||| 2 ^ k) = pc a + 1 := by
  have := pc_xor (a := a) hk
  rw [or_xor hb]
  simpa [hb] using this
theorem pcn_lt {a n : Nat} (ha : a < 2 ^ n) : ∀ k, pcn a k ≤ n
  | 0 => Nat.zero_le _
  | k + 1 => by
    by_cases h : k < n
    · have := pcn_le a (k + 1)
      omega
    · have ih := pcn_lt ha k
      have : a.testBit k = false := Nat.testBit_lt_two_pow (Nat.lt_of_lt_of_le ha (Nat.pow_le_pow_right (by decide) (by omega)))
      unfold pcn
      simp [this]
      exact ih
theorem seg_pc {n f m : Nat} {r e : Nat → Nat} (hB : BK n r f m e) {a : Nat} : ∀ {b : Nat}, a ≤ b → b ≤ f → pc (seg r a b) = b - a
  | 0, h, _ => by
    have : pc 0 = 0 := by decide
    simp [seg, this]
  | b + 1, h, hf => by
    by_cases q : a = b + 1
    · subst q
      rw [seg_self r _ _ (Nat.le_refl _), Nat.sub_self]
      decide
    · have ih := seg_pc hB (a := a) (b := b) (by omega) (by omega)
      have hr := hB.2.2.1 b (by omega)
      have hn := hB.1
      rw [seg_succ (by omega), pc_or (by omega) (seg_no (f := f) (fun i h1 h2 h3 => by have := hB.2.2.2.1 i b (by omega) (by omega) h3; omega)), ih]
      omega
theorem seg_congr {r r' : Nat → Nat} {a : Nat} : ∀ {b : Nat}, (∀ i, a ≤ i → i < b → r i = r' i) → seg r a b = seg r' a b
  | 0, _ => rfl
  | b + 1, h => by
    have ih := seg_congr (r := r) (r' := r') (a := a) (b := b) (fun i h1 h2 => h i h1 (by omega))
    unfold seg
    by_cases q : a ≤ b
    · rw [if_pos q, if_pos q, ih, h b q (by omega)]
    · rw [if_neg q, if_neg q, ih]
section BOOK2
variable {G : gC} {l : Launch} {μ : Mem} {n f m t : Nat} {r e W x : Nat → Nat} {c : Nat → Nat → Nat} {D N : Nat → Nat}
theorem pr_count (hS : ST n c D μ) (hO : BO n r f m e μ) (hV : NV N μ) (hT : TX t x μ) (a1 : Int32) : qX9_count G l a1 μ (fun r1 μ1 => qX10_count G l a1 μ1 (fun r2 μ2 => r1 = r2 ∧ μ2 = μ)) := by
  obtain ⟨hC, hM, hK⟩ := hS
  obtain ⟨bC, bM, hB⟩ := hO
  obtain ⟨nC, nM, _, p, np1, np2⟩ := hV
  have hn := hK.1
  have hm := BKm hB
  have hp : 2 ^ n ≤ 1024 := Nat.pow_le_pow_right (by decide) hn
  have h0 := Nat.two_pow_pos n
  have u4 := SKu (s := 2 ^ n - 1) (w := 4) hK (by decide)
  have sg := (segK hB (a := 0) (b := bst e m) (by omega)).2
  have mo : ∀ (V : Int32), ((a1.toInt < 0 ∨ 7 < a1.toInt) → V = -1002) → (a1 = 0 → V = nI n) → (a1 = 1 → V = nI (bst e m)) → (a1 = 2 → V = nI m) → (a1 = 3 → V = nI (f - bst e m)) → (a1 = 4 → V = nI (sm c 0 (2 ^ n - 1) n)) → (a1 = 5 → V = nI t) → (a1 = 6 → V = nI p) → (a1 = 7 → V = nI (pc (un c 4 (2 ^ n - 1) n))) → qX10_count G l a1 μ (fun r2 μ2 => V = r2 ∧ μ2 = μ) := by
    intro V g g0 g1 g2 g3 g4 g5 g6 g7
    refine eX10_count ⟨fun q => ⟨g q, rfl⟩, fun q => ⟨by rw [hM.1]; exact g0 q, rfl⟩, fun q => ?_, fun q => ⟨by rw [bM.1]; exact g2 q, rfl⟩, fun q => ⟨by rw [bM.2.2.1]; exact g3 q, rfl⟩, fun q => t_all hM hn (t_lines hM hn (by omega) ⟨g4 q, rfl⟩), fun q => ⟨by rw [hT.2.1]; exact g5 q, rfl⟩, fun q => t_nevers nM np2 ⟨g6 q, rfl⟩, fun q => t_all hM hn (t_union (j := 3) hM hn (by omega) (by decide) (t_ones (by show un c 4 _ _ < _; omega) ⟨g7 q, rfl⟩))⟩
    rw [bM.2.1]
    refine t_ones (by omega) ⟨?_, rfl⟩
    rw [seg_pc hB (Nat.zero_le _) (by omega), Nat.sub_zero]
    exact g1 q
  have A : ∀ V : Int32, ∀ i : Nat, i < 8 → a1 = nI i → ((i = 0 → V = nI n) ∧ (i = 1 → V = nI (bst e m)) ∧ (i = 2 → V = nI m) ∧ (i = 3 → V = nI (f - bst e m)) ∧ (i = 4 → V = nI (sm c 0 (2 ^ n - 1) n)) ∧ (i = 5 → V = nI t) ∧ (i = 6 → V = nI p) ∧ (i = 7 → V = nI (pc (un c 4 (2 ^ n - 1) n)))) → qX10_count G l a1 μ (fun r2 μ2 => V = r2 ∧ μ2 = μ) := by
    intro V i hi ha ⟨g0, g1, g2, g3, g4, g5, g6, g7⟩
    have ej : ∀ a : Nat, a < 8 → (nI i = nI a → i = a) := fun a ha => (nI_eq (by omega) (by omega)).mp
    subst ha
    exact mo V (fun q => absurd q (by rw [nI_toInt (by omega)]; omega)) (fun q => g0 (ej 0 (by decide) q)) (fun q => g1 (ej 1 (by decide) q)) (fun q => g2 (ej 2 (by decide) q)) (fun q => g3 (ej 3 (by decide) q)) (fun q => g4 (ej 4 (by decide) q)) (fun q => g5 (ej 5 (by decide) q)) (fun q => g6 (ej 6 (by decide) q)) (fun q => g7 (ej 7 (by decide) q))
  refine eX9_count ⟨fun q => mo _ (fun _ => rfl) (fun z => absurd q (by rw [z]; decide)) (fun z => absurd q (by rw [z]; decide)) (fun z => absurd q (by rw [z]; decide)) (fun z => absurd q (by rw [z]; decide)) (fun z => absurd q (by rw [z]; decide)) (fun z => absurd q (by rw [z]; decide)) (fun z => absurd q (by rw [z]; decide)) (fun z => absurd q (by rw [z]; decide)), fun q => ?_, fun q => ?_, fun q => ?_, fun q => ?_, fun q => ?_, fun q => ?_, fun q => ?_, fun q => ?_⟩
  · rw [hC.1]; exact A _ 0 (by decide) q ⟨fun _ => rfl, fun q => absurd q (by decide), fun q => absurd q (by decide), fun q => absurd q (by decide), fun q => absurd q (by decide), fun q => absurd q (by decide), fun q => absurd q (by decide), fun q => absurd q (by decide)⟩
  · exact b_printed bC hB (A _ 1 (by decide) q ⟨fun q => absurd q (by decide), fun _ => rfl, fun q => absurd q (by decide), fun q => absurd q (by decide), fun q => absurd q (by decide), fun q => absurd q (by decide), fun q => absurd q (by decide), fun q => absurd q (by decide)⟩)
  · rw [bC.2.1]; exact A _ 2 (by decide) q ⟨fun q => absurd q (by decide), fun q => absurd q (by decide), fun _ => rfl, fun q => absurd q (by decide), fun q => absurd q (by decide), fun q => absurd q (by decide), fun q => absurd q (by decide), fun q => absurd q (by decide)⟩
  · exact b_drafted bC hB (A _ 3 (by decide) q ⟨fun q => absurd q (by decide), fun q => absurd q (by decide), fun q => absurd q (by decide), fun _ => rfl, fun q => absurd q (by decide), fun q => absurd q (by decide), fun q => absurd q (by decide), fun q => absurd q (by decide)⟩)
  · exact t7_all hC hn (t7_sum (w := 0) hC hn (by omega) (by decide) (A _ 4 (by decide) q ⟨fun q => absurd q (by decide), fun q => absurd q (by decide), fun q => absurd q (by decide), fun q => absurd q (by decide), fun _ => rfl, fun q => absurd q (by decide), fun q => absurd q (by decide), fun q => absurd q (by decide)⟩))
  · rw [hT.1]; exact A _ 5 (by decide) q ⟨fun q => absurd q (by decide), fun q => absurd q (by decide), fun q => absurd q (by decide), fun q => absurd q (by decide), fun q => absurd q (by decide), fun _ => rfl, fun q => absurd q (by decide), fun q => absurd q (by decide)⟩
  · rw [np1]; exact A _ 6 (by decide) q ⟨fun q => absurd q (by decide), fun q => absurd q (by decide), fun q => absurd q (by decide), fun q => absurd q (by decide), fun q => absurd q (by decide), fun q => absurd q (by decide), fun _ => rfl, fun q => absurd q (by decide)⟩
  · exact t7_all hC hn (t7_union (w := 4) hC hn (by omega) (by decide) (t_bc u4 (A _ 7 (by decide) q ⟨fun q => absurd q (by decide), fun q => absurd q (by decide), fun q => absurd q (by decide), fun q => absurd q (by decide), fun q => absurd q (by decide), fun q => absurd q (by decide), fun q => absurd q (by decide), fun _ => rfl⟩)))
theorem pr_add (hS : ST n c D μ) (hO : BO n r f m e μ) (hV : NV N μ) (a1 : Int32) : qX9_add G l a1 μ (fun r1 μ1 => qX10_add G l a1 μ1 (fun r2 μ2 => r1 = r2 ∧ Fr [6] μ μ2 ∧ ∃ r' f', BO n r' f' m e μ2 ∧ seg r' 0 (bst e m) = seg r 0 (bst e m))) := by
  obtain ⟨hC, hM, hK⟩ := hS
  have hO' := hO
  obtain ⟨bC, bM, hB⟩ := hO
  obtain ⟨nC, nM, _⟩ := hV
  have hn := hK.1
  have hm := BKm hB
  have sg := segK hB (a := 0) (b := f) (Nat.le_refl f)
  have same : ∀ x : Int32, x = x ∧ Fr [6] μ μ ∧ ∃ r' f', BO n r' f' m e μ ∧ seg r' 0 (bst e m) = seg r 0 (bst e m) := fun x => ⟨rfl, Fr.rfl, r, f, hO', rfl⟩
  refine eX9_add (t9_isScene hC hn (fun k hk e1 => ⟨fun _ => ?_, fun q => absurd q (by decide)⟩) (fun hno => ⟨fun q => absurd rfl q, fun _ => ?_⟩))
  · subst e1
    have hx := lt1024 hn (nx_lt n c D N (seg r 0 f))
    have es : gm_r μ 78 23 ||| gm_r μ 78 27 = nI (seg r 0 f) := by rw [bM.2.1, bM.2.2.2.1, nI_or, ← seg_or (Nat.zero_le _) hm.2.2.2]
    have mo : ∀ (Q : Int32 → Mem → Prop), (mayB n c D N k (seg r 0 f) = true → (¬ gm_r μ 78 26 = (6 : Int32) → vp_in (gm_r μ 78 26) 6 ∧ Q (gm_r μ 78 26 + 1) (gm_w (gm_w (gm_w μ 94 (gm_r μ 78 26).toNatClampNeg (nI k)) 78 27 (gm_r μ 78 27 ||| ((1 : Int32) <<< (nI k &&& 31)))) 78 26 (gm_r μ 78 26 + 1))) ∧ (gm_r μ 78 26 = (6 : Int32) → Q (-1004) μ)) → (mayB n c D N k (seg r 0 f) = false → Q (-1003) μ) → qX10_add G l (nI k) μ Q := by
      intro Q g1 g2
      refine eX10_add (t_noScene hM hn (fun k' hk' e' => ⟨fun _ => ?_, fun q => absurd rfl q⟩) (fun q => absurd ⟨k, hk, rfl⟩ q))
      rw [es]
      refine t_mayCome hM hK nM hk sg.2 ?_
      cases hb : mayB n c D N k (seg r 0 f)
      · exact ⟨fun q => absurd rfl q, fun _ => g2 hb⟩
      · exact ⟨fun _ => g1 hb, fun q => absurd q (by decide)⟩
    rw [bC.1]
    refine b_setUpTo bC hB (Nat.le_refl f) (t5_next hC hK nC sg.2 ?_)
    rw [nI_has0 (by omega) (by omega), nx_bit hk]
    refine ⟨fun hb => b_drafted bC hB ⟨fun q6 => ?_, fun q6 => ?_⟩, fun hb => mo _ (fun h => absurd (h.symm.trans hb) (by decide)) (fun _ => same _)⟩
    · have hb : mayB n c D N k (seg r 0 f) = true := by simpa using hb
      rw [show (6 : Int32) = nI 6 from rfl, nI_ltI (by omega) (by decide)] at q6
      have hks : (seg r 0 f).testBit k = false := by
        unfold mayB at hb
        cases h : (seg r 0 f).testBit k
        · rfl
        · rw [h] at hb; simp at hb
      have hfn : f < n := by
        have h1 := seg_pc hB (Nat.zero_le f) (Nat.le_refl f)
        have h2 := pc_or (a := seg r 0 f) (k := k) (by omega) hks
        have h3 := pcn_lt (Nat.or_lt_two_pow sg.1 (Nat.pow_lt_pow_right (by decide) hk)) 10
        have h4 : pc (seg r 0 f ||| 2 ^ k) ≤ n := h3
        omega
      have hkr : ∀ i, i < f → r i ≠ k := fun i hi h => by
        have := (seg_bit r 0 k f).mpr ⟨i, Nat.zero_le i, hi, h⟩
        rw [hks] at this
        cases this
      refine eX0_append ⟨fun q => absurd q (by rw [bC.1]; exact nI_ge (b := 10) (by omega) (by decide)), fun _ => ⟨by rw [bC.1]; exact vp_in_nI (by omega) (by decide), ?_⟩⟩
      rw [bC.1, nI_clamp (by omega), nI_1]
      have sr : ∀ a b, b ≤ f → seg (updN r f k) a b = seg r a b := fun a b hb => seg_congr (fun i _ h2 => by unfold updN; rw [if_neg (by omega)])
      have rn : ∀ i, i < f → updN r f k i = r i := fun i hi => by unfold updN; rw [if_neg (by omega)]
      have rf : updN r f k f = k := by unfold updN; rw [if_pos rfl]
      have hB' : BK n (updN r f k) (f + 1) m e := by
        refine ⟨hn, by omega, fun i hi => ?_, fun i j hi hj hij => ?_, hB.2.2.2.2.1, by omega, by omega⟩
        · by_cases h : i = f
          · subst h; rw [rf]; exact hk
          · rw [rn i (by omega)]; exact hB.2.2.1 i (by omega)
        · by_cases h : i = f
          · by_cases h2 : j = f
            · omega
            · rw [h, rf, rn j (by omega)] at hij
              exact absurd hij.symm (hkr j (by omega))
          · by_cases h2 : j = f
            · rw [h2, rf, rn i (by omega)] at hij
              exact absurd hij (hkr i (by omega))
            · rw [rn i (by omega), rn j (by omega)] at hij
              exact hB.2.2.2.1 i j (by omega) (by omega) hij
      have bC' : BC (updN r f k) (f + 1) m e (gm_w (gm_w μ 43 f (nI k)) 42 1 (nI (f + 1))) := by
        refine ⟨gm_rw_s, ?_, fun i hi => ?_, fun j hj => ?_⟩
        · rw [gm_rw_k (by decide), gm_rw_o (by decide)]; exact bC.2.1
        · rw [gm_rw_o (by decide), gm_rw]
          by_cases h : i = f
          · rw [if_pos ⟨rfl, h⟩, h, rf]
          · rw [if_neg (fun z => h z.2), rn i (by omega)]; exact bC.2.2.1 i (by omega)
        · rw [gm_rw_o (by decide), gm_rw_o (by decide)]; exact bC.2.2.2 j hj
      refine b_drafted bC' hB' ?_
      have ed : f + 1 - bst e m = f - bst e m + 1 := by omega
      have f1 : Fr [6] μ (gm_w (gm_w μ 43 f (nI k)) 42 1 (nI (f + 1))) := (Fr.w (by rw [show own 43 f = 6 from by simp [own]]; decide)).then_w (by decide)
      have rd : ∀ o i, o ≠ 42 → o ≠ 43 → gm_r (gm_w (gm_w μ 43 f (nI k)) 42 1 (nI (f + 1))) o i = gm_r μ o i := fun o i h1 h2 => by rw [gm_rw_o h1, gm_rw_o h2]
      have hM1 : SM n c D (gm_w (gm_w μ 43 f (nI k)) 42 1 (nI (f + 1))) := (ST.fr f1 (by decide) ⟨hC, hM, hK⟩).2.1
      have nM1 : NM N (gm_w (gm_w μ 43 f (nI k)) 42 1 (nI (f + 1))) := fun i hi => ⟨by rw [rd _ _ (by decide) (by decide)]; exact (nM i hi).1, (nM i hi).2⟩
      have b26 := bM.2.2.1
      refine eX10_add (t_noScene hM1 hn (fun k' hk' e' => ⟨fun _ => ?_, fun q => absurd rfl q⟩) (fun q => absurd ⟨k, hk, rfl⟩ q))
      rw [rd 78 _ (by decide) (by decide), rd 78 _ (by decide) (by decide), es]
      refine t_mayCome hM1 hK nM1 hk sg.2 ?_
      rw [hb, if_pos rfl]
      refine ⟨fun _ => ⟨fun _ => ?_, fun q => absurd q ?_⟩, fun q => absurd q (by decide)⟩
      · rw [rd 78 26 (by decide) (by decide), rd 78 27 (by decide) (by decide), b26, bM.2.2.2.1, nI_clamp (by omega), nI_1, nI_bit1 (by omega), nI_or]
        refine ⟨vp_in_nI (by omega) (by decide), by rw [ed], ((f1.then_w (by rw [show own 94 _ = 6 from by simp [own]]; decide)).then_w (by decide)).then_w (by decide), updN r f k, f + 1, ⟨⟨?_, ?_, fun i hi => ?_, fun j hj => ?_⟩, ⟨?_, ?_, ?_, ?_, fun j hj => ⟨?_, fun i hi => ?_⟩, fun i hi => ?_⟩, hB'⟩, sr _ _ hm.2.2.2⟩
        · rw [gm_rw_o (by decide), gm_rw_o (by decide), gm_rw_o (by decide)]; exact bC'.1
        · rw [gm_rw_o (by decide), gm_rw_o (by decide), gm_rw_o (by decide)]; exact bC'.2.1
        · rw [gm_rw_o (by decide), gm_rw_o (by decide), gm_rw_o (by decide)]; exact bC'.2.2.1 i hi
        · rw [gm_rw_o (by decide), gm_rw_o (by decide), gm_rw_o (by decide)]; exact bC'.2.2.2 j hj
        · rw [gm_rw_k (by decide), gm_rw_k (by decide), gm_rw_o (by decide), rd 78 _ (by decide) (by decide)]; exact bM.1
        · rw [gm_rw_k (by decide), gm_rw_k (by decide), gm_rw_o (by decide), rd 78 _ (by decide) (by decide), sr _ _ hm.2.2.2]; exact bM.2.1
        · rw [gm_rw_s, ed]
        · rw [gm_rw_k (by decide), gm_rw_s, seg_succ hm.2.2.2, sr _ _ (Nat.le_refl f), rf]
        · rw [gm_rw_o (by decide), gm_rw_o (by decide), gm_rw_o (by decide), rd 92 _ (by decide) (by decide)]; exact (bM.2.2.2.2.1 j hj).1
        · rw [gm_rw_o (by decide), gm_rw_o (by decide), gm_rw_o (by decide), rd 93 _ (by decide) (by decide), rn _ (by have := BKe hB hj; omega)]; exact (bM.2.2.2.2.1 j hj).2 i hi
        · rw [gm_rw_o (by decide), gm_rw_o (by decide), gm_rw, rd 94 _ (by decide) (by decide)]
          by_cases h : i = f - bst e m
          · rw [if_pos ⟨rfl, h⟩, h, show bst e m + (f - bst e m) = f by omega, rf]
          · rw [if_neg (fun z => h z.2), rn _ (by omega)]; exact bM.2.2.2.2.2 i (by omega)
      · rw [rd 78 26 (by decide) (by decide), b26, show (6 : Int32) = nI 6 from rfl, nI_eq (by omega) (by decide)]
        omega
    · have hb : mayB n c D N k (seg r 0 f) = true := by simpa using hb
      rw [show (6 : Int32) = nI 6 from rfl, nI_ltI (by omega) (by decide)] at q6
      have h6 := hB.2.2.2.2.2.2
      exact mo _ (fun _ => ⟨fun q => absurd (by rw [bM.2.2.1, show f - bst e m = 6 by omega]; rfl) q, fun _ => same _⟩) (fun h => absurd (h.symm.trans hb) (by decide))
  · exact eX10_add (t_noScene hM hn (fun k' hk' e' => absurd ⟨k', hk', e'⟩ hno) (fun _ => ⟨fun q => absurd q (by decide), fun _ => same _⟩))
theorem pr_drop (hO : BO n r f m e μ) : qX9_drop G l μ (fun r1 μ1 => qX10_drop G l μ1 (fun r2 μ2 => r1 = r2 ∧ Fr [6] μ μ2 ∧ ∃ r' f', BO n r' f' m e μ2 ∧ seg r' 0 (bst e m) = seg r 0 (bst e m))) := by
  have hO' := hO
  obtain ⟨bC, bM, hB⟩ := hO
  have hm := BKm hB
  have hn := hB.1
  have h6 := hB.2.2.2.2.2.2
  refine eX9_drop (b_drafted bC hB ⟨fun q => ?_, fun q => ?_⟩)
  · rw [nI_z (by omega)] at q
    have hr := hB.2.2.1 (f - 1) (by omega)
    refine eX0_takeLast ⟨fun _ => ?_, fun q2 => absurd (by rw [bC.1]; exact (nI_leI (a := 1) (by decide) (by omega)).mpr (by omega)) q2⟩
    rw [bC.1, nI_one, pk_sub (by omega), nI_clamp (by omega), bC.2.2.1 (f - 1) (by omega)]
    refine ⟨vp_in_nI (by omega) (by decide), ?_⟩
    have rd : ∀ o i, o ≠ 42 → gm_r (gm_w μ 42 1 (nI (f - 1))) o i = gm_r μ o i := fun o i h1 => by rw [gm_rw_o h1]
    refine eX10_drop ⟨fun _ => ?_, fun q2 => absurd q2 (by rw [rd _ _ (by decide), bM.2.2.1, nI_z (by omega)]; exact q)⟩
    rw [rd _ _ (by decide), rd _ _ (by decide), rd _ _ (by decide), bM.2.2.1, bM.2.2.2.1, nI_one, pk_sub (by omega), nI_clamp (by omega), bM.2.2.2.2.2 _ (by omega), show bst e m + (f - bst e m - 1) = f - 1 by omega]
    refine ⟨vp_in_nI (by omega) (by decide), fun v3 e3 => ?_⟩
    subst e3
    rw [← nI_one, nI_bit1 (by omega), nI_sd]
    have es : sd (seg r (bst e m) f) (2 ^ r (f - 1)) = seg r (bst e m) (f - 1) := by
      have sg := (segK hB (a := bst e m) (b := f) (Nat.le_refl f)).2
      have sg2 := (segK hB (a := bst e m) (b := f - 1) (by omega)).2
      apply Nat.eq_of_testBit_eq
      intro i
      by_cases h32 : i < 32
      · rw [sd_bit h32, Nat.testBit_two_pow, Bool.eq_iff_iff, Bool.and_eq_true, seg_bit, seg_bit]
        constructor
        · rintro ⟨⟨j, h1, h2, h3⟩, h4⟩
          have : j ≠ f - 1 := fun z => by subst z; simp [h3] at h4
          exact ⟨j, h1, by omega, h3⟩
        · rintro ⟨j, h1, h2, h3⟩
          refine ⟨⟨j, h1, by omega, h3⟩, ?_⟩
          have : ¬ r (f - 1) = i := fun z => by
            have := hB.2.2.2.1 j (f - 1) (by omega) (by omega) (h3.trans z.symm)
            omega
          simp [this]
      · have h8 : 2 ^ 10 ≤ 2 ^ i := Nat.pow_le_pow_right (by decide) (by omega)
        rw [Nat.testBit_lt_two_pow (Nat.lt_of_le_of_lt (sd_le _ _) (by omega)), Nat.testBit_lt_two_pow (by omega)]
    rw [es]
    refine ⟨rfl, ((Fr.w (by decide)).then_w (by decide)).then_w (by decide), r, f - 1, ⟨⟨?_, ?_, fun i hi => ?_, fun j hj => ?_⟩, ⟨?_, ?_, ?_, ?_, fun j hj => ⟨?_, fun i hi => ?_⟩, fun i hi => ?_⟩, ⟨hn, by have := hB.2.1; omega, fun i hi => hB.2.2.1 i (by omega), fun i j hi hj => hB.2.2.2.1 i j (by omega) (by omega), hB.2.2.2.2.1, by omega, by have := hB.2.2.2.2.2.2; omega⟩⟩, rfl⟩
    · rw [gm_rw_o (by decide), gm_rw_o (by decide), gm_rw_s]
    · rw [gm_rw_o (by decide), gm_rw_o (by decide), gm_rw_k (by decide)]; exact bC.2.1
    · rw [gm_rw_o (by decide), gm_rw_o (by decide), gm_rw_o (by decide)]; exact bC.2.2.1 i (by omega)
    · rw [gm_rw_o (by decide), gm_rw_o (by decide), gm_rw_o (by decide)]; exact bC.2.2.2 j hj
    · rw [gm_rw_k (by decide), gm_rw_k (by decide), gm_rw_o (by decide)]; exact bM.1
    · rw [gm_rw_k (by decide), gm_rw_k (by decide), gm_rw_o (by decide)]; exact bM.2.1
    · rw [gm_rw_k (by decide), gm_rw_s]; congr 1; omega
    · rw [gm_rw_s]
    · rw [gm_rw_o (by decide), gm_rw_o (by decide), gm_rw_o (by decide)]; exact (bM.2.2.2.2.1 j hj).1
    · rw [gm_rw_o (by decide), gm_rw_o (by decide), gm_rw_o (by decide)]; exact (bM.2.2.2.2.1 j hj).2 i hi
    · rw [gm_rw_o (by decide), gm_rw_o (by decide), gm_rw_o (by decide)]; exact bM.2.2.2.2.2 i (by omega)
  · rw [nI_z (by omega)] at q
    exact eX10_drop ⟨fun q2 => absurd (by rw [bM.2.2.1, q]; rfl) q2, fun _ => ⟨rfl, Fr.rfl, r, f, hO', rfl⟩⟩
theorem pr_print (hS : ST n c D μ) (hO : BO n r f m e μ) (hL : LW W μ) (hP : PO μ) : qX9_print G l μ (fun r1 μ1 => qX10_print G l μ1 (fun r2 μ2 => r1 = r2 ∧ (μ2 = μ ∨ (Fr [6, 9] μ μ2 ∧ PO μ2 ∧ FG μ2 ∧ ∃ m' e', BO n r f m' e' μ2)))) := by
  obtain ⟨hC, hM, hK⟩ := hS
  obtain ⟨bC, bM, hB⟩ := hO
  obtain ⟨lC, lM, hW⟩ := hL
  have hm := BKm hB
  have hn := hB.1
  have sg := (segK hB (a := bst e m) (b := f) (Nat.le_refl f)).2
  have esn : sN r f m e m = seg r (bst e m) f := by unfold sN eN; rw [if_neg (Nat.lt_irrefl m)]
  have lb : liN n c r e W (seg r (bst e m) f) m < 2 ^ 31 := by
    have h1 := sm_le (c := c) (w := 0) (s := seg r (bst e m) f) (m := 99) (n := n) (fun k hk => (hK.2 k hk).1.2)
    have h2 := pcn_le (remN n c r e (W 2) (seg r (bst e m) f) m) 10
    have h3 : W 3 ≤ 20 := hW.2.2.1
    have h4 : W 3 * pcn (remN n c r e (W 2) (seg r (bst e m) f) m) 10 ≤ 20 * 10 := Nat.mul_le_mul h3 h2
    have h5 : n * 99 ≤ 10 * 99 := Nat.mul_le_mul_right _ hn
    show sm c 0 _ n + W 3 * pcn _ 10 < _
    omega
  have w0 := hW.1
  -- the reference, where it prints nothing
  have mo : f - bst e m ≠ 0 → ¬ (W 0 ≤ liN n c r e W (seg r (bst e m) f) m ∧ liN n c r e W (seg r (bst e m) f) m ≤ W 1) → qX10_print G l μ (fun r2 μ2 => -1003 = r2 ∧ (μ2 = μ ∨ (Fr [6, 9] μ μ2 ∧ PO μ2 ∧ FG μ2 ∧ ∃ m' e', BO n r f m' e' μ2))) := fun h1 h2 => by
    refine eX10_print ⟨fun _ => ⟨rfl, Or.inl rfl⟩, fun _ => ?_⟩
    rw [bM.1, bM.2.2.2.1]
    refine m_lines hM hK bM hB lM hW (Nat.le_refl m) sg (t_inI _ _ rfl rfl ?_)
    rw [lM 0 (by decide), lM 1 (by decide), if_neg (fun q => h2 ⟨(nI_leI (by omega) lb).mp q.1, (nI_leI lb (by omega)).mp q.2⟩)]
    exact ⟨fun q => absurd rfl q, fun _ => ⟨rfl, Or.inl rfl⟩⟩
  refine eX9_print (b_drafted bC hB ⟨fun q => ?_, fun q => ?_⟩)
  · rw [nI_z (by omega)] at q
    rw [bC.2.1]
    refine p_lines hC hK bC hB lC hW (Nat.le_refl m) ?_
    rw [esn, lC 0 (by decide), lC 1 (by decide), bC.2.1, nI_ltI lb (by omega), nI_leI lb (by omega)]
    refine ⟨fun q1 => mo q (by omega), fun q1 => ⟨fun q2 => ⟨fun _ => ?_, fun q3 => absurd (nI_lt (b := 12) (by omega) (by decide)) q3⟩, fun q2 => mo q (by omega)⟩⟩
    refine eX0_closeNumber ⟨fun q3 => absurd q3 (by rw [bC.2.1]; exact nI_ge (b := 12) (by omega) (by decide)), fun _ => ⟨by rw [bC.2.1]; exact vp_in_nI (by omega) (by decide), ?_⟩⟩
    rw [bC.2.1, bC.1, nI_clamp (by omega), nI_1]
    have f0 : Fr [6, 9] μ (gm_w (gm_w μ 44 m (nI f)) 42 3 (nI (m + 1))) := (Fr.w (by rw [show own 44 m = 6 from by simp [own]]; decide)).then_w (by decide)
    refine t9_forget (by unfold PO; rw [gm_rw_o (by decide), gm_rw_o (by decide)]; exact hP) (fun μ1 f1 p1 g1 => ?_)
    have f2 : Fr [6, 9] μ μ1 := f0.trans (f1.mono (by decide))
    have rd : ∀ o i, own o i ≠ 9 → o ≠ 42 → o ≠ 44 → gm_r μ1 o i = gm_r μ o i := fun o i h1 h2 h3 => by
      rw [f1.1 o i (by simpa using h1), gm_rw_o h2, gm_rw_o h3]
    have r423 : gm_r μ1 42 3 = nI (m + 1) := by rw [f1.1 42 3 (by decide), gm_rw_s]
    have em : ∀ j, j ≤ m → bst (updN e m f) j = bst e j := fun j hj => by
      unfold bst updN
      by_cases h : j = 0
      · rw [if_pos h, if_pos h]
      · rw [if_neg h, if_neg h, if_neg (by omega)]
    have em1 : bst (updN e m f) (m + 1) = f := by rw [bst_succ]; unfold updN; rw [if_pos rfl]
    have ej : ∀ j, j < m → updN e m f j = e j := fun j hj => by unfold updN; rw [if_neg (by omega)]
    have emm : updN e m f m = f := by unfold updN; rw [if_pos rfl]
    have hB' : BK n r f (m + 1) (updN e m f) := by
      refine ⟨hn, hB.2.1, hB.2.2.1, hB.2.2.2.1, fun j hj => ?_, by omega, by omega⟩
      by_cases h : j = m
      · subst h
        rw [em j (Nat.le_refl _), emm]
        have := hB.2.2.2.2.2.2
        omega
      · rw [em j (by omega), ej j (by omega)]
        exact hB.2.2.2.2.1 j (by omega)
    have bC1 : BC r f (m + 1) (updN e m f) μ1 := by
      refine ⟨?_, r423, fun i hi => ?_, fun j hj => ?_⟩
      · rw [f1.1 42 1 (by decide), gm_rw_k (by decide), gm_rw_o (by decide)]; exact bC.1
      · rw [rd 43 i (by simp [own]) (by decide) (by decide)]; exact bC.2.2.1 i hi
      · rw [f1.1 44 j (by simp [own]), gm_rw_o (by decide), gm_rw]
        by_cases h : j = m
        · rw [if_pos ⟨rfl, h⟩, h, emm]
        · rw [if_neg (fun z => h z.2), ej j (by omega)]; exact bC.2.2.2 j (by omega)
    have bM1 : BM r f m e μ1 := by
      refine ⟨?_, ?_, ?_, ?_, fun j hj => ⟨?_, fun i hi => ?_⟩, fun i hi => ?_⟩
      · rw [rd 78 _ (by decide) (by decide) (by decide)]; exact bM.1
      · rw [rd 78 _ (by decide) (by decide) (by decide)]; exact bM.2.1
      · rw [rd 78 _ (by decide) (by decide) (by decide)]; exact bM.2.2.1
      · rw [rd 78 _ (by decide) (by decide) (by decide)]; exact bM.2.2.2.1
      · rw [rd 92 _ (by simp [own]) (by decide) (by decide)]; exact (bM.2.2.2.2.1 j hj).1
      · rw [rd 93 _ (by simp [own]) (by decide) (by decide)]; exact (bM.2.2.2.2.1 j hj).2 i hi
      · rw [rd 94 _ (by simp [own]) (by decide) (by decide)]; exact bM.2.2.2.2.2 i hi
    have lM1 : LM W μ1 := (LW.fr f2 (by decide) ⟨lC, lM, hW⟩).2.1
    have hM1 : SM n c D μ1 := (ST.fr f2 (by decide) ⟨hC, hM, hK⟩).2.1
    refine eX10_print ⟨fun q3 => absurd q3 (by rw [bM1.2.2.1, nI_z (by omega)]; exact q), fun _ => ?_⟩
    rw [bM1.1, bM1.2.2.2.1]
    refine m_lines hM1 hK bM1 hB lM1 hW (Nat.le_refl m) sg (t_inI _ _ rfl rfl ?_)
    rw [lM1 0 (by decide), lM1 1 (by decide), if_pos ⟨(nI_leI (by omega) lb).mpr (by omega), (nI_leI lb (by omega)).mpr q2⟩]
    refine ⟨fun _ => ⟨fun _ => ⟨by rw [bM1.1]; exact vp_in_nI (by omega) (by decide), ?_⟩, fun q3 => absurd q3 (by rw [bM1.1, show (12 : Int32) = nI 12 from rfl, nI_eq (by omega) (by decide)]; omega)⟩, fun q3 => absurd q3 (by decide)⟩
    rw [bM1.1, bM1.2.2.1, nI_clamp (by omega)]
    -- the row is copied
    have loop : ∀ d i μ', i + d = f - bst e m → (∀ o k, ¬ (o = 92 ∧ k = m) → ¬ (o = 93 ∧ 6 * m ≤ k) → gm_r μ' o k = gm_r μ1 o k) → μ'.1 = μ1.1 → gm_r μ' 92 m = nI (f - bst e m) → (∀ i', i' < i → gm_r μ' 93 (6 * m + i') = nI (r (bst e m + i'))) → hX10_print_72 G l (fun r2 μ2 => gm_r μ1 42 3 - 1 = r2 ∧ (μ2 = μ ∨ (Fr [6, 9] μ μ2 ∧ PO μ2 ∧ FG μ2 ∧ ∃ m' e', BO n r f m' e' μ2))) (nI i) μ' := by
      intro d
      induction d with
      | zero =>
        intro i μ' hi k1 k0 k2 k3
        have r78 : ∀ k, gm_r μ' 78 k = gm_r μ1 78 k := fun k => k1 78 k (fun z => absurd z.1 (by decide)) (fun z => absurd z.1 (by decide))
        have f3 : Fr [6, 9] μ μ' := by
          refine ⟨fun o k ho => ?_, fun h => absurd (by decide) h⟩
          rw [k1 o k (fun z => ho (by rw [z.1, show own 92 k = 6 from by simp [own]]; decide)) (fun z => ho (by rw [z.1, show own 93 k = 6 from by simp [own]]; decide))]
          exact f2.1 o k ho
        refine eX10_print_72 ⟨fun _ => ?_, fun q4 => absurd (by rw [r78, bM1.2.2.1, show i = f - bst e m by omega]; exact Int32.le_refl _) q4⟩
        rw [r78, r78, r78, bM1.1, bM1.2.1, bM1.2.2.2.1, nI_or, ← seg_or (Nat.zero_le _) hm.2.2.2, nI_1]
        have rr : ∀ o k, o ≠ 78 → ∀ v1 v2 v3 v4, gm_r (gm_w (gm_w (gm_w (gm_w μ' 78 23 v1) 78 26 v2) 78 27 v3) 78 22 v4) o k = gm_r μ' o k := fun o k h v1 v2 v3 v4 => by rw [gm_rw_o h, gm_rw_o h, gm_rw_o h, gm_rw_o h]
        refine ⟨by rw [r423], Or.inr ⟨(((f3.then_w (by decide)).then_w (by decide)).then_w (by decide)).then_w (by decide), ?_, ?_, m + 1, updN e m f, ⟨?_, ?_, fun i hi => ?_, fun j hj => ?_⟩, ⟨?_, ?_, ?_, ?_, fun j hj => ⟨?_, fun i' hi' => ?_⟩, fun i' hi' => ?_⟩, hB'⟩⟩
        · unfold PO
          rw [rr _ _ (by decide), k1 0 11 (fun z => absurd z.1 (by decide)) (fun z => absurd z.1 (by decide))]
          show (_ ∧ μ'.1 = 106) ∨ (_ ∧ μ'.1 = 144)
          rw [k0]
          exact p1
        · unfold FG
          rw [rr _ _ (by decide), rr _ _ (by decide), rr _ _ (by decide), k1 0 11 (fun z => absurd z.1 (by decide)) (fun z => absurd z.1 (by decide)), k1 106 7 (fun z => absurd z.1 (by decide)) (fun z => absurd z.1 (by decide)), k1 106 9 (fun z => absurd z.1 (by decide)) (fun z => absurd z.1 (by decide))]
          exact g1
        · rw [rr _ _ (by decide), k1 42 _ (fun z => absurd z.1 (by decide)) (fun z => absurd z.1 (by decide))]; exact bC1.1
        · rw [rr _ _ (by decide), k1 42 _ (fun z => absurd z.1 (by decide)) (fun z => absurd z.1 (by decide))]; exact bC1.2.1
        · rw [rr _ _ (by decide), k1 43 _ (fun z => absurd z.1 (by decide)) (fun z => absurd z.1 (by decide))]; exact bC1.2.2.1 i hi
        · rw [rr _ _ (by decide), k1 44 _ (fun z => absurd z.1 (by decide)) (fun z => absurd z.1 (by decide))]; exact bC1.2.2.2 j hj
        · rw [gm_rw_s]
        · rw [gm_rw_k (by decide), gm_rw_k (by decide), gm_rw_k (by decide), gm_rw_s, em1]
        · rw [gm_rw_k (by decide), gm_rw_k (by decide), gm_rw_s, em1, Nat.sub_self]; rfl
        · rw [gm_rw_k (by decide), gm_rw_s, em1, seg_self _ _ _ (Nat.le_refl _)]; rfl
        · rw [rr _ _ (by decide)]
          by_cases h : j = m
          · subst h; rw [k2, emm, em j (Nat.le_refl _)]
          · rw [k1 92 j (fun z => h z.2) (fun z => absurd z.1 (by decide)), em j (by omega), ej j (by omega)]
            exact (bM1.2.2.2.2.1 j (by omega)).1
        · rw [rr _ _ (by decide)]
          by_cases h : j = m
          · subst h
            rw [emm, em j (Nat.le_refl _)] at hi'
            rw [em j (Nat.le_refl _), k3 i' (by omega)]
          · rw [em j (by omega), ej j (by omega)] at hi'
            have := BKe hB (j := j) (by omega)
            rw [k1 93 _ (fun z => absurd z.1 (by decide)) (fun z => by omega), em j (by omega)]
            exact (bM1.2.2.2.2.1 j (by omega)).2 i' hi'
        · rw [em1] at hi'
          omega
      | succ d ih =>
        intro i μ' hi k1 k0 k2 k3
        have h6 := hB.2.2.2.2.2.2
        have r78 : ∀ k, gm_r μ' 78 k = gm_r μ1 78 k := fun k => k1 78 k (fun z => absurd z.1 (by decide)) (fun z => absurd z.1 (by decide))
        refine eX10_print_72 ⟨fun q4 => absurd q4 (by rw [r78, bM1.2.2.1]; exact nI_ge (by omega) (by omega)), fun _ => ?_⟩
        rw [r78, bM1.1, show (6 : Int32) = nI 6 from rfl, pk_mul, nI_add, nI_clamp (by omega), nI_clamp (by omega), nI_1, k1 94 i (fun z => absurd z.1 (by decide)) (fun z => absurd z.1 (by decide)), bM1.2.2.2.2.2 i (by omega)]
        refine ⟨vp_in_nI (by omega) (by decide), vp_in_nI (by omega) (by decide), ih (i + 1) _ (by omega) (fun o k h1 h2 => ?_) k0 ?_ (fun i' hi' => ?_)⟩
        · rw [gm_rw, if_neg (fun z => h2 ⟨z.1, by omega⟩)]
          exact k1 o k h1 h2
        · rw [gm_rw_o (by decide)]; exact k2
        · rw [gm_rw]
          by_cases h : i' = i
          · rw [if_pos ⟨rfl, by omega⟩, h]
          · rw [if_neg (fun z => h (by omega))]; exact k3 i' (by omega)
    refine loop (f - bst e m) 0 _ (by omega) (fun o k h1 _ => by rw [gm_rw, if_neg h1]) rfl (by rw [gm_rw_s]) (fun i' hi' => absurd hi' (Nat.not_lt_zero _))
  · rw [nI_z (by omega)] at q
    exact eX10_print ⟨fun _ => ⟨rfl, Or.inl rfl⟩, fun q2 => absurd (by rw [bM.2.2.1, q]; rfl) q2⟩
end BOOK2
