/-! chapter in the reference -/
theorem own_m {o k : Nat} (h : (85 ≤ o ∧ o ≤ 91) ∨ (95 ≤ o ∧ o ≤ 102)) : own o k = 0 := by
  unfold own
  rw [if_neg (by omega), if_neg (by omega), if_neg (by omega), if_neg (by omega), if_neg (by omega), if_neg (by omega), if_neg (by omega), if_neg (by omega), if_neg (by omega), if_neg (by omega), if_neg (by omega)]
section CHAPM
variable {G : gC} {l : Launch} {μ : Mem} {n f m t p : Nat} {r e W x L : Nat → Nat} {c : Nat → Nat → Nat} {D N : Nat → Nat}
def okM (L : Nat → Nat) (p C X : Nat) (μ : Mem) : Prop := gm_r μ 101 (11 * C + X) = nI (chU L p C X) ∧ (1 ≤ C → gm_r μ 102 (11 * C + X) = nI (chT L p C X))
def TM (L : Nat → Nat) (p C X : Nat) (μ : Mem) : Prop := (∀ c', c' < C → ∀ x, x ≤ p → okM L p c' x μ) ∧ ∀ x, x < X → okM L p C x μ
theorem okM.w {C X C' X' : Nat} {v v' : Int32} (hX : X ≤ 10) (hX' : X' ≤ 10) (hne : ¬ (C' = C ∧ X' = X)) (h : okM L p C' X' μ) : okM L p C' X' (gm_w (gm_w μ 101 (11 * C + X) v) 102 (11 * C + X) v') := by
  refine ⟨?_, fun h1 => ?_⟩
  · rw [gm_rw_o (by decide), gm_rw, if_neg (by omega)]; exact h.1
  · rw [gm_rw, if_neg (by omega), gm_rw_o (by decide)]; exact h.2 h1
theorem TM.w {C X : Nat} {v v' : Int32} (hp : p ≤ 10) (hX : X ≤ p) (h : TM L p C X μ) : TM L p C X (gm_w (gm_w μ 101 (11 * C + X) v) 102 (11 * C + X) v') := ⟨fun c' hc x hx => (h.1 c' hc x hx).w (by omega) (by omega) (by omega), fun x hx => (h.2 x hx).w (by omega) (by omega) (by omega)⟩
theorem mc_tab {P : Int32 → Mem → Prop} {K : Nat} {a2 : Int32} (hS : ST n c D μ) (hO : BO n r f m e μ) (hL : L = fun i => c (r i) 0) (hp : p = bst e m) (hK : K ≤ 8) (h : ∀ μ', Fr [0] μ μ' → (∀ c', c' ≤ K → ∀ x, x ≤ p → okM L p c' x μ') → hX10_chapter_110 G l P (nI K) a2 (nI p) (nI (K + 1)) μ') : ∀ μ', Fr [0] μ μ' → (∀ j, j < p → gm_r μ' 100 j = nI (r j)) → hX10_chapter_110 G l P (nI K) a2 (nI p) (nI 0) μ' := by
  have hB := hO.2.2
  have hm := BKm hB
  have hn := hB.1
  have hKS := hS.2.2
  have hL9 : ∀ i, i < p → L i ≤ 99 := fun i hi => by rw [hL]; exact (hKS.2 _ (hB.2.2.1 i (by omega))).1.2
  have hls : ∀ a b, b ≤ p → lsum L a b ≤ 990 := fun a b hb => by
    have := lsum_le (L := L) (a := a) (M := 99) (b := b) (fun i hi => hL9 i (by omega))
    omega
  have ix : ∀ C X : Nat, (11 : Int32) * nI C + nI X = nI (11 * C + X) := fun C X => by rw [show (11 : Int32) = nI 11 from rfl, pk_mul, nI_add]
  -- one cell
  have l174 : ∀ C X, C ≤ K → X ≤ p → (∀ μ', Fr [0] μ μ' → (∀ j, j < p → gm_r μ' 100 j = nI (r j)) → TM L p C (X + 1) μ' → hX10_chapter_119 G l P (nI K) a2 (nI p) (nI C) (nI (X + 1)) μ') → 1 ≤ C → ∀ d' d μ', d + d' = p - X → Fr [0] μ μ' → (∀ j, j < p → gm_r μ' 100 j = nI (r j)) → TM L p C X μ' → gm_r μ' 101 (11 * C + X) = nI (chB (chV L p (C - 1) X) X d).1 → gm_r μ' 102 (11 * C + X) = nI (chB (chV L p (C - 1) X) X d).2 → hX10_chapter_174 G l P (nI K) a2 (nI p) (nI C) (nI X) (nI (11 * C + X)) (nI (lsum L X (X + d))) (nI (X + d)) μ' := by
    intro C X hCK hX hnext hC1 d'
    induction d' with
    | zero =>
      intro d μ' hd k1 k2 k3 k4 k5
      refine eX10_chapter_174 ⟨fun _ => ?_, fun q => absurd ((nI_leI (by omega) (by omega)).mpr (by omega)) q⟩
      rw [nI_1]
      refine hnext μ' k1 k2 ⟨k3.1, fun x hx => ?_⟩
      by_cases ex : x = X
      · subst ex
        have eU : chU L p C x = (chB (chV L p (C - 1) x) x d).1 := by
          rw [show d = p - x by omega]
          obtain ⟨C', rfl⟩ : ∃ C', C = C' + 1 := ⟨C - 1, by omega⟩
          rfl
        have eT : chT L p C x = (chB (chV L p (C - 1) x) x d).2 := by rw [show d = p - x by omega]; rfl
        exact ⟨by rw [eU]; exact k4, fun _ => by rw [eT]; exact k5⟩
      · exact k3.2 x (by omega)
    | succ d' ih =>
      intro d μ' hd k1 k2 k3 k4 k5
      have s1 := (hS.fr k1 (by decide)).2.1
      have hr := hB.2.2.1 (X + d) (by omega)
      refine eX10_chapter_174 ⟨fun q => absurd q (nI_ge (by omega) (by omega)), fun _ => ⟨fun q => absurd q (by rw [show (0 : Int32) = nI 0 from rfl, nI_leI (by omega) (by decide)]; omega), fun _ => ?_⟩⟩
      rw [nI_clamp (n := X + d) (by omega), k2 _ (by omega), nI_clamp (n := r (X + d)) (by omega), (s1.2 _ hr).1]
      refine ⟨vp_in_nI (by omega) (by decide), vp_in_nI (by omega) (by decide), fun v30 e30 => ?_⟩
      have e1 : lsum L X (X + d + 1) = lsum L X (X + d) + c (r (X + d)) 0 := by rw [show lsum L X (X + d + 1) = lsum L X (X + d) + L (X + d) from if_pos (by omega), hL]
      rw [nI_add, ← e1] at e30
      subst e30
      have ei : (11 : Int32) * (nI C - 1) + nI (X + d) + 1 = nI (11 * (C - 1) + (X + d + 1)) := by
        rw [nI_one, pk_sub hC1, ix, ← nI_one, nI_1]
        congr 1
      rw [ei, nI_clamp (by omega), nI_clamp (by omega), k4, nI_1]
      have hok := (k3.1 (C - 1) (by omega) (X + d + 1) (by omega)).1
      rw [hok, pk_mul]
      refine ⟨vp_in_nI (by omega) (by decide), fun v32 e32 => ?_⟩
      have hV : v32 = nI (chV L p (C - 1) X (X + d + 1)) := by rw [e32, nI_add]; rfl
      have hVb : chV L p (C - 1) X (X + d + 1) < 2 ^ 31 := by
        have h1 := chU_far L p (C - 1) (X + d + 1)
        have h2 := hls X (X + d + 1) (by omega)
        have h3 : lsum L X (X + d + 1) * lsum L X (X + d + 1) ≤ 990 * 990 := Nat.mul_le_mul h2 h2
        unfold chV
        omega
      have hbb := chB_le (chV L p (C - 1) X) X d
      subst hV
      rw [nI_leI (by omega) hVb]
      refine ⟨vp_in_nI (by omega) (by decide), fun q => ?_, fun q => ?_⟩
      · have hs : chB (chV L p (C - 1) X) X (d + 1) = chB (chV L p (C - 1) X) X d := by rw [chB_succ, if_neg (by omega)]
        exact ih (d + 1) μ' (by omega) k1 k2 k3 (by rw [hs]; exact k4) (by rw [hs]; exact k5)
      · have hs : chB (chV L p (C - 1) X) X (d + 1) = (chV L p (C - 1) X (X + d + 1), d + 1) := by rw [chB_succ, if_pos (by omega)]
        refine ih (d + 1) _ (by omega) ((k1.then_w (by rw [own_m (by omega)]; decide)).then_w (by rw [own_m (by omega)]; decide)) (fun j hj => ?_) (k3.w (by omega) hX) ?_ ?_
        · rw [gm_rw_o (by decide), gm_rw_o (by decide)]; exact k2 j hj
        · rw [gm_rw_o (by decide), gm_rw_s, hs]
        · rw [gm_rw_s, hs, pk_sub (by omega)]
          congr 1
          omega
  have l119 : ∀ C, C ≤ K → (∀ μ', Fr [0] μ μ' → (∀ j, j < p → gm_r μ' 100 j = nI (r j)) → TM L p (C + 1) 0 μ' → hX10_chapter_110 G l P (nI K) a2 (nI p) (nI (C + 1)) μ') → ∀ d X μ', X + d = p + 1 → Fr [0] μ μ' → (∀ j, j < p → gm_r μ' 100 j = nI (r j)) → TM L p C X μ' → hX10_chapter_119 G l P (nI K) a2 (nI p) (nI C) (nI X) μ' := by
    intro C hCK hnext d
    induction d with
    | zero =>
      intro X μ' hX k1 k2 k3
      refine eX10_chapter_119 ⟨fun _ => ?_, fun q => absurd (nI_lt (by omega) (by omega)) q⟩
      rw [nI_1]
      refine hnext μ' k1 k2 ⟨fun c' hc x hx => ?_, fun x hx => absurd hx (Nat.not_lt_zero x)⟩
      by_cases ec : c' = C
      · subst ec; exact k3.2 x (by omega)
      · exact k3.1 c' (by omega) x hx
    | succ d ih =>
      intro X μ' hX k1 k2 k3
      have fw : ∀ v v' : Int32, Fr [0] μ (gm_w (gm_w μ' 101 (11 * C + X) v) 102 (11 * C + X) v') := fun v v' => (k1.then_w (by rw [own_m (by omega)]; decide)).then_w (by rw [own_m (by omega)]; decide)
      have sd2 : ∀ v v' : Int32, ∀ j, j < p → gm_r (gm_w (gm_w μ' 101 (11 * C + X) v) 102 (11 * C + X) v') 100 j = nI (r j) := fun v v' j hj => by rw [gm_rw_o (by decide), gm_rw_o (by decide)]; exact k2 j hj
      have zero : ∀ v : Int32, C = 0 → v = nI (chU L p 0 X) → hX10_chapter_174 G l P (nI K) a2 (nI p) (nI C) (nI X) (nI (11 * C + X)) 0 (nI X) (gm_w (gm_w μ' 101 (11 * C + X) v) 102 (11 * C + X) 0) := fun v hC hv => by
        have nx : hX10_chapter_119 G l P (nI K) a2 (nI p) (nI C) (nI X + 1) (gm_w (gm_w μ' 101 (11 * C + X) v) 102 (11 * C + X) 0) := by
          rw [nI_1]
          refine ih (X + 1) _ (by omega) (fw _ _) (sd2 _ _) ⟨(k3.w (by omega) (by omega)).1, fun x hx => ?_⟩
          by_cases ex : x = X
          · subst ex
            refine ⟨?_, fun z => absurd z (by omega)⟩
            rw [gm_rw_o (by decide), gm_rw_s, hv, hC]
          · exact (k3.w (by omega) (by omega)).2 x (by omega)
        refine eX10_chapter_174 ⟨fun _ => nx, fun _ => ⟨fun _ => nx, fun q => absurd (by rw [hC]; decide) q⟩⟩
      refine eX10_chapter_119 ⟨fun q => absurd q (nI_nlt (by omega) (by omega)), fun _ => ?_⟩
      rw [ix, nI_clamp (by omega)]
      refine ⟨fun q => ⟨vp_in_nI (by omega) (by decide), ?_⟩, fun q => ⟨fun q2 => ⟨vp_in_nI (by omega) (by decide), zero _ ((nI_z (by omega)).mp q) ?_⟩, fun q2 => ⟨vp_in_nI (by omega) (by decide), zero _ ((nI_z (by omega)).mp q) ?_⟩⟩⟩
      · rw [nI_z (by omega)] at q
        have := l174 C X hCK (by omega) (fun μ1 f1 s1 t1 => ih (X + 1) μ1 (by omega) f1 s1 t1) (by omega) (p - X) 0 (gm_w (gm_w μ' 101 (11 * C + X) 1000000) 102 (11 * C + X) 0) (by omega) (fw _ _) (sd2 _ _) (k3.w (by omega) (by omega)) (by rw [gm_rw_o (by decide), gm_rw_s]; rfl) (by rw [gm_rw_s]; rfl)
        rw [Nat.add_zero, lsum_self L X X (Nat.le_refl _)] at this
        exact this
      · have : X ≠ p := fun z => q2 (by rw [z])
        unfold chU
        rw [if_neg this]
        rfl
      · have : X = p := (nI_eq (by omega) (by omega)).mp q2
        unfold chU
        rw [if_pos this]
        rfl
  have l110 : ∀ d C μ', C + d = K + 1 → Fr [0] μ μ' → (∀ j, j < p → gm_r μ' 100 j = nI (r j)) → TM L p C 0 μ' → hX10_chapter_110 G l P (nI K) a2 (nI p) (nI C) μ' := by
    intro d
    induction d with
    | zero =>
      intro C μ' hC k1 k2 k3
      rw [show C = K + 1 by omega] at k3 ⊢
      exact h μ' k1 (fun c' hc x hx => k3.1 c' (by omega) x hx)
    | succ d ih =>
      intro C μ' hC k1 k2 k3
      refine eX10_chapter_110 ⟨fun q => absurd q (nI_nlt (by omega) (by omega)), fun _ => ?_⟩
      exact l119 C (by omega) (fun μ1 f1 s1 t1 => ih (C + 1) μ1 (by omega) f1 s1 t1) (p + 1) 0 μ' (by omega) k1 k2 k3
  intro μ' k1 k2
  exact l110 (K + 1) 0 μ' (by omega) k1 k2 ⟨fun c' hc => absurd hc (Nat.not_lt_zero c'), fun x hx => absurd hx (Nat.not_lt_zero x)⟩
theorem mc_said {P : Int32 → Mem → Prop} {a1 a2 : Int32} (hO : BO n r f m e μ) (hp : p = bst e m) (h : ∀ μ', Fr [0] μ μ' → (∀ j, j < p → gm_r μ' 100 j = nI (r j)) → hX10_chapter_21 G l P a1 a2 (nI p) (nI m) μ') : hX10_chapter_21 G l P a1 a2 (nI 0) (nI 0) μ := by
  have hB := hO.2.2
  have hm := BKm hB
  have l33 : ∀ i, i < m → (∀ μ', Fr [0] μ μ' → (∀ j, j < bst e (i + 1) → gm_r μ' 100 j = nI (r j)) → hX10_chapter_21 G l P a1 a2 (nI (bst e (i + 1))) (nI (i + 1)) μ') → ∀ d j μ', j + d = e i - bst e i → Fr [0] μ μ' → (∀ k, k < bst e i + j → gm_r μ' 100 k = nI (r k)) → hX10_chapter_33 G l P a1 a2 (nI (bst e i + j)) (nI i) (nI j) μ' := by
    intro i hi hnext d
    have he := BKe hB hi
    induction d with
    | zero =>
      intro j μ' hj k1 k2
      have b1 := (hO.fr k1 (by decide)).2.1
      obtain ⟨z1, z2⟩ := b1.2.2.2.2.1 i hi
      refine eX10_chapter_33 ⟨vp_in_nI (by omega) (by decide), fun _ => ?_, fun q => absurd (by rw [nI_clamp (by omega), z1, show j = e i - bst e i by omega]; exact Int32.le_refl _) q⟩
      rw [nI_1, show bst e i + j = bst e (i + 1) by rw [bst_succ]; omega]
      exact hnext μ' k1 (fun k hk => k2 k (by rw [bst_succ] at hk; omega))
    | succ d ih =>
      intro j μ' hj k1 k2
      have b1 := (hO.fr k1 (by decide)).2.1
      obtain ⟨z1, z2⟩ := b1.2.2.2.2.1 i hi
      refine eX10_chapter_33 ⟨vp_in_nI (by omega) (by decide), fun q => absurd q (by rw [nI_clamp (by omega), z1]; exact nI_ge (by omega) (by omega)), fun _ => ?_⟩
      rw [show (6 : Int32) = nI 6 from rfl, pk_mul, nI_add, nI_clamp (by omega), nI_clamp (by omega), z2 j (by omega), nI_1, nI_1]
      refine ⟨vp_in_nI (by omega) (by decide), vp_in_nI (by omega) (by decide), ih (j + 1) _ (by omega) (k1.then_w (by rw [own_m (by omega)]; decide)) (fun k hk => ?_)⟩
      rw [gm_rw]
      by_cases q : k = bst e i + j
      · rw [if_pos ⟨rfl, q⟩, q]
      · rw [if_neg (fun z => q z.2)]; exact k2 k (by omega)
  have l21 : ∀ d i μ', i + d = m → Fr [0] μ μ' → (∀ j, j < bst e i → gm_r μ' 100 j = nI (r j)) → hX10_chapter_21 G l P a1 a2 (nI (bst e i)) (nI i) μ' := by
    intro d
    induction d with
    | zero =>
      intro i μ' hi k1 k2
      rw [show i = m by omega] at k2 ⊢
      rw [← hp] at k2 ⊢
      exact h μ' k1 k2
    | succ d ih =>
      intro i μ' hi k1 k2
      have b1 := (hO.fr k1 (by decide)).2.1
      have he := BKe hB (j := i) (by omega)
      refine eX10_chapter_21 ⟨fun q => absurd q (by rw [b1.1]; exact nI_ge (by omega) (by omega)), fun _ => ?_⟩
      exact l33 i (by omega) (fun μ1 f1 s1 => ih (i + 1) μ1 (by omega) f1 s1) (e i - bst e i) 0 μ' (by omega) k1 k2
  have := l21 m 0 μ (by omega) Fr.rfl (fun j hj => absurd hj (by simp [bst]))
  exact this
theorem mc_in {P : Int32 → Mem → Prop} {K i : Nat} (hp : p ≤ 10) (hK : K ≤ 8) (hi : i < K) (hU : chU L p K 0 < 1000000) (hT : ∀ c', c' ≤ K → ∀ x, x ≤ p → okM L p c' x μ) (h : P (nI (chT L p (K - i) (chX L p K i))) μ) : hX10_chapter_301 G l P (nI K) (nI i) 0 0 μ := by
  refine down (H := fun j => hX10_chapter_301 G l P (nI K) (nI i) (nI (chX L p K j)) (nI j) μ) (n := i) ?_ ?_
  · obtain ⟨h1, h2⟩ := chX_ok hU i (by omega)
    refine eX10_chapter_301 ⟨fun _ => ?_, fun q => absurd (Int32.le_refl _) q⟩
    rw [pk_sub (by omega), show (11 : Int32) = nI 11 from rfl, pk_mul, nI_add, nI_clamp (by omega), (hT (K - i) (by omega) _ h1).2 (by omega)]
    exact ⟨vp_in_nI (by omega) (by decide), h⟩
  · intro j hj ih
    obtain ⟨h1, h2⟩ := chX_ok hU j (by omega)
    refine eX10_chapter_301 ⟨fun q => absurd q (nI_ge hj (by omega)), fun _ => ?_⟩
    rw [pk_sub (by omega), show (11 : Int32) = nI 11 from rfl, pk_mul, nI_add, nI_clamp (by omega), (hT (K - j) (by omega) _ h1).2 (by omega), nI_add, nI_1]
    exact ⟨vp_in_nI (by omega) (by decide), fun v5 e5 => by rw [e5]; exact ih⟩
theorem pr_chapter (hS : ST n c D μ) (hO : BO n r f m e μ) (a1 a2 : Int32) : qX9_chapter G l a1 a2 μ (fun r1 μ1 => qX10_chapter G l a1 a2 μ1 (fun r2 μ2 => r1 = r2 ∧ Fr [0] μ μ2)) := by
  have hB := hO.2.2
  have hm := BKm hB
  have bC := hO.1
  have hKS := hS.2.2
  have inn : ∀ k : Nat, k < 11 → ∀ x : Int32, ((-1 : Int32) ≤ x ∧ x ≤ nI k - 1) ↔ (x = -1 ∨ ∃ i, i < k ∧ x = nI i) := fun k hk x => by
    have e : ∀ n : Nat, n < 11 → (nI n - 1).toInt = (n : Int) - 1 := by decide +kernel
    constructor
    · rintro ⟨h1, h2⟩
      by_cases h0 : x < 0
      · left
        rw [Int32.le_iff_toInt_le] at h1
        rw [Int32.lt_iff_toInt_lt] at h0
        apply Int32.toInt_inj.mp
        rw [show (-1 : Int32).toInt = -1 from rfl] at h1 ⊢
        rw [show (0 : Int32).toInt = 0 from rfl] at h0
        omega
      · right
        obtain ⟨j, hj, rfl⟩ := nI_of h0
        rw [Int32.le_iff_toInt_le, nI_toInt hj, e k hk] at h2
        exact ⟨j, by omega, rfl⟩
    · rintro (rfl | ⟨i, hi, rfl⟩)
      · refine ⟨Int32.le_refl _, ?_⟩
        rw [Int32.le_iff_toInt_le, e k hk, show (-1 : Int32).toInt = -1 from rfl]
        omega
      · refine ⟨?_, ?_⟩
        · rw [Int32.le_iff_toInt_le, nI_toInt (by omega), show (-1 : Int32).toInt = -1 from rfl]
          omega
        · rw [Int32.le_iff_toInt_le, nI_toInt (by omega), e k hk]
          omega
  by_cases hk : ∃ k, 1 ≤ k ∧ k ≤ 8 ∧ a1 = nI k
  · have hk' : (1 : Int32) ≤ a1 ∧ a1 ≤ 8 := (w_in (x := a1) (a := 1) (by decide) 8 (by decide)).mpr hk
    obtain ⟨K, k1, k2, rfl⟩ := hk
    -- the reference
    have mo : ∀ (μ1 : Mem) (V : Int32), Fr [0] μ μ1 → (¬ K ≤ bst e m → V = -1003) → (K ≤ bst e m → (¬ (a2 = -1 ∨ ∃ i, i < K ∧ a2 = nI i)) → V = -1001) → (K ≤ bst e m → a2 = -1 → V = nI (chU (fun i => c (r i) 0) (bst e m) K 0)) → (∀ i, K ≤ bst e m → i < K → a2 = nI i → V = nI (chT (fun i => c (r i) 0) (bst e m) (K - i) (chX (fun i => c (r i) 0) (bst e m) K i))) → qX10_chapter G l (nI K) a2 μ1 (fun r2 μ2 => V = r2 ∧ Fr [0] μ μ2) := by
      intro μ1 V f1 g1 g2 g3 g4
      refine eX10_chapter (t_inI 1 8 rfl rfl ?_)
      rw [if_pos hk']
      refine ⟨fun _ => ?_, fun q => absurd q (by decide)⟩
      have hO1 := hO.fr f1 (by decide)
      have hS1 := hS.fr f1 (by decide)
      refine mc_said hO1 rfl (fun μ2 f2 s2 => ?_)
      have b2 := (hO1.fr f2 (by decide)).2.1
      refine eX10_chapter_21 ⟨fun _ => ?_, fun q => absurd (by rw [b2.1]; exact Int32.le_refl _) q⟩
      rw [nI_leI (by omega) (by omega)]
      refine ⟨fun q => t_inI (-1) (nI K - 1) rfl rfl ?_, fun q => ⟨g1 q, f1.trans f2⟩⟩
      by_cases ha : a2 = -1 ∨ ∃ i, i < K ∧ a2 = nI i
      · rw [if_pos ((inn K (by omega) a2).mpr ha)]
        refine ⟨fun _ => mc_tab hS1 hO1 rfl rfl k2 (fun μ3 f3 t3 => ?_) μ2 f2 s2, fun z => absurd z (by decide)⟩
        have hU : chU (fun i => c (r i) 0) (bst e m) K 0 < 1000000 := chU_ok (by omega) (fun i hi => (hKS.2 _ (hB.2.2.1 i (by omega))).1.2) K 0 (by omega) (fun z => by omega)
        refine eX10_chapter_110 ⟨fun _ => ⟨fun z => ?_, fun z => ?_⟩, fun z => absurd (nI_lt (by omega) (by omega)) z⟩
        · rcases ha with ha | ⟨i, hi, rfl⟩
          · exact absurd ha z
          · exact mc_in (p := bst e m) (by omega) k2 hi hU t3 ⟨g4 i q hi rfl, f1.trans f3⟩
        · rw [show (11 : Int32) = nI 11 from rfl, pk_mul, nI_clamp (by omega)]
          have := (t3 K (Nat.le_refl _) 0 (Nat.zero_le _)).1
          rw [Nat.add_zero] at this
          rw [this]
          exact ⟨vp_in_nI (by omega) (by decide), g3 q z, f1.trans f3⟩
      · rw [if_neg (fun z => ha ((inn K (by omega) a2).mp z))]
        exact ⟨fun z => absurd rfl z, fun _ => ⟨g2 q ha, f1.trans f2⟩⟩
    refine eX9_chapter ⟨fun q => absurd hk'.1 (Int32.not_le.mpr q), fun _ => ⟨fun _ => b_printed bC hB ?_, fun q => absurd hk'.2 q⟩⟩
    rw [nI_leI (by omega) (by omega)]
    refine ⟨fun hKp => ?_, fun hKp => mo μ _ Fr.rfl (fun _ => rfl) (fun z => absurd z hKp) (fun z => absurd z hKp) (fun i z => absurd z hKp)⟩
    have hU : chU (fun i => c (r i) 0) (bst e m) K 0 < 1000000 := chU_ok (by omega) (fun i hi => (hKS.2 _ (hB.2.2.1 i (by omega))).1.2) K 0 (by omega) (fun z => by omega)
    have go : ∀ (ha : a2 = -1 ∨ ∃ i, i < K ∧ a2 = nI i), hX9_chapter_48 G l (fun r1 μ1 => qX10_chapter G l (nI K) a2 μ1 (fun r2 μ2 => r1 = r2 ∧ Fr [0] μ μ2)) (nI K) a2 μ := fun ha => by
      refine eX9_chapter_48 (ch_part hS hO rfl rfl k2 (fun μ1 f1 t1 => ⟨fun z => ?_, fun z => ?_⟩))
      · rcases ha with ha | ⟨i, hi, rfl⟩
        · exact absurd ha z
        · refine ch_in (p := bst e m) (by omega) k2 hi hU t1 (mo μ1 _ f1 (fun y => absurd hKp y) (fun _ y => absurd (Or.inr ⟨i, hi, rfl⟩) y) (fun _ y => absurd y z) (fun i' _ hi' ei => ?_))
          have : i = i' := (nI_eq (by omega) (by omega)).mp ei
          subst this
          rfl
      · refine eX1_uneven ⟨fun y => absurd y (nI_pos (by omega)), fun _ => ⟨fun _ => ?_, fun y => absurd hk'.2 y⟩⟩
        rw [nI_clamp (by omega), show 48 + 1 + K = 49 + K by omega, (t1 K (Nat.le_refl _) 0 (Nat.zero_le _)).1, enc_lt hU]
        exact ⟨vp_in_nI (by omega) (by decide), mo μ1 _ f1 (fun y => absurd hKp y) (fun _ y => absurd (Or.inl z) y) (fun _ _ => rfl) (fun i _ hi ei => absurd (ei.symm.trans z) (nI_nm1 (by omega)))⟩
    refine ⟨fun q => go (Or.inl q), fun q => ⟨fun q1 => ?_, fun q1 => ⟨fun q2 => ?_, fun q2 => ?_⟩⟩⟩
    · refine mo μ _ Fr.rfl (fun z => absurd hKp z) (fun _ _ => rfl) (fun _ z => absurd z q) (fun i _ hi ei => absurd (ei ▸ q1) (nI_pos (by omega)))
    · obtain ⟨j, hj, rfl⟩ := nI_of q1
      rw [nI_ltI hj (by omega)] at q2
      exact go (Or.inr ⟨j, q2, rfl⟩)
    · refine mo μ _ Fr.rfl (fun z => absurd hKp z) (fun _ _ => rfl) (fun _ z => absurd z q) (fun i _ hi ei => absurd (nI_lt hi (by omega)) (ei ▸ q2))
  · have out : qX10_chapter G l a1 a2 μ (fun r2 μ2 => -1002 = r2 ∧ Fr [0] μ μ2) := by
      refine eX10_chapter (t_inI 1 8 rfl rfl ?_)
      rw [if_neg (show ¬ ((1 : Int32) ≤ a1 ∧ a1 ≤ 8) from fun q => hk ((w_in (a := 1) (by decide) 8 (by decide)).mp q))]
      exact ⟨fun q => absurd rfl q, fun _ => ⟨rfl, Fr.rfl⟩⟩
    refine eX9_chapter ⟨fun _ => out, fun q1 => ⟨fun q2 => absurd ((w_in (a := 1) (by decide) 8 (by decide)).mp ⟨Int32.not_lt.mp q1, q2⟩) hk, fun _ => out⟩⟩
end CHAPM
