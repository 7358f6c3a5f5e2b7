/-! the reference's tables: come, ways, isGood; the class's endings -/
def nJ (a : Nat) : Int64 := Int64.ofNat a
theorem nJ_add (a b : Nat) : nJ a + nJ b = nJ (a + b) := (Int64.ofNat_add a b).symm
theorem nJ_toInt {a : Nat} (h : a < 2 ^ 62) : (nJ a).toInt = (a : Int) := by
  unfold nJ
  rw [Int64.toInt_ofNat_of_lt (by omega)]
theorem nI_J {a : Nat} (h : a < 2 ^ 31) : (nI a).toInt64 = nJ a := by
  apply Int64.toInt_inj.mp
  rw [Int32.toInt_toInt64, nI_toInt h, nJ_toInt (by omega)]
theorem nJ_sub {a b : Nat} (h : b ≤ a) : nJ a - nJ b = nJ (a - b) := by
  have := nJ_add (a - b) b
  rw [show a - b + b = a by omega] at this
  rw [← this, Int64.add_sub_cancel]
theorem nJ_lt {a b : Nat} (ha : a < 2 ^ 62) (hb : b < 2 ^ 62) : nJ a < nJ b ↔ a < b := by
  rw [Int64.lt_iff_toInt_lt, nJ_toInt ha, nJ_toInt hb]
  omega
theorem cmp_ge (a b : Int64) : 0 ≤ lg_cmp a b ↔ ¬ a < b := by
  unfold lg_cmp
  by_cases h1 : b < a
  · have : ¬ a < b := Int64.not_lt.mpr (Int64.le_of_lt h1)
    simp [h1, this]
  · by_cases h2 : a = b
    · subst h2; simp
    · have : a < b := Int64.lt_of_le_of_ne (Int64.not_lt.mp h1) h2
      simp [h1, h2, this]
theorem cmp_le (a b : Int64) : lg_cmp a b ≤ 0 ↔ ¬ b < a := by
  unfold lg_cmp
  by_cases h1 : b < a
  · simp [h1]
  · by_cases h2 : a = b
    · subst h2; simp
    · simp [h1, h2]
theorem gm_lw {μ : Mem} {k k' : Nat} {x : Int64} : gm_l (gm_wl μ k x) k' = if k' = k then x else gm_l μ k' := rfl
theorem gm_lr {μ : Mem} {k o k' : Nat} {x : Int64} : gm_r (gm_wl μ k x) o k' = gm_r μ o k' := rfl
theorem gm_rl {μ : Mem} {o k k' : Nat} {x : Int32} : gm_l (gm_w μ o k x) k' = gm_l μ k' := rfl
/-- only the row o0 is changed -/
def Only (o0 : Nat) (μ μ' : Mem) : Prop := μ'.1 = μ.1 ∧ μ'.2.2 = μ.2.2 ∧ ∀ o k, o ≠ o0 → gm_r μ' o k = gm_r μ o k
theorem Only.rfl {o0 : Nat} {μ : Mem} : Only o0 μ μ := ⟨Eq.refl _, Eq.refl _, fun _ _ _ => Eq.refl _⟩
theorem Only.w {o0 k : Nat} {μ μ' : Mem} {v : Int32} (h : Only o0 μ μ') : Only o0 μ (gm_w μ' o0 k v) := ⟨h.1, h.2.1, fun o k' ho => by rw [gm_rw_o ho]; exact h.2.2 o k' ho⟩
theorem Only.fr {o0 : Nat} {μ μ' : Mem} (h : Only o0 μ μ') (ho : (85 ≤ o0 ∧ o0 ≤ 91) ∨ (95 ≤ o0 ∧ o0 ≤ 102)) : Fr [0] μ μ' := ⟨fun o k hn => h.2.2 o k (fun q => hn (by rw [q, own_m ho]; decide)), fun _ => h.1⟩
section MS
variable {G : gC} {l : Launch} {μ : Mem} {n : Nat} {c : Nat → Nat → Nat} {D N : Nat → Nat}
def CM (n : Nat) (c : Nat → Nat → Nat) (D N : Nat → Nat) (μ : Mem) : Prop := ∀ s, s < 2 ^ n → gm_r μ 90 s = nI (nx n c D N s)
def GD (n : Nat) (c : Nat → Nat → Nat) (D N : Nat → Nat) (μ : Mem) : Prop := ∀ s, s < 2 ^ n → gm_r μ 89 s = if 0 < wy (mA n c D N) n s then 1 else 0
theorem m_coming {P : Mem → Prop} (hS : ST n c D μ) (hV : NV N μ) (h : ∀ μ', Only 90 μ μ' → CM n c D N μ' → P μ') : qX10_findComing G l μ P := by
  have hK := hS.2.2
  have hn := hK.1
  have hp : 2 ^ n ≤ 1024 := Nat.pow_le_pow_right (by decide) hn
  have h2 := Nat.two_pow_pos n
  have l19 : ∀ S, S < 2 ^ n → (∀ μ', Only 90 μ μ' → (∀ s, s < S + 1 → gm_r μ' 90 s = nI (nx n c D N s)) → hX10_findComing_2 G l P (nI (S + 1)) μ') → ∀ d K μ', K + d = n → Only 90 μ μ' → (∀ s, s < S → gm_r μ' 90 s = nI (nx n c D N s)) → gm_r μ' 90 S = nI (nxm n c D N S K) → hX10_findComing_19 G l P (nI S) (nI K) μ' := by
    intro S hSn hnext d
    induction d with
    | zero =>
      intro K μ' hK' k1 k2 k3
      have s1 := (hS.fr (k1.fr (by decide)) (by decide)).2.1
      refine eX10_findComing_19 ⟨fun _ => ?_, fun q => absurd (by rw [s1.1, show K = n by omega]; exact Int32.le_refl _) q⟩
      rw [nI_1]
      refine hnext μ' k1 (fun s hs => ?_)
      by_cases e : s = S
      · subst e; rw [k3, show K = n by omega]; rfl
      · exact k2 s (by omega)
    | succ d ih =>
      intro K μ' hK' k1 k2 k3
      have f1 := k1.fr (by decide)
      have s1 := (hS.fr f1 (by decide)).2.1
      have n1 := (hV.fr f1 (by decide)).2.1
      refine eX10_findComing_19 ⟨fun q => absurd (by rw [s1.1] at q; exact q) (nI_ge (by omega) (by omega)), fun _ => ⟨vp_in_nI (by omega) (by decide), t_mayCome s1 hK n1 (by omega) (by omega) (t_one ?_)⟩⟩
      rw [nI_clamp (by omega), k3, nI_1]
      have step : ∀ v : Int32, v = nI (nxm n c D N S (K + 1)) → hX10_findComing_19 G l P (nI S) (nI (K + 1)) (gm_w μ' 90 S v) := fun v hv => by
        refine ih (K + 1) _ (by omega) k1.w (fun s hs => ?_) (by rw [gm_rw_s, hv])
        rw [gm_rw_k (by omega)]
        exact k2 s hs
      by_cases hm : mayB n c D N K S = true
      · have e : nxm n c D N S (K + 1) = nxm n c D N S K ||| 2 ^ K := if_pos hm
        rw [if_pos hm, if_neg (show ¬ (1 : Int32) = 0 by decide), nI_bit1 (by omega), nI_or]
        exact step _ (by rw [e])
      · have e : nxm n c D N S (K + 1) = nxm n c D N S K := if_neg hm
        have z : ∀ k : Nat, k < 10 → (0 : Int32) <<< (nI k &&& 31) = 0 := by decide +kernel
        rw [if_neg hm, if_pos rfl, z K (by omega), Int32.or_zero]
        exact step _ (by rw [e])
  have l2 : ∀ d S μ', S + d = 2 ^ n → Only 90 μ μ' → (∀ s, s < S → gm_r μ' 90 s = nI (nx n c D N s)) → hX10_findComing_2 G l P (nI S) μ' := by
    intro d
    induction d with
    | zero =>
      intro S μ' hs k1 k2
      have s1 := (hS.fr (k1.fr (by decide)) (by decide)).2.1
      refine eX10_findComing_2 (t_all s1 hn ⟨fun _ => h μ' k1 (fun s hs' => k2 s (by omega)), fun q => absurd (nI_lt (by omega) (by omega)) q⟩)
    | succ d ih =>
      intro S μ' hs k1 k2
      have s1 := (hS.fr (k1.fr (by decide)) (by decide)).2.1
      refine eX10_findComing_2 (t_all s1 hn ⟨fun q => absurd q (nI_nlt (by omega) (by omega)), fun _ => ⟨vp_in_nI (by omega) (by decide), ?_⟩⟩)
      rw [nI_clamp (by omega)]
      refine l19 S (by omega) (fun μ1 o1 c1 => ih (S + 1) μ1 (by omega) o1 c1) n 0 _ (by omega) k1.w (fun s hs' => ?_) (by rw [gm_rw_s]; rfl)
      rw [gm_rw_k (by omega)]
      exact k2 s hs'
  exact eX10_findComing (l2 (2 ^ n) 0 μ (by omega) Only.rfl (fun s hs => absurd hs (Nat.not_lt_zero s)))
/-- the sum for s as far as K -/
def enP (A : Nat → Nat → Bool) (n w s K : Nat) : Nat := (if s = w then 1 else 0) + fsum (fun k => if A s k = true ∧ w.testBit k = true then en A n w (s ||| 2 ^ k) else 0) K
theorem enP_succ (A : Nat → Nat → Bool) (n w s K : Nat) : enP A n w s (K + 1) = enP A n w s K + (if A s K = true ∧ w.testBit K = true then en A n w (s ||| 2 ^ K) else 0) := by
  exact (Nat.add_assoc _ _ _).symm
theorem or_le_w {s w k : Nat} (hs : s < 1024) (hk : k < 10) (hsw : sd s w = 0) (hb : w.testBit k = true) : s ||| 2 ^ k ≤ w := by
  have hsub := (sd_zero hs).mp hsw
  have : s ||| 2 ^ k ||| w = w := by
    apply Nat.eq_of_testBit_eq
    intro i
    rw [Nat.testBit_or, or_bit]
    have := hsub i
    by_cases e : i = k
    · subst e; simp [hb]
    · cases h1 : s.testBit i <;> simp [h1, e] at this ⊢
      exact this
  rw [← this]
  exact Nat.left_le_or
theorem m_ways {P : Mem → Prop} {w : Nat} (hS : ST n c D μ) (hV : NV N μ) (hw : w < 2 ^ n) (h : ∀ μ', Fr [0] μ μ' → CM n c D N μ' → (∀ s, s ≤ w → gm_l μ' s = nJ (en (mA n c D N) n w s)) → P μ') : qX10_findWays G l (nI w) μ P := by
  have hK := hS.2.2
  have hn := hK.1
  have hA := mA_no n c D N
  have hw2 := lt1024 hn hw
  refine eX10_findWays (m_coming hS hV (fun μ1 o1 c1 => ?_))
  have f1 : Fr [0] μ μ1 := o1.fr (by decide)
  have l32 : ∀ S, S ≤ w → (∀ μ', Fr [0] μ μ' → CM n c D N μ' → (∀ s, S ≤ s → s ≤ w → gm_l μ' s = nJ (en (mA n c D N) n w s)) → hX10_findWays_6 G l P (nI w) (nI S - 1) μ') → ∀ d K μ', K + d = n → Fr [0] μ μ' → CM n c D N μ' → (∀ s, S < s → s ≤ w → gm_l μ' s = nJ (en (mA n c D N) n w s)) → (sd S w = 0 → gm_l μ' S = nJ (enP (mA n c D N) n w S K)) → (¬ sd S w = 0 → gm_l μ' S = nJ 0) → hX10_findWays_32 G l P (nI w) (nI S) (nI K) μ' := by
    intro S hSw hnext d
    have hS2 : S < 1024 := by omega
    have fin : ∀ μ', Fr [0] μ μ' → CM n c D N μ' → (∀ s, S < s → s ≤ w → gm_l μ' s = nJ (en (mA n c D N) n w s)) → gm_l μ' S = nJ (en (mA n c D N) n w S) → hX10_findWays_6 G l P (nI w) (nI S + (-1)) μ' := fun μ' k1 k2 k3 k4 => by
      rw [show nI S + (-1 : Int32) = nI S - 1 from (Int32.sub_eq_add_neg _ _).symm]
      refine hnext μ' k1 k2 (fun s h1 h2 => ?_)
      by_cases e : s = S
      · subst e; exact k4
      · exact k3 s (by omega) h2
    induction d with
    | zero =>
      intro K μ' hK' k1 k2 k3 k4 k5
      have s1 := (hS.fr k1 (by decide)).2.1
      refine eX10_findWays_32 ⟨fun _ => fin μ' k1 k2 k3 ?_, fun q => absurd (by rw [s1.1, show K = n by omega]; exact Int32.le_refl _) q⟩
      by_cases hsub : sd S w = 0
      · rw [k4 hsub, en_rec hn hA hw2 hS2 hsub, show K = n by omega]; rfl
      · rw [k5 hsub, en_out hsub]
    | succ d ih =>
      intro K μ' hK' k1 k2 k3 k4 k5
      have s1 := (hS.fr k1 (by decide)).2.1
      have hnx := lt1024 hn (nx_lt n c D N S)
      refine eX10_findWays_32 ⟨fun q => absurd (by rw [s1.1] at q; exact q) (nI_ge (by omega) (by omega)), fun _ => ?_⟩
      rw [nI_sd, nI_z (Nat.lt_of_le_of_lt (sd_le _ _) (by omega))]
      refine ⟨fun q => fin μ' k1 k2 k3 (by rw [k5 q, en_out q]), fun hsub => ⟨vp_in_nI (by omega) (by decide), ?_⟩⟩
      rw [nI_clamp (by omega), k2 S (by omega), k4 hsub, nI_1]
      have step : ∀ v : Int64, v = nJ (enP (mA n c D N) n w S (K + 1)) → hX10_findWays_32 G l P (nI w) (nI S) (nI (K + 1)) (gm_wl μ' S v) := fun v hv => by
        refine ih (K + 1) _ (by omega) k1.then_wl k2 (fun s h1 h2 => ?_) (fun _ => ?_) (fun z => absurd hsub z)
        · rw [gm_lw, if_neg (by omega)]; exact k3 s h1 h2
        · rw [gm_lw, if_pos rfl, hv]
      refine t_has (by omega) (by omega) ⟨fun q => ?_, fun q => t_has (by omega) (by omega) ⟨fun q2 => ?_, fun q2 => ?_⟩⟩
      · rw [(if_has rfl).1, nx_bit (by omega)] at q
        refine step _ ?_
        rw [enP_succ, if_neg (fun z => absurd (z.1.symm.trans q) (by decide)), Nat.add_zero]
        exact Int64.add_zero _
      · rw [(if_has rfl).1] at q2
        refine step _ ?_
        rw [enP_succ, if_neg (fun z => absurd (z.2.symm.trans q2) (by decide)), Nat.add_zero]
        exact Int64.add_zero _
      · rw [(if_has rfl).2, nx_bit (by omega)] at q
        rw [(if_has rfl).2] at q2
        have hle := or_le_w hS2 (show K < 10 by omega) hsub q2
        have hgt := lt_or (hA S K q)
        rw [nI_bit1 (by omega), nI_or, nI_clamp (by omega), k3 (S ||| 2 ^ K) hgt hle, nJ_add]
        refine ⟨vp_in_nI (by omega) (by decide), step _ ?_⟩
        rw [enP_succ, if_pos ⟨q, q2⟩]
  have l6 : ∀ S, S ≤ w + 1 → ∀ μ', Fr [0] μ μ' → CM n c D N μ' → (∀ s, S ≤ s → s ≤ w → gm_l μ' s = nJ (en (mA n c D N) n w s)) → hX10_findWays_6 G l P (nI w) (nI S - 1) μ' := by
    intro S
    induction S with
    | zero =>
      intro _ μ' k1 k2 k3
      exact eX10_findWays_6 ⟨fun _ => h μ' k1 k2 (fun s hs => k3 s (Nat.zero_le s) hs), fun q => absurd (by decide) q⟩
    | succ S ih =>
      intro hSw μ' k1 k2 k3
      rw [nI_pred]
      have go : ∀ b : Nat, b = (if S = w then 1 else 0) → hX10_findWays_32 G l P (nI w) (nI S) 0 (gm_wl μ' S (nJ b)) := fun b hb => by
        refine l32 S (by omega) (ih (by omega)) n 0 _ (by omega) k1.then_wl k2 (fun s h1 h2 => ?_) (fun _ => ?_) (fun z => ?_)
        · rw [gm_lw, if_neg (by omega)]; exact k3 s (by omega) h2
        · rw [gm_lw, if_pos rfl, hb]; rfl
        · rw [gm_lw, if_pos rfl, hb, if_neg]
          intro e
          subst e
          exact z ((sd_zero hw2).mpr (fun _ h => h))
      refine eX10_findWays_6 ⟨fun q => absurd q (nI_pos (by omega)), fun _ => ⟨fun q => t_one ⟨vp_in_nI (by omega) (by decide), ?_⟩, fun q => t_one ⟨vp_in_nI (by omega) (by decide), ?_⟩⟩⟩
      · rw [nI_clamp (by omega)]
        exact go 0 (if_neg (fun e => q (by rw [e]))).symm
      · rw [nI_clamp (by omega)]
        exact go 1 (if_pos ((nI_eq (by omega) (by omega)).mp q)).symm
  have := l6 (w + 1) (Nat.le_refl _) μ1 f1 c1 (fun s h1 h2 => absurd h1 (by omega))
  rw [nI_pred] at this
  exact this
theorem s_endings {P : Mem → Prop} {w : Nat} (hS : ST n c D μ) (hw : w < 2 ^ n) (hE : SV n c D N μ) (h : ∀ μ', Fr [8] μ μ' → SV n c D N μ' → gm_r μ' 30 2 = gm_r μ 30 2 → (∀ s, s ≤ w → gm_r μ' 41 s = nI (en (mA n c D N) n w s)) → P μ') : qX6_findEndings G l (nI w) μ P := by
  have hK := hS.2.2
  have hn := hK.1
  have hA := mA_no n c D N
  have hw2 := lt1024 hn hw
  obtain ⟨e1, e2, e3⟩ := hE
  have hE : SV n c D N μ := ⟨e1, e2, e3⟩
  -- what is written while the table grows
  have l55 : ∀ S, S ≤ w → (∀ μ', Only 41 μ μ' → (∀ s, S ≤ s → s ≤ w → gm_r μ' 41 s = nI (en (mA n c D N) n w s)) → hX6_findEndings_11 G l P (nI w) (nI S - 1) μ') → ∀ d K μ' (M : Nat), M < 2 ^ 31 → (∀ k, k < n → M.testBit k = (decide (sd S w = 0) && (mayB n c D N k S && w.testBit k))) → K + d = n → Only 41 μ μ' → (∀ s, S < s → s ≤ w → gm_r μ' 41 s = nI (en (mA n c D N) n w s)) → (sd S w = 0 → gm_r μ' 41 S = nI (enP (mA n c D N) n w S K)) → (¬ sd S w = 0 → gm_r μ' 41 S = nI 0) → hX6_findEndings_55 G l P (nI w) (nI S) (nI M) (nI K) μ' := by
    intro S hSw hnext d
    have hS2 : S < 1024 := by omega
    induction d with
    | zero =>
      intro K μ' M hM hMb hK' k1 k3 k4 k5
      have hc : gm_r μ' 4 1 = nI n := by rw [k1.2.2 _ _ (by decide)]; exact hS.1.1
      refine eX6_findEndings_55 ⟨fun _ => ?_, fun q => absurd (by rw [hc, show K = n by omega]; exact Int32.le_refl _) q⟩
      rw [show nI S + (-1 : Int32) = nI S - 1 from (Int32.sub_eq_add_neg _ _).symm]
      refine hnext μ' k1 (fun s h1 h2 => ?_)
      by_cases e : s = S
      · subst e
        by_cases hsub : sd s w = 0
        · rw [k4 hsub, en_rec hn hA hw2 hS2 hsub, show K = n by omega]; rfl
        · rw [k5 hsub, en_out hsub]
      · exact k3 s (by omega) h2
    | succ d ih =>
      intro K μ' M hM hMb hK' k1 k3 k4 k5
      have hc : gm_r μ' 4 1 = nI n := by rw [k1.2.2 _ _ (by decide)]; exact hS.1.1
      refine eX6_findEndings_55 ⟨fun q => absurd (by rw [hc] at q; exact q) (nI_ge (by omega) (by omega)), fun _ => ?_⟩
      rw [nI_has hM (by omega), hMb K (by omega), nI_1]
      refine ⟨fun q => ?_, fun q => ?_⟩
      · refine ih (K + 1) μ' M hM hMb (by omega) k1 k3 (fun hsub => ?_) k5
        rw [k4 hsub, enP_succ, if_neg]
        · rfl
        · rintro ⟨z1, z2⟩
          apply q
          rw [z2, show mayB n c D N K S = true from z1]
          simp [hsub]
      · rw [Bool.and_eq_true, Bool.and_eq_true, decide_eq_true_iff] at q
        obtain ⟨hsub, q1, q2⟩ := q
        have hle := or_le_w hS2 (show K < 10 by omega) hsub q2
        have hgt := lt_or (hA S K q1)
        rw [nI_bit1 (by omega), nI_or, nI_clamp (by omega), nI_clamp (by omega), k3 (S ||| 2 ^ K) hgt hle, k4 hsub, nI_add]
        refine ⟨vp_in_nI (by omega) (by decide), vp_in_nI (by omega) (by decide), ih (K + 1) _ M hM hMb (by omega) k1.w (fun s h1 h2 => ?_) (fun _ => ?_) (fun z => absurd hsub z)⟩
        · rw [gm_rw_k (by omega)]; exact k3 s h1 h2
        · rw [gm_rw_s, enP_succ, if_pos ⟨q1, q2⟩]
  have l11 : ∀ S, S ≤ w + 1 → ∀ μ', Only 41 μ μ' → (∀ s, S ≤ s → s ≤ w → gm_r μ' 41 s = nI (en (mA n c D N) n w s)) → hX6_findEndings_11 G l P (nI w) (nI S - 1) μ' := by
    intro S
    induction S with
    | zero =>
      intro _ μ' k1 k3
      have rr : ∀ o k, o ≠ 41 → ¬ (o = 30 ∧ k = 15) → gm_r (gm_w μ' 30 15 (nI w)) o k = gm_r μ o k := fun o k h1 h2 => by rw [gm_rw, if_neg h2, k1.2.2 o k h1]
      refine eX6_findEndings_11 ⟨fun _ => h _ ⟨fun o k hn => ?_, fun _ => k1.1⟩ ⟨⟨?_, fun s hs => ?_⟩, fun s hs => ?_, Or.inr ⟨w, hw, gm_rw_s, fun s hs => ?_⟩⟩ (rr _ _ (by decide) (by decide)) (fun s hs => ?_), fun q => absurd (by decide) q⟩
      · refine rr o k (fun z => hn ?_) (fun z => hn ?_)
        · rw [z, own_s (by omega) (by omega)]; decide
        · rw [z.1, z.2]; decide
      · rw [rr _ _ (by decide) (by decide)]; exact e1.1
      · rw [rr _ _ (by decide) (by omega), rr _ _ (by decide) (by omega), rr _ _ (by decide) (by omega), rr _ _ (by decide) (by omega)]; exact e1.2 s hs
      · rw [rr _ _ (by decide) (by omega), rr _ _ (by decide) (by omega)]; exact e2 s hs
      · rw [gm_rw_o (by decide)]; exact k3 s (Nat.zero_le s) hs
      · rw [gm_rw_o (by decide)]; exact k3 s (Nat.zero_le s) hs
    | succ S ih =>
      intro hSw μ' k1 k3
      rw [nI_pred]
      have hnx := lt1024 hn (nx_lt n c D N S)
      have go : ∀ b : Nat, b = (if S = w then 1 else 0) → hX6_findEndings_30 G l P (nI w) (nI S) (nI b) (nI S) μ' := fun b hb => by
        have hb0 : ¬ sd S w = 0 → b = 0 := fun z => by
          rw [hb, if_neg]
          intro e
          subst e
          exact z ((sd_zero hw2).mpr (fun _ h => h))
        have go2 : ∀ M : Nat, M < 2 ^ 31 → (∀ k, k < n → M.testBit k = (decide (sd S w = 0) && (mayB n c D N k S && w.testBit k))) → hX6_findEndings_55 G l P (nI w) (nI S) (nI M) (nI 0) (gm_w μ' 41 S (nI b)) := fun M hM hMb => by
          refine l55 S (by omega) (ih (by omega)) n 0 _ M hM hMb (by omega) k1.w (fun s h1 h2 => ?_) (fun _ => ?_) (fun z => ?_)
          · rw [gm_rw_k (by omega)]; exact k3 s (by omega) h2
          · rw [gm_rw_s, hb]; rfl
          · rw [gm_rw_s, hb0 z]
        refine eX6_findEndings_30 ⟨vp_in_nI (by omega) (by decide), ?_⟩
        rw [nI_sd, nI_z (Nat.lt_of_le_of_lt (sd_le _ _) (by omega)), nI_clamp (by omega)]
        refine ⟨fun q => go2 0 (by decide) (fun k _ => by simp [q]), fun q => ⟨vp_in_nI (by omega) (by decide), fun v7 e7 => ?_⟩⟩
        have e38 : gm_r μ' 38 S = nI (nx n c D N S) := by rw [k1.2.2 _ _ (by decide)]; exact (e1.2 S (by omega)).2.2.2
        rw [e38, nI_and] at e7
        rw [e7]
        exact go2 _ (Nat.lt_of_le_of_lt Nat.and_le_left (by omega)) (fun k hk => by rw [Nat.testBit_and, nx_bit hk]; simp [q])
      refine eX6_findEndings_11 ⟨fun q => absurd q (nI_pos (by omega)), fun _ => ⟨fun q => ?_, fun q => ?_⟩⟩
      · exact go 0 (if_neg (fun e => q (by rw [e]))).symm
      · exact go 1 (if_pos ((nI_eq (by omega) (by omega)).mp q)).symm
  refine eX6_findEndings ⟨fun q => ?_, fun q => ?_⟩
  · have := l11 (w + 1) (Nat.le_refl _) μ Only.rfl (fun s h1 h2 => absurd h1 (by omega))
    rw [nI_pred] at this
    exact this
  · refine h μ Fr.rfl hE rfl ?_
    rcases e3 with z | ⟨w', w1, w2', w3⟩
    · exact absurd (z.symm.trans q) (fun y => nI_nm1 (by omega) y.symm)
    · have : w' = w := (nI_eq (by have := lt1024 hn w1; omega) (by omega)).mp (w2'.symm.trans q)
      subst this
      exact w3
/-- whether t is GOOD, as far as K -/
def gpB (A : Nat → Nat → Bool) (n t : Nat) : Nat → Bool | 0 => t == 0 | K + 1 => gpB A n t K || (t.testBit K && decide (0 < wy A n (cl t K)) && A (cl t K) K)
theorem gpB_iff {A : Nat → Nat → Bool} {n t : Nat} : ∀ K, gpB A n t K = true ↔ t = 0 ∨ ∃ k, k < K ∧ t.testBit k = true ∧ A (cl t k) k = true ∧ 0 < wy A n (cl t k)
  | 0 => by simp [gpB]
  | K + 1 => by
    have ih := gpB_iff (A := A) (n := n) (t := t) K
    unfold gpB
    rw [Bool.or_eq_true, ih, Bool.and_eq_true, Bool.and_eq_true, decide_eq_true_iff]
    constructor
    · rintro ((h | ⟨k, h1, h2⟩) | ⟨⟨h1, h2⟩, h3⟩)
      · exact Or.inl h
      · exact Or.inr ⟨k, by omega, h2⟩
      · exact Or.inr ⟨K, by omega, h1, h3, h2⟩
    · rintro (h | ⟨k, h1, h2, h3, h4⟩)
      · exact Or.inl (Or.inl h)
      · by_cases e : k = K
        · subst e; exact Or.inr ⟨⟨h2, h4⟩, h3⟩
        · exact Or.inl (Or.inr ⟨k, by omega, h2, h3, h4⟩)
theorem gpB_n (hn : n ≤ 10) {A : Nat → Nat → Bool} (hA : ∀ s k, A s k = true → s.testBit k = false) {t : Nat} (ht : t < 1024) : (gpB A n t n = true) ↔ 0 < wy A n t := by
  rw [gpB_iff]
  by_cases h0 : t = 0
  · subst h0
    rw [wy_zero]
    simp
  · rw [wy_good hn hA ht h0]
    exact ⟨fun q => q.elim (fun z => absurd z h0) id, Or.inr⟩
theorem m_good {P : Mem → Prop} (hS : ST n c D μ) (hV : NV N μ) (h : ∀ μ', Fr [0] μ μ' → μ'.2.2 = μ.2.2 → CM n c D N μ' → GD n c D N μ' → P μ') : qX10_findGood G l μ P := by
  have hK := hS.2.2
  have hn := hK.1
  have hA := mA_no n c D N
  have hp : 2 ^ n ≤ 1024 := Nat.pow_le_pow_right (by decide) hn
  have h2 := Nat.two_pow_pos n
  refine eX10_findGood (m_coming hS hV (fun μ1 o1 c1 => ?_))
  have f1 : Fr [0] μ μ1 := o1.fr (by decide)
  have cm : ∀ μ', Only 89 μ1 μ' → CM n c D N μ' := fun μ' o s hs => by rw [o.2.2 _ _ (by decide)]; exact c1 s hs
  have l31 : ∀ S, S < 2 ^ n → (∀ μ', Only 89 μ1 μ' → (∀ s, s < S + 1 → gm_r μ' 89 s = if 0 < wy (mA n c D N) n s then 1 else 0) → hX10_findGood_6 G l P (nI (S + 1)) μ') → ∀ d K μ', K + d = n → Only 89 μ1 μ' → (∀ s, s < S → gm_r μ' 89 s = if 0 < wy (mA n c D N) n s then 1 else 0) → gm_r μ' 89 S = (if gpB (mA n c D N) n S K then 1 else 0) → hX10_findGood_31 G l P (nI S) (nI K) μ' := by
    intro S hSn hnext d
    induction d with
    | zero =>
      intro K μ' hK' k1 k2 k3
      have s1 := ((hS.fr f1 (by decide)).fr (k1.fr (by decide)) (by decide)).2.1
      refine eX10_findGood_31 ⟨fun _ => ?_, fun q => absurd (by rw [s1.1, show K = n by omega]; exact Int32.le_refl _) q⟩
      rw [nI_1]
      refine hnext μ' k1 (fun s hs => ?_)
      by_cases e : s = S
      · subst e
        rw [k3, show K = n by omega]
        have := gpB_n hn hA (t := s) (by omega)
        by_cases z : gpB (mA n c D N) n s n = true
        · rw [if_pos z, if_pos (this.mp z)]
        · rw [if_neg z, if_neg (fun y => z (this.mpr y))]
      · exact k2 s (by omega)
    | succ d ih =>
      intro K μ' hK' k1 k2 k3
      have s1 := ((hS.fr f1 (by decide)).fr (k1.fr (by decide)) (by decide)).2.1
      have hcm := cm μ' k1
      have hS2 : S < 1024 := by omega
      refine eX10_findGood_31 ⟨fun q => absurd (by rw [s1.1] at q; exact q) (nI_ge (by omega) (by omega)), fun _ v10 e10 => ⟨vp_in_nI (by omega) (by decide), ?_⟩⟩
      rw [nI_bit1 (by omega), nI_sd] at e10
      have e10' : v10 = nI (cl S K) := e10
      subst e10'
      have hcl : cl S K < 2 ^ n := Nat.lt_of_le_of_lt (sd_le _ _) hSn
      have hnx := lt1024 hn (nx_lt n c D N (cl S K))
      rw [nI_clamp (by omega), nI_clamp (by omega), k3, nI_1]
      have step : ∀ b : Bool, b = gpB (mA n c D N) n S (K + 1) → hX10_findGood_31 G l P (nI S) (nI (K + 1)) (gm_w μ' 89 S (if b then 1 else 0)) := fun b hb => by
        refine ih (K + 1) _ (by omega) k1.w (fun s hs => ?_) (by rw [gm_rw_s, hb])
        rw [gm_rw_k (by omega)]
        exact k2 s hs
      have eg : gpB (mA n c D N) n S (K + 1) = (gpB (mA n c D N) n S K || (S.testBit K && decide (0 < wy (mA n c D N) n (cl S K)) && mA n c D N (cl S K) K)) := rfl
      refine ⟨fun q => ?_, fun q => t_has (by omega) (by omega) ⟨fun q1 => ?_, fun q1 => ⟨vp_in_nI (by omega) (by decide), ?_⟩⟩⟩
      · have : gpB (mA n c D N) n S K = true := by
          cases z : gpB (mA n c D N) n S K
          · rw [z] at q; exact absurd rfl q
          · rfl
        exact step true (by rw [eg, this]; rfl)
      · have z0 : gpB (mA n c D N) n S K = false := by
          cases z : gpB (mA n c D N) n S K
          · rfl
          · rw [z] at q; exact absurd q (by decide)
        rw [(if_has rfl).1] at q1
        exact step false (by rw [eg, z0, q1]; rfl)
      · have z0 : gpB (mA n c D N) n S K = false := by
          cases z : gpB (mA n c D N) n S K
          · rfl
          · rw [z] at q; exact absurd q (by decide)
        rw [(if_has rfl).2] at q1
        have hlt := cl_lt hS2 q1
        rw [k2 (cl S K) hlt, hcm (cl S K) hcl]
        refine ⟨fun q2 => ?_, fun q2 => t_has (by omega) (by omega) ⟨fun q3 => ?_, fun q3 => ?_⟩⟩
        · have zw : ¬ 0 < wy (mA n c D N) n (cl S K) := fun y => by rw [if_pos y] at q2; exact absurd q2 (by decide)
          exact step false (by rw [eg, z0]; simp [zw])
        · rw [(if_has rfl).1, nx_bit (by omega)] at q3
          have q3' : mA n c D N (cl S K) K = false := q3
          exact step false (by rw [eg, z0, q3']; simp)
        · rw [(if_has rfl).2, nx_bit (by omega)] at q3
          have q3' : mA n c D N (cl S K) K = true := q3
          have zw : 0 < wy (mA n c D N) n (cl S K) := by
            apply Decidable.byContradiction
            intro y
            rw [if_neg y] at q2
            exact q2 rfl
          exact step true (by rw [eg, q3', q1]; simp [zw])
  have l6 : ∀ d S μ', S + d = 2 ^ n → Only 89 μ1 μ' → (∀ s, s < S → gm_r μ' 89 s = if 0 < wy (mA n c D N) n s then 1 else 0) → hX10_findGood_6 G l P (nI S) μ' := by
    intro d
    induction d with
    | zero =>
      intro S μ' hs k1 k2
      have s1 := ((hS.fr f1 (by decide)).fr (k1.fr (by decide)) (by decide)).2.1
      refine eX10_findGood_6 (t_all s1 hn ⟨fun _ => h μ' (f1.trans (k1.fr (by decide))) (k1.2.1.trans o1.2.1) (cm μ' k1) (fun s hs' => k2 s (by omega)), fun q => absurd (nI_lt (by omega) (by omega)) q⟩)
    | succ d ih =>
      intro S μ' hs k1 k2
      have s1 := ((hS.fr f1 (by decide)).fr (k1.fr (by decide)) (by decide)).2.1
      have go : ∀ b : Bool, b = (S == 0) → hX10_findGood_31 G l P (nI S) 0 (gm_w μ' 89 S (if b then 1 else 0)) := fun b hb => by
        refine l31 S (by omega) (fun μ2 o2 c2 => ih (S + 1) μ2 (by omega) o2 c2) n 0 _ (by omega) k1.w (fun s hs' => ?_) (by rw [gm_rw_s, hb]; rfl)
        rw [gm_rw_k (by omega)]
        exact k2 s hs'
      refine eX10_findGood_6 (t_all s1 hn ⟨fun q => absurd q (nI_nlt (by omega) (by omega)), fun _ => ⟨fun q => ⟨vp_in_nI (by omega) (by decide), ?_⟩, fun q => ⟨vp_in_nI (by omega) (by decide), ?_⟩⟩⟩)
      · rw [nI_z (by omega)] at q
        rw [nI_clamp (by omega)]
        exact go false (by simp [q])
      · rw [nI_z (by omega)] at q
        rw [nI_clamp (by omega)]
        exact go true (by simp [q])
  exact l6 (2 ^ n) 0 μ1 (by omega) Only.rfl (fun s hs => absurd hs (Nat.not_lt_zero s))
end MS
