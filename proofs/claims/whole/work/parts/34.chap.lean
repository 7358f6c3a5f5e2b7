/-! chapter -/
def lsum (L : Nat → Nat) (a : Nat) : Nat → Nat | 0 => 0 | b + 1 => if a ≤ b then lsum L a b + L b else lsum L a b
/-- the least of V (x + 1) .. V (x + d) below 1000000, and where it is first -/
def chB (V : Nat → Nat) (x : Nat) : Nat → Nat × Nat | 0 => (1000000, 0) | d + 1 => if V (x + d + 1) < (chB V x d).1 then (V (x + d + 1), d + 1) else chB V x d
def chU (L : Nat → Nat) (p : Nat) : Nat → Nat → Nat | 0, x => if x = p then 0 else 1000000 | c + 1, x => (chB (fun y => lsum L x y * lsum L x y + chU L p c y) x (p - x)).1
def chV (L : Nat → Nat) (p c x : Nat) : Nat → Nat := fun y => lsum L x y * lsum L x y + chU L p c y
def chT (L : Nat → Nat) (p c x : Nat) : Nat := (chB (chV L p (c - 1) x) x (p - x)).2
def enc (v : Nat) : Int32 := if v < 1000000 then nI v else -1
theorem chU_succ (L : Nat → Nat) (p c x : Nat) : chU L p (c + 1) x = (chB (chV L p c x) x (p - x)).1 := rfl
theorem chB_succ (V : Nat → Nat) (x d : Nat) : chB V x (d + 1) = if V (x + d + 1) < (chB V x d).1 then (V (x + d + 1), d + 1) else chB V x d := rfl
theorem chB_le (V : Nat → Nat) (x : Nat) : ∀ d, (chB V x d).1 ≤ 1000000
  | 0 => Nat.le_refl _
  | d + 1 => by
    have ih := chB_le V x d
    rw [chB_succ]
    by_cases h : V (x + d + 1) < (chB V x d).1
    · rw [if_pos h]; exact Nat.le_of_lt (Nat.lt_of_lt_of_le h ih)
    · rw [if_neg h]; exact ih
theorem chB_min (V : Nat → Nat) (x : Nat) : ∀ d i, i < d → (chB V x d).1 ≤ V (x + i + 1)
  | 0, i, h => absurd h (Nat.not_lt_zero i)
  | d + 1, i, hi => by
    rw [chB_succ]
    by_cases h : V (x + d + 1) < (chB V x d).1
    · rw [if_pos h]
      by_cases e : i = d
      · subst e; exact Nat.le_refl _
      · exact Nat.le_of_lt (Nat.lt_of_lt_of_le h (chB_min V x d i (by omega)))
    · rw [if_neg h]
      by_cases e : i = d
      · subst e; exact Nat.not_lt.mp h
      · exact chB_min V x d i (by omega)
theorem chB_at (V : Nat → Nat) (x : Nat) : ∀ d, (chB V x d).1 < 1000000 → ∃ i, i < d ∧ (chB V x d).2 = i + 1 ∧ (chB V x d).1 = V (x + i + 1)
  | 0, h => absurd h (by simp [chB])
  | d + 1, h => by
    rw [chB_succ] at h ⊢
    by_cases q : V (x + d + 1) < (chB V x d).1
    · rw [if_pos q]
      exact ⟨d, by omega, rfl, rfl⟩
    · rw [if_neg q] at h ⊢
      obtain ⟨i, h1, h2, h3⟩ := chB_at V x d h
      exact ⟨i, by omega, h2, h3⟩
theorem chU_far (L : Nat → Nat) (p c x : Nat) : chU L p c x ≤ 1000000 := by
  cases c with
  | zero => unfold chU; split <;> omega
  | succ c => rw [chU_succ]; exact chB_le _ _ _
theorem lsum_add (L : Nat → Nat) {a b : Nat} (hab : a ≤ b) : ∀ d, b ≤ d → lsum L a d = lsum L a b + lsum L b d
  | 0, h => by
    have : b = 0 := by omega
    subst this
    simp [lsum]
  | d + 1, h => by
    by_cases e : b = d + 1
    · subst e
      have z : ∀ k, k ≤ d + 1 → lsum L (d + 1) k = 0 := fun k => by
        induction k with
        | zero => intro _; rfl
        | succ k ih =>
          intro hk
          unfold lsum
          rw [if_neg (by omega)]
          exact ih (by omega)
      have := z (d + 1) (Nat.le_refl _)
      omega
    · have ih := lsum_add L hab d (by omega)
      have e1 : lsum L a (d + 1) = lsum L a d + L d := if_pos (by omega)
      have e2 : lsum L b (d + 1) = lsum L b d + L d := if_pos (by omega)
      omega
theorem lsum_le {L : Nat → Nat} {a M : Nat} : ∀ {b : Nat}, (∀ i, i < b → L i ≤ M) → lsum L a b ≤ b * M
  | 0, _ => by simp [lsum]
  | b + 1, h => by
    have ih := lsum_le (L := L) (a := a) (M := M) (b := b) (fun i hi => h i (by omega))
    have := h b (by omega)
    unfold lsum
    rw [Nat.succ_mul]
    split <;> omega
theorem lsum_self (L : Nat → Nat) (a : Nat) : ∀ b, b ≤ a → lsum L a b = 0
  | 0, _ => rfl
  | b + 1, h => by
    unfold lsum
    rw [if_neg (by omega)]
    exact lsum_self L a b (by omega)
theorem sq_add (a b : Nat) : a * a + b * b ≤ (a + b) * (a + b) := by
  rw [Nat.mul_add, Nat.add_mul, Nat.add_mul]
  omega
theorem chU_sq (L : Nat → Nat) (p : Nat) : ∀ c x, x ≤ p → chU L p c x < 1000000 → chU L p c x ≤ lsum L x p * lsum L x p
  | 0, x, _, h => by
    unfold chU at h ⊢
    by_cases e : x = p
    · rw [if_pos e]; exact Nat.zero_le _
    · rw [if_neg e] at h; exact absurd h (Nat.lt_irrefl _)
  | c + 1, x, hx, h => by
    rw [chU_succ] at h ⊢
    obtain ⟨i, h1, h2, h3⟩ := chB_at _ _ _ h
    rw [h3] at h ⊢
    have h4 : chU L p c (x + i + 1) < 1000000 := Nat.lt_of_le_of_lt (Nat.le_add_left _ _) h
    have h5 := chU_sq L p c (x + i + 1) (by omega) h4
    have h6 := lsum_add L (a := x) (b := x + i + 1) (by omega) p (by omega)
    have h7 := sq_add (lsum L x (x + i + 1)) (lsum L (x + i + 1) p)
    unfold chV
    rw [h6]
    omega
theorem chV_lt {L : Nat → Nat} {p c x y : Nat} (hp : p ≤ 10) (hL : ∀ i, i < p → L i ≤ 99) (hxy : x ≤ y) (hy : y ≤ p) (h : chU L p c y < 1000000) : chV L p c x y < 1000000 := by
  have h1 := chU_sq L p c y hy h
  have h2 := lsum_add L hxy p hy
  have h3 := sq_add (lsum L x y) (lsum L y p)
  have h4 := lsum_le (L := L) (a := x) (M := 99) (b := p) hL
  have h5 : p * 99 ≤ 990 := by omega
  have h6 : lsum L x p * lsum L x p ≤ 990 * 990 := Nat.mul_le_mul (by omega) (by omega)
  unfold chV
  rw [← h2] at h3
  omega
theorem chU_ok {L : Nat → Nat} {p : Nat} (hp : p ≤ 10) (hL : ∀ i, i < p → L i ≤ 99) : ∀ c x, x + c ≤ p → (c = 0 → x = p) → chU L p c x < 1000000
  | 0, x, _, h => by
    unfold chU
    rw [if_pos (h rfl)]
    decide
  | c + 1, x, hx, _ => by
    have go : ∀ i, i < p - x → chU L p c (x + i + 1) < 1000000 → chU L p (c + 1) x < 1000000 := fun i hi h => by
      rw [chU_succ]
      exact Nat.lt_of_le_of_lt (chB_min _ _ _ i hi) (chV_lt hp hL (by omega) (by omega) h)
    by_cases e : c = 0
    · subst e
      refine go (p - x - 1) (by omega) (chU_ok hp hL 0 _ (by omega) (fun _ => by omega))
    · exact go 0 (by omega) (chU_ok hp hL c _ (by omega) (fun z => absurd z e))
theorem chT_ok {L : Nat → Nat} {p c x : Nat} (hc : 1 ≤ c) (h : chU L p c x < 1000000) : 1 ≤ chT L p c x ∧ x + chT L p c x ≤ p ∧ chU L p (c - 1) (x + chT L p c x) < 1000000 := by
  obtain ⟨c, rfl⟩ : ∃ c', c = c' + 1 := ⟨c - 1, by omega⟩
  rw [chU_succ] at h
  obtain ⟨i, h1, h2, h3⟩ := chB_at _ _ _ h
  have e : chT L p (c + 1) x = i + 1 := h2
  rw [e]
  refine ⟨by omega, by omega, ?_⟩
  rw [h3] at h
  show chU L p c (x + (i + 1)) < _
  exact Nat.lt_of_le_of_lt (Nat.le_add_left _ _) h
theorem enc_lt {v : Nat} (h : v < 1000000) : enc v = nI v := if_pos h
theorem enc_ge {v : Nat} (h : ¬ v < 1000000) : enc v = -1 := if_neg h
theorem nI_nm1 {v : Nat} (h : v < 2 ^ 31) : ¬ nI v = (-1 : Int32) := fun q => by
  have := nI_pos h
  rw [q] at this
  exact this (by decide)
theorem enc_m1 {v : Nat} : enc v = -1 ↔ ¬ v < 1000000 := by
  constructor
  · intro h q
    rw [enc_lt q] at h
    exact nI_nm1 (by omega) h
  · exact enc_ge
theorem sm_or {c : Nat → Nat → Nat} {w s k : Nat} (hb : s.testBit k = false) : ∀ n, sm c w (s ||| 2 ^ k) n = sm c w s n + (if k < n then c k w else 0)
  | 0 => by simp [sm]
  | n + 1 => by
    have ih := sm_or (c := c) (w := w) hb n
    have e1 : sm c w (s ||| 2 ^ k) (n + 1) = if (s ||| 2 ^ k).testBit n then sm c w (s ||| 2 ^ k) n + c n w else sm c w (s ||| 2 ^ k) n := rfl
    have e2 : sm c w s (n + 1) = if s.testBit n then sm c w s n + c n w else sm c w s n := rfl
    rw [e1, e2, Nat.testBit_or, Nat.testBit_two_pow]
    by_cases h : k = n
    · subst h
      rw [if_neg (Nat.lt_irrefl k)] at ih
      simp [hb, ih]
    · have h1 : (k < n + 1) = (k < n) := by apply propext; omega
      simp only [h1, h, decide_false, Bool.or_false]
      by_cases h2 : s.testBit n
      · rw [if_pos h2, if_pos h2]; omega
      · rw [if_neg h2, if_neg h2]; exact ih
theorem seg_sm {n f m : Nat} {r e : Nat → Nat} {c : Nat → Nat → Nat} {w : Nat} (hB : BK n r f m e) {a : Nat} : ∀ {b : Nat}, b ≤ f → sm c w (seg r a b) n = lsum (fun i => c (r i) w) a b
  | 0, _ => by
    have z : ∀ k, sm c w 0 k = 0 := fun k => by
      induction k with
      | zero => rfl
      | succ k ih => unfold sm; simp [ih]
    exact z n
  | b + 1, h => by
    have ih := seg_sm hB (c := c) (w := w) (a := a) (b := b) (by omega)
    by_cases q : a ≤ b
    · have e1 : lsum (fun i => c (r i) w) a (b + 1) = lsum (fun i => c (r i) w) a b + c (r b) w := if_pos q
      rw [seg_succ q, e1, sm_or (seg_no (f := f) (fun i h1 h2 h3 => by have := hB.2.2.2.1 i b (by omega) (by omega) h3; omega)), ih, if_pos (hB.2.2.1 b (by omega))]
    · have e1 : lsum (fun i => c (r i) w) a (b + 1) = lsum (fun i => c (r i) w) a b := if_neg q
      have e2 : seg r a (b + 1) = seg r a b := if_neg q
      rw [e1, e2]
      exact ih
section CHAP
variable {G : gC} {l : Launch} {μ : Mem} {n f m t p : Nat} {r e W x L : Nat → Nat} {c : Nat → Nat → Nat} {D N : Nat → Nat}
def okC (L : Nat → Nat) (p C X : Nat) (μ : Mem) : Prop := gm_r μ (49 + C) X = enc (chU L p C X) ∧ (1 ≤ C → chU L p C X < 1000000 → gm_r μ (59 + C) X = nI (chT L p C X))
def TC (L : Nat → Nat) (p C X : Nat) (μ : Mem) : Prop := (∀ c', c' < C → ∀ x, x ≤ p → okC L p c' x μ) ∧ ∀ x, x < X → okC L p C x μ
theorem okC.w1 {C X C' X' : Nat} {v : Int32} (h : okC L p C' X' μ) (hC : C' ≤ 8) (hC2 : C ≤ 8) (hne : ¬ (C' = C ∧ X' = X)) : okC L p C' X' (gm_w μ (49 + C) X v) := by
  refine ⟨?_, fun h1 h2 => ?_⟩
  · rw [gm_rw, if_neg (by omega)]; exact h.1
  · rw [gm_rw, if_neg (by omega)]; exact h.2 h1 h2
theorem okC.w2 {C X C' X' : Nat} {v : Int32} (h : okC L p C' X' μ) (hC : C' ≤ 8) (hC2 : C ≤ 8) (hne : ¬ (C' = C ∧ X' = X)) : okC L p C' X' (gm_w μ (59 + C) X v) := by
  refine ⟨?_, fun h1 h2 => ?_⟩
  · rw [gm_rw, if_neg (by omega)]; exact h.1
  · rw [gm_rw, if_neg (by omega)]; exact h.2 h1 h2
theorem TC.w1 {C X : Nat} {v : Int32} (h : TC L p C X μ) (hC : C ≤ 8) : TC L p C X (gm_w μ (49 + C) X v) := ⟨fun c' hc x hx => (h.1 c' hc x hx).w1 (by omega) hC (by omega), fun x hx => (h.2 x hx).w1 hC hC (by omega)⟩
theorem TC.w2 {C X : Nat} {v : Int32} (h : TC L p C X μ) (hC : C ≤ 8) : TC L p C X (gm_w μ (59 + C) X v) := ⟨fun c' hc x hx => (h.1 c' hc x hx).w2 (by omega) hC (by omega), fun x hx => (h.2 x hx).w2 hC hC (by omega)⟩
theorem own_ch {o k : Nat} (h : 46 ≤ o ∧ o ≤ 68) : own o k = 0 := by
  unfold own
  rw [if_neg (by omega), if_neg (by omega), if_neg (by omega), if_neg (by omega), if_neg (by omega), if_neg (by omega), if_neg (by omega), if_neg (by omega), if_neg (by omega), if_neg (by omega), if_neg (by omega)]
/-- one place of the class's table -/
theorem ch_first {P : Mem → Prop} {C X : Nat} {μ0 : Mem} (hS : ST n c D μ) (hO : BO n r f m e μ) (hL : L = fun i => c (r i) 0) (hp : p = bst e m) (hC1 : 1 ≤ C) (hC : C ≤ 8) (hX : X ≤ p) (hF : Fr [0] μ μ0) (hT : TC L p C X μ0) (h : ∀ μ', Fr [0] μ μ' → TC L p C (X + 1) μ' → P μ') : qX1_chooseFirst G l (nI C) (nI X) (nI p) μ0 P := by
  obtain ⟨bC, bM, hB⟩ := hO
  have hO : BO n r f m e μ := ⟨bC, bM, hB⟩
  have hm := BKm hB
  have hn := hB.1
  have hK := hS.2.2
  have hL9 : ∀ i, i < p → L i ≤ 99 := fun i hi => by rw [hL]; exact (hK.2 _ (hB.2.2.1 i (by omega))).1.2
  have hFw1 : ∀ {μ' : Mem} {v : Int32}, Fr [0] μ μ' → Fr [0] μ (gm_w μ' (49 + C) X v) := fun h => h.then_w (by rw [own_ch (by omega)]; decide)
  have hFw2 : ∀ {μ' : Mem} {v : Int32}, Fr [0] μ μ' → Fr [0] μ (gm_w μ' (59 + C) X v) := fun h => h.then_w (by rw [own_ch (by omega)]; decide)
  refine eX1_chooseFirst ⟨vp_in_nI (by omega) (by decide), vp_in_nI (by omega) (by decide), ?_⟩
  rw [nI_clamp (by omega), nI_clamp (by omega), nI_1]
  have loop : ∀ d' d μ', d + d' = p - X → Fr [0] μ μ' → TC L p C X μ' → gm_r μ' (49 + C) X = enc (chB (chV L p (C - 1) X) X d).1 → ((chB (chV L p (C - 1) X) X d).1 < 1000000 → gm_r μ' (59 + C) X = nI (chB (chV L p (C - 1) X) X d).2) → hX1_chooseFirst_14 G l P (nI C) (nI X) (nI p) (nI (X + d + 1)) μ' := by
    intro d'
    induction d' with
    | zero =>
      intro d μ' hd k1 k2 k3 k4
      refine eX1_chooseFirst_14 ⟨fun _ => h μ' k1 ⟨k2.1, fun x hx => ?_⟩, fun q => absurd (nI_lt (by omega) (by omega)) q⟩
      by_cases ex : x = X
      · subst ex
        have eU : chU L p C x = (chB (chV L p (C - 1) x) x d).1 := by
          rw [show d = p - x by omega]
          obtain ⟨C', rfl⟩ : ∃ C', C = C' + 1 := ⟨C - 1, by omega⟩
          rfl
        have eT : chT L p C x = (chB (chV L p (C - 1) x) x d).2 := by rw [show d = p - x by omega]; rfl
        refine ⟨by rw [eU]; exact k3, fun _ h2 => ?_⟩
        rw [eU] at h2
        rw [eT]
        exact k4 h2
      · exact k2.2 x (by omega)
    | succ d' ih =>
      intro d μ' hd k1 k2 k3 k4
      have s1 := (hS.fr k1 (by decide)).1
      have b1 := (hO.fr k1 (by decide)).1
      have hy : X + d + 1 ≤ p := by omega
      refine eX1_chooseFirst_14 ⟨fun q => absurd q (nI_nlt (by omega) (by omega)), fun _ => b_setFrom b1 hB (by omega) (by omega) (t7_sum (w := 0) s1 hn (by have := (segK hB (a := X) (b := X + d + 1) (by omega)).2; omega) (by decide) ?_)⟩
      rw [seg_sm hB (by omega), ← hL, show nI C - (1 : Int32) = nI (C - 1) from by rw [nI_one, pk_sub hC1], nI_clamp (by omega), nI_clamp (by omega), nI_clamp (by omega), nI_clamp (by omega), nI_1]
      have hok := k2.1 (C - 1) (by omega) (X + d + 1) hy
      have e49 : gm_r μ' (48 + 1 + (C - 1)) (X + d + 1) = enc (chU L p (C - 1) (X + d + 1)) := by rw [show 48 + 1 + (C - 1) = 49 + (C - 1) by omega]; exact hok.1
      have e50 : gm_r μ' (48 + 1 + C) X = enc (chB (chV L p (C - 1) X) X d).1 := by rw [show 48 + 1 + C = 49 + C by omega]; exact k3
      rw [e49, e50, pk_mul]
      refine ⟨vp_in_nI (by omega) (by decide), vp_in_nI (by omega) (by decide), fun v10 e10 => ⟨fun q => ?_, fun q => ⟨vp_in_nI (by omega) (by decide), vp_in_nI (by omega) (by decide), ?_⟩⟩⟩
      · rw [enc_m1] at q
        have hs : chB (chV L p (C - 1) X) X (d + 1) = chB (chV L p (C - 1) X) X d := by
          rw [chB_succ, if_neg]
          have h1 := chB_le (chV L p (C - 1) X) X d
          have h2 : chU L p (C - 1) (X + d + 1) ≤ chV L p (C - 1) X (X + d + 1) := Nat.le_add_left _ _
          omega
        exact ih (d + 1) μ' (by omega) k1 k2 (by rw [hs]; exact k3) (by rw [hs]; exact k4)
      · have q' : chU L p (C - 1) (X + d + 1) < 1000000 := by
          apply Decidable.byContradiction
          intro z
          exact q (enc_m1.mpr z)
        have hV := chV_lt (L := L) (x := X) (y := X + d + 1) (p := p) (c := C - 1) (by omega) hL9 (by omega) hy q'
        rw [enc_lt q', nI_add, Nat.add_comm] at e10
        have e10' : v10 = nI (chV L p (C - 1) X (X + d + 1)) := e10
        have upd : (chV L p (C - 1) X (X + d + 1) < (chB (chV L p (C - 1) X) X d).1) → hX1_chooseFirst_99 G l P (nI C) (nI X) (nI p) (nI (X + d + 1)) v10 μ' := fun hlt => by
          have hs : chB (chV L p (C - 1) X) X (d + 1) = (chV L p (C - 1) X (X + d + 1), d + 1) := by rw [chB_succ, if_pos hlt]
          refine eX1_chooseFirst_99 ⟨vp_in_nI (by omega) (by decide), vp_in_nI (by omega) (by decide), ?_⟩
          rw [nI_clamp (by omega), nI_clamp (by omega), nI_1, pk_sub (by omega), show 48 + 1 + C = 49 + C by omega, show 58 + 1 + C = 59 + C by omega]
          refine ih (d + 1) _ (by omega) (hFw2 (hFw1 k1)) ((k2.w1 hC).w2 hC) ?_ (fun _ => ?_)
          · rw [gm_rw_o (by omega), gm_rw_s, hs, enc_lt hV, e10']
          · rw [gm_rw_s, hs]
            congr 1
            omega
        refine ⟨fun z => upd ?_, fun z => ⟨fun z2 => ?_, fun z2 => upd ?_⟩⟩
        · rw [enc_m1] at z
          omega
        · have z' : (chB (chV L p (C - 1) X) X d).1 < 1000000 := by
            apply Decidable.byContradiction
            intro y
            exact z (enc_m1.mpr y)
          rw [enc_lt z', e10', nI_leI (by omega) (by omega)] at z2
          have hs : chB (chV L p (C - 1) X) X (d + 1) = chB (chV L p (C - 1) X) X d := by rw [chB_succ, if_neg (by omega)]
          exact ih (d + 1) μ' (by omega) k1 k2 (by rw [hs]; exact k3) (by rw [hs]; exact k4)
        · have z' : (chB (chV L p (C - 1) X) X d).1 < 1000000 := by
            apply Decidable.byContradiction
            intro y
            exact z (enc_m1.mpr y)
          rw [enc_lt z', e10', nI_leI (by omega) (by omega)] at z2
          omega
  have := loop (p - X) 0 (gm_w μ0 (49 + C) X (-1)) (by omega) (hFw1 hF) (hT.w1 hC) (by rw [gm_rw_s]; rfl) (fun z => absurd z (by simp [chB]))
  exact this
theorem ch_part {P : Mem → Prop} {K : Nat} (hS : ST n c D μ) (hO : BO n r f m e μ) (hL : L = fun i => c (r i) 0) (hp : p = bst e m) (hK : K ≤ 8) (h : ∀ μ', Fr [0] μ μ' → (∀ c', c' ≤ K → ∀ x, x ≤ p → okC L p c' x μ') → P μ') : qX1_part G l (nI K) μ P := by
  have bC := hO.1
  have hB := hO.2.2
  have hm := BKm hB
  refine eX1_part (b_printed bC hB ?_)
  rw [← hp]
  have l61 : ∀ C, 1 ≤ C → C ≤ K → (∀ μ', Fr [0] μ μ' → TC L p (C + 1) 0 μ' → hX1_part_47 G l P (nI K) (nI p) (nI (C + 1)) μ') → ∀ d X μ', X + d = p + 1 → Fr [0] μ μ' → TC L p C X μ' → hX1_part_61 G l P (nI K) (nI p) (nI C) (nI X) μ' := by
    intro C hC1 hCK hnext d
    induction d with
    | zero =>
      intro X μ' hX k1 k2
      refine eX1_part_61 ⟨fun _ => ?_, fun q => absurd (nI_lt (by omega) (by omega)) q⟩
      rw [nI_1]
      refine hnext μ' k1 ⟨fun c' hc x hx => ?_, fun x hx => absurd hx (Nat.not_lt_zero x)⟩
      by_cases ec : c' = C
      · subst ec; exact k2.2 x (by omega)
      · exact k2.1 c' (by omega) x hx
    | succ d ih =>
      intro X μ' hX k1 k2
      refine eX1_part_61 ⟨fun q => absurd q (nI_nlt (by omega) (by omega)), fun _ => ⟨fun q => absurd q (nI_nlt (a := 10) (by omega) (by omega)), fun _ => ch_first hS hO hL hp hC1 (by omega) (by omega) k1 k2 (fun μ1 f1 t1 => ?_)⟩⟩
      rw [nI_1]
      exact ih (X + 1) μ1 (by omega) f1 t1
  have l47 : ∀ d C μ', C + d = K + 1 → 1 ≤ C → Fr [0] μ μ' → TC L p C 0 μ' → hX1_part_47 G l P (nI K) (nI p) (nI C) μ' := by
    intro d
    induction d with
    | zero =>
      intro C μ' hC _ k1 k2
      exact eX1_part_47 ⟨fun _ => h μ' k1 (fun c' hc x hx => k2.1 c' (by omega) x hx), fun q => absurd (nI_lt (by omega) (by omega)) q⟩
    | succ d ih =>
      intro C μ' hC hC1 k1 k2
      refine eX1_part_47 ⟨fun q => absurd q (nI_nlt (by omega) (by omega)), fun _ => ⟨fun q => absurd q (nI_nlt (a := 8) (by omega) (by omega)), fun _ => ?_⟩⟩
      exact l61 C hC1 (by omega) (fun μ1 f1 t1 => ih (C + 1) μ1 (by omega) (by omega) f1 t1) (p + 1) 0 μ' (by omega) k1 k2
  have l10 : ∀ d X μ', X + d = p + 1 → Fr [0] μ μ' → (∀ x, x < X → okC L p 0 x μ') → hX1_part_10 G l P (nI K) (nI p) (nI X) μ' := by
    intro d
    induction d with
    | zero =>
      intro X μ' hX k1 k2
      refine eX1_part_10 ⟨fun _ => l47 K 1 μ' (by omega) (Nat.le_refl _) k1 ⟨fun c' hc x hx => ?_, fun x hx => absurd hx (Nat.not_lt_zero x)⟩, fun q => absurd (nI_lt (by omega) (by omega)) q⟩
      rw [show c' = 0 by omega]
      exact k2 x (by omega)
    | succ d ih =>
      intro X μ' hX k1 k2
      have fin : ∀ v : Int32, v = enc (chU L p 0 X) → vp_in (nI X) 11 ∧ hX1_part_10 G l P (nI K) (nI p) (nI X + 1) (gm_w μ' 49 (nI X).toNatClampNeg v) := fun v hv => by
        refine ⟨vp_in_nI (by omega) (by decide), ?_⟩
        rw [nI_1, nI_clamp (by omega)]
        refine ih (X + 1) _ (by omega) (k1.then_w (by rw [own_ch (by omega)]; decide)) (fun x hx => ?_)
        by_cases ex : x = X
        · subst ex
          exact ⟨by rw [show 49 + 0 = 49 from rfl, gm_rw_s]; exact hv, fun z => absurd z (by decide)⟩
        · exact (k2 x (by omega)).w1 (C := 0) (by decide) (by decide) (by omega)
      refine eX1_part_10 ⟨fun q => absurd q (nI_nlt (by omega) (by omega)), fun _ => ⟨fun q => absurd q (nI_nlt (a := 10) (by omega) (by omega)), fun _ => ⟨fun q => fin _ ?_, fun q => fin _ ?_⟩⟩⟩
      · have : X ≠ p := fun z => q (by rw [z])
        unfold chU
        rw [if_neg this]
        rfl
      · have : X = p := (nI_eq (by omega) (by omega)).mp q
        unfold chU
        rw [if_pos this]
        rfl
  exact l10 (p + 1) 0 μ (by omega) Fr.rfl (fun x hx => absurd hx (Nat.not_lt_zero x))
/-- the place where the CHAPTER i of K begins -/
def chX (L : Nat → Nat) (p K : Nat) : Nat → Nat | 0 => 0 | i + 1 => chX L p K i + chT L p (K - i) (chX L p K i)
theorem chX_ok {K : Nat} (hU : chU L p K 0 < 1000000) : ∀ i, i ≤ K → chX L p K i ≤ p ∧ chU L p (K - i) (chX L p K i) < 1000000
  | 0, _ => ⟨Nat.zero_le _, hU⟩
  | i + 1, hi => by
    obtain ⟨h1, h2⟩ := chX_ok hU i (by omega)
    obtain ⟨g1, g2, g3⟩ := chT_ok (L := L) (p := p) (c := K - i) (x := chX L p K i) (by omega) h2
    refine ⟨g2, ?_⟩
    rw [show K - (i + 1) = K - i - 1 by omega]
    exact g3
theorem ch_in {P : Int32 → Mem → Prop} {K i : Nat} (hp : p ≤ 10) (hK : K ≤ 8) (hi : i < K) (hU : chU L p K 0 < 1000000) (hT : ∀ c', c' ≤ K → ∀ x, x ≤ p → okC L p c' x μ) (h : P (nI (chT L p (K - i) (chX L p K i))) μ) : qX1_scenesIn G l (nI K) (nI i) μ P := by
  refine eX1_scenesIn ?_
  refine down (H := fun j => hX1_scenesIn_5 G l P (nI K) (nI i) (nI (chX L p K j)) (nI j) μ) (n := i) ?_ ?_
  · obtain ⟨h1, h2⟩ := chX_ok hU i (by omega)
    refine eX1_scenesIn_5 ⟨fun _ => eX1_scenesIn_37 ⟨fun _ => ?_, fun q => absurd ((nI_leI (b := 10) (by omega) (by decide)).mpr (by omega)) q⟩, fun q => absurd (Int32.le_refl _) q⟩
    rw [pk_sub (by omega), nI_clamp (by omega), nI_clamp (by omega), show 58 + 1 + (K - i) = 59 + (K - i) by omega, (hT (K - i) (by omega) _ h1).2 (by omega) h2]
    exact ⟨vp_in_nI (by omega) (by decide), vp_in_nI (by omega) (by decide), h⟩
  · intro j hj ih
    obtain ⟨h1, h2⟩ := chX_ok hU j (by omega)
    refine eX1_scenesIn_5 ⟨fun q => absurd q (nI_ge hj (by omega)), fun _ => ⟨fun q => absurd q (nI_nlt (a := 10) (by omega) (by decide)), fun _ => ?_⟩⟩
    rw [pk_sub (by omega), nI_clamp (by omega), nI_clamp (by omega), show 58 + 1 + (K - j) = 59 + (K - j) by omega, (hT (K - j) (by omega) _ h1).2 (by omega) h2, nI_add, nI_1]
    exact ⟨vp_in_nI (by omega) (by decide), vp_in_nI (by omega) (by decide), fun v5 e5 => by rw [e5]; exact ih⟩
end CHAP
