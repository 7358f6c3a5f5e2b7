/-! keep, goBack -/
theorem gm_rr {μ : Mem} {o o' k : Nat} {f : Nat → Int32} : gm_r (gm_row μ o f) o' k = if o' = o then f k else gm_r μ o' k := by
  unfold gm_r gm_row va_up
  by_cases h : o' = o
  · simp [h]
  · simp [h]
theorem gm_rr_o {μ : Mem} {o o' k : Nat} {f : Nat → Int32} (h : o' ≠ o) : gm_r (gm_row μ o f) o' k = gm_r μ o' k := by rw [gm_rr, if_neg h]
theorem gm_rr_s {μ : Mem} {o k : Nat} {f : Nat → Int32} : gm_r (gm_row μ o f) o k = f k := by rw [gm_rr, if_pos rfl]
theorem cpy_in {f g : Nat → Int32} {n k : Nat} (h : k < n) : va_cpy f g 0 0 n k = f k := by
  unfold va_cpy
  rw [if_pos ⟨Nat.zero_le _, by omega⟩]
  simp
/-- the book at A becomes that at B -/
def BB (A B : Nat) (μ μ' : Mem) : Prop := μ'.1 = μ.1 ∧ (∀ o k, ¬ (A ≤ o ∧ o ≤ A + 3) → gm_r μ' o k = gm_r μ o k) ∧ gm_r μ' A 1 = gm_r μ B 1 ∧ gm_r μ' A 3 = gm_r μ B 3 ∧ (∀ k, k < 10 → gm_r μ' (A + 1) k = gm_r μ (B + 1) k) ∧ (∀ k, k < 12 → gm_r μ' (A + 2) k = gm_r μ (B + 2) k) ∧ (∀ k, k < 8 → gm_r μ' (A + 3) k = gm_r μ (B + 3) k)
section KEEP
variable {G : gC} {l : Launch} {μ : Mem} {n f m t : Nat} {r e W x : Nat → Nat} {c : Nat → Nat → Nat} {D N : Nat → Nat}
theorem b_become_42_69 {P : Mem → Prop} (h : ∀ μ', BB 42 69 μ μ' → P μ') : qX0_become_42_69 G l μ P := by
  refine eX0_become_42_69 (h _ ⟨rfl, fun o k ho => ?_, ?_, ?_, fun k hk => ?_, fun k hk => ?_, fun k hk => ?_⟩)
  · rw [gm_rw_o (by omega), gm_rw_o (by omega), gm_rr_o (by omega), gm_rr_o (by omega), gm_rr_o (by omega)]
  · rw [gm_rw_k (by decide), gm_rw_s]
  · rw [gm_rw_s]
  · rw [gm_rw_o (by decide), gm_rw_o (by decide), gm_rr_o (by decide), gm_rr_o (by decide), gm_rr_s, cpy_in hk]; rfl
  · rw [gm_rw_o (by decide), gm_rw_o (by decide), gm_rr_o (by decide), gm_rr_s, cpy_in hk]
    show gm_r (gm_row μ 43 _) 71 k = _
    rw [gm_rr_o (by decide)]
  · rw [gm_rw_o (by decide), gm_rw_o (by decide), gm_rr_s, cpy_in hk]
    show gm_r (gm_row (gm_row μ 43 _) 44 _) 72 k = _
    rw [gm_rr_o (by decide), gm_rr_o (by decide)]
theorem b_become_42_73 {P : Mem → Prop} (h : ∀ μ', BB 42 73 μ μ' → P μ') : qX0_become_42_73 G l μ P := by
  refine eX0_become_42_73 (h _ ⟨rfl, fun o k ho => ?_, ?_, ?_, fun k hk => ?_, fun k hk => ?_, fun k hk => ?_⟩)
  · rw [gm_rw_o (by omega), gm_rw_o (by omega), gm_rr_o (by omega), gm_rr_o (by omega), gm_rr_o (by omega)]
  · rw [gm_rw_k (by decide), gm_rw_s]
  · rw [gm_rw_s]
  · rw [gm_rw_o (by decide), gm_rw_o (by decide), gm_rr_o (by decide), gm_rr_o (by decide), gm_rr_s, cpy_in hk]; rfl
  · rw [gm_rw_o (by decide), gm_rw_o (by decide), gm_rr_o (by decide), gm_rr_s, cpy_in hk]
    show gm_r (gm_row μ 43 _) 75 k = _
    rw [gm_rr_o (by decide)]
  · rw [gm_rw_o (by decide), gm_rw_o (by decide), gm_rr_s, cpy_in hk]
    show gm_r (gm_row (gm_row μ 43 _) 44 _) 76 k = _
    rw [gm_rr_o (by decide), gm_rr_o (by decide)]
theorem b_become_69_42 {P : Mem → Prop} (h : ∀ μ', BB 69 42 μ μ' → P μ') : qX0_become_69_42 G l μ P := by
  refine eX0_become_69_42 (h _ ⟨rfl, fun o k ho => ?_, ?_, ?_, fun k hk => ?_, fun k hk => ?_, fun k hk => ?_⟩)
  · rw [gm_rw_o (by omega), gm_rw_o (by omega), gm_rr_o (by omega), gm_rr_o (by omega), gm_rr_o (by omega)]
  · rw [gm_rw_k (by decide), gm_rw_s]
  · rw [gm_rw_s]
  · rw [gm_rw_o (by decide), gm_rw_o (by decide), gm_rr_o (by decide), gm_rr_o (by decide), gm_rr_s, cpy_in hk]; rfl
  · rw [gm_rw_o (by decide), gm_rw_o (by decide), gm_rr_o (by decide), gm_rr_s, cpy_in hk]
    show gm_r (gm_row μ 70 _) 44 k = _
    rw [gm_rr_o (by decide)]
  · rw [gm_rw_o (by decide), gm_rw_o (by decide), gm_rr_s, cpy_in hk]
    show gm_r (gm_row (gm_row μ 70 _) 71 _) 45 k = _
    rw [gm_rr_o (by decide), gm_rr_o (by decide)]
theorem b_become_73_42 {P : Mem → Prop} (h : ∀ μ', BB 73 42 μ μ' → P μ') : qX0_become_73_42 G l μ P := by
  refine eX0_become_73_42 (h _ ⟨rfl, fun o k ho => ?_, ?_, ?_, fun k hk => ?_, fun k hk => ?_, fun k hk => ?_⟩)
  · rw [gm_rw_o (by omega), gm_rw_o (by omega), gm_rr_o (by omega), gm_rr_o (by omega), gm_rr_o (by omega)]
  · rw [gm_rw_k (by decide), gm_rw_s]
  · rw [gm_rw_s]
  · rw [gm_rw_o (by decide), gm_rw_o (by decide), gm_rr_o (by decide), gm_rr_o (by decide), gm_rr_s, cpy_in hk]; rfl
  · rw [gm_rw_o (by decide), gm_rw_o (by decide), gm_rr_o (by decide), gm_rr_s, cpy_in hk]
    show gm_r (gm_row μ 74 _) 44 k = _
    rw [gm_rr_o (by decide)]
  · rw [gm_rw_o (by decide), gm_rw_o (by decide), gm_rr_s, cpy_in hk]
    show gm_r (gm_row (gm_row μ 74 _) 75 _) 45 k = _
    rw [gm_rr_o (by decide), gm_rr_o (by decide)]
theorem KS.same {i : Nat} {μ' : Mem} (h1 : ∀ o, 69 + 4 * i ≤ o → o ≤ 72 + 4 * i → ∀ k, gm_r μ' o k = gm_r μ o k) (h2 : ∀ k, 110 * i ≤ k → k < 110 * i + 110 → gm_r μ' 103 k = gm_r μ 103 k) (h : KS n i r f m e W μ) : KS n i r f m e W μ' := by
  obtain ⟨⟨a1, a2, a3, a4, a5⟩, ⟨b1, b2, b3, b4, b5, b6, b7⟩, h3, h4⟩ := h
  have hm := BKm h3
  have h6 := h3.2.2.2.2.2.2
  refine ⟨⟨?_, ?_, fun k hk => ?_, fun j hj => ?_, fun j hj => ?_⟩, ⟨?_, ?_, ?_, ?_, fun j hj => ⟨?_, fun k hk => ?_⟩, fun k hk => ?_, fun j hj => ?_⟩, h3, h4⟩
  · rw [h1 _ (by omega) (by omega)]; exact a1
  · rw [h1 _ (by omega) (by omega)]; exact a2
  · rw [h1 _ (by omega) (by omega)]; exact a3 k hk
  · rw [h1 _ (by omega) (by omega)]; exact a4 j hj
  · rw [h1 _ (by omega) (by omega)]; exact a5 j hj
  · rw [h2 _ (by omega) (by omega)]; exact b1
  · rw [h2 _ (by omega) (by omega)]; exact b2
  · rw [h2 _ (by omega) (by omega)]; exact b3
  · rw [h2 _ (by omega) (by omega)]; exact b4
  · rw [h2 _ (by omega) (by omega)]; exact (b5 j hj).1
  · have := BKe h3 hj
    rw [h2 _ (by omega) (by omega)]; exact (b5 j hj).2 k hk
  · rw [h2 _ (by omega) (by omega)]; exact b6 k hk
  · rw [h2 _ (by omega) (by omega)]; exact b7 j hj
/-- what the reference keeps at b .. -/
def kr (μ : Mem) (b k : Nat) : Int32 := if k - b < 4 then (if k = b then gm_r μ 78 22 else if k = b + 1 then gm_r μ 78 23 else if k = b + 2 then gm_r μ 78 26 else gm_r μ 78 27) else if k - b < 16 then gm_r μ 92 (k - b - 4) else if k - b < 88 then gm_r μ 93 (k - b - 16) else if k - b < 94 then gm_r μ 94 (k - b - 88) else gm_r μ 83 (k - b - 94)
def KI (μ : Mem) (b p : Nat) (μ' : Mem) : Prop := μ'.1 = μ.1 ∧ (∀ o k, o ≠ 103 → gm_r μ' o k = gm_r μ o k) ∧ ∀ k, gm_r μ' 103 k = if b ≤ k ∧ k < p then kr μ b k else gm_r μ 103 k
theorem KI.next {b p q : Nat} {v : Int32} {μ' : Mem} (h : KI μ b p μ') (hq : q = p) (hb : b ≤ p) (hv : v = kr μ b p) : KI μ b (p + 1) (gm_w μ' 103 q v) := by
  subst hq hv
  refine ⟨h.1, fun o k ho => by rw [gm_rw_o ho]; exact h.2.1 o k ho, fun k => ?_⟩
  rw [gm_rw, h.2.2 k]
  by_cases e : k = q
  · subst e
    rw [if_pos ⟨rfl, rfl⟩, if_pos ⟨hb, by omega⟩]
  · rw [if_neg (fun z => e z.2)]
    by_cases z : b ≤ k ∧ k < q
    · rw [if_pos z, if_pos ⟨z.1, by omega⟩]
    · rw [if_neg z, if_neg (fun y => z ⟨y.1, by omega⟩)]
theorem kp_67 {P : Int32 → Mem → Prop} {b : Nat} {x1 : Int32} (hb : b ≤ 110) (h : ∀ μ', KI μ b (b + 16) μ' → hX10_keep_97 G l P x1 (nI b) (nI 0) μ') : ∀ d j μ', j + d = 12 → KI μ b (b + 4 + j) μ' → hX10_keep_67 G l P x1 (nI b) (nI j) μ' := by
  intro d
  induction d with
  | zero =>
    intro j μ' hj hk
    refine eX10_keep_67 ⟨fun _ => ?_, fun q => absurd (by rw [show j = 12 by omega]; exact Int32.le_refl _) q⟩
    exact h μ' (by rw [show b + 16 = b + 4 + j by omega]; exact hk)
  | succ d ih =>
    intro j μ' hj hk
    refine eX10_keep_67 ⟨fun q => absurd q (nI_ge (b := 12) (by omega) (by decide)), fun _ => ?_⟩
    rw [show (4 : Int32) = nI 4 from rfl, nI_add, nI_add, nI_1, nI_clamp (by omega), nI_clamp (by omega)]
    refine ⟨vp_in_nI (by omega) (by decide), vp_in_nI (by omega) (by decide), ih (j + 1) _ (by omega) ?_⟩
    rw [show b + 4 + (j + 1) = b + 4 + j + 1 by omega]
    refine hk.next rfl (by omega) ?_
    rw [hk.2.1 _ _ (by decide)]
    unfold kr
    rw [if_neg (by omega), if_pos (by omega), show b + 4 + j - b - 4 = j by omega]
theorem kp_97 {P : Int32 → Mem → Prop} {b : Nat} {x1 : Int32} (hb : b ≤ 110) (h : ∀ μ', KI μ b (b + 88) μ' → hX10_keep_128 G l P x1 (nI b) (nI 0) μ') : ∀ d j μ', j + d = 72 → KI μ b (b + 16 + j) μ' → hX10_keep_97 G l P x1 (nI b) (nI j) μ' := by
  intro d
  induction d with
  | zero =>
    intro j μ' hj hk
    refine eX10_keep_97 ⟨fun _ => ?_, fun q => absurd (by rw [show j = 72 by omega]; exact Int32.le_refl _) q⟩
    exact h μ' (by rw [show b + 88 = b + 16 + j by omega]; exact hk)
  | succ d ih =>
    intro j μ' hj hk
    refine eX10_keep_97 ⟨fun q => absurd q (nI_ge (b := 72) (by omega) (by decide)), fun _ => ?_⟩
    rw [show (16 : Int32) = nI 16 from rfl, nI_add, nI_add, nI_1, nI_clamp (by omega), nI_clamp (by omega)]
    refine ⟨vp_in_nI (by omega) (by decide), vp_in_nI (by omega) (by decide), ih (j + 1) _ (by omega) ?_⟩
    rw [show b + 16 + (j + 1) = b + 16 + j + 1 by omega]
    refine hk.next rfl (by omega) ?_
    rw [hk.2.1 _ _ (by decide)]
    unfold kr
    rw [if_neg (by omega), if_neg (by omega), if_pos (by omega), show b + 16 + j - b - 16 = j by omega]
theorem kp_128 {P : Int32 → Mem → Prop} {b : Nat} {x1 : Int32} (hb : b ≤ 110) (h : ∀ μ', KI μ b (b + 94) μ' → hX10_keep_159 G l P x1 (nI b) (nI 0) μ') : ∀ d j μ', j + d = 6 → KI μ b (b + 88 + j) μ' → hX10_keep_128 G l P x1 (nI b) (nI j) μ' := by
  intro d
  induction d with
  | zero =>
    intro j μ' hj hk
    refine eX10_keep_128 ⟨fun _ => ?_, fun q => absurd (by rw [show j = 6 by omega]; exact Int32.le_refl _) q⟩
    exact h μ' (by rw [show b + 94 = b + 88 + j by omega]; exact hk)
  | succ d ih =>
    intro j μ' hj hk
    refine eX10_keep_128 ⟨fun q => absurd q (nI_ge (b := 6) (by omega) (by decide)), fun _ => ?_⟩
    rw [show (88 : Int32) = nI 88 from rfl, nI_add, nI_add, nI_1, nI_clamp (by omega), nI_clamp (by omega)]
    refine ⟨vp_in_nI (by omega) (by decide), vp_in_nI (by omega) (by decide), ih (j + 1) _ (by omega) ?_⟩
    rw [show b + 88 + (j + 1) = b + 88 + j + 1 by omega]
    refine hk.next rfl (by omega) ?_
    rw [hk.2.1 _ _ (by decide)]
    unfold kr
    rw [if_neg (by omega), if_neg (by omega), if_neg (by omega), if_pos (by omega), show b + 88 + j - b - 88 = j by omega]
theorem kp_159 {P : Int32 → Mem → Prop} {b : Nat} {x1 : Int32} (hb : b ≤ 110) (h : ∀ μ', KI μ b (b + 102) μ' → vp_in x1 2 ∧ P 1 (gm_w (gm_w μ' 104 x1.toNatClampNeg (gm_r μ' 78 1)) 105 x1.toNatClampNeg 1)) : ∀ d j μ', j + d = 8 → KI μ b (b + 94 + j) μ' → hX10_keep_159 G l P x1 (nI b) (nI j) μ' := by
  intro d
  induction d with
  | zero =>
    intro j μ' hj hk
    refine eX10_keep_159 ⟨fun _ => ?_, fun q => absurd (by rw [show j = 8 by omega]; exact Int32.le_refl _) q⟩
    exact h μ' (by rw [show b + 102 = b + 94 + j by omega]; exact hk)
  | succ d ih =>
    intro j μ' hj hk
    refine eX10_keep_159 ⟨fun q => absurd q (nI_ge (b := 8) (by omega) (by decide)), fun _ => ?_⟩
    rw [show (94 : Int32) = nI 94 from rfl, nI_add, nI_add, nI_1, nI_clamp (by omega), nI_clamp (by omega)]
    refine ⟨vp_in_nI (by omega) (by decide), vp_in_nI (by omega) (by decide), ih (j + 1) _ (by omega) ?_⟩
    rw [show b + 94 + (j + 1) = b + 94 + j + 1 by omega]
    refine hk.next rfl (by omega) ?_
    rw [hk.2.1 _ _ (by decide)]
    unfold kr
    rw [if_neg (by omega), if_neg (by omega), if_neg (by omega), if_neg (by omega), show b + 94 + j - b - 94 = j by omega]
theorem t_keepM {P : Int32 → Mem → Prop} {i : Nat} (hi : i < 2) (h : ∀ μ', KI μ (110 * i) (110 * i + 102) μ' → P 1 (gm_w (gm_w μ' 104 i (gm_r μ 78 1)) 105 i 1)) : qX10_keep G l (nI i) μ P := by
  refine eX10_keep (t_inI 0 1 rfl rfl ?_)
  rw [if_pos (show (0 : Int32) ≤ nI i ∧ nI i ≤ 1 from (w_in (a := 0) (by decide) 1 (by decide)).mpr ⟨i, by omega, by omega, rfl⟩), show (110 : Int32) = nI 110 from rfl, pk_mul]
  refine ⟨fun _ => ?_, fun q => absurd q (by decide)⟩
  rw [show (1 : Int32) = nI 1 from rfl, show (2 : Int32) = nI 2 from rfl, show (3 : Int32) = nI 3 from rfl, nI_add, nI_add, nI_add, nI_clamp (by omega), nI_clamp (by omega), nI_clamp (by omega), nI_clamp (by omega)]
  have k0 : KI μ (110 * i) (110 * i) μ := ⟨rfl, fun _ _ _ => rfl, fun k => by rw [if_neg (by omega)]⟩
  have k1 := k0.next (q := 110 * i) (v := gm_r μ 78 22) rfl (by omega) (by unfold kr; rw [if_pos (by omega), if_pos rfl])
  have k2 := k1.next (q := 110 * i + 1) (v := gm_r μ 78 23) rfl (by omega) (by unfold kr; rw [if_pos (by omega), if_neg (by omega), if_pos rfl])
  have k3 := k2.next (q := 110 * i + 2) (v := gm_r μ 78 26) rfl (by omega) (by unfold kr; rw [if_pos (by omega), if_neg (by omega), if_neg (by omega), if_pos rfl])
  have k4 := k3.next (q := 110 * i + 3) (v := gm_r μ 78 27) rfl (by omega) (by unfold kr; rw [if_pos (by omega), if_neg (by omega), if_neg (by omega), if_neg (by omega)])
  refine ⟨vp_in_nI (by omega) (by decide), vp_in_nI (by omega) (by decide), vp_in_nI (by omega) (by decide), vp_in_nI (by omega) (by decide), ?_⟩
  refine kp_67 (by omega) (fun μ1 h1 => kp_97 (by omega) (fun μ2 h2 => kp_128 (by omega) (fun μ3 h3 => kp_159 (by omega) (fun μ4 h4 => ⟨vp_in_nI hi (by decide), ?_⟩) 8 0 μ3 (by omega) h3) 6 0 μ2 (by omega) h2) 72 0 μ1 (by omega) h1) 12 0 _ (by omega) k4
  rw [nI_clamp (by omega), h4.2.1 _ _ (by decide)]
  exact h μ4 h4
theorem pr_keep {k : Nat} (hO : BO n r f m e μ) (hL : LW W μ) (hQ : KP k n μ) (hk : k < 65) (a1 : Int32) : qX9_keep G l a1 μ (fun r1 μ1 => qX10_keep G l a1 μ1 (fun r2 μ2 => r1 = r2 ∧ Fr [7] μ μ2 ∧ KP (k + 1) n μ2)) := by
  obtain ⟨bC, bM, hB⟩ := hO
  obtain ⟨lC, lM, hW⟩ := hL
  have hm := BKm hB
  have h6 := hB.2.2.2.2.2.2
  have hQ0 := hQ
  obtain ⟨T, t1, t2, t3⟩ := hQ
  have out : (¬ ∃ i, i < 2 ∧ a1 = nI i) → qX10_keep G l a1 μ (fun r2 μ2 => -1001 = r2 ∧ Fr [7] μ μ2 ∧ KP (k + 1) n μ2) := fun hno => by
    refine eX10_keep (t_inI 0 1 rfl rfl ?_)
    rw [if_neg (show ¬ ((0 : Int32) ≤ a1 ∧ a1 ≤ 1) from fun q => by obtain ⟨i, _, g1, g2⟩ := (w_in (a := 0) (by decide) 1 (by decide)).mp q; exact hno ⟨i, by omega, g2⟩)]
    exact ⟨fun q => absurd rfl q, fun _ => ⟨rfl, Fr.rfl, hQ0.fr Fr.rfl (L := []) (by decide)⟩⟩
  have go : ∀ i, i < 2 → ∀ μ1, BB (69 + 4 * i) 42 μ μ1 → qX10_keep G l (nI i) (gm_w μ1 77 i 1) (fun r2 μ2 => 1 = r2 ∧ Fr [7] μ μ2 ∧ KP (k + 1) n μ2) := by
    intro i hi μ1 ⟨c0, c1, c2, c3, c4, c5, c6⟩
    have rd : ∀ o k, ¬ (69 + 4 * i ≤ o ∧ o ≤ 69 + 4 * i + 3) → ¬ (o = 77 ∧ k = i) → gm_r (gm_w μ1 77 i 1) o k = gm_r μ o k := fun o k h1 h2 => by rw [gm_rw, if_neg h2, c1 o k h1]
    refine t_keepM hi (fun μ2 ⟨k0, k1, k2⟩ => ?_)
    rw [rd 78 1 (by omega) (by omega)]
    have rd2 : ∀ o k, o ≠ 103 → ¬ (69 + 4 * i ≤ o ∧ o ≤ 69 + 4 * i + 3) → ¬ (o = 77 ∧ k = i) → ¬ (o = 104 ∧ k = i) → ¬ (o = 105 ∧ k = i) → gm_r (gm_w (gm_w μ2 104 i (gm_r μ 78 1)) 105 i 1) o k = gm_r μ o k := fun o k h0 h1 h2 h3 h4 => by rw [gm_rw, if_neg h4, gm_rw, if_neg h3, k1 o k h0, rd o k h1 h2]
    have rc : ∀ o k, 69 + 4 * i ≤ o ∧ o ≤ 69 + 4 * i + 3 → gm_r (gm_w (gm_w μ2 104 i (gm_r μ 78 1)) 105 i 1) o k = gm_r μ1 o k := fun o k h => by rw [gm_rw_o (by omega), gm_rw_o (by omega), k1 o k (by omega), gm_rw_o (by omega)]
    have r103 : ∀ k, gm_r (gm_w (gm_w μ2 104 i (gm_r μ 78 1)) 105 i 1) 103 k = if 110 * i ≤ k ∧ k < 110 * i + 102 then kr (gm_w μ1 77 i 1) (110 * i) k else gm_r μ 103 k := fun k => by
      rw [gm_rw_o (by decide), gm_rw_o (by decide), k2 k, rd 103 k (by omega) (by omega)]
    have rk : ∀ o j, (o = 78 ∨ o = 92 ∨ o = 93 ∨ o = 94 ∨ o = 83) → gm_r (gm_w μ1 77 i 1) o j = gm_r μ o j := fun o j h => rd o j (by omega) (by omega)
    refine ⟨rfl, ⟨fun o j ho => ?_, fun _ => ?_⟩, T, ?_, by omega, fun i' hi' => ?_⟩
    · have ne : ∀ a b : Nat, own a b = 7 → ¬ (o = a ∧ j = b) := fun a b h z => ho (by rw [z.1, z.2, h]; decide)
      have n103 : o ≠ 103 := fun z => ho (by rw [z, show own 103 j = 7 from by simp [own]]; decide)
      refine rd2 o j n103 (fun z => ho ?_) (ne 77 i (by simp [own])) (ne 104 i (by simp [own])) (ne 105 i (by simp [own]))
      have := own_ks (i := i) (o := o - (69 + 4 * i)) (k := j) hi (by omega)
      rw [show 69 + (o - (69 + 4 * i)) + 4 * i = o by omega] at this
      rw [this]
      decide
    · show μ2.1 = μ.1
      rw [k0]
      exact c0
    · rw [rd2 78 1 (by decide) (by omega) (by omega) (by omega) (by omega)]; exact t1
    · by_cases e1 : i' = i
      · subst e1
        refine Or.inr ⟨?_, gm_rw_s, ?_, r, f, m, e, W, ⟨?_, ?_, fun j hj => ?_, fun j hj => ?_, fun j hj => ?_⟩, ⟨?_, ?_, ?_, ?_, fun j hj => ⟨?_, fun j' hj' => ?_⟩, fun j hj => ?_, fun j hj => ?_⟩, hB, hW⟩
        · rw [gm_rw_o (by decide), gm_rw_o (by decide), k1 _ _ (by decide), gm_rw_s]
        · rw [gm_rw_o (by decide), gm_rw_s]; exact t1
        · rw [rc _ _ (by omega), c2]; exact bC.1
        · rw [rc _ _ (by omega), c3]; exact bC.2.1
        · rw [rc _ _ (by omega), show 70 + 4 * i' = 69 + 4 * i' + 1 by omega, c4 j (by omega)]; exact bC.2.2.1 j hj
        · rw [rc _ _ (by omega), show 71 + 4 * i' = 69 + 4 * i' + 2 by omega, c5 j (by omega)]; exact bC.2.2.2 j hj
        · rw [rc _ _ (by omega), show 72 + 4 * i' = 69 + 4 * i' + 3 by omega, c6 j (by omega)]; exact lC j hj
        · rw [r103, if_pos (by omega)]; unfold kr; rw [if_pos (by omega), if_pos rfl, rk _ _ (by omega)]; exact bM.1
        · rw [r103, if_pos (by omega)]; unfold kr; rw [if_pos (by omega), if_neg (by omega), if_pos rfl, rk _ _ (by omega)]; exact bM.2.1
        · rw [r103, if_pos (by omega)]; unfold kr; rw [if_pos (by omega), if_neg (by omega), if_neg (by omega), if_pos rfl, rk _ _ (by omega)]; exact bM.2.2.1
        · rw [r103, if_pos (by omega)]; unfold kr; rw [if_pos (by omega), if_neg (by omega), if_neg (by omega), if_neg (by omega), rk _ _ (by omega)]; exact bM.2.2.2.1
        · rw [r103, if_pos (by omega)]; unfold kr; rw [if_neg (by omega), if_pos (by omega), rk _ _ (by omega), show 110 * i' + 4 + j - 110 * i' - 4 = j by omega]; exact (bM.2.2.2.2.1 j hj).1
        · have := BKe hB hj
          rw [r103, if_pos (by omega)]; unfold kr; rw [if_neg (by omega), if_neg (by omega), if_pos (by omega), rk _ _ (by omega), show 110 * i' + 16 + (6 * j + j') - 110 * i' - 16 = 6 * j + j' by omega]; exact (bM.2.2.2.2.1 j hj).2 j' hj'
        · rw [r103, if_pos (by omega)]; unfold kr; rw [if_neg (by omega), if_neg (by omega), if_neg (by omega), if_pos (by omega), rk _ _ (by omega), show 110 * i' + 88 + j - 110 * i' - 88 = j by omega]; exact bM.2.2.2.2.2 j hj
        · rw [r103, if_pos (by omega)]; unfold kr; rw [if_neg (by omega), if_neg (by omega), if_neg (by omega), if_neg (by omega), rk _ _ (by omega), show 110 * i' + 94 + j - 110 * i' - 94 = j by omega]; exact lM j hj
      · rw [rd2 77 i' (by decide) (by omega) (by omega) (by omega) (by omega), rd2 105 i' (by decide) (by omega) (by omega) (by omega) (by omega), rd2 104 i' (by decide) (by omega) (by omega) (by omega) (by omega)]
        rcases t3 i' hi' with h | ⟨z1, z2, z3, r', f', m', e', W', z4⟩
        · exact Or.inl h
        · exact Or.inr ⟨z1, z2, z3, r', f', m', e', W', z4.same (fun o h1 h2 j => rd2 o j (by omega) (by omega) (by omega) (by omega) (by omega)) (fun j h1 h2 => by rw [r103, if_neg (by omega)])⟩
  by_cases hi : ∃ i, i < 2 ∧ a1 = nI i
  · obtain ⟨i, hi, rfl⟩ := hi
    refine eX9_keep ⟨fun q => absurd q (nI_pos (by omega)), fun _ => ⟨fun _ => ⟨vp_in_nI hi (by decide), fun q => ?_, fun q => ?_⟩, fun q => absurd (nI_lt (b := 2) hi (by decide)) q⟩⟩
    · rw [nI_clamp (by omega)] at q ⊢
      subst q
      exact b_become_69_42 (fun μ1 h1 => ⟨vp_in_nI (by decide) (by decide), go 0 (by decide) μ1 h1⟩)
    · rw [nI_clamp (by omega)] at q ⊢
      subst q
      exact b_become_73_42 (fun μ1 h1 => ⟨vp_in_nI (by decide) (by decide), go 1 (by decide) μ1 h1⟩)
  · refine eX9_keep ⟨fun _ => out hi, fun q1 => ⟨fun q2 => ?_, fun _ => out hi⟩⟩
    obtain ⟨j, g, rfl⟩ := nI_of q1
    rw [show (2 : Int32) = nI 2 from rfl, nI_ltI g (by decide)] at q2
    exact absurd ⟨j, q2, rfl⟩ hi
/-- the row dst is filled from what is kept at b + off -/
def Ag (dst len off b : Nat) (μ μ' : Mem) : Prop := μ'.1 = μ.1 ∧ (∀ o k, o ≠ dst → gm_r μ' o k = gm_r μ o k) ∧ ∀ k, k < len → gm_r μ' dst k = gm_r μ 103 (b + off + k)
theorem gb_93 {P : Int32 → Mem → Prop} {b : Nat} (hb : b ≤ 110) (h : ∀ μ', Ag 92 12 4 b μ μ' → hX10_goBack_123 G l P (nI b) (nI 0) μ') : hX10_goBack_93 G l P (nI b) (nI 0) μ := by
  have key : ∀ d j μ', j + d = 12 → (μ'.1 = μ.1 ∧ (∀ o k, o ≠ 92 → gm_r μ' o k = gm_r μ o k) ∧ ∀ k, k < j → gm_r μ' 92 k = gm_r μ 103 (b + 4 + k)) → hX10_goBack_93 G l P (nI b) (nI j) μ' := by
    intro d
    induction d with
    | zero =>
      intro j μ' hj hk
      refine eX10_goBack_93 ⟨fun _ => h μ' ⟨hk.1, hk.2.1, fun k q => hk.2.2 k (by omega)⟩, fun q => absurd (by rw [show j = 12 by omega]; exact Int32.le_refl _) q⟩
    | succ d ih =>
      intro j μ' hj ⟨k0, k1, k2⟩
      refine eX10_goBack_93 ⟨fun q => absurd q (nI_ge (b := 12) (by omega) (by decide)), fun _ => ?_⟩
      rw [show (4 : Int32) = nI 4 from rfl, nI_add, nI_add, nI_1, nI_clamp (by omega), nI_clamp (by omega)]
      refine ⟨vp_in_nI (by omega) (by decide), vp_in_nI (by omega) (by decide), ih (j + 1) _ (by omega) ⟨k0, fun o k ho => ?_, fun k hk => ?_⟩⟩
      · rw [gm_rw_o ho]; exact k1 o k ho
      · rw [gm_rw]
        by_cases q : k = j
        · rw [if_pos ⟨rfl, q⟩, q, k1 _ _ (by decide)]
        · rw [if_neg (fun z => q z.2)]; exact k2 k (by omega)
  exact key 12 0 μ (by omega) ⟨rfl, fun _ _ _ => rfl, fun k hk => absurd hk (Nat.not_lt_zero k)⟩
theorem gb_123 {P : Int32 → Mem → Prop} {b : Nat} (hb : b ≤ 110) (h : ∀ μ', Ag 93 72 16 b μ μ' → hX10_goBack_154 G l P (nI b) (nI 0) μ') : hX10_goBack_123 G l P (nI b) (nI 0) μ := by
  have key : ∀ d j μ', j + d = 72 → (μ'.1 = μ.1 ∧ (∀ o k, o ≠ 93 → gm_r μ' o k = gm_r μ o k) ∧ ∀ k, k < j → gm_r μ' 93 k = gm_r μ 103 (b + 16 + k)) → hX10_goBack_123 G l P (nI b) (nI j) μ' := by
    intro d
    induction d with
    | zero =>
      intro j μ' hj hk
      refine eX10_goBack_123 ⟨fun _ => h μ' ⟨hk.1, hk.2.1, fun k q => hk.2.2 k (by omega)⟩, fun q => absurd (by rw [show j = 72 by omega]; exact Int32.le_refl _) q⟩
    | succ d ih =>
      intro j μ' hj ⟨k0, k1, k2⟩
      refine eX10_goBack_123 ⟨fun q => absurd q (nI_ge (b := 72) (by omega) (by decide)), fun _ => ?_⟩
      rw [show (16 : Int32) = nI 16 from rfl, nI_add, nI_add, nI_1, nI_clamp (by omega), nI_clamp (by omega)]
      refine ⟨vp_in_nI (by omega) (by decide), vp_in_nI (by omega) (by decide), ih (j + 1) _ (by omega) ⟨k0, fun o k ho => ?_, fun k hk => ?_⟩⟩
      · rw [gm_rw_o ho]; exact k1 o k ho
      · rw [gm_rw]
        by_cases q : k = j
        · rw [if_pos ⟨rfl, q⟩, q, k1 _ _ (by decide)]
        · rw [if_neg (fun z => q z.2)]; exact k2 k (by omega)
  exact key 72 0 μ (by omega) ⟨rfl, fun _ _ _ => rfl, fun k hk => absurd hk (Nat.not_lt_zero k)⟩
theorem gb_154 {P : Int32 → Mem → Prop} {b : Nat} (hb : b ≤ 110) (h : ∀ μ', Ag 94 6 88 b μ μ' → hX10_goBack_185 G l P (nI b) (nI 0) μ') : hX10_goBack_154 G l P (nI b) (nI 0) μ := by
  have key : ∀ d j μ', j + d = 6 → (μ'.1 = μ.1 ∧ (∀ o k, o ≠ 94 → gm_r μ' o k = gm_r μ o k) ∧ ∀ k, k < j → gm_r μ' 94 k = gm_r μ 103 (b + 88 + k)) → hX10_goBack_154 G l P (nI b) (nI j) μ' := by
    intro d
    induction d with
    | zero =>
      intro j μ' hj hk
      refine eX10_goBack_154 ⟨fun _ => h μ' ⟨hk.1, hk.2.1, fun k q => hk.2.2 k (by omega)⟩, fun q => absurd (by rw [show j = 6 by omega]; exact Int32.le_refl _) q⟩
    | succ d ih =>
      intro j μ' hj ⟨k0, k1, k2⟩
      refine eX10_goBack_154 ⟨fun q => absurd q (nI_ge (b := 6) (by omega) (by decide)), fun _ => ?_⟩
      rw [show (88 : Int32) = nI 88 from rfl, nI_add, nI_add, nI_1, nI_clamp (by omega), nI_clamp (by omega)]
      refine ⟨vp_in_nI (by omega) (by decide), vp_in_nI (by omega) (by decide), ih (j + 1) _ (by omega) ⟨k0, fun o k ho => ?_, fun k hk => ?_⟩⟩
      · rw [gm_rw_o ho]; exact k1 o k ho
      · rw [gm_rw]
        by_cases q : k = j
        · rw [if_pos ⟨rfl, q⟩, q, k1 _ _ (by decide)]
        · rw [if_neg (fun z => q z.2)]; exact k2 k (by omega)
  exact key 6 0 μ (by omega) ⟨rfl, fun _ _ _ => rfl, fun k hk => absurd hk (Nat.not_lt_zero k)⟩
theorem gb_185 {P : Int32 → Mem → Prop} {b : Nat} (hb : b ≤ 110) (h : ∀ μ', Ag 83 8 94 b μ μ' → P 1 μ') : hX10_goBack_185 G l P (nI b) (nI 0) μ := by
  have key : ∀ d j μ', j + d = 8 → (μ'.1 = μ.1 ∧ (∀ o k, o ≠ 83 → gm_r μ' o k = gm_r μ o k) ∧ ∀ k, k < j → gm_r μ' 83 k = gm_r μ 103 (b + 94 + k)) → hX10_goBack_185 G l P (nI b) (nI j) μ' := by
    intro d
    induction d with
    | zero =>
      intro j μ' hj hk
      refine eX10_goBack_185 ⟨fun _ => h μ' ⟨hk.1, hk.2.1, fun k q => hk.2.2 k (by omega)⟩, fun q => absurd (by rw [show j = 8 by omega]; exact Int32.le_refl _) q⟩
    | succ d ih =>
      intro j μ' hj ⟨k0, k1, k2⟩
      refine eX10_goBack_185 ⟨fun q => absurd q (nI_ge (b := 8) (by omega) (by decide)), fun _ => ?_⟩
      rw [show (94 : Int32) = nI 94 from rfl, nI_add, nI_add, nI_1, nI_clamp (by omega), nI_clamp (by omega)]
      refine ⟨vp_in_nI (by omega) (by decide), vp_in_nI (by omega) (by decide), ih (j + 1) _ (by omega) ⟨k0, fun o k ho => ?_, fun k hk => ?_⟩⟩
      · rw [gm_rw_o ho]; exact k1 o k ho
      · rw [gm_rw]
        by_cases q : k = j
        · rw [if_pos ⟨rfl, q⟩, q, k1 _ _ (by decide)]
        · rw [if_neg (fun z => q z.2)]; exact k2 k (by omega)
  exact key 8 0 μ (by omega) ⟨rfl, fun _ _ _ => rfl, fun k hk => absurd hk (Nat.not_lt_zero k)⟩
theorem pr_goBack {k : Nat} (hQ : KP k n μ) (hk : k < 65) (hP : PO μ) (a1 : Int32) : qX9_goBack G l a1 μ (fun r1 μ1 => qX10_goBack G l a1 μ1 (fun r2 μ2 => r1 = r2 ∧ (μ2 = μ ∨ (Fr [5, 6, 9] μ μ2 ∧ PO μ2 ∧ FG μ2 ∧ ∃ r f m e W, BO n r f m e μ2 ∧ LW W μ2)))) := by
  obtain ⟨T, t1, t2, t3⟩ := hQ
  have out : (¬ ∃ i, i < 2 ∧ a1 = nI i) → qX10_goBack G l a1 μ (fun r2 μ2 => -1001 = r2 ∧ (μ2 = μ ∨ (Fr [5, 6, 9] μ μ2 ∧ PO μ2 ∧ FG μ2 ∧ ∃ r f m e W, BO n r f m e μ2 ∧ LW W μ2))) := fun hno => by
    refine eX10_goBack (t_inI 0 1 rfl rfl ?_)
    rw [if_neg (show ¬ ((0 : Int32) ≤ a1 ∧ a1 ≤ 1) from fun q => by obtain ⟨i, _, g1, g2⟩ := (w_in (a := 0) (by decide) 1 (by decide)).mp q; exact hno ⟨i, by omega, g2⟩)]
    exact ⟨fun q => absurd rfl q, fun _ => ⟨rfl, Or.inl rfl⟩⟩
  have go : ∀ i, i < 2 → gm_r μ 77 i ≠ 0 → ∀ μ1, BB 42 (69 + 4 * i) μ μ1 → qX9_forgetPlans G l μ1 (fun μ2 => qX10_goBack G l (nI i) μ2 (fun r2 μ3 => 1 = r2 ∧ (μ3 = μ ∨ (Fr [5, 6, 9] μ μ3 ∧ PO μ3 ∧ FG μ3 ∧ ∃ r f m e W, BO n r f m e μ3 ∧ LW W μ3)))) := by
    intro i hi h77 μ1 ⟨c0, c1, c2, c3, c4, c5, c6⟩
    rcases t3 i hi with h | ⟨_, g2, g3, r, f, m, e, W, ⟨a1, a2, a3, a4, a5⟩, ⟨b1, b2, b3, b4, b5, b6, b7⟩, hB, hW⟩
    · exact absurd h.1 h77
    have hm := BKm hB
    have h6 := hB.2.2.2.2.2.2
    have f0 : Fr [5, 6, 9] μ μ1 := ⟨fun o j ho => c1 o j (fun z => ho (by
      rcases (show o = 42 ∨ o = 43 ∨ o = 44 ∨ o = 45 by omega) with q | q | q | q <;> rw [q] <;> simp [own])), fun _ => c0⟩
    refine t9_forget (by unfold PO; rw [c1 0 11 (by omega), c0]; exact hP) (fun μ2 f2 p2 g4 => ?_)
    have rd : ∀ o j, o < 106 → own o j ≠ 9 → ¬ (42 ≤ o ∧ o ≤ 45) → gm_r μ2 o j = gm_r μ o j := fun o j _ h1 h2 => by
      rw [f2.1 o j (by simpa using h1), c1 o j (by omega)]
    refine eX10_goBack (t_inI 0 1 rfl rfl ?_)
    rw [if_pos (show (0 : Int32) ≤ nI i ∧ nI i ≤ 1 from (w_in (a := 0) (by decide) 1 (by decide)).mpr ⟨i, by omega, by omega, rfl⟩)]
    refine ⟨fun _ => ⟨vp_in_nI hi (by decide), ?_⟩, fun q => absurd q (by decide)⟩
    rw [nI_clamp (by omega), rd 105 i (by decide) (by simp [own]) (by omega), rd 104 i (by decide) (by simp [own]) (by omega), rd 78 1 (by decide) (by decide) (by omega), g2, g3, t1]
    refine ⟨fun q => absurd q (by decide), fun _ => ⟨fun _ => ?_, fun q => absurd rfl q⟩⟩
    rw [show (110 : Int32) = nI 110 from rfl, pk_mul, show (1 : Int32) = nI 1 from rfl, show (2 : Int32) = nI 2 from rfl, show (3 : Int32) = nI 3 from rfl, nI_add, nI_add, nI_add, nI_clamp (by omega), nI_clamp (by omega), nI_clamp (by omega), nI_clamp (by omega)]
    have r103 : ∀ j, gm_r μ2 103 j = gm_r μ 103 j := fun j => rd 103 j (by decide) (by simp [own]) (by omega)
    rw [r103, r103, r103, r103, b1, b2, b3, b4]
    refine ⟨vp_in_nI (by omega) (by decide), vp_in_nI (by omega) (by decide), vp_in_nI (by omega) (by decide), vp_in_nI (by omega) (by decide), ?_⟩
    refine gb_93 (by omega) (fun μ3 h3 => gb_123 (by omega) (fun μ4 h4 => gb_154 (by omega) (fun μ5 h5 => gb_185 (by omega) (fun μ6 h6' => ?_))))
    obtain ⟨x3, y3, z3⟩ := h3
    obtain ⟨x4, y4, z4⟩ := h4
    obtain ⟨x5, y5, z5⟩ := h5
    obtain ⟨x6, y6, z6⟩ := h6'
    have w103 : ∀ v1 v2 v3 v4 j, gm_r (gm_w (gm_w (gm_w (gm_w μ2 78 22 v1) 78 23 v2) 78 26 v3) 78 27 v4) 103 j = gm_r μ 103 j := fun v1 v2 v3 v4 j => by rw [gm_rw_o (by decide), gm_rw_o (by decide), gm_rw_o (by decide), gm_rw_o (by decide), r103]
    have back : ∀ o j, o ≠ 92 → o ≠ 93 → o ≠ 94 → o ≠ 83 → gm_r μ6 o j = gm_r (gm_w (gm_w (gm_w (gm_w μ2 78 22 (nI m)) 78 23 (nI (seg r 0 (bst e m)))) 78 26 (nI (f - bst e m))) 78 27 (nI (seg r (bst e m) f))) o j := fun o j n1 n2 n3 n4 => by rw [y6 o j n4, y5 o j n3, y4 o j n2, y3 o j n1]
    have oth : ∀ o j, o ≠ 92 → o ≠ 93 → o ≠ 94 → o ≠ 83 → o ≠ 78 → gm_r μ6 o j = gm_r μ2 o j := fun o j n1 n2 n3 n4 n5 => by rw [back o j n1 n2 n3 n4, gm_rw_o n5, gm_rw_o n5, gm_rw_o n5, gm_rw_o n5]
    have r92 : ∀ j, j < 12 → gm_r μ6 92 j = gm_r μ 103 (110 * i + 4 + j) := fun j hj => by rw [y6 _ _ (by decide), y5 _ _ (by decide), y4 _ _ (by decide), z3 j hj, w103]
    have r93 : ∀ j, j < 72 → gm_r μ6 93 j = gm_r μ 103 (110 * i + 16 + j) := fun j hj => by rw [y6 _ _ (by decide), y5 _ _ (by decide), z4 j hj, y3 _ _ (by decide), w103]
    have r94 : ∀ j, j < 6 → gm_r μ6 94 j = gm_r μ 103 (110 * i + 88 + j) := fun j hj => by rw [y6 _ _ (by decide), z5 j hj, y4 _ _ (by decide), y3 _ _ (by decide), w103]
    have r83 : ∀ j, j < 8 → gm_r μ6 83 j = gm_r μ 103 (110 * i + 94 + j) := fun j hj => by rw [z6 j hj, y5 _ _ (by decide), y4 _ _ (by decide), y3 _ _ (by decide), w103]
    have sz : μ6.1 = μ2.1 := by rw [x6, x5, x4, x3]; rfl
    have f3 : Fr [5, 6, 9] μ μ2 := f0.trans (f2.mono (by decide))
    refine ⟨rfl, Or.inr ⟨⟨fun o j ho => ?_, fun h => absurd (by decide) h⟩, ?_, ?_, r, f, m, e, W, ⟨⟨?_, ?_, fun j hj => ?_, fun j hj => ?_⟩, ⟨?_, ?_, ?_, ?_, fun j hj => ⟨?_, fun j' hj' => ?_⟩, fun j hj => ?_⟩, hB⟩, fun j hj => ?_, fun j hj => ?_, hW⟩⟩
    · have n : ∀ a, own a j = 5 ∨ own a j = 6 → o ≠ a := fun a h z => ho (by rw [z]; rcases h with h | h <;> rw [h] <;> decide)
      rw [back o j (n 92 (by simp [own])) (n 93 (by simp [own])) (n 94 (by simp [own])) (n 83 (by simp [own]))]
      have m : ∀ b, own 78 b = 6 → ¬ (o = 78 ∧ j = b) := fun b h z => ho (by rw [z.1, z.2, h]; decide)
      rw [gm_rw, if_neg (m 27 rfl), gm_rw, if_neg (m 26 rfl), gm_rw, if_neg (m 23 rfl), gm_rw, if_neg (m 22 rfl)]
      exact f3.1 o j ho
    · unfold PO
      rw [oth _ _ (by decide) (by decide) (by decide) (by decide) (by decide), sz]
      exact p2
    · unfold FG
      rw [oth _ _ (by decide) (by decide) (by decide) (by decide) (by decide), oth _ _ (by decide) (by decide) (by decide) (by decide) (by decide), oth _ _ (by decide) (by decide) (by decide) (by decide) (by decide)]
      exact g4
    · rw [oth _ _ (by decide) (by decide) (by decide) (by decide) (by decide), f2.1 42 1 (by decide), c2]; exact a1
    · rw [oth _ _ (by decide) (by decide) (by decide) (by decide) (by decide), f2.1 42 3 (by decide), c3]; exact a2
    · rw [oth _ _ (by decide) (by decide) (by decide) (by decide) (by decide), f2.1 43 j (by simp [own]), c4 j (by omega), show 69 + 4 * i + 1 = 70 + 4 * i by omega]; exact a3 j hj
    · rw [oth _ _ (by decide) (by decide) (by decide) (by decide) (by decide), f2.1 44 j (by simp [own]), c5 j (by omega), show 69 + 4 * i + 2 = 71 + 4 * i by omega]; exact a4 j hj
    · rw [back _ _ (by decide) (by decide) (by decide) (by decide), gm_rw_k (by decide), gm_rw_k (by decide), gm_rw_k (by decide), gm_rw_s]
    · rw [back _ _ (by decide) (by decide) (by decide) (by decide), gm_rw_k (by decide), gm_rw_k (by decide), gm_rw_s]
    · rw [back _ _ (by decide) (by decide) (by decide) (by decide), gm_rw_k (by decide), gm_rw_s]
    · rw [back _ _ (by decide) (by decide) (by decide) (by decide), gm_rw_s]
    · rw [r92 j (by omega)]; exact (b5 j hj).1
    · have := BKe hB hj
      rw [r93 _ (by omega)]; exact (b5 j hj).2 j' hj'
    · rw [r94 j (by omega)]; exact b6 j hj
    · rw [oth _ _ (by decide) (by decide) (by decide) (by decide) (by decide), f2.1 45 j (by simp [own]), c6 j (by omega), show 69 + 4 * i + 3 = 72 + 4 * i by omega]; exact a5 j hj
    · rw [r83 j hj]; exact b7 j hj
  by_cases hi : ∃ i, i < 2 ∧ a1 = nI i
  · obtain ⟨i, hi, rfl⟩ := hi
    refine eX9_goBack ⟨fun q => absurd q (nI_pos (by omega)), fun _ => ⟨fun _ => ⟨vp_in_nI hi (by decide), ?_⟩, fun q => absurd (nI_lt (b := 2) hi (by decide)) q⟩⟩
    rw [nI_clamp (by omega)]
    refine ⟨fun h77 => ⟨vp_in_nI hi (by decide), fun q => ?_, fun q => ?_⟩, fun h77 => ?_⟩
    · subst q
      exact b_become_42_69 (fun μ1 h1 => go 0 (by decide) h77 μ1 h1)
    · subst q
      exact b_become_42_73 (fun μ1 h1 => go 1 (by decide) h77 μ1 h1)
    · refine eX10_goBack (t_inI 0 1 rfl rfl ?_)
      rw [if_pos (show (0 : Int32) ≤ nI i ∧ nI i ≤ 1 from (w_in (a := 0) (by decide) 1 (by decide)).mpr ⟨i, by omega, by omega, rfl⟩)]
      refine ⟨fun _ => ⟨vp_in_nI hi (by decide), ?_⟩, fun q => absurd q (by decide)⟩
      rw [nI_clamp (by omega), t1]
      refine ⟨fun _ => ⟨rfl, Or.inl rfl⟩, fun q => ⟨fun q2 => ?_, fun _ => ⟨rfl, Or.inl rfl⟩⟩⟩
      exfalso
      rcases t3 i hi with ⟨_, h | ⟨a, h1, h2⟩⟩ | ⟨h, _⟩
      · exact q h
      · rw [h2, nI_eq (by omega) (by omega)] at q2
        omega
      · rw [h] at h77; exact absurd h77 (by decide)
  · refine eX9_goBack ⟨fun _ => out hi, fun q1 => ⟨fun q2 => ?_, fun _ => out hi⟩⟩
    obtain ⟨j, g, rfl⟩ := nI_of q1
    rw [show (2 : Int32) = nI 2 from rfl, nI_ltI g (by decide)] at q2
    exact absurd ⟨j, q2, rfl⟩ hi
end KEEP
