/-! THE TEXT: blanks, words, figures -/
def run (t : Nat) (p : Nat → Bool) : Nat → Nat → Nat | 0, i => i | d + 1, i => if i < t ∧ p i = true then run t p d (i + 1) else i
def rn (t : Nat) (p : Nat → Bool) (i : Nat) : Nat := run t p (t - i) i
section RUN
variable {t : Nat} {p : Nat → Bool} {i : Nat}
theorem rn_go (h : i < t) (hp : p i = true) : rn t p i = rn t p (i + 1) := by
  unfold rn
  rw [show t - i = (t - (i + 1)) + 1 by omega]
  show (if i < t ∧ p i = true then run t p (t - (i + 1)) (i + 1) else i) = _
  rw [if_pos ⟨h, hp⟩]
theorem rn_stop (h : ¬ (i < t ∧ p i = true)) : rn t p i = i := by
  unfold rn
  generalize t - i = d
  cases d with
  | zero => rfl
  | succ d =>
    show (if i < t ∧ p i = true then _ else i) = i
    rw [if_neg h]
theorem rn_all : ∀ d i, i + d = t → (i ≤ rn t p i ∧ rn t p i ≤ t ∧ ¬ (rn t p i < t ∧ p (rn t p i) = true) ∧ ∀ k, i ≤ k → k < rn t p i → p k = true) := by
  intro d
  induction d with
  | zero =>
    intro i hi
    rw [rn_stop (by omega)]
    exact ⟨Nat.le_refl _, by omega, by omega, fun k h1 h2 => by omega⟩
  | succ d ih =>
    intro i hi
    by_cases h : p i = true
    · rw [rn_go (by omega) h]
      obtain ⟨h1, h2, h3, h4⟩ := ih (i + 1) (by omega)
      refine ⟨by omega, h2, h3, fun k h5 h6 => ?_⟩
      by_cases e : k = i
      · rw [e]; exact h
      · exact h4 k (by omega) h6
    · rw [rn_stop (fun z => h z.2)]
      exact ⟨Nat.le_refl _, by omega, fun z => h z.2, fun k h1 h2 => by omega⟩
theorem rn_ok (hi : i ≤ t) : i ≤ rn t p i ∧ rn t p i ≤ t ∧ ¬ (rn t p i < t ∧ p (rn t p i) = true) ∧ ∀ k, i ≤ k → k < rn t p i → p k = true := rn_all (t - i) i (by omega)
theorem rn_idem (hi : i ≤ t) : rn t p (rn t p i) = rn t p i := rn_stop (rn_ok hi).2.2.1
end RUN
def isBl (x : Nat → Nat) : Nat → Bool := fun k => x k == 32
def isLt (x : Nat → Nat) : Nat → Bool := fun k => decide (97 ≤ x k ∧ x k ≤ 122)
def isDg (x : Nat → Nat) : Nat → Bool := fun k => decide (48 ≤ x k ∧ x k ≤ 57)
def sk (t : Nat) (x : Nat → Nat) (i : Nat) : Nat := rn t (isBl x) i
def we (t : Nat) (x : Nat → Nat) (i : Nat) : Nat := rn t (isLt x) i
def de (t : Nat) (x : Nat → Nat) (i : Nat) : Nat := rn t (isDg x) i
/-- the byte there, and one more; 0 from the end on -/
def chr (t : Nat) (x : Nat → Nat) (i : Nat) : Nat := if i < t then x i + 1 else 0
theorem chr_lt {t : Nat} {x : Nat → Nat} {i : Nat} (hx : ∀ i, i < t → x i < 256) : chr t x i ≤ 256 := by
  unfold chr
  by_cases h : i < t
  · rw [if_pos h]; have := hx i h; omega
  · rw [if_neg h]; omega
def wsz : Nat → Nat := fun w => [5, 3, 4, 5, 5, 5, 5, 5, 4].getD w 0
def wcs : List Nat := [115, 99, 101, 110, 101, 106, 111, 121, 32, 32, 119, 105, 116, 104, 32, 97, 102, 116, 101, 114, 111, 112, 101, 110, 115, 115, 104, 117, 116, 115, 116, 101, 108, 108, 115, 110, 101, 101, 100, 115, 100, 105, 101, 115, 32]
def wch (w k : Nat) : Nat := wcs.getD (5 * w + k) 0
theorem wcs_ok : ∀ j, j < 45 → gz_words.getD j 0 = nI (wcs.getD j 0) ∧ wcs.getD j 0 < 256 := by decide +kernel
theorem wsz_ok : ∀ w, w < 9 → wsz w ≤ 5 ∧ (∀ k, k < 5 → (k < wsz w → 97 ≤ wch w k ∧ wch w k ≤ 122) ∧ (¬ k < wsz w → wch w k = 32)) := by decide +kernel
/-- the letters from i to j are word w -/
def mtc (x : Nat → Nat) (i j w : Nat) : Bool := decide (j - i = wsz w) && (List.range (wsz w)).all (fun k => x (i + k) == wch w k)
theorem mtc_iff {x : Nat → Nat} {i j w : Nat} : mtc x i j w = true ↔ j - i = wsz w ∧ ∀ k, k < wsz w → x (i + k) = wch w k := by
  unfold mtc
  rw [Bool.and_eq_true, decide_eq_true_eq, List.all_eq_true]
  constructor
  · rintro ⟨h1, h2⟩
    exact ⟨h1, fun k hk => by have := h2 k (List.mem_range.mpr hk); simpa using this⟩
  · rintro ⟨h1, h2⟩
    exact ⟨h1, fun k hk => by have := h2 k (List.mem_range.mp hk); simpa using this⟩
def wdf (x : Nat → Nat) (i j : Nat) : Nat → Nat → Nat | 0, _ => 0 | d + 1, w => if mtc x i j w = true then w + 1 else wdf x i j d (w + 1)
/-- which word it is, and one more; 0: none -/
def wdF (x : Nat → Nat) (i j : Nat) : Nat := wdf x i j 9 0
theorem wdf_le {x : Nat → Nat} {i j : Nat} : ∀ d w, wdf x i j d w ≤ w + d
  | 0, _ => Nat.zero_le _
  | d + 1, w => by
    have := wdf_le (x := x) (i := i) (j := j) d (w + 1)
    unfold wdf
    split <;> omega
theorem wdF_le {x : Nat → Nat} {i j : Nat} : wdF x i j ≤ 9 := wdf_le 9 0
section TXT
variable {G : gC} {l : Launch} {μ : Mem} {t : Nat} {x : Nat → Nat}
/-- the class's text, and the model's -/
def TXC (t : Nat) (x : Nat → Nat) (μ : Mem) : Prop := gm_r μ 1 1 = nI t ∧ t ≤ 400 ∧ ∀ i, i < t → gm_r μ 2 i = nI (x i) ∧ x i < 256
def TXM (t : Nat) (x : Nat → Nat) (μ : Mem) : Prop := gm_r μ 78 8 = nI t ∧ t ≤ 400 ∧ ∀ i, i < t → gm_r μ 84 i = nI (x i) ∧ x i < 256
theorem c_at {P : Int32 → Mem → Prop} {i : Nat} (hT : TXC t x μ) (hi : i ≤ 500) (h : P (nI (chr t x i) - 1) μ) : qX8_at G l (nI i) μ P := by
  have ht := hT.2.1
  refine eX8_at ⟨fun q => absurd q (nI_pos (by omega)), fun _ => ?_⟩
  rw [hT.1, nI_leI (by omega) (by omega)]
  refine ⟨fun q => ?_, fun q => ⟨vp_in_nI (by omega) (by decide), ?_⟩⟩
  · unfold chr at h
    rw [if_neg (by omega)] at h
    exact h
  · unfold chr at h
    rw [if_pos (by omega), nI_pred] at h
    rw [nI_clamp (by omega), (hT.2.2 i (by omega)).1]
    exact h
theorem chr_in {i : Nat} (h : i < t) : nI (chr t x i) - 1 = nI (x i) := by
  unfold chr; rw [if_pos h, nI_pred]
/-- what the reader of the class leaves alone -/
def CF (μ μ' : Mem) : Prop := μ'.1 = μ.1 ∧ ∀ o k, o ≠ 3 → ¬ (16 ≤ o ∧ o ≤ 27) → gm_r μ' o k = gm_r μ o k
theorem CF.rfl {μ : Mem} : CF μ μ := ⟨Eq.refl _, fun _ _ _ _ => Eq.refl _⟩
theorem CF.trans {μ μ1 μ2 : Mem} (h1 : CF μ μ1) (h2 : CF μ1 μ2) : CF μ μ2 := ⟨h2.1.trans h1.1, fun o k p q => (h2.2 o k p q).trans (h1.2 o k p q)⟩
theorem CF.w {o k : Nat} {μ μ' : Mem} {v : Int32} (h : CF μ μ') (ho : o = 3 ∨ (16 ≤ o ∧ o ≤ 27)) : CF μ (gm_w μ' o k v) := ⟨h.1, fun o' k' p q => by
  have hne : o' ≠ o := by omega
  rw [gm_rw_o hne]
  exact h.2 o' k' p q⟩
theorem TXC.cf {μ' : Mem} (h : TXC t x μ) (hf : CF μ μ') : TXC t x μ' := ⟨by rw [hf.2 _ _ (by decide) (by decide)]; exact h.1, h.2.1, fun i hi => by rw [hf.2 _ _ (by decide) (by decide)]; exact h.2.2 i hi⟩
/-- the place where the class reads -/
def A2 (μ μ' : Mem) : Prop := μ'.1 = μ.1 ∧ ∀ o k, ¬ (o = 3 ∧ k = 2) → gm_r μ' o k = gm_r μ o k
theorem A2.rfl {μ : Mem} : A2 μ μ := ⟨Eq.refl _, fun _ _ _ => Eq.refl _⟩
theorem A2.trans {μ μ1 μ2 : Mem} (h1 : A2 μ μ1) (h2 : A2 μ1 μ2) : A2 μ μ2 := ⟨h2.1.trans h1.1, fun o k p => (h2.2 o k p).trans (h1.2 o k p)⟩
theorem A2.w {μ μ' : Mem} {v : Int32} (h : A2 μ μ') : A2 μ (gm_w μ' 3 2 v) := ⟨h.1, fun o k p => by
  rw [gm_rw, if_neg p]
  exact h.2 o k p⟩
theorem A2.cf {μ μ' : Mem} (h : A2 μ μ') : CF μ μ' := ⟨h.1, fun o k p _ => h.2 o k (fun z => p z.1)⟩
theorem c_skip {P : Mem → Prop} {i : Nat} (hT : TXC t x μ) (hi : i ≤ t) (hat : gm_r μ 3 2 = nI i) (h : ∀ μ', A2 μ μ' → gm_r μ' 3 2 = nI (sk t x i) → P μ') : qX4_skipBlanks G l μ P := by
  have ht := hT.2.1
  have loop : ∀ d k μ', k + d = t → sk t x k = sk t x i → A2 μ μ' → gm_r μ' 3 2 = nI k → hX4_skipBlanks_0 G l P μ' := by
    intro d
    induction d with
    | zero =>
      intro k μ' hk he a1 g1
      have e1 : sk t x k = k := rn_stop (by omega)
      refine eX4_skipBlanks_0 ?_
      rw [g1, (hT.cf a1.cf).1, nI_leI (by omega) (by omega)]
      exact ⟨fun _ => h μ' a1 (by rw [← he, e1]; exact g1), fun q => absurd (by omega) q⟩
    | succ d ih =>
      intro k μ' hk he a1 g1
      refine eX4_skipBlanks_0 ?_
      rw [g1, (hT.cf a1.cf).1, nI_leI (by omega) (by omega)]
      refine ⟨fun q => by omega, fun _ => c_at (t := t) (x := x) (hT.cf a1.cf) (by omega) ?_⟩
      have hx := (hT.2.2 k (by omega)).2
      rw [chr_in (by omega), show (32 : Int32) = nI 32 from rfl, nI_eq (by omega) (by decide)]
      refine ⟨fun q => ?_, fun q => ?_⟩
      · have e1 : sk t x k = k := rn_stop (fun z => q (by have := z.2; unfold isBl at this; simpa using this))
        exact h μ' a1 (by rw [← he, e1]; exact g1)
      · rw [g1, nI_1]
        refine ih (k + 1) _ (by omega) ?_ a1.w gm_rw_s
        rw [← he]
        exact (rn_go (by omega) (by unfold isBl; simpa using q)).symm
  exact eX4_skipBlanks (loop (t - i) i μ (by omega) rfl A2.rfl hat)
/-- the padded word of the class is the word -/
theorem word_pad {i j w : Nat} (hw : w < 9) (hij : i ≤ j) (hl : ∀ k, i ≤ k → k < j → 97 ≤ x k ∧ x k ≤ 122) : ((∀ k, k < 5 → (if i + k < j then x (i + k) else 32) = wch w k) ∧ j - i ≤ 5) ↔ mtc x i j w = true := by
  obtain ⟨h5, hc⟩ := wsz_ok w hw
  rw [mtc_iff]
  constructor
  · rintro ⟨h1, h2⟩
    have e : j - i = wsz w := by
      rcases Nat.lt_trichotomy (j - i) (wsz w) with q | q | q
      · have h3 := h1 (j - i) (by omega)
        rw [if_neg (by omega)] at h3
        have := (hc (j - i) (by omega)).1 q
        omega
      · exact q
      · have h3 := h1 (wsz w) (by omega)
        rw [if_pos (by omega), (hc (wsz w) (by omega)).2 (by omega)] at h3
        have := hl (i + wsz w) (by omega) (by omega)
        omega
    refine ⟨e, fun k hk => ?_⟩
    have h3 := h1 k (by omega)
    rw [if_pos (by omega)] at h3
    exact h3
  · rintro ⟨h1, h2⟩
    refine ⟨fun k hk => ?_, by omega⟩
    by_cases q : k < wsz w
    · rw [if_pos (by omega)]; exact h2 k q
    · rw [if_neg (by omega), (hc k hk).2 q]
theorem c_isWord {P : Int32 → Mem → Prop} {i j w : Nat} (hT : TXC t x μ) (hj : j ≤ t) (hij : i ≤ j) (hw : w < 9) (hl : ∀ k, i ≤ k → k < j → 97 ≤ x k ∧ x k ≤ 122) (hat : gm_r μ 3 2 = nI i) (h : P (if mtc x i j w then 1 else 0) μ) : qX4_isWord G l (nI w) (nI j) μ P := by
  have ht := hT.2.1
  have no : ¬ mtc x i j w = true → P 0 μ := fun z => by rw [if_neg z] at h; exact h
  have loop : ∀ d k, k + d = 5 → (∀ k', k' < k → (if i + k' < j then x (i + k') else 32) = wch w k') → hX4_isWord_2 G l P (nI w) (nI j) (nI k) μ := by
    intro d
    induction d with
    | zero =>
      intro k hk ha
      have ek : k = 5 := by omega
      subst ek
      refine eX4_isWord_2 ⟨fun _ => ?_, fun q => absurd (Int32.le_refl _) q⟩
      rw [hat, pk_sub hij, show (5 : Int32) = nI 5 from rfl, nI_ltI (by decide) (by omega)]
      refine ⟨fun q => no (fun z => ?_), fun q => ?_⟩
      · have := ((word_pad hw hij hl).mpr z).2; omega
      · rw [if_pos ((word_pad hw hij hl).mp ⟨ha, by omega⟩)] at h; exact h
    | succ d ih =>
      intro k hk ha
      have hz : 5 * w + k < 45 := by omega
      obtain ⟨hc1, hc2⟩ := wcs_ok (5 * w + k) hz
      have e5 : nI w * (5 : Int32) + nI k = nI (5 * w + k) := by
        rw [show (5 : Int32) = nI 5 from rfl, pk_mul, nI_add, Nat.mul_comm]
      have step : (if i + k < j then x (i + k) else 32) = wch w k → hX4_isWord_2 G l P (nI w) (nI j) (nI (k + 1)) μ := fun z => ih (k + 1) (by omega) (fun k' hk' => by
        by_cases e : k' = k
        · subst e; exact z
        · exact ha k' (by omega))
      refine eX4_isWord_2 ⟨fun q => absurd q (by rw [show (5 : Int32) = nI 5 from rfl, nI_leI (by decide) (by omega)]; omega), fun _ => ?_⟩
      rw [hat, nI_add, e5, nI_leI (by omega) (by omega), nI_1]
      refine ⟨fun q => jc_charAt hz ?_, fun q => c_at hT (by omega) (jc_charAt hz ?_)⟩
      · rw [if_neg (by omega)] at step
        rw [hc1, show (32 : Int32) = nI 32 from rfl, nI_eq (by decide) (by omega)]
        refine ⟨fun z => step z, fun z => no (fun y => z ?_)⟩
        have := ((word_pad hw hij hl).mpr y).1 k (by omega)
        rw [if_neg (by omega)] at this
        exact this
      · rw [if_pos (by omega)] at step
        have hxk := (hT.2.2 (i + k) (by omega)).2
        rw [chr_in (by omega), hc1, nI_eq (by omega) (by omega)]
        refine ⟨fun z => step z, fun z => no (fun y => z ?_)⟩
        have := ((word_pad hw hij hl).mpr y).1 k (by omega)
        rw [if_pos (by omega)] at this
        exact this
  exact eX4_isWord (loop 5 0 (by omega) (fun k' hk' => absurd hk' (by omega)))
theorem lt_all {i : Nat} (hi : i ≤ t) : ∀ k, i ≤ k → k < we t x i → 97 ≤ x k ∧ x k ≤ 122 := fun k h1 h2 => by
  have := (rn_ok (p := isLt x) hi).2.2.2 k h1 h2
  unfold isLt at this
  simpa using this
theorem c_takeWord {P : Int32 → Mem → Prop} {i : Nat} (hT : TXC t x μ) (hi : i ≤ t) (hat : gm_r μ 3 2 = nI i) (h0 : wdF x i (we t x i) = 0 → P (-1) μ) (h1 : ∀ w, wdF x i (we t x i) = w + 1 → w < 9 → ∀ μ', A2 μ μ' → gm_r μ' 3 2 = nI (we t x i) → P (nI w) μ') : qX4_takeWord G l μ P := by
  have ht := hT.2.1
  have hw := rn_ok (t := t) (p := isLt x) hi
  have words : ∀ d w, w + d = 9 → wdf x i (we t x i) d w = wdF x i (we t x i) → hX4_takeWord_50 G l P (nI (we t x i)) (nI w) μ := by
    intro d
    induction d with
    | zero =>
      intro w hwd he
      refine eX4_takeWord_50 ⟨fun _ => h0 he.symm, fun q => absurd (by rw [show w = 9 by omega]; exact Int32.le_refl _) q⟩
    | succ d ih =>
      intro w hwd he
      refine eX4_takeWord_50 ⟨fun q => absurd q (by rw [show (9 : Int32) = nI 9 from rfl, nI_leI (by decide) (by omega)]; omega), fun _ => c_isWord hT hw.2.1 hw.1 (by omega) (lt_all hi) hat ?_⟩
      have es : wdf x i (we t x i) (d + 1) w = if mtc x i (we t x i) w = true then w + 1 else wdf x i (we t x i) d (w + 1) := rfl
      rw [nI_1]
      by_cases q : mtc x i (we t x i) w = true
      · rw [if_pos q] at es
        have q' : (if mtc x i (we t x i) w = true then (1 : Int32) else 0) = 1 := if_pos q
        rw [q']
        exact ⟨fun z => absurd z (by decide), fun _ => h1 w (he.symm.trans es) (by omega) _ A2.rfl.w gm_rw_s⟩
      · rw [if_neg q] at es
        have q' : (if mtc x i (we t x i) w = true then (1 : Int32) else 0) = 0 := if_neg q
        rw [q']
        exact ⟨fun _ => ih (w + 1) (by omega) (es.symm.trans he), fun z => absurd rfl z⟩
  have scan : ∀ d k, k + d = t → we t x k = we t x i → hX4_takeWord_5 G l P (nI k) μ := by
    intro d
    induction d with
    | zero =>
      intro k hk he
      have e1 : we t x k = k := rn_stop (by omega)
      refine eX4_takeWord_5 ?_
      rw [hT.1, nI_leI (by omega) (by omega)]
      refine ⟨fun _ => ?_, fun q => absurd (by omega) q⟩
      rw [← e1, he]
      exact words 9 0 (by omega) rfl
    | succ d ih =>
      intro k hk he
      have hx := (hT.2.2 k (by omega)).2
      have stop : ¬ (97 ≤ x k ∧ x k ≤ 122) → hX4_takeWord_50 G l P (nI k) (0 : Int32) μ := fun z => by
        have e1 : we t x k = k := rn_stop (fun y => z (by have := y.2; unfold isLt at this; simpa using this))
        have e2 : k = we t x i := by rw [← he, e1]
        rw [e2]
        exact words 9 0 (by omega) rfl
      refine eX4_takeWord_5 ?_
      rw [hT.1, nI_leI (by omega) (by omega)]
      refine ⟨fun q => by omega, fun _ => c_at hT (by omega) ?_⟩
      rw [chr_in (by omega), show (97 : Int32) = nI 97 from rfl, nI_ltI (by omega) (by decide)]
      refine ⟨fun q => stop (by omega), fun q => c_at hT (by omega) ?_⟩
      rw [chr_in (by omega), show (122 : Int32) = nI 122 from rfl, nI_ltI (by decide) (by omega), nI_1]
      refine ⟨fun q2 => stop (by omega), fun q2 => ih (k + 1) (by omega) ?_⟩
      rw [← he]
      exact (rn_go (by omega) (by unfold isLt; simp; omega)).symm
  refine eX4_takeWord ?_
  rw [hat]
  exact scan (t - i) i (by omega) rfl
end TXT
