/-! the subsets of a SET, in their order -/
def Sb (s l : Nat) : Prop := ∀ i, s.testBit i = true → l.testBit i = true
theorem sb_sd {s l : Nat} (hs : s < 1024) : Sb s l ↔ sd s l = 0 := (sd_zero hs).symm
theorem sb_half {s l : Nat} (h : Sb s l) : Sb (s / 2) (l / 2) := fun i hi => by
  rw [← Nat.testBit_succ] at hi ⊢
  exact h _ hi
theorem sb_and {s l : Nat} (h : Sb s l) : s &&& l = s := by
  apply Nat.eq_of_testBit_eq
  intro i
  rw [Nat.testBit_and]
  by_cases q : s.testBit i = true
  · rw [q, h i q]; rfl
  · rw [Bool.not_eq_true] at q
    rw [q]; rfl
theorem and_sb {s l : Nat} : Sb (s &&& l) l := fun i hi => by
  rw [Nat.testBit_and, Bool.and_eq_true] at hi
  exact hi.2
theorem sb_le {s l : Nat} (h : Sb s l) : s ≤ l := by
  rw [← sb_and h]
  exact Nat.and_le_right
theorem sb_zero {l : Nat} : Sb 0 l := fun i hi => by simp at hi
theorem sb_rfl {l : Nat} : Sb l l := fun _ h => h
theorem sb_trans {a b c : Nat} (h1 : Sb a b) (h2 : Sb b c) : Sb a c := fun i h => h2 i (h1 i h)
theorem sb_sdl {a b : Nat} : Sb (sd a b) a := fun i hi => by
  unfold sd at hi
  rw [Nat.testBit_and, Bool.and_eq_true] at hi
  exact hi.1
theorem dn_ge : ∀ x s l, Sb x l → Sb s l → s < x → s ≤ (x - 1) &&& l := by
  intro x
  induction x using Nat.strongRecOn with
  | _ x ih =>
    intro s l hx hs h
    have e2 : ((x - 1) &&& l) / 2 = (x - 1) / 2 &&& l / 2 := Nat.and_div_two
    by_cases q : x % 2 = 1
    · have e1 : (x - 1) / 2 = x / 2 := by omega
      rw [e1, sb_and (sb_half hx)] at e2
      omega
    · have e1 : (x - 1) / 2 = x / 2 - 1 := by omega
      rw [e1] at e2
      have b0 : s % 2 ≤ l % 2 := by
        have := hs 0
        rw [Nat.testBit_zero, Nat.testBit_zero, decide_eq_true_eq, decide_eq_true_eq] at this
        omega
      have b1 : ((x - 1) &&& l) % 2 = l % 2 := by
        have e3 : (((x - 1) &&& l) % 2 = 1 ↔ (x - 1) % 2 = 1 ∧ l % 2 = 1) := Nat.and_mod_two_eq_one
        have : (x - 1) % 2 = 1 := by omega
        omega
      have h2 : s / 2 ≤ x / 2 - 1 &&& l / 2 := by
        by_cases z : s / 2 < x / 2
        · exact ih (x / 2) (by omega) (s / 2) (l / 2) (sb_half hx) (sb_half hs) z
        · omega
      omega
def cnt (l : Nat) : Nat → Nat | 0 => 0 | x + 1 => cnt l x + (if sd x l = 0 then 1 else 0)
theorem cnt_succ (l x : Nat) : cnt l (x + 1) = cnt l x + (if sd x l = 0 then 1 else 0) := rfl
theorem cnt_const {l a : Nat} : ∀ d, (∀ y, a ≤ y → y < a + d → ¬ sd y l = 0) → cnt l (a + d) = cnt l a
  | 0, _ => rfl
  | d + 1, h => by
    rw [← Nat.add_assoc, cnt_succ, if_neg (h _ (by omega) (by omega)), cnt_const d (fun y h1 h2 => h y h1 (by omega))]
    rfl
theorem cnt_two {l w : Nat} (hw : w < 10) : ∀ y, y ≤ 2 ^ w → cnt l (2 ^ w + y) = cnt l (2 ^ w) + (if l.testBit w then cnt l y else 0)
  | 0, _ => by simp [cnt]
  | y + 1, h => by
    have ih := cnt_two (l := l) hw y (by omega)
    have h10 : 2 ^ w ≤ 512 := Nat.pow_le_pow_right (n := 2) (j := 9) (by decide) (by omega)
    have e : sd (2 ^ w + y) l = 0 ↔ (l.testBit w = true ∧ sd y l = 0) := by
      rw [← add_or (show y < 2 ^ w by omega), sd_zero (Nat.or_lt_two_pow (n := 10) (by omega) (by omega)), sd_zero (show y < 1024 by omega)]
      constructor
      · intro q
        refine ⟨q w (by rw [or_bit]; simp), fun i hi => q i (by rw [or_bit, hi]; rfl)⟩
      · rintro ⟨q1, q2⟩ i hi
        rw [or_bit, Bool.or_eq_true, decide_eq_true_eq] at hi
        rcases hi with hi | rfl
        · exact q2 i hi
        · exact q1
    rw [← Nat.add_assoc, cnt_succ, cnt_succ, ih]
    by_cases q1 : l.testBit w = true
    · rw [if_pos q1, if_pos q1]
      by_cases q2 : sd y l = 0
      · rw [if_pos (e.mpr ⟨q1, q2⟩), if_pos q2]; omega
      · rw [if_neg (fun z => q2 (e.mp z).2), if_neg q2]; omega
    · rw [if_neg q1, if_neg q1, if_neg (fun z => q1 (e.mp z).1)]
theorem cnt_pow {l : Nat} : ∀ w, w ≤ 10 → cnt l (2 ^ w) = 2 ^ pcn l w
  | 0, _ => by
    have : sd 0 l = 0 := by unfold sd; simp
    show 0 + (if sd 0 l = 0 then 1 else 0) = 1
    rw [if_pos this]
  | w + 1, h => by
    have ih := cnt_pow (l := l) w (by omega)
    rw [Nat.pow_succ, Nat.mul_two, cnt_two (by omega) _ (Nat.le_refl _), ih]
    show _ = 2 ^ (pcn l w + if l.testBit w then 1 else 0)
    by_cases q : l.testBit w = true
    · rw [if_pos q, if_pos q, Nat.pow_succ, Nat.mul_two]
    · rw [if_neg q, if_neg q]; rfl
theorem cnt_top {l : Nat} (hl : l < 1024) : cnt l l + 1 = 2 ^ pc l := by
  have h1 : cnt l 1024 = 2 ^ pc l := cnt_pow 10 (by decide)
  have h2 : cnt l (l + 1 + (1023 - l)) = cnt l (l + 1) := cnt_const _ (fun y h3 h4 q => by
    have := sb_le ((sd_zero (by omega)).mp q)
    omega)
  rw [show l + 1 + (1023 - l) = 1024 by omega, h1, cnt_succ, if_pos ((sd_zero hl).mpr sb_rfl)] at h2
  exact h2.symm
theorem cnt_mono {l a : Nat} : ∀ d, cnt l a ≤ cnt l (a + d)
  | 0 => Nat.le_refl _
  | d + 1 => by
    have := cnt_mono (l := l) (a := a) d
    rw [← Nat.add_assoc, cnt_succ]
    omega
theorem cnt_le {l s : Nat} (hl : l < 1024) (hs : s ≤ l) : cnt l s < 2 ^ pc l := by
  have := cnt_mono (l := l) (a := s) (l - s)
  rw [show s + (l - s) = l by omega] at this
  have := cnt_top hl
  omega
theorem pc2_le {l : Nat} : 2 ^ pc l ≤ 1024 := Nat.pow_le_pow_right (n := 2) (j := 10) (by decide) (pcn_le l 10)
/-- p' comes next behind p -/
def Nx (l p p' : Nat) : Prop := Sb p' l ∧ p < p' ∧ ∀ s, Sb s l → p < s → p' ≤ s
theorem Nx_cnt {l p p' : Nat} (hl : l < 1024) (hp : Sb p l) (h : Nx l p p') : cnt l p' = cnt l p + 1 := by
  have h1 := sb_le h.1
  have h2 : cnt l (p + 1 + (p' - (p + 1))) = cnt l (p + 1) := cnt_const _ (fun y h3 h4 q => by
    have h5 := h.2.2 y ((sd_zero (by have := h.2.1; omega)).mp q) (by omega)
    have := h.2.1
    omega)
  have := h.2.1
  rw [show p + 1 + (p' - (p + 1)) = p' by omega, cnt_succ, if_pos ((sd_zero (by omega)).mpr hp)] at h2
  exact h2
theorem or_add : ∀ x y : Nat, x &&& y = 0 → x ||| y = x + y := by
  intro x
  induction x using Nat.strongRecOn with
  | _ x ih =>
    intro y h
    by_cases h0 : x = 0
    · subst h0; simp
    · have h1 : (x &&& y) / 2 = x / 2 &&& y / 2 := Nat.and_div_two
      have h2 : (x ||| y) / 2 = x / 2 ||| y / 2 := Nat.or_div_two
      have h3 : (x &&& y) % 2 = 1 ↔ x % 2 = 1 ∧ y % 2 = 1 := Nat.and_mod_two_eq_one
      have h4 : (x ||| y) % 2 = 1 ↔ x % 2 = 1 ∨ y % 2 = 1 := Nat.or_mod_two_eq_one
      rw [h] at h1 h3
      have h5 := ih (x / 2) (by omega) (y / 2) h1.symm
      omega
theorem sb_sub {s l : Nat} (hl : l < 1024) (h : Sb s l) : sd l s = l - s ∧ Sb (l - s) l := by
  have h1 := sb_le h
  have e : sd l s + s = l := by
    have e1 : sd l s ||| s = l := by
      apply Nat.eq_of_testBit_eq
      intro i
      rw [Nat.testBit_or]
      by_cases hi : i < 32
      · rw [sd_bit hi]
        by_cases q : s.testBit i = true
        · rw [q, h i q]; rfl
        · rw [Bool.not_eq_true] at q
          rw [q]; simp
      · rw [hi_bit hl (by omega), hi_bit (by omega : s < 1024) (by omega)]
        rw [hi_bit (Nat.lt_of_le_of_lt (sd_le l s) hl) (by omega)]
        rfl
    have e2 : sd l s &&& s = 0 := by
      apply Nat.eq_of_testBit_eq
      intro i
      rw [Nat.testBit_and, Nat.zero_testBit]
      by_cases hi : i < 32
      · rw [sd_bit hi]
        by_cases q : s.testBit i = true
        · rw [q]; simp
        · rw [Bool.not_eq_true] at q
          rw [q]; simp
      · rw [hi_bit (by omega : s < 1024) (by omega)]
        simp
    rw [← or_add _ _ e2]
    exact e1
  have e4 : sd l s = l - s := by omega
  exact ⟨e4, e4 ▸ sb_sdl⟩
/-- the step upwards, in the machine's numbers -/
theorem up_step {p l : Nat} (hl : l < 1024) (hp : Sb p l) (hne : p ≠ l) : ∃ p', (nI p - nI l) &&& nI l = nI p' ∧ Nx l p p' := by
  have hpl := sb_le hp
  obtain ⟨q1, q2⟩ := sb_sub hl hp
  have hy : Sb ((l - p - 1) &&& l) l := and_sb
  have hy1 : ((l - p - 1) &&& l) ≤ l - p - 1 := Nat.and_le_left
  obtain ⟨y1, y2⟩ := sb_sub hl hy
  refine ⟨l - ((l - p - 1) &&& l), ?_, y2, by omega, fun s hs hps => ?_⟩
  · rw [← y1]
    have e1 : nI p - nI l = nI (2 ^ 32 - (l - p - 1 + 1)) := by
      unfold nI
      apply Int32.toBitVec_inj.mp
      apply BitVec.eq_of_toNat_eq
      simp
      omega
    rw [e1, nI_and]
    congr 1
    apply Nat.eq_of_testBit_eq
    intro i
    rw [Nat.testBit_and, Nat.testBit_two_pow_sub_succ (by omega)]
    by_cases hi : i < 10
    · rw [sd_bit (by omega), Nat.testBit_and]
      by_cases ql : l.testBit i = true
      · rw [ql, decide_eq_true (by omega)]; simp
      · rw [Bool.not_eq_true] at ql
        rw [ql]; simp
    · rw [hi_bit hl (by omega), hi_bit (Nat.lt_of_le_of_lt (sd_le l _) hl) (by omega)]
      simp
  · have h1 := sb_sub hl hs
    have h2 := dn_ge (l - p) (l - s) l q2 h1.2 (by have := sb_le hs; omega)
    have := sb_le hs
    omega
theorem up_last {l : Nat} (hl : l < 1024) : (nI l - nI l) &&& nI l = 0 := by
  rw [Int32.sub_self]
  show nI 0 &&& nI l = nI 0
  rw [nI_and, Nat.zero_and]
theorem asc {H : Nat → Prop} {l : Nat} (last : H l) (step : ∀ p p', Sb p l → p ≠ l → Nx l p p' → H p' → H p) (hl : l < 1024) : H 0 := by
  have : ∀ d p, p + d = l → Sb p l → H p := by
    intro d
    induction d using Nat.strongRecOn with
    | _ d ih =>
      intro p hd hp
      by_cases q : p = l
      · rw [q]; exact last
      · obtain ⟨p', _, hx⟩ := up_step hl hp q
        have := sb_le hx.1
        have := hx.2.1
        exact step p p' hp q hx (ih (l - p') (by omega) p' (by omega) hx.1)
  exact this l 0 (by omega) sb_zero
theorem desc {H : Nat → Prop} {l : Nat} (last : H 0) (step : ∀ x, Sb x l → 0 < x → Sb ((x - 1) &&& l) l → (x - 1) &&& l < x → (∀ s, Sb s l → s < x → s ≤ (x - 1) &&& l) → H ((x - 1) &&& l) → H x) : H l := by
  have : ∀ x, Sb x l → H x := by
    intro x
    induction x using Nat.strongRecOn with
    | _ x ih =>
      intro hx
      by_cases q : x = 0
      · rw [q]; exact last
      · have h1 : (x - 1) &&& l ≤ x - 1 := Nat.and_le_left
        exact step x hx (by omega) and_sb (by omega) (fun s hs h => dn_ge x s l hx hs h) (ih _ (by omega) and_sb)
  exact this l sb_rfl
theorem dn_I {x l : Nat} (h : 0 < x) : (nI x - (1 : Int32)) &&& nI l = nI ((x - 1) &&& l) := by
  rw [nI_one, pk_sub (by omega), nI_and]
theorem dn_cnt {x l : Nat} (hl : l < 1024) (hx : Sb x l) (h : 0 < x) : cnt l x = cnt l ((x - 1) &&& l) + 1 := by
  have h1 : (x - 1) &&& l ≤ x - 1 := Nat.and_le_left
  exact Nx_cnt hl and_sb ⟨hx, by omega, fun s hs h2 => Nat.le_of_not_lt (fun h3 => by have := dn_ge x s l hx hs h3; omega)⟩
theorem dn_wrap {l : Nat} : (nI 0 - (1 : Int32)) &&& nI l = nI l := by
  rw [show nI 0 - (1 : Int32) = (-1 : Int32) from rfl]
  exact Int32.neg_one_and
