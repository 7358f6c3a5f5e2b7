/-! the best WORTH of parts to come: numbers (0: none; v + 1) -/
def comb (x y : Nat) : Nat := if x = 0 ∨ y = 0 then 0 else x + y - 1
theorem comb_pos {x y : Nat} : 0 < comb x y ↔ 0 < x ∧ 0 < y := by
  unfold comb
  by_cases h : x = 0 ∨ y = 0
  · rw [if_pos h]; omega
  · rw [if_neg h]; omega
theorem comb_le {x y X Y : Nat} (hx : x ≤ X + 1) (hy : y ≤ Y) : comb x y ≤ X + Y + 1 := by
  unfold comb; split <;> omega
theorem comb_of {x y : Nat} (hx : 0 < x) (hy : 0 < y) : comb x y = x + y - 1 := by
  unfold comb; rw [if_neg (by omega)]
def mxv (val : Nat → Nat) : Nat → Nat | 0 => 0 | p + 1 => max (mxv val p) (val p)
theorem mxv_succ (val : Nat → Nat) (p : Nat) : mxv val (p + 1) = max (mxv val p) (val p) := rfl
theorem mxv_ge {val : Nat → Nat} {p : Nat} : ∀ {x : Nat}, p < x → val p ≤ mxv val x
  | 0, h => absurd h (Nat.not_lt_zero _)
  | x + 1, h => by
    rw [mxv_succ]
    by_cases e : p = x
    · subst e; omega
    · have := mxv_ge (val := val) (p := p) (x := x) (by omega); omega
theorem mxv_le {val : Nat → Nat} {M : Nat} : ∀ {x : Nat}, (∀ p, p < x → val p ≤ M) → mxv val x ≤ M
  | 0, _ => Nat.zero_le _
  | x + 1, h => by
    rw [mxv_succ]
    have h1 := mxv_le (val := val) (x := x) (fun p hp => h p (by omega))
    have h2 := h x (by omega)
    omega
theorem mxv_skip {val : Nat → Nat} {x : Nat} : ∀ d, (∀ p, x ≤ p → p < x + d → val p = 0) → mxv val (x + d) = mxv val x
  | 0, _ => rfl
  | d + 1, h => by
    rw [← Nat.add_assoc, mxv_succ, h (x + d) (by omega) (by omega), mxv_skip d (fun p h1 h2 => h p h1 (by omega))]
    omega
theorem mxv_skip' {val : Nat → Nat} {x y : Nat} (hxy : x ≤ y) (h : ∀ p, x ≤ p → p < y → val p = 0) : mxv val y = mxv val x := by
  have := mxv_skip (val := val) (x := x) (y - x) (fun p h1 h2 => h p h1 (by omega))
  rw [show x + (y - x) = y by omega] at this
  exact this
theorem mxv_ex {val : Nat → Nat} : ∀ {x : Nat}, 0 < mxv val x → ∃ p, p < x ∧ val p = mxv val x
  | 0, h => absurd h (Nat.not_lt_zero _)
  | x + 1, h => by
    rw [mxv_succ] at h ⊢
    by_cases e : mxv val x < val x
    · exact ⟨x, by omega, by omega⟩
    · have hm : max (mxv val x) (val x) = mxv val x := by omega
      rw [hm] at h ⊢
      obtain ⟨p, h1, h2⟩ := mxv_ex (val := val) h
      exact ⟨p, by omega, h2⟩
/-- p is the least that reaches M -/
def isF (val : Nat → Nat) (M p : Nat) : Prop := val p = M ∧ ∀ q, q < p → val q < M
theorem isF_eq {val : Nat → Nat} {M p q : Nat} (h1 : isF val M p) (h2 : isF val M q) : p = q := by
  rcases Nat.lt_trichotomy p q with h | h | h
  · have := h2.2 p h; have := h1.1; omega
  · exact h
  · have := h1.2 q h; have := h2.1; omega
section BS
variable (n : Nat) (c : Nat → Nat → Nat) (D N W : Nat → Nat) (pb w : Nat)
def bs : Nat → Nat → Nat
  | 0, a => if a = w then 1 else 0
  | j + 1, a => mxv (fun p => if p ≠ 0 ∧ sd p (sd w a) = 0 then comb (bs j (a ||| p)) (wo n c D N W (pb ||| a) p) else 0) 1024
def vl (j a p : Nat) : Nat := if p ≠ 0 ∧ sd p (sd w a) = 0 then comb (bs n c D N W pb w j (a ||| p)) (wo n c D N W (pb ||| a) p) else 0
/-- the same, the parts below x looked at -/
def bp : Nat → Nat → Nat → Nat
  | 0, a, _ => bs n c D N W pb w 0 a
  | j + 1, a, x => mxv (vl n c D N W pb w j a) x
end BS
section BST
variable {n : Nat} {c : Nat → Nat → Nat} {D N W : Nat → Nat} {pb w : Nat}
theorem bs_succ (j a : Nat) : bs n c D N W pb w (j + 1) a = mxv (vl n c D N W pb w j a) 1024 := rfl
theorem bp_top (a : Nat) : ∀ j, bp n c D N W pb w j a 1024 = bs n c D N W pb w j a
  | 0 => rfl
  | _ + 1 => rfl
theorem bs_le (hK : SK n c D) (hW : LK W) : ∀ j a, bs n c D N W pb w j a ≤ 400 * j + 1
  | 0, a => by unfold bs; split <;> omega
  | j + 1, a => by
    rw [bs_succ]
    refine mxv_le (fun p _ => ?_)
    unfold vl
    split
    · have h1 := bs_le hK hW j (a ||| p)
      have h2 := wo_le (N := N) hK hW (pb ||| a) p
      have := comb_le (X := 400 * j) (Y := 400) h1 h2
      omega
    · omega
theorem vl_pos {j a p : Nat} (h : 0 < vl n c D N W pb w j a p) : p ≠ 0 ∧ sd p (sd w a) = 0 ∧ 0 < bs n c D N W pb w j (a ||| p) ∧ 0 < wo n c D N W (pb ||| a) p := by
  unfold vl at h
  by_cases q : p ≠ 0 ∧ sd p (sd w a) = 0
  · rw [if_pos q] at h
    have := comb_pos.mp h
    exact ⟨q.1, q.2, this.1, this.2⟩
  · rw [if_neg q] at h; omega
theorem vl_of {j a p : Nat} (h0 : p ≠ 0) (h : sd p (sd w a) = 0) : vl n c D N W pb w j a p = comb (bs n c D N W pb w j (a ||| p)) (wo n c D N W (pb ||| a) p) := by
  unfold vl; rw [if_pos ⟨h0, h⟩]
theorem sb_sdr {a p w : Nat} (hp : p < 1024) (h : Sb p (sd w a)) : p &&& a = 0 := by
  apply Nat.eq_of_testBit_eq
  intro i
  rw [Nat.testBit_and, Nat.zero_testBit]
  by_cases q : p.testBit i = true
  · have h1 := h i q
    have hi : i < 10 := Nat.lt_of_not_le (fun z => by rw [hi_bit hp z] at q; exact absurd q (by decide))
    rw [sd_bit (by omega), Bool.and_eq_true] at h1
    have h2 : a.testBit i = false := by simpa using h1.2
    rw [h2, Bool.and_false]
  · rw [Bool.not_eq_true] at q
    rw [q, Bool.false_and]
theorem pc_dj {a p : Nat} (ha : a < 1024) (hp : p < 1024) (h : p &&& a = 0) : pc (a ||| p) = pc a + pc p := by
  have hap : a ||| p < 1024 := Nat.or_lt_two_pow (n := 10) ha hp
  have e : sd (a ||| p) a = p := by
    apply Nat.eq_of_testBit_eq
    intro i
    by_cases hi : i < 32
    · rw [sd_bit hi, Nat.testBit_or]
      have h2 : (p &&& a).testBit i = false := by rw [h]; exact Nat.zero_testBit i
      rw [Nat.testBit_and] at h2
      revert h2
      cases a.testBit i <;> cases p.testBit i <;> decide
    · rw [hi_bit hp (by omega), hi_bit (Nat.lt_of_le_of_lt (sd_le _ _) hap) (by omega)]
  have h1 := pcn_sd (s := a) (t := a ||| p) (fun i hi => by rw [Nat.testBit_or, hi]; rfl) 10 (by decide)
  rw [e] at h1
  show pcn (a ||| p) 10 = pcn a 10 + pcn p 10
  omega
/-- a SET with a nonempty part of the rest -/
theorem part_ok {a p w : Nat} (hw : w < 1024) (ha : Sb a w) (h0 : p ≠ 0) (h : Sb p (sd w a)) : Sb (a ||| p) w ∧ a < a ||| p ∧ pc (a ||| p) = pc a + pc p ∧ 0 < pc p ∧ p < 1024 ∧ p &&& a = 0 := by
  have hp : p < 1024 := Nat.lt_of_le_of_lt (Nat.le_trans (sb_le h) (sd_le w a)) hw
  have ha2 := Nat.lt_of_le_of_lt (sb_le ha) hw
  have hd := sb_sdr hp h
  have hpc := pc_dj ha2 hp hd
  have hpos : 0 < pc p := Nat.pos_of_ne_zero (fun z => h0 (pc_zero hp z))
  refine ⟨or_sb ha (sb_trans h sb_sdl), ?_, hpc, hpos, hp, hd⟩
  have h1 : a ≤ a ||| p := Nat.left_le_or
  refine Nat.lt_of_le_of_ne h1 (fun e => ?_)
  rw [← e] at hpc
  omega
theorem bs_z (a : Nat) : bs n c D N W pb w 0 a = if a = w then 1 else 0 := rfl
theorem bs_pc (hw : w < 1024) (j : Nat) : ∀ a, Sb a w → 0 < bs n c D N W pb w j a → pc a + j ≤ pc w := by
  induction j with
  | zero =>
    intro a ha h
    rw [bs_z] at h
    by_cases e : a = w
    · rw [e]; omega
    · rw [if_neg e] at h; omega
  | succ j ih =>
    intro a ha h
    rw [bs_succ] at h
    obtain ⟨p, hp, he⟩ := mxv_ex h
    rw [← he] at h
    obtain ⟨h0, h1, h2, h3⟩ := vl_pos h
    have hs : Sb p (sd w a) := (sd_zero hp).mp h1
    obtain ⟨q1, q2, q3, q4, _⟩ := part_ok hw ha h0 hs
    have := ih (a ||| p) q1 h2
    omega
theorem vl_far (hw : w < 1024) {j a p : Nat} (h : w < p) (hp : p < 1024) : vl n c D N W pb w j a p = 0 := by
  refine Nat.eq_zero_of_not_pos (fun z => ?_)
  have h1 := (vl_pos z).2.1
  have := sb_le ((sd_zero hp).mp h1)
  have := sd_le w a
  omega
end BST
theorem dI_dle {x y : Nat} (hx : x < 2 ^ 30) (hy : y < 2 ^ 30) : nI x - 1 ≤ nI y - 1 ↔ x ≤ y := by
  rw [Int32.le_iff_toInt_le, dI_toInt hx, dI_toInt hy]
  omega
theorem dI_dlt {x y : Nat} (hx : x < 2 ^ 30) (hy : y < 2 ^ 30) : nI x - 1 < nI y - 1 ↔ x < y := by
  rw [Int32.lt_iff_toInt_lt, dI_toInt hx, dI_toInt hy]
  omega
theorem dI_0le {x : Nat} (hx : x < 2 ^ 30) : 0 ≤ nI x - 1 ↔ 0 < x := by
  rw [Int32.le_iff_toInt_le, dI_toInt hx, show (0 : Int32).toInt = 0 from rfl]
  omega
theorem dI_add {x y : Nat} (hx : 0 < x) (hy : 0 < y) : (nI x - 1) + (nI y - 1) = nI (comb x y) - 1 := by
  obtain ⟨x', rfl⟩ : ∃ x', x = x' + 1 := ⟨x - 1, by omega⟩
  obtain ⟨y', rfl⟩ : ∃ y', y = y' + 1 := ⟨y - 1, by omega⟩
  rw [comb_of hx hy, show x' + 1 + (y' + 1) - 1 = (x' + y') + 1 by omega, nI_pred, nI_pred, nI_pred, nI_add]
theorem dI_eq {x y : Nat} (hx : x < 2 ^ 30) (hy : y < 2 ^ 30) : nI x - 1 = nI y - 1 ↔ x = y := by
  rw [← Int32.toInt_inj, dI_toInt hx, dI_toInt hy]
  omega
