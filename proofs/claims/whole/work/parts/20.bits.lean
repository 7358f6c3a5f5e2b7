/-! numbers: sets as Nat, their bits; what the machine's Int32 make of them -/
theorem down {H : Nat → Prop} {n : Nat} (h : H n) (hs : ∀ j, j < n → H (j + 1) → H j) : H 0 := by
  have h1 : ∀ m, m ≤ n → H (n - m) := by
    intro m
    induction m with
    | zero => intro _; exact h
    | succ m ih =>
      intro hm
      have h2 := ih (by omega)
      have h3 := hs (n - (m + 1)) (by omega)
      rw [show n - (m + 1) + 1 = n - m by omega] at h3
      exact h3 h2
  have h4 := h1 n (Nat.le_refl n)
  rwa [Nat.sub_self] at h4
theorem nI_and (a b : Nat) : nI a &&& nI b = nI (a &&& b) := by
  unfold nI
  apply Int32.toBitVec_inj.mp
  simp [Int32.toBitVec_and]
theorem nI_or (a b : Nat) : nI a ||| nI b = nI (a ||| b) := by
  unfold nI
  apply Int32.toBitVec_inj.mp
  simp [Int32.toBitVec_or]
theorem nI_xor (a b : Nat) : nI a ^^^ nI b = nI (a ^^^ b) := by
  unfold nI
  apply Int32.toBitVec_inj.mp
  simp [Int32.toBitVec_xor]
theorem nI_m1 : (-1 : Int32) = nI 4294967295 := by decide
/-- a without b -/
def sd (a b : Nat) : Nat := a &&& (b ^^^ 4294967295)
theorem nI_sd (a b : Nat) : nI a &&& (nI b ^^^ (-1 : Int32)) = nI (sd a b) := by rw [nI_m1, nI_xor, nI_and]; rfl
theorem sd_bit {a b k : Nat} (hk : k < 32) : (sd a b).testBit k = (a.testBit k && !b.testBit k) := by
  unfold sd
  rw [Nat.testBit_and, Nat.testBit_xor, show (4294967295 : Nat) = 2 ^ 32 - 1 from rfl, Nat.testBit_two_pow_sub_one]
  simp [hk]
theorem sd_le (a b : Nat) : sd a b ≤ a := Nat.and_le_left
theorem nI_mod31 {k : Nat} (hk : k < 32) : nI k &&& 31 = nI k := by
  have h : ∀ k : Nat, k < 32 → nI k &&& 31 = nI k := by decide +kernel
  exact h k hk
theorem nI_smod {k : Nat} (hk : k < 32) : ((nI k).toBitVec.smod 32).toNat = k := by
  have h : ∀ k : Nat, k < 32 → ((nI k).toBitVec.smod 32).toNat = k := by decide +kernel
  exact h k hk
theorem nI_shr {a k : Nat} (ha : a < 2 ^ 31) (hk : k < 32) : nI a >>> (nI k &&& 31) = nI (a / 2 ^ k) := by
  rw [nI_mod31 hk]
  exact pk_shrN ha (nI k) k (nI_smod hk)
theorem nI_shl {a k : Nat} (hk : k < 32) (h : a * 2 ^ k < 2 ^ 32) : nI a <<< (nI k &&& 31) = nI (a * 2 ^ k) := by
  rw [nI_mod31 hk]
  exact pk_shlN (nI k) k (nI_smod hk) h
theorem nI_one : (1 : Int32) = nI 1 := rfl
theorem nI_bit1 {k : Nat} (hk : k < 31) : (1 : Int32) <<< (nI k &&& 31) = nI (2 ^ k) := by
  rw [nI_one, nI_shl (by omega)]
  · rw [Nat.one_mul]
  · have : 2 ^ k < 2 ^ 32 := Nat.pow_lt_pow_right (by decide) (by omega)
    omega
theorem bit_val (a k : Nat) : a / 2 ^ k % 2 = if a.testBit k then 1 else 0 := by
  rw [Nat.testBit_eq_decide_div_mod_eq]
  rcases Nat.mod_two_eq_zero_or_one (a / 2 ^ k) with h | h <;> simp [h]
theorem nI_bit {a k : Nat} (ha : a < 2 ^ 31) (hk : k < 32) : (nI a >>> (nI k &&& 31)) &&& (1 : Int32) = if a.testBit k then 1 else 0 := by
  rw [nI_shr ha hk, nI_one, nI_and, Nat.and_one_is_mod, bit_val]
  split <;> rfl
theorem nI_has {a k : Nat} (ha : a < 2 ^ 31) (hk : k < 32) : ((nI a >>> (nI k &&& 31)) &&& (1 : Int32) = 1) ↔ a.testBit k = true := by
  rw [nI_bit ha hk]
  by_cases h : a.testBit k <;> simp [h]
theorem nI_has0 {a k : Nat} (ha : a < 2 ^ 31) (hk : k < 32) : ((nI a >>> (nI k &&& 31)) &&& (1 : Int32) = 0) ↔ a.testBit k = false := by
  rw [nI_bit ha hk]
  by_cases h : a.testBit k <;> simp [h]
theorem nI_z {a : Nat} (ha : a < 2 ^ 31) : nI a = 0 ↔ a = 0 := by
  have := nI_eq (a := a) (b := 0) ha (by decide)
  rwa [nI_0] at this
/-- how many of the bits below k -/
def pcn (a : Nat) : Nat → Nat | 0 => 0 | k + 1 => pcn a k + (if a.testBit k then 1 else 0)
def pc (a : Nat) : Nat := pcn a 10
theorem pcn_le (a : Nat) : ∀ k, pcn a k ≤ k
  | 0 => Nat.le_refl 0
  | k + 1 => by
    have := pcn_le a k
    unfold pcn
    split <;> omega
def un (c : Nat → Nat → Nat) (w s : Nat) : Nat → Nat | 0 => 0 | k + 1 => if s.testBit k then un c w s k ||| c k w else un c w s k
def sm (c : Nat → Nat → Nat) (w s : Nat) : Nat → Nat | 0 => 0 | k + 1 => if s.testBit k then sm c w s k + c k w else sm c w s k
def dd (D : Nat → Nat) (s : Nat) : Nat → Nat | 0 => 0 | k + 1 => if s.testBit k = true ∧ D k ≠ 0 then dd D s k ||| 2 ^ (D k - 1) else dd D s k
theorem un_bit (c : Nat → Nat → Nat) (w s i : Nat) : ∀ n, (un c w s n).testBit i = true ↔ ∃ k, k < n ∧ s.testBit k = true ∧ (c k w).testBit i = true
  | 0 => by simp [un]
  | n + 1 => by
    have ih := un_bit c w s i n
    unfold un
    by_cases h : s.testBit n
    · rw [if_pos h, Nat.testBit_or, Bool.or_eq_true, ih]
      constructor
      · rintro (⟨k, h1, h2⟩ | h1)
        · exact ⟨k, by omega, h2⟩
        · exact ⟨n, by omega, h, h1⟩
      · rintro ⟨k, h1, h2, h3⟩
        by_cases hk : k = n
        · subst hk; exact Or.inr h3
        · exact Or.inl ⟨k, by omega, h2, h3⟩
    · rw [if_neg h, ih]
      constructor
      · rintro ⟨k, h1, h2⟩
        exact ⟨k, by omega, h2⟩
      · rintro ⟨k, h1, h2, h3⟩
        have : k ≠ n := fun e => h (by rw [← e]; exact h2)
        exact ⟨k, by omega, h2, h3⟩
theorem dd_bit (D : Nat → Nat) (s i : Nat) : ∀ n, (dd D s n).testBit i = true ↔ ∃ k, k < n ∧ s.testBit k = true ∧ D k = i + 1
  | 0 => by simp [dd]
  | n + 1 => by
    have ih := dd_bit D s i n
    unfold dd
    by_cases h : s.testBit n = true ∧ D n ≠ 0
    · rw [if_pos h, Nat.testBit_or, Bool.or_eq_true, ih, Nat.testBit_two_pow]
      constructor
      · rintro (⟨k, h1, h2⟩ | h1)
        · exact ⟨k, by omega, h2⟩
        · exact ⟨n, by omega, h.1, by have := h.2; simp at h1; omega⟩
      · rintro ⟨k, h1, h2, h3⟩
        by_cases hk : k = n
        · subst hk; exact Or.inr (by simp; omega)
        · exact Or.inl ⟨k, by omega, h2, h3⟩
    · rw [if_neg h, ih]
      constructor
      · rintro ⟨k, h1, h2⟩
        exact ⟨k, by omega, h2⟩
      · rintro ⟨k, h1, h2, h3⟩
        have : k ≠ n := fun e => h ⟨by rw [← e]; exact h2, by rw [← e]; omega⟩
        exact ⟨k, by omega, h2, h3⟩
theorem un_lt {c : Nat → Nat → Nat} {w s m : Nat} : ∀ {n : Nat}, (∀ k, k < n → c k w < 2 ^ m) → un c w s n < 2 ^ m
  | 0, _ => Nat.two_pow_pos m
  | n + 1, h => by
    unfold un
    split
    · exact Nat.or_lt_two_pow (un_lt (fun k hk => h k (by omega))) (h n (by omega))
    · exact un_lt (fun k hk => h k (by omega))
theorem dd_lt {D : Nat → Nat} {s : Nat} : ∀ {n : Nat}, (∀ k, k < n → D k ≤ 8) → dd D s n < 2 ^ 8
  | 0, _ => Nat.two_pow_pos 8
  | n + 1, h => by
    unfold dd
    split
    · exact Nat.or_lt_two_pow (dd_lt (fun k hk => h k (by omega))) (Nat.pow_lt_pow_right (by decide) (by have := h n (by omega); omega))
    · exact dd_lt (fun k hk => h k (by omega))
theorem sm_le {c : Nat → Nat → Nat} {w s m : Nat} : ∀ {n : Nat}, (∀ k, k < n → c k w ≤ m) → sm c w s n ≤ n * m
  | 0, _ => by simp [sm]
  | n + 1, h => by
    have ih := sm_le (s := s) (n := n) (fun k hk => h k (by omega))
    have h1 := h n (by omega)
    unfold sm
    rw [Nat.succ_mul]
    split <;> omega
