/-! the class's table of ways and of the fewest open, as it grows -/
def fmn (g : Nat → Nat) : Nat → Nat | 0 => 1000000 | k + 1 => min (fmn g k) (g k)
theorem fmn_congr {g g' : Nat → Nat} : ∀ {n : Nat}, (∀ k, k < n → g k = g' k) → fmn g n = fmn g' n
  | 0, _ => rfl
  | n + 1, h => by
    have ih := fmn_congr (g := g) (g' := g') (n := n) (fun k hk => h k (by omega))
    unfold fmn
    rw [ih, h n (by omega)]
theorem fmn_one {g g' : Nat → Nat} {k0 : Nat} (h0 : 1000000 ≤ g k0) : ∀ {n : Nat}, k0 < n → (∀ k, k < n → k ≠ k0 → g' k = g k) → fmn g' n = min (fmn g n) (g' k0)
  | 0, h, _ => absurd h (Nat.not_lt_zero _)
  | n + 1, h, hk => by
    have hle : ∀ m, fmn g m ≤ 1000000 := fun m => by
      induction m with
      | zero => exact Nat.le_refl _
      | succ m ih => unfold fmn; omega
    unfold fmn
    by_cases e : k0 = n
    · subst e
      rw [fmn_congr (g := g') (g' := g) (fun k q => hk k (by omega) (by omega))]
      have := hle k0
      omega
    · rw [fmn_one h0 (n := n) (by omega) (fun k q => hk k (by omega)), hk n (by omega) (fun q => e q.symm)]
      omega
theorem fmn_le {g : Nat → Nat} : ∀ {n : Nat} (k : Nat), k < n → fmn g n ≤ g k
  | 0, k, h => absurd h (Nat.not_lt_zero k)
  | n + 1, k, h => by
    unfold fmn
    by_cases e : k = n
    · subst e; omega
    · have := fmn_le (g := g) (n := n) k (by omega)
      omega
theorem fmn_far {g : Nat → Nat} : ∀ {n : Nat}, (∀ k, k < n → 1000000 ≤ g k) → fmn g n = 1000000
  | 0, _ => rfl
  | n + 1, h => by
    have ih := fmn_far (g := g) (n := n) (fun k hk => h k (by omega))
    have := h n (by omega)
    unfold fmn
    omega
theorem fmn_at {g : Nat → Nat} : ∀ {n : Nat}, fmn g n < 1000000 → ∃ k, k < n ∧ fmn g n = g k
  | 0, h => absurd h (by simp [fmn])
  | n + 1, h => by
    unfold fmn at h ⊢
    by_cases q : g n < fmn g n
    · exact ⟨n, by omega, by omega⟩
    · obtain ⟨k, h1, h2⟩ := fmn_at (g := g) (n := n) (by omega)
      exact ⟨k, by omega, by omega⟩
def hh (A : Nat → Nat → Bool) (n : Nat) (O : Nat → Nat) : Nat → Nat → Nat | 0, t => O t | d + 1, t => max (fmn (fun k => if t.testBit k = true ∧ A (cl t k) k = true ∧ 0 < wy A n (cl t k) then hh A n O d (cl t k) else 1000000) n) (O t)
def hg (A : Nat → Nat → Bool) (n : Nat) (O : Nat → Nat) (t : Nat) : Nat := hh A n O (pc t) t
theorem hh_succ (A : Nat → Nat → Bool) (n : Nat) (O : Nat → Nat) (d t : Nat) : hh A n O (d + 1) t = max (fmn (fun k => if t.testBit k = true ∧ A (cl t k) k = true ∧ 0 < wy A n (cl t k) then hh A n O d (cl t k) else 1000000) n) (O t) := rfl
section FEW
variable {A : Nat → Nat → Bool} {n : Nat} {O : Nat → Nat}
/-- what has come to t once the SETS below S, and S with the SCENES below K, are handed on -/
def wyQ (A : Nat → Nat → Bool) (n S K t : Nat) : Nat := (if t = 0 then 1 else 0) + fsum (fun k => if t.testBit k = true ∧ A (cl t k) k = true ∧ (cl t k < S ∨ (cl t k = S ∧ k < K)) then wy A n (cl t k) else 0) n
def mnQ (A : Nat → Nat → Bool) (n : Nat) (O : Nat → Nat) (S K t : Nat) : Nat := fmn (fun k => if (t.testBit k = true ∧ A (cl t k) k = true ∧ 0 < wy A n (cl t k)) ∧ (cl t k < S ∨ (cl t k = S ∧ k < K)) then hg A n O (cl t k) else 1000000) n
theorem hg_zero : hg A n O 0 = O 0 := rfl
theorem hg_rec (hn : n ≤ 10) {t : Nat} (ht : t < 1024) (h0 : t ≠ 0) : hg A n O t = max (fmn (fun k => if t.testBit k = true ∧ A (cl t k) k = true ∧ 0 < wy A n (cl t k) then hg A n O (cl t k) else 1000000) n) (O t) := by
  have hp : pc t ≠ 0 := fun q => h0 (pc_zero ht q)
  unfold hg
  rw [show pc t = pc t - 1 + 1 by omega, hh_succ]
  congr 1
  apply fmn_congr
  intro k hk
  by_cases h : t.testBit k = true ∧ A (cl t k) k = true ∧ 0 < wy A n (cl t k)
  · rw [if_pos h, if_pos h]
    have := pc_cl ht (by omega) h.1
    rw [show pc t - 1 = pc (cl t k) by omega]
  · rw [if_neg h, if_neg h]
theorem wy_good (hn : n ≤ 10) (hA : ∀ s k, A s k = true → s.testBit k = false) {t : Nat} (ht : t < 1024) (h0 : t ≠ 0) : 0 < wy A n t ↔ ∃ k, k < n ∧ t.testBit k = true ∧ A (cl t k) k = true ∧ 0 < wy A n (cl t k) := by
  rw [wy_rec hn hA ht h0, fsum_pos]
  constructor
  · rintro ⟨k, h1, h2⟩
    by_cases h : t.testBit k = true ∧ A (cl t k) k = true
    · rw [if_pos h] at h2
      exact ⟨k, h1, h.1, h.2, h2⟩
    · rw [if_neg h] at h2; omega
  · rintro ⟨k, h1, h2, h3, h4⟩
    exact ⟨k, h1, by rw [if_pos ⟨h2, h3⟩]; exact h4⟩
theorem hg_le (hn : n ≤ 10) (hA : ∀ s k, A s k = true → s.testBit k = false) (hO : ∀ t, O t ≤ 10) : ∀ d t, t < 1024 → pc t = d → 0 < wy A n t → hg A n O t ≤ 10
  | 0, t, ht, hd, _ => by
    rw [pc_zero ht hd, hg_zero]
    exact hO 0
  | d + 1, t, ht, hd, hw => by
    have h0 : t ≠ 0 := fun q => by
      rw [q] at hd
      have : pc 0 = 0 := by decide
      omega
    obtain ⟨k, h1, h2, h3, h4⟩ := (wy_good hn hA ht h0).mp hw
    have ih := hg_le hn hA hO d (cl t k) (cl_lt1024 ht) (by have := pc_cl ht (show k < 10 by omega) h2; omega) h4
    rw [hg_rec hn ht h0]
    have := fmn_le (g := fun k => if t.testBit k = true ∧ A (cl t k) k = true ∧ 0 < wy A n (cl t k) then hg A n O (cl t k) else 1000000) (n := n) k h1
    simp only [h2, h3, h4, and_self, if_true] at this
    have hO := hO t
    omega
theorem wyQ_full (hn : n ≤ 10) (hA : ∀ s k, A s k = true → s.testBit k = false) {S K t : Nat} (ht : t < 1024) (hS : t ≤ S) : wyQ A n S K t = wy A n t := by
  unfold wyQ
  by_cases h0 : t = 0
  · subst h0
    rw [if_pos rfl, fsum_zero, wy_zero]
    intro k _
    rw [if_neg]
    rintro ⟨h, _⟩
    rw [Nat.zero_testBit] at h
    cases h
  · rw [if_neg h0, Nat.zero_add, wy_rec hn hA ht h0]
    apply fsum_congr
    intro k _
    by_cases h : t.testBit k = true ∧ A (cl t k) k = true
    · have := cl_lt ht h.1
      rw [if_pos ⟨h.1, h.2, Or.inl (by omega)⟩, if_pos h]
    · rw [if_neg (fun q => h ⟨q.1, q.2.1⟩), if_neg h]
theorem mnQ_full (hn : n ≤ 10) {S K t : Nat} (ht : t < 1024) (h0 : t ≠ 0) (hS : t ≤ S) : hg A n O t = max (mnQ A n O S K t) (O t) := by
  rw [hg_rec hn ht h0]
  congr 1
  unfold mnQ
  apply fmn_congr
  intro k _
  by_cases h : t.testBit k = true ∧ A (cl t k) k = true ∧ 0 < wy A n (cl t k)
  · have := cl_lt ht h.1
    rw [if_pos h, if_pos ⟨h, Or.inl (by omega)⟩]
  · rw [if_neg h, if_neg (fun q => h q.1)]
theorem wyQ_start (t : Nat) : wyQ A n 0 0 t = if t = 0 then 1 else 0 := by
  unfold wyQ
  rw [fsum_zero]
  · rfl
  · intro k _
    rw [if_neg]
    rintro ⟨_, _, h | h⟩ <;> omega
theorem wyQ_next (S t : Nat) : wyQ A n S n t = wyQ A n (S + 1) 0 t := by
  unfold wyQ
  congr 1
  apply fsum_congr
  intro k hk
  by_cases h : t.testBit k = true ∧ A (cl t k) k = true ∧ (cl t k < S ∨ (cl t k = S ∧ k < n))
  · rw [if_pos h, if_pos ⟨h.1, h.2.1, Or.inl (by omega)⟩]
  · rw [if_neg h, if_neg (fun q => h ⟨q.1, q.2.1, by omega⟩)]
theorem mnQ_next (S t : Nat) : mnQ A n O S n t = mnQ A n O (S + 1) 0 t := by
  unfold mnQ
  apply fmn_congr
  intro k hk
  by_cases h : (t.testBit k = true ∧ A (cl t k) k = true ∧ 0 < wy A n (cl t k)) ∧ (cl t k < S ∨ (cl t k = S ∧ k < n))
  · rw [if_pos h, if_pos ⟨h.1, Or.inl (by omega)⟩]
  · rw [if_neg h, if_neg (fun q => h ⟨q.1, by omega⟩)]
theorem wyQ_no {S K t : Nat} (ht : t < 1024) (h : ¬ (A S K = true ∧ t = S ||| 2 ^ K)) : wyQ A n S (K + 1) t = wyQ A n S K t := by
  unfold wyQ
  congr 1
  apply fsum_congr
  intro k hk
  by_cases h1 : t.testBit k = true ∧ A (cl t k) k = true ∧ (cl t k < S ∨ (cl t k = S ∧ k < K))
  · rw [if_pos h1, if_pos ⟨h1.1, h1.2.1, by omega⟩]
  · rw [if_neg h1, if_neg]
    rintro ⟨q1, q2, q3⟩
    by_cases e : cl t k = S ∧ k = K
    · obtain ⟨e1, e2⟩ := e
      subst e2
      exact h ⟨by rw [← e1]; exact q2, by rw [← e1, or_cl ht q1]⟩
    · exact h1 ⟨q1, q2, by omega⟩
theorem mnQ_no {S K t : Nat} (ht : t < 1024) (h : ¬ (A S K = true ∧ 0 < wy A n S ∧ t = S ||| 2 ^ K)) : mnQ A n O S (K + 1) t = mnQ A n O S K t := by
  unfold mnQ
  apply fmn_congr
  intro k hk
  by_cases h1 : (t.testBit k = true ∧ A (cl t k) k = true ∧ 0 < wy A n (cl t k)) ∧ (cl t k < S ∨ (cl t k = S ∧ k < K))
  · rw [if_pos h1, if_pos ⟨h1.1, by omega⟩]
  · rw [if_neg h1, if_neg]
    rintro ⟨⟨q1, q2, q4⟩, q3⟩
    by_cases e : cl t k = S ∧ k = K
    · obtain ⟨e1, e2⟩ := e
      subst e2
      exact h ⟨by rw [← e1]; exact q2, by rw [← e1]; exact q4, by rw [← e1, or_cl ht q1]⟩
    · exact h1 ⟨⟨q1, q2, q4⟩, by omega⟩
theorem wyQ_yes (hn : n ≤ 10) (hA : ∀ s k, A s k = true → s.testBit k = false) {S K : Nat} (hS : S < 1024) (hK : K < n) (h : A S K = true) : wyQ A n S (K + 1) (S ||| 2 ^ K) = wyQ A n S K (S ||| 2 ^ K) + wy A n S := by
  have hb := hA S K h
  have hc := cl_or hS (show K < 10 by omega) hb
  have hbt : (S ||| 2 ^ K).testBit K = true := by rw [or_bit]; simp
  have ht : S ||| 2 ^ K < 1024 := Nat.or_lt_two_pow (n := 10) hS (Nat.pow_lt_pow_right (by decide) (by omega))
  unfold wyQ
  rw [Nat.add_assoc]
  congr 1
  apply fsum_one (k0 := K) _ hK
  · intro k hk hne
    by_cases h1 : (S ||| 2 ^ K).testBit k = true ∧ A (cl (S ||| 2 ^ K) k) k = true ∧ (cl (S ||| 2 ^ K) k < S ∨ (cl (S ||| 2 ^ K) k = S ∧ k < K))
    · rw [if_pos h1, if_pos ⟨h1.1, h1.2.1, by omega⟩]
    · rw [if_neg h1, if_neg (fun q => h1 ⟨q.1, q.2.1, by omega⟩)]
  · rw [hc, if_pos ⟨hbt, h, Or.inr ⟨rfl, by omega⟩⟩, if_neg (fun q => by omega), Nat.zero_add]
theorem mnQ_yes (hn : n ≤ 10) (hA : ∀ s k, A s k = true → s.testBit k = false) {S K : Nat} (hS : S < 1024) (hK : K < n) (h : A S K = true) (hw : 0 < wy A n S) : mnQ A n O S (K + 1) (S ||| 2 ^ K) = min (mnQ A n O S K (S ||| 2 ^ K)) (hg A n O S) := by
  have hb := hA S K h
  have hc := cl_or hS (show K < 10 by omega) hb
  have hbt : (S ||| 2 ^ K).testBit K = true := by rw [or_bit]; simp
  have ht : S ||| 2 ^ K < 1024 := Nat.or_lt_two_pow (n := 10) hS (Nat.pow_lt_pow_right (by decide) (by omega))
  unfold mnQ
  rw [fmn_one (k0 := K) (g := fun k => if ((S ||| 2 ^ K).testBit k = true ∧ A (cl (S ||| 2 ^ K) k) k = true ∧ 0 < wy A n (cl (S ||| 2 ^ K) k)) ∧ (cl (S ||| 2 ^ K) k < S ∨ (cl (S ||| 2 ^ K) k = S ∧ k < K)) then hg A n O (cl (S ||| 2 ^ K) k) else 1000000) _ hK]
  · congr 1
    rw [hc, if_pos ⟨⟨hbt, h, hw⟩, Or.inr ⟨rfl, by omega⟩⟩]
  · intro k hk hne
    by_cases h1 : ((S ||| 2 ^ K).testBit k = true ∧ A (cl (S ||| 2 ^ K) k) k = true ∧ 0 < wy A n (cl (S ||| 2 ^ K) k)) ∧ (cl (S ||| 2 ^ K) k < S ∨ (cl (S ||| 2 ^ K) k = S ∧ k < K))
    · rw [if_pos h1, if_pos ⟨h1.1, by omega⟩]
    · rw [if_neg h1, if_neg (fun q => h1 ⟨q.1, by omega⟩)]
  · rw [hc, if_neg (fun q => by omega)]
    exact Nat.le_refl _
theorem wyQ_le (hn : n ≤ 10) (hA : ∀ s k, A s k = true → s.testBit k = false) {S K t : Nat} (ht : t < 1024) : wyQ A n S K t ≤ 3628800 := by
  by_cases h0 : t = 0
  · rw [wyQ_full hn hA ht (by omega)]
    exact wy_le hn hA t
  · have h1 : wyQ A n S K t ≤ wy A n t := by
      unfold wyQ
      rw [if_neg h0, Nat.zero_add, wy_rec hn hA ht h0]
      have mono : ∀ m, ∀ g g' : Nat → Nat, (∀ k, g k ≤ g' k) → fsum g m ≤ fsum g' m := fun m => by
        induction m with
        | zero => intro _ _ _; exact Nat.le_refl _
        | succ m ih =>
          intro g g' h
          have := ih g g' h
          have := h m
          unfold fsum
          omega
      apply mono
      intro k
      by_cases h : t.testBit k = true ∧ A (cl t k) k = true ∧ (cl t k < S ∨ (cl t k = S ∧ k < K))
      · rw [if_pos h, if_pos ⟨h.1, h.2.1⟩]; exact Nat.le_refl _
      · rw [if_neg h]; exact Nat.zero_le _
    exact Nat.le_trans h1 (wy_le hn hA t)
theorem mnQ_wyQ (hn : n ≤ 10) (hA : ∀ s k, A s k = true → s.testBit k = false) (hO : ∀ t, O t ≤ 10) {S K t : Nat} (ht : t < 1024) (h0 : t ≠ 0) : (wyQ A n S K t = 0 → mnQ A n O S K t = 1000000) ∧ (wyQ A n S K t ≠ 0 → mnQ A n O S K t ≤ 10) := by
  constructor
  · intro h
    unfold mnQ
    apply fmn_far
    intro k hk
    by_cases h1 : (t.testBit k = true ∧ A (cl t k) k = true ∧ 0 < wy A n (cl t k)) ∧ (cl t k < S ∨ (cl t k = S ∧ k < K))
    · exfalso
      unfold wyQ at h
      have : 0 < fsum (fun k => if t.testBit k = true ∧ A (cl t k) k = true ∧ (cl t k < S ∨ (cl t k = S ∧ k < K)) then wy A n (cl t k) else 0) n := fsum_pos.mpr ⟨k, hk, by rw [if_pos ⟨h1.1.1, h1.1.2.1, h1.2⟩]; exact h1.1.2.2⟩
      omega
    · rw [if_neg h1]
      exact Nat.le_refl _
  · intro h
    unfold wyQ at h
    rw [if_neg h0, Nat.zero_add] at h
    obtain ⟨k, hk, h1⟩ := fsum_pos.mp (Nat.pos_of_ne_zero h)
    by_cases h2 : t.testBit k = true ∧ A (cl t k) k = true ∧ (cl t k < S ∨ (cl t k = S ∧ k < K))
    · rw [if_pos h2] at h1
      unfold mnQ
      refine Nat.le_trans (fmn_le k hk) ?_
      rw [if_pos ⟨⟨h2.1, h2.2.1, h1⟩, h2.2.2⟩]
      exact hg_le hn hA hO _ _ (cl_lt1024 ht) rfl h1
    · rw [if_neg h2] at h1
      omega
end FEW
