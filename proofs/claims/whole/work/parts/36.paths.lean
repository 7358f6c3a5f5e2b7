/-! ways from SET to SET: A s k says that k may come behind s -/
def fsum (g : Nat → Nat) : Nat → Nat | 0 => 0 | k + 1 => fsum g k + g k
theorem fsum_congr {g g' : Nat → Nat} : ∀ {n : Nat}, (∀ k, k < n → g k = g' k) → fsum g n = fsum g' n
  | 0, _ => rfl
  | n + 1, h => by
    have ih := fsum_congr (g := g) (g' := g') (n := n) (fun k hk => h k (by omega))
    unfold fsum
    rw [ih, h n (by omega)]
theorem fsum_zero {g : Nat → Nat} : ∀ {n : Nat}, (∀ k, k < n → g k = 0) → fsum g n = 0
  | 0, _ => rfl
  | n + 1, h => by
    unfold fsum
    rw [fsum_zero (n := n) (fun k hk => h k (by omega)), h n (by omega)]
theorem fsum_add (g g' : Nat → Nat) : ∀ n, fsum (fun k => g k + g' k) n = fsum g n + fsum g' n
  | 0 => rfl
  | n + 1 => by
    unfold fsum
    rw [fsum_add g g' n]
    omega
theorem fsum_swap (g : Nat → Nat → Nat) (n : Nat) : ∀ m, fsum (fun k => fsum (fun j => g k j) n) m = fsum (fun j => fsum (fun k => g k j) m) n
  | 0 => (fsum_zero (fun _ _ => rfl)).symm
  | m + 1 => by
    have ih := fsum_swap g n m
    have e : fsum (fun j => fsum (fun k => g k j) (m + 1)) n = fsum (fun j => fsum (fun k => g k j) m + g m j) n := rfl
    rw [e, fsum_add, ← ih]
    rfl
theorem fsum_one {g g' : Nat → Nat} {x k0 : Nat} (h0 : g' k0 = g k0 + x) : ∀ {n : Nat}, k0 < n → (∀ k, k < n → k ≠ k0 → g' k = g k) → fsum g' n = fsum g n + x
  | 0, h, _ => absurd h (Nat.not_lt_zero _)
  | n + 1, h, hk => by
    unfold fsum
    by_cases e : k0 = n
    · subst e
      rw [fsum_congr (g := g') (g' := g) (fun k q => hk k (by omega) (by omega)), h0]
      omega
    · rw [fsum_one h0 (n := n) (by omega) (fun k q => hk k (by omega)), hk n (by omega) (fun q => e q.symm)]
      omega
theorem fsum_pos {g : Nat → Nat} : ∀ {n : Nat}, 0 < fsum g n ↔ ∃ k, k < n ∧ 0 < g k
  | 0 => by simp [fsum]
  | n + 1 => by
    have ih := fsum_pos (g := g) (n := n)
    unfold fsum
    constructor
    · intro h
      by_cases q : 0 < fsum g n
      · obtain ⟨k, h1, h2⟩ := ih.mp q
        exact ⟨k, by omega, h2⟩
      · exact ⟨n, by omega, by omega⟩
    · rintro ⟨k, h1, h2⟩
      by_cases q : k = n
      · subst q; omega
      · have := ih.mpr ⟨k, by omega, h2⟩
        omega
theorem fsum_pc {g : Nat → Nat} {t M : Nat} : ∀ {n : Nat}, (∀ k, k < n → 0 < g k → t.testBit k = true ∧ g k ≤ M) → fsum g n ≤ pcn t n * M
  | 0, _ => by simp [fsum]
  | n + 1, h => by
    have ih := fsum_pc (g := g) (t := t) (M := M) (n := n) (fun k hk => h k (by omega))
    have e : pcn t (n + 1) = pcn t n + (if t.testBit n then 1 else 0) := rfl
    unfold fsum
    rw [e, Nat.add_mul]
    by_cases q : 0 < g n
    · obtain ⟨h1, h2⟩ := h n (by omega) q
      rw [h1, if_pos rfl, Nat.one_mul]
      omega
    · have : g n = 0 := by omega
      rw [this]
      exact Nat.le_trans (by omega) (Nat.le_add_right _ _)
/-- t without k -/
def cl (t k : Nat) : Nat := sd t (2 ^ k)
theorem hi_bit {t i : Nat} (ht : t < 1024) (hi : 10 ≤ i) : t.testBit i = false := Nat.testBit_lt_two_pow (Nat.lt_of_lt_of_le ht (show 2 ^ 10 ≤ 2 ^ i from Nat.pow_le_pow_right (by decide) hi))
theorem cl_bit {t k i : Nat} (ht : t < 1024) : (cl t k).testBit i = (t.testBit i && !decide (i = k)) := by
  unfold cl
  by_cases h : i < 32
  · rw [sd_bit h, Nat.testBit_two_pow]
    by_cases e : i = k
    · simp [e]
    · have : ¬ k = i := fun q => e q.symm
      simp [e, this]
  · rw [hi_bit ht (by omega), hi_bit (Nat.lt_of_le_of_lt (sd_le _ _) ht) (by omega)]
    simp
theorem cl_lt1024 {t k : Nat} (ht : t < 1024) : cl t k < 1024 := Nat.lt_of_le_of_lt (sd_le _ _) ht
theorem or_bit {s k i : Nat} : (s ||| 2 ^ k).testBit i = (s.testBit i || decide (i = k)) := by
  rw [Nat.testBit_or, Nat.testBit_two_pow]
  by_cases e : i = k
  · simp [e]
  · have : ¬ k = i := fun q => e q.symm
    simp [e, this]
theorem cl_or {s k : Nat} (hs : s < 1024) (hk : k < 10) (hb : s.testBit k = false) : cl (s ||| 2 ^ k) k = s := by
  have h1 : s ||| 2 ^ k < 1024 := Nat.or_lt_two_pow (n := 10) hs (Nat.pow_lt_pow_right (by decide) hk)
  apply Nat.eq_of_testBit_eq
  intro i
  rw [cl_bit h1, or_bit]
  by_cases e : i = k
  · simp [e, hb]
  · simp [e]
theorem or_cl {t k : Nat} (ht : t < 1024) (hb : t.testBit k = true) : cl t k ||| 2 ^ k = t := by
  apply Nat.eq_of_testBit_eq
  intro i
  rw [or_bit, cl_bit ht]
  by_cases e : i = k
  · simp [e, hb]
  · simp [e]
theorem cl_bk {t k : Nat} (ht : t < 1024) : (cl t k).testBit k = false := by rw [cl_bit ht]; simp
theorem lt_or {s k : Nat} (hb : s.testBit k = false) : s < s ||| 2 ^ k := by
  have h1 : s ≤ s ||| 2 ^ k := Nat.left_le_or
  have h2 : s ≠ s ||| 2 ^ k := fun q => by
    have := congrArg (fun x => x.testBit k) q
    simp [or_bit, hb] at this
  omega
theorem cl_lt {t k : Nat} (ht : t < 1024) (hb : t.testBit k = true) : cl t k < t := by
  have := lt_or (cl_bk (k := k) ht)
  rwa [or_cl ht hb] at this
theorem or_lt {n s k : Nat} (hs : s < 2 ^ n) (hk : k < n) : s ||| 2 ^ k < 2 ^ n := Nat.or_lt_two_pow hs (Nat.pow_lt_pow_right (by decide) hk)
theorem pc_cl {t k : Nat} (ht : t < 1024) (hk : k < 10) (hb : t.testBit k = true) : pc t = pc (cl t k) + 1 := by
  have := pc_or (a := cl t k) hk (cl_bk ht)
  rwa [or_cl ht hb] at this
theorem pcn_mono (t : Nat) {a b : Nat} (h : a ≤ b) : pcn t a ≤ pcn t b := by
  induction b with
  | zero => rw [show a = 0 by omega]; exact Nat.le_refl _
  | succ b ih =>
    by_cases e : a = b + 1
    · rw [e]; exact Nat.le_refl _
    · exact Nat.le_trans (ih (by omega)) (Nat.le_add_right _ _)
theorem pc_pos {t k : Nat} (hk : k < 10) (hb : t.testBit k = true) : 0 < pc t := by
  have h1 : pcn t (k + 1) ≤ pcn t 10 := pcn_mono t (by omega)
  have h2 : pcn t (k + 1) = pcn t k + (if t.testBit k then 1 else 0) := rfl
  rw [hb, if_pos rfl] at h2
  show 0 < pcn t 10
  omega
theorem pc_zero {t : Nat} (ht : t < 1024) (h : pc t = 0) : t = 0 := by
  apply Nat.eq_of_testBit_eq
  intro i
  rw [Nat.zero_testBit]
  by_cases hi : i < 10
  · cases q : t.testBit i
    · rfl
    · have := pc_pos hi q
      omega
  · exact hi_bit ht (by omega)
theorem pcn_sd {s t : Nat} (hs : ∀ i, s.testBit i = true → t.testBit i = true) : ∀ k, k ≤ 32 → pcn (sd t s) k + pcn s k = pcn t k
  | 0, _ => rfl
  | k + 1, h => by
    have ih := pcn_sd hs k (by omega)
    have e1 : pcn (sd t s) (k + 1) = pcn (sd t s) k + (if (sd t s).testBit k then 1 else 0) := rfl
    have e2 : pcn s (k + 1) = pcn s k + (if s.testBit k then 1 else 0) := rfl
    have e3 : pcn t (k + 1) = pcn t k + (if t.testBit k then 1 else 0) := rfl
    rw [e1, e2, e3, sd_bit (by omega)]
    have := hs k
    cases h1 : s.testBit k <;> cases h2 : t.testBit k <;> simp [h1, h2] at this ⊢ <;> omega
/-- ways of d steps from s to t -/
def pf (A : Nat → Nat → Bool) (n : Nat) : Nat → Nat → Nat → Nat | 0, s, t => if s = t then 1 else 0 | d + 1, s, t => fsum (fun k => if A s k then pf A n d (s ||| 2 ^ k) t else 0) n
def fct : Nat → Nat | 0 => 1 | d + 1 => (d + 1) * fct d
section PATHS
variable {A : Nat → Nat → Bool} {n : Nat}
theorem pf_succ (d s t : Nat) : pf A n (d + 1) s t = fsum (fun k => if A s k then pf A n d (s ||| 2 ^ k) t else 0) n := rfl
theorem pf_sub : ∀ d s t, 0 < pf A n d s t → ∀ i, s.testBit i = true → t.testBit i = true
  | 0, s, t, h, i, hi => by
    unfold pf at h
    by_cases e : s = t
    · rw [← e]; exact hi
    · rw [if_neg e] at h; omega
  | d + 1, s, t, h, i, hi => by
    rw [pf_succ, fsum_pos] at h
    obtain ⟨k, _, h2⟩ := h
    by_cases e : A s k
    · rw [if_pos e] at h2
      exact pf_sub d _ t h2 i (by rw [or_bit, hi]; rfl)
    · rw [if_neg e] at h2; omega
theorem pf_pc (hn : n ≤ 10) (hA : ∀ s k, A s k = true → s.testBit k = false) : ∀ d s t, 0 < pf A n d s t → pc t = pc s + d
  | 0, s, t, h => by
    unfold pf at h
    by_cases e : s = t
    · rw [e]; rfl
    · rw [if_neg e] at h; omega
  | d + 1, s, t, h => by
    rw [pf_succ, fsum_pos] at h
    obtain ⟨k, h1, h2⟩ := h
    by_cases e : A s k
    · rw [if_pos e] at h2
      have := pf_pc hn hA d _ t h2
      rw [pc_or (by omega) (hA s k e)] at this
      omega
    · rw [if_neg e] at h2; omega
theorem pf_le (hn : n ≤ 10) (hA : ∀ s k, A s k = true → s.testBit k = false) : ∀ d s t, pf A n d s t ≤ fct d
  | 0, s, t => by unfold pf fct; split <;> omega
  | d + 1, s, t => by
    by_cases h : 0 < pf A n (d + 1) s t
    · have h1 := pf_pc hn hA (d + 1) s t h
      have h2 := pf_sub (d + 1) s t h
      have h3 : pcn (sd t s) 10 + pcn s 10 = pcn t 10 := pcn_sd h2 10 (by omega)
      have h4 : pc (sd t s) = d + 1 := by
        show pcn (sd t s) 10 = d + 1
        have e1 : pc t = pcn t 10 := rfl
        have e2 : pc s = pcn s 10 := rfl
        omega
      rw [pf_succ]
      have h5 : fsum (fun k => if A s k then pf A n d (s ||| 2 ^ k) t else 0) n ≤ pcn (sd t s) n * fct d := by
        apply fsum_pc
        intro k hk hp
        by_cases e : A s k
        · rw [if_pos e] at hp ⊢
          refine ⟨?_, pf_le hn hA d _ t⟩
          have := pf_sub d _ t hp k (by rw [or_bit]; simp)
          rw [sd_bit (by omega), this, hA s k e]
          rfl
        · rw [if_neg e] at hp; omega
      have h6 : pcn (sd t s) n ≤ d + 1 := by rw [← h4]; exact pcn_mono _ hn
      exact Nat.le_trans h5 (Nat.mul_le_mul_right _ h6)
    · exact Nat.le_trans (Nat.not_lt.mp h) (Nat.zero_le _)
theorem fct_le : ∀ d, d ≤ 10 → fct d ≤ 3628800 := by decide
theorem fct10 {d : Nat} (hd : d ≤ 10) : fct d ≤ 3628800 := fct_le d hd
theorem pf_last (hn : n ≤ 10) (hA : ∀ s k, A s k = true → s.testBit k = false) {t : Nat} (ht : t < 1024) : ∀ d s, s < 1024 → pf A n (d + 1) s t = fsum (fun k => if t.testBit k = true ∧ A (cl t k) k = true then pf A n d s (cl t k) else 0) n
  | 0, s, hs => by
    rw [pf_succ]
    apply fsum_congr
    intro k hk
    by_cases h1 : A s k = true ∧ s ||| 2 ^ k = t
    · obtain ⟨h1, h2⟩ := h1
      have h3 := cl_or hs (by omega) (hA s k h1)
      rw [h2] at h3
      rw [if_pos h1, if_pos ⟨by rw [← h2, or_bit]; simp, by rw [h3]; exact h1⟩, h3, h2]
      unfold pf
      rw [if_pos rfl, if_pos rfl]
    · have e1 : (if A s k = true then pf A n 0 (s ||| 2 ^ k) t else 0) = 0 := by
        by_cases h2 : A s k = true
        · rw [if_pos h2]
          unfold pf
          rw [if_neg (fun q => h1 ⟨h2, q⟩)]
        · rw [if_neg h2]
      rw [e1]
      by_cases h2 : t.testBit k = true ∧ A (cl t k) k = true
      · rw [if_pos h2]
        unfold pf
        rw [if_neg (fun q => h1 ⟨by rw [q]; exact h2.2, by rw [q]; exact or_cl ht h2.1⟩)]
      · rw [if_neg h2]
  | d + 1, s, hs => by
    rw [pf_succ]
    have e1 : ∀ k, k < n → (if A s k = true then pf A n (d + 1) (s ||| 2 ^ k) t else 0) = fsum (fun j => if A s k = true then (if t.testBit j = true ∧ A (cl t j) j = true then pf A n d (s ||| 2 ^ k) (cl t j) else 0) else 0) n := fun k hk => by
      by_cases h : A s k = true
      · rw [if_pos h, pf_last hn hA ht d (s ||| 2 ^ k) (Nat.or_lt_two_pow (n := 10) hs (Nat.pow_lt_pow_right (by decide) (by omega)))]
        apply fsum_congr
        intro j _
        rw [if_pos h]
      · rw [if_neg h]
        symm
        apply fsum_zero
        intro j _
        rw [if_neg h]
    rw [fsum_congr e1, fsum_swap]
    apply fsum_congr
    intro j hj
    by_cases h : t.testBit j = true ∧ A (cl t j) j = true
    · rw [if_pos h, pf_succ]
      apply fsum_congr
      intro k _
      by_cases h2 : A s k = true
      · rw [if_pos h2, if_pos h2, if_pos h]
      · rw [if_neg h2, if_neg h2]
    · rw [if_neg h]
      apply fsum_zero
      intro k _
      by_cases h2 : A s k = true
      · rw [if_pos h2, if_neg h]
      · rw [if_neg h2]
/-- ORDERS of t -/
def wy (A : Nat → Nat → Bool) (n t : Nat) : Nat := pf A n (pc t) 0 t
/-- ways from s on to w -/
def en (A : Nat → Nat → Bool) (n w s : Nat) : Nat := if sd s w = 0 then pf A n (pc w - pc s) s w else 0
theorem wy_zero : wy A n 0 = 1 := rfl
theorem wy_rec (hn : n ≤ 10) (hA : ∀ s k, A s k = true → s.testBit k = false) {t : Nat} (ht : t < 1024) (h0 : t ≠ 0) : wy A n t = fsum (fun k => if t.testBit k = true ∧ A (cl t k) k = true then wy A n (cl t k) else 0) n := by
  have hp : pc t ≠ 0 := fun q => h0 (pc_zero ht q)
  unfold wy
  rw [show pc t = pc t - 1 + 1 by omega, pf_last hn hA ht (pc t - 1) 0 (by decide)]
  apply fsum_congr
  intro k hk
  by_cases h : t.testBit k = true ∧ A (cl t k) k = true
  · rw [if_pos h, if_pos h]
    have := pc_cl ht (by omega) h.1
    rw [show pc t - 1 = pc (cl t k) by omega]
  · rw [if_neg h, if_neg h]
theorem wy_le (hn : n ≤ 10) (hA : ∀ s k, A s k = true → s.testBit k = false) (t : Nat) : wy A n t ≤ 3628800 := Nat.le_trans (pf_le hn hA _ _ _) (fct10 (pcn_le t 10))
theorem sd_zero {s w : Nat} (hs : s < 1024) : sd s w = 0 ↔ ∀ i, s.testBit i = true → w.testBit i = true := by
  constructor
  · intro h i hi
    by_cases h32 : i < 32
    · have := congrArg (fun x => x.testBit i) h
      simp only [sd_bit h32, hi, Nat.zero_testBit] at this
      simpa using this
    · rw [hi_bit hs (by omega)] at hi
      cases hi
  · intro h
    apply Nat.eq_of_testBit_eq
    intro i
    rw [Nat.zero_testBit]
    by_cases h32 : i < 32
    · rw [sd_bit h32]
      have := h i
      cases h1 : s.testBit i <;> simp [h1] at this ⊢
      exact this
    · exact hi_bit (Nat.lt_of_le_of_lt (sd_le _ _) hs) (by omega)
theorem en_le (hn : n ≤ 10) (hA : ∀ s k, A s k = true → s.testBit k = false) (w s : Nat) : en A n w s ≤ 3628800 := by
  unfold en
  split
  · exact Nat.le_trans (pf_le hn hA _ _ _) (fct10 (Nat.le_trans (Nat.sub_le _ _) (pcn_le w 10)))
  · exact Nat.zero_le _
theorem en_out {w s : Nat} (h : ¬ sd s w = 0) : en A n w s = 0 := if_neg h
theorem en_self {w : Nat} (hw : w < 1024) : en A n w w = 1 := by
  unfold en
  rw [if_pos ((sd_zero hw).mpr (fun _ h => h)), Nat.sub_self]
  unfold pf
  rw [if_pos rfl]
theorem en_zero {w : Nat} : en A n w 0 = wy A n w := by
  unfold en wy
  rw [if_pos ((sd_zero (by decide)).mpr (fun i h => by simp at h))]
  rfl
theorem en_rec (hn : n ≤ 10) (hA : ∀ s k, A s k = true → s.testBit k = false) {w s : Nat} (hw : w < 1024) (hs : s < 1024) (hsw : sd s w = 0) : en A n w s = (if s = w then 1 else 0) + fsum (fun k => if A s k = true ∧ w.testBit k = true then en A n w (s ||| 2 ^ k) else 0) n := by
  by_cases e : s = w
  · subst e
    rw [en_self hw, if_pos rfl, fsum_zero]
    intro k _
    rw [if_neg]
    rintro ⟨h1, h2⟩
    rw [hA s k h1] at h2
    cases h2
  · rw [if_neg e, Nat.zero_add]
    have hsub := (sd_zero hs).mp hsw
    have h3 : pcn (sd w s) 10 + pcn s 10 = pcn w 10 := pcn_sd hsub 10 (by omega)
    have hp : pc s < pc w := by
      have e1 : pc w = pcn w 10 := rfl
      have e2 : pc s = pcn s 10 := rfl
      have : pcn (sd w s) 10 ≠ 0 := fun q => by
        have hz := pc_zero (t := sd w s) (Nat.lt_of_le_of_lt (sd_le _ _) hw) q
        have := (sd_zero hw).mp hz
        apply e
        apply Nat.eq_of_testBit_eq
        intro i
        rw [Bool.eq_iff_iff]
        exact ⟨hsub i, this i⟩
      omega
    have h1 : en A n w s = pf A n (pc w - pc s) s w := if_pos hsw
    rw [h1, show pc w - pc s = pc w - pc s - 1 + 1 by omega, pf_succ]
    apply fsum_congr
    intro k hk
    by_cases h : A s k = true
    · rw [if_pos h]
      have hb := hA s k h
      have hk1024 : s ||| 2 ^ k < 1024 := Nat.or_lt_two_pow (n := 10) hs (Nat.pow_lt_pow_right (by decide) (by omega))
      by_cases h2 : w.testBit k = true
      · rw [if_pos ⟨h, h2⟩]
        have hs2 : sd (s ||| 2 ^ k) w = 0 := (sd_zero hk1024).mpr (fun i hi => by
          rw [or_bit] at hi
          by_cases q : i = k
          · rw [q]; exact h2
          · simp [q] at hi; exact hsub i hi)
        have h4 : en A n w (s ||| 2 ^ k) = pf A n (pc w - pc (s ||| 2 ^ k)) (s ||| 2 ^ k) w := if_pos hs2
        rw [h4, pc_or (by omega) hb]
        rfl
      · rw [if_neg (fun q => h2 q.2)]
        by_cases q : 0 < pf A n (pc w - pc s - 1) (s ||| 2 ^ k) w
        · exact absurd (pf_sub _ _ _ q k (by rw [or_bit]; simp)) h2
        · omega
    · rw [if_neg h, if_neg (fun q => h q.1)]
end PATHS
