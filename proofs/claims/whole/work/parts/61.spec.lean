/-! what THE TEXT tells, as a function -/
def gr (w : Nat) : Nat := [99, 9, 7, 9, 7, 7, 7, 7, 7].getD w 0
theorem grt_ok : ∀ w, w < 9 → gz_greatest.getD w 0 = nI (gr w) ∧ gr w ≤ 99 ∧ (2 ≤ w → gr w ≤ 9) ∧ (2 ≤ w → w ≠ 3 → gr w ≤ 7) := by decide +kernel
def vlu (x : Nat → Nat) (i j : Nat) : Nat := if j = i + 1 then x i - 48 else 10 * (x i - 48) + (x (i + 1) - 48)
def ur (c : Nat → Nat → Nat) (w : Nat) : Nat → Nat | 0 => 0 | k + 1 => ur c w k ||| c k w
def dr (D : Nat → Nat) : Nat → Nat | 0 => 0 | k + 1 => if D k = 0 then dr D k else dr D k ||| 2 ^ (D k - 1)
def nF (x : Nat → Nat) (w n : Nat) (c : Nat → Nat → Nat) (D : Nat → Nat) (i j : Nat) : Nat :=
  if j = i then 1
  else if i + 2 < j ∨ gr w < vlu x i j ∨ (w = 0 ∧ vlu x i j = 0) then 2
  else if (2 ≤ w ∧ w ≤ 7) ∧ (c n w).testBit (vlu x i j) = true then 3
  else if w = 3 ∧ n ≤ vlu x i j then 4
  else if (w = 4 ∧ (ur c 4 (n + 1)).testBit (vlu x i j) = true) ∨ (w = 5 ∧ (ur c 5 (n + 1)).testBit (vlu x i j) = true) then 6
  else if w = 8 ∧ (dr D (n + 1)).testBit (vlu x i j) = true then 7 else 0
def nC (w n v : Nat) (c : Nat → Nat → Nat) : Nat → Nat → Nat := fun k u => if k = n ∧ u = w ∧ w < 2 then v else if k = n ∧ u = w ∧ w ≤ 7 then c n w ||| 2 ^ v else if k = n ∧ u = 2 ∧ w = 8 then c n 2 ||| 2 ^ v else c k u
def nD (w n v : Nat) (D : Nat → Nat) : Nat → Nat := fun k => if k = n ∧ w = 8 then v + 1 else D k
abbrev Rs := Nat × Nat × Nat × (Nat → Nat → Nat) × (Nat → Nat)
def LF (t : Nat) (x : Nat → Nat) (w n : Nat) : Nat → Nat → (Nat → Nat → Nat) → (Nat → Nat) → Rs
  | 0, i, c, D => (9, 0, i, c, D)
  | d + 1, i, c, D => if nF x w n c D (sk t x i) (de t x (sk t x i)) ≠ 0 then (nF x w n c D (sk t x i) (de t x (sk t x i)), sk t x i, i, c, D) else if (2 ≤ w ∧ w ≤ 7) ∧ chr t x (sk t x (de t x (sk t x i))) = 45 then LF t x w n d (sk t x (de t x (sk t x i)) + 1) (nC w n (vlu x (sk t x i) (de t x (sk t x i))) c) (nD w n (vlu x (sk t x i) (de t x (sk t x i))) D) else (0, 0, sk t x (de t x (sk t x i)), nC w n (vlu x (sk t x i) (de t x (sk t x i))) c, nD w n (vlu x (sk t x i) (de t x (sk t x i))) D)
def QF (t : Nat) (x : Nat → Nat) (n : Nat) : Nat → Nat → Nat → (Nat → Nat → Nat) → (Nat → Nat) → Rs
  | 0, _, i, c, D => (9, 0, i, c, D)
  | d + 1, last, i, c, D => if chr t x (sk t x i) = 60 then (0, 0, sk t x i + 1, c, D) else if wdF x (sk t x i) (we t x (sk t x i)) ≤ last + 1 then (1, sk t x i, i, c, D) else if (LF t x (wdF x (sk t x i) (we t x (sk t x i)) - 1) n 11 (we t x (sk t x i)) c D).1 ≠ 0 then LF t x (wdF x (sk t x i) (we t x (sk t x i)) - 1) n 11 (we t x (sk t x i)) c D else QF t x n d (wdF x (sk t x i) (we t x (sk t x i)) - 1) (LF t x (wdF x (sk t x i) (we t x (sk t x i)) - 1) n 11 (we t x (sk t x i)) c D).2.2.1 (LF t x (wdF x (sk t x i) (we t x (sk t x i)) - 1) n 11 (we t x (sk t x i)) c D).2.2.2.1 (LF t x (wdF x (sk t x i) (we t x (sk t x i)) - 1) n 11 (we t x (sk t x i)) c D).2.2.2.2
def cz (n : Nat) (c : Nat → Nat → Nat) : Nat → Nat → Nat := fun k u => if k = n then 0 else c k u
def dz (n : Nat) (D : Nat → Nat) : Nat → Nat := fun k => if k = n then 0 else D k
def SF (t : Nat) (x : Nat → Nat) (n i : Nat) (c : Nat → Nat → Nat) (D : Nat → Nat) : Rs :=
  if wdF x i (we t x i) ≠ 1 then (1, i, i, c, D) else if 10 ≤ n then (5, i, i, c, D)
  else if nF x 0 n (cz n c) (dz n D) (sk t x (we t x i)) (de t x (sk t x (we t x i))) ≠ 0 then (nF x 0 n (cz n c) (dz n D) (sk t x (we t x i)) (de t x (sk t x (we t x i))), sk t x (we t x i), i, c, D)
  else QF t x n 9 0 (de t x (sk t x (we t x i))) (nC 0 n (vlu x (sk t x (we t x i)) (de t x (sk t x (we t x i)))) (cz n c)) (nD 0 n (vlu x (sk t x (we t x i)) (de t x (sk t x (we t x i)))) (dz n D))
def HF (t : Nat) (x : Nat → Nat) : Nat → Nat → Nat → (Nat → Nat → Nat) → (Nat → Nat) → Rs
  | 0, n, _, c, D => (9, 0, n, c, D)
  | d + 1, n, i, c, D => if ¬ sk t x i < t then (0, 0, n, c, D) else if (SF t x n (sk t x i) c D).1 ≠ 0 then ((SF t x n (sk t x i) c D).1, (SF t x n (sk t x i) c D).2.1, n, c, D) else HF t x d (n + 1) (SF t x n (sk t x i) c D).2.2.1 (SF t x n (sk t x i) c D).2.2.2.1 (SF t x n (sk t x i) c D).2.2.2.2
theorem LF_succ {t : Nat} {x : Nat → Nat} {w n d i : Nat} {c : Nat → Nat → Nat} {D : Nat → Nat} : LF t x w n (d + 1) i c D = if nF x w n c D (sk t x i) (de t x (sk t x i)) ≠ 0 then (nF x w n c D (sk t x i) (de t x (sk t x i)), sk t x i, i, c, D) else if (2 ≤ w ∧ w ≤ 7) ∧ chr t x (sk t x (de t x (sk t x i))) = 45 then LF t x w n d (sk t x (de t x (sk t x i)) + 1) (nC w n (vlu x (sk t x i) (de t x (sk t x i))) c) (nD w n (vlu x (sk t x i) (de t x (sk t x i))) D) else (0, 0, sk t x (de t x (sk t x i)), nC w n (vlu x (sk t x i) (de t x (sk t x i))) c, nD w n (vlu x (sk t x i) (de t x (sk t x i))) D) := rfl
/-- bounds while a clause is read -/
def NB (n : Nat) (c : Nat → Nat → Nat) (D : Nat → Nat) : Prop := n < 10 ∧ (∀ k u, k ≤ n → u < 8 → c k u < 1024) ∧ ∀ k, k ≤ n → D k ≤ 8
/-- the clause of SCENE n is read up to the word last -/
def CI (n last : Nat) (c : Nat → Nat → Nat) (D : Nat → Nat) : Prop := n < 10 ∧ SK n c D ∧ ((1 ≤ c n 0 ∧ c n 0 ≤ 99) ∧ c n 1 ≤ 9 ∧ c n 2 < 256 ∧ c n 3 < 2 ^ n ∧ c n 4 < 256 ∧ c n 5 < 256 ∧ c n 6 < 256 ∧ c n 7 < 256 ∧ D n ≤ 8) ∧ (∀ u, last < u → u < 8 → c n u = 0) ∧ (last < 8 → D n = 0)
section SPEC
variable {t n w i j v : Nat} {x : Nat → Nat} {c : Nat → Nat → Nat} {D : Nat → Nat}
theorem ur_lt (h : ∀ k u, k ≤ n → u < 8 → c k u < 1024) {u : Nat} (hu : u < 8) : ∀ m, m ≤ n + 1 → ur c u m < 1024
  | 0, _ => by show 0 < 1024; omega
  | m + 1, hm => Nat.or_lt_two_pow (n := 10) (ur_lt h hu m (by omega)) (h m u (by omega) hu)
theorem dr_lt (h : ∀ k, k ≤ n → D k ≤ 8) : ∀ m, m ≤ n + 1 → dr D m < 256
  | 0, _ => by show 0 < 256; omega
  | m + 1, hm => by
    have ih := dr_lt h m (by omega)
    unfold dr
    split
    · exact ih
    · refine Nat.or_lt_two_pow (n := 8) ih (Nat.pow_lt_pow_right (by decide) ?_)
      have := h m (by omega)
      omega
theorem ur_congr {c' : Nat → Nat → Nat} {u : Nat} : ∀ m, (∀ k, k < m → c k u = c' k u) → ur c u m = ur c' u m
  | 0, _ => rfl
  | m + 1, h => by
    unfold ur
    rw [ur_congr m (fun k hk => h k (by omega)), h m (by omega)]
theorem dr_congr {D' : Nat → Nat} : ∀ m, (∀ k, k < m → D k = D' k) → dr D m = dr D' m
  | 0, _ => rfl
  | m + 1, h => by
    unfold dr
    rw [dr_congr m (fun k hk => h k (by omega)), h m (by omega)]
theorem nF_le : nF x w n c D i j ≤ 7 := by
  unfold nF
  split
  · omega
  · split
    · omega
    · split
      · omega
      · split
        · omega
        · split
          · omega
          · split <;> omega
theorem nF_ok (h : nF x w n c D i j = 0) : j ≠ i ∧ ¬ i + 2 < j ∧ vlu x i j ≤ gr w ∧ (w = 0 → vlu x i j ≠ 0) ∧ ((2 ≤ w ∧ w ≤ 7) → (c n w).testBit (vlu x i j) = false) ∧ (w = 3 → vlu x i j < n) ∧ (w = 4 → (ur c 4 (n + 1)).testBit (vlu x i j) = false) ∧ (w = 5 → (ur c 5 (n + 1)).testBit (vlu x i j) = false) ∧ (w = 8 → (dr D (n + 1)).testBit (vlu x i j) = false) := by
  unfold nF at h
  by_cases q1 : j = i
  · rw [if_pos q1] at h; omega
  rw [if_neg q1] at h
  by_cases q2 : i + 2 < j ∨ gr w < vlu x i j ∨ (w = 0 ∧ vlu x i j = 0)
  · rw [if_pos q2] at h; omega
  rw [if_neg q2] at h
  by_cases q3 : (2 ≤ w ∧ w ≤ 7) ∧ (c n w).testBit (vlu x i j) = true
  · rw [if_pos q3] at h; omega
  rw [if_neg q3] at h
  by_cases q4 : w = 3 ∧ n ≤ vlu x i j
  · rw [if_pos q4] at h; omega
  rw [if_neg q4] at h
  by_cases q5 : (w = 4 ∧ (ur c 4 (n + 1)).testBit (vlu x i j) = true) ∨ (w = 5 ∧ (ur c 5 (n + 1)).testBit (vlu x i j) = true)
  · rw [if_pos q5] at h; omega
  rw [if_neg q5] at h
  by_cases q6 : w = 8 ∧ (dr D (n + 1)).testBit (vlu x i j) = true
  · rw [if_pos q6] at h; omega
  refine ⟨q1, by omega, by omega, fun z => by omega, fun z => ?_, fun z => by omega, fun z => ?_, fun z => ?_, fun z => ?_⟩
  · rw [← Bool.not_eq_true]; exact fun y => q3 ⟨z, y⟩
  · rw [← Bool.not_eq_true]; exact fun y => q5 (Or.inl ⟨z, y⟩)
  · rw [← Bool.not_eq_true]; exact fun y => q5 (Or.inr ⟨z, y⟩)
  · rw [← Bool.not_eq_true]; exact fun y => q6 ⟨z, y⟩
theorem nC_old {k u : Nat} (h : k ≠ n) : nC w n v c k u = c k u := by
  unfold nC; rw [if_neg (fun z => h z.1), if_neg (fun z => h z.1), if_neg (fun z => h z.1)]
theorem nC_num (h : w < 2) : nC w n v c n w = v := by unfold nC; rw [if_pos ⟨rfl, rfl, h⟩]
theorem nC_lst (h : 2 ≤ w ∧ w ≤ 7) : nC w n v c n w = c n w ||| 2 ^ v := by
  unfold nC; rw [if_neg (by omega), if_pos ⟨rfl, rfl, h.2⟩]
theorem nC_die : nC 8 n v c n 2 = c n 2 ||| 2 ^ v := by
  unfold nC; rw [if_neg (by omega), if_neg (by omega), if_pos ⟨rfl, rfl, rfl⟩]
theorem nC_ne {u : Nat} (h1 : u ≠ w) (h2 : ¬ (u = 2 ∧ w = 8)) : nC w n v c n u = c n u := by
  unfold nC; rw [if_neg (fun z => h1 z.2.1), if_neg (fun z => h1 z.2.1), if_neg (fun z => h2 z.2)]
theorem nD_ne (h : w ≠ 8) : nD w n v D = D := by
  funext k; unfold nD; rw [if_neg (fun z => h z.2)]
theorem nD_old {k : Nat} (h : k ≠ n) : nD w n v D k = D k := by unfold nD; rw [if_neg (fun z => h z.1)]
theorem nD_die : nD 8 n v D n = v + 1 := by unfold nD; rw [if_pos ⟨rfl, rfl⟩]
/-- a number taken keeps the bounds -/
theorem NB_num (hN : NB n c D) (hw : w < 9) (hv : v ≤ gr w) : NB n (nC w n v c) (nD w n v D) := by
  obtain ⟨g0, g1, g2, g3⟩ := grt_ok w hw
  refine ⟨hN.1, fun k u hk hu => ?_, fun k hk => ?_⟩
  · by_cases e : k = n
    · subst e
      by_cases e2 : u = w
      · subst e2
        by_cases e3 : u < 2
        · rw [nC_num e3]; omega
        · rw [nC_lst (by omega)]
          refine Nat.or_lt_two_pow (n := 10) (hN.2.1 k u hk hu) (Nat.pow_lt_pow_right (by decide) ?_)
          have := g2 (by omega); omega
      · by_cases e3 : u = 2 ∧ w = 8
        · obtain ⟨rfl, rfl⟩ := e3
          rw [nC_die]
          refine Nat.or_lt_two_pow (n := 10) (hN.2.1 k 2 hk hu) (Nat.pow_lt_pow_right (by decide) ?_)
          have := g2 (by omega); omega
        · rw [nC_ne e2 e3]; exact hN.2.1 k u hk hu
    · rw [nC_old e]; exact hN.2.1 k u hk hu
  · by_cases e : k = n ∧ w = 8
    · obtain ⟨rfl, rfl⟩ := e
      rw [nD_die]
      have := g3 (by omega) (by omega); omega
    · unfold nD; rw [if_neg e]; exact hN.2.2 k hk
theorem CI.nb {last : Nat} (h : CI n last c D) : NB n c D := by
  obtain ⟨h1, h2, h3, _⟩ := h
  have hp : 2 ^ n ≤ 512 := Nat.pow_le_pow_right (n := 2) (j := 9) (by decide) (by omega)
  refine ⟨h1, fun k u hk hu => ?_, fun k hk => ?_⟩
  · by_cases e : k = n
    · subst e
      rcases (show u = 0 ∨ u = 1 ∨ u = 2 ∨ u = 3 ∨ u = 4 ∨ u = 5 ∨ u = 6 ∨ u = 7 by omega) with rfl | rfl | rfl | rfl | rfl | rfl | rfl | rfl <;> omega
    · exact SKb h2 (by omega) hu
  · by_cases e : k = n
    · subst e; omega
    · exact (h2.2 k (by omega)).2.2.2.2.2.2.2.2
theorem pc_add {s v : Nat} (hs : s < 1024) (hv : v < 10) (h : s.testBit v = false) : pc (s ||| 2 ^ v) = pc s + 1 := pc_or hv h
/-- rows below n do not change when a number is taken -/
theorem SK_num (h : SK n c D) : SK n (nC w n v c) (nD w n v D) := by
  refine ⟨h.1, fun k hk => ?_⟩
  have hne : k ≠ n := by omega
  rw [nC_old hne, nC_old hne, nC_old hne, nC_old hne, nC_old hne, nC_old hne, nC_old hne, nC_old hne, nD_old hne]
  exact h.2 k hk
end SPEC
