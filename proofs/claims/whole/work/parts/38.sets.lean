theorem nI_min {a b : Nat} (ha : a < 2 ^ 31) (hb : b < 2 ^ 31) : (if nI a < nI b then nI a else nI b) = nI (min a b) := by
  by_cases h : a < b
  · rw [if_pos ((nI_ltI ha hb).mpr h), Nat.min_eq_left (by omega)]
  · rw [if_neg (fun q => h ((nI_ltI ha hb).mp q)), Nat.min_eq_right (by omega)]
theorem nI_max {a b : Nat} (ha : a < 2 ^ 31) (hb : b < 2 ^ 31) : (if nI a < nI b then nI b else nI a) = nI (max a b) := by
  by_cases h : a < b
  · rw [if_pos ((nI_ltI ha hb).mpr h), Nat.max_eq_right (by omega)]
  · rw [if_neg (fun q => h ((nI_ltI ha hb).mp q)), Nat.max_eq_left (by omega)]
/-! the class's tables of all SETS -/
theorem un_or (c : Nat → Nat → Nat) (w s k n : Nat) (hk : k < n) : un c w (s ||| 2 ^ k) n = un c w s n ||| c k w := by
  apply Nat.eq_of_testBit_eq
  intro i
  rw [Bool.eq_iff_iff, Nat.testBit_or, Bool.or_eq_true, un_bit, un_bit]
  constructor
  · rintro ⟨j, h1, h2, h3⟩
    rw [or_bit] at h2
    by_cases e : j = k
    · subst e; exact Or.inr h3
    · simp [e] at h2
      exact Or.inl ⟨j, h1, h2, h3⟩
  · rintro (⟨j, h1, h2, h3⟩ | h)
    · exact ⟨j, h1, by rw [or_bit, h2]; rfl, h3⟩
    · exact ⟨k, hk, by rw [or_bit]; simp, h⟩
theorem dd_or (D : Nat → Nat) (s t n : Nat) : dd D (s ||| t) n = dd D s n ||| dd D t n := by
  apply Nat.eq_of_testBit_eq
  intro i
  rw [Bool.eq_iff_iff, Nat.testBit_or, Bool.or_eq_true, dd_bit, dd_bit, dd_bit]
  constructor
  · rintro ⟨j, h1, h2, h3⟩
    rw [Nat.testBit_or, Bool.or_eq_true] at h2
    rcases h2 with h2 | h2
    · exact Or.inl ⟨j, h1, h2, h3⟩
    · exact Or.inr ⟨j, h1, h2, h3⟩
  · rintro (⟨j, h1, h2, h3⟩ | ⟨j, h1, h2, h3⟩)
    · exact ⟨j, h1, by rw [Nat.testBit_or, h2]; rfl, h3⟩
    · exact ⟨j, h1, by rw [Nat.testBit_or, h2]; simp, h3⟩
theorem un_z (c : Nat → Nat → Nat) (w : Nat) : ∀ n, un c w 0 n = 0
  | 0 => rfl
  | n + 1 => by unfold un; simp [un_z c w n]
theorem sm_z (c : Nat → Nat → Nat) (w : Nat) : ∀ n, sm c w 0 n = 0
  | 0 => rfl
  | n + 1 => by unfold sm; simp [sm_z c w n]
theorem dd_z (D : Nat → Nat) : ∀ n, dd D 0 n = 0
  | 0 => rfl
  | n + 1 => by unfold dd; simp [dd_z D n]
theorem add_or {a k : Nat} (h : a < 2 ^ k) : a ||| 2 ^ k = 2 ^ k + a := by
  have := Nat.two_pow_add_eq_or_of_lt h 1
  rw [Nat.mul_one] at this
  rw [Nat.or_comm, this]
def mA (n : Nat) (c : Nat → Nat → Nat) (D N : Nat → Nat) : Nat → Nat → Bool := fun s k => mayB n c D N k s
def mO (n : Nat) (c : Nat → Nat → Nat) : Nat → Nat := fun t => pc (opN n c t)
theorem mA_no (n : Nat) (c : Nat → Nat → Nat) (D N : Nat → Nat) : ∀ s k, mA n c D N s k = true → s.testBit k = false := by
  intro s k h
  unfold mA mayB at h
  cases q : s.testBit k
  · rfl
  · rw [q] at h; simp at h
theorem mO_le (n : Nat) (c : Nat → Nat → Nat) (t : Nat) : mO n c t ≤ 10 := pcn_le _ 10
theorem own_s {o k : Nat} (h : 30 ≤ o ∧ o ≤ 41) (hk : o < 31 ∨ 36 < o ∨ k ≠ 0) : own o k = 8 := by
  unfold own
  rw [if_neg (by omega), if_neg (by omega), if_neg (by omega), if_neg (by omega), if_neg (by omega), if_neg (by omega), if_neg (by omega), if_neg (by omega), if_pos h, if_neg (by omega)]
theorem wyQ_skip {A : Nat → Nat → Bool} {n S t : Nat} (h : wy A n S = 0) : wyQ A n (S + 1) 0 t = wyQ A n S 0 t := by
  unfold wyQ
  congr 1
  apply fsum_congr
  intro k hk
  by_cases h1 : t.testBit k = true ∧ A (cl t k) k = true ∧ (cl t k < S ∨ (cl t k = S ∧ k < 0))
  · rw [if_pos h1, if_pos ⟨h1.1, h1.2.1, by omega⟩]
  · rw [if_neg h1]
    by_cases h2 : t.testBit k = true ∧ A (cl t k) k = true ∧ (cl t k < S + 1 ∨ (cl t k = S + 1 ∧ k < 0))
    · rw [if_pos h2]
      have : cl t k = S := by
        by_cases e : cl t k = S
        · exact e
        · exact absurd ⟨h2.1, h2.2.1, by omega⟩ h1
      rw [this, h]
    · rw [if_neg h2]
theorem mnQ_skip {A : Nat → Nat → Bool} {n S t : Nat} {O : Nat → Nat} (h : wy A n S = 0) : mnQ A n O (S + 1) 0 t = mnQ A n O S 0 t := by
  unfold mnQ
  apply fmn_congr
  intro k hk
  by_cases h1 : (t.testBit k = true ∧ A (cl t k) k = true ∧ 0 < wy A n (cl t k)) ∧ (cl t k < S ∨ (cl t k = S ∧ k < 0))
  · rw [if_pos h1, if_pos ⟨h1.1, by omega⟩]
  · rw [if_neg h1]
    by_cases h2 : (t.testBit k = true ∧ A (cl t k) k = true ∧ 0 < wy A n (cl t k)) ∧ (cl t k < S + 1 ∨ (cl t k = S + 1 ∧ k < 0))
    · have e : cl t k = S := by
        by_cases e : cl t k = S
        · exact e
        · exact absurd ⟨h2.1, by omega⟩ h1
      have hp := h2.1.2.2
      rw [e, h] at hp
      omega
    · rw [if_neg h2]
def SVt (n : Nat) (c : Nat → Nat → Nat) (D N : Nat → Nat) (μ : Mem) : Prop := gm_r μ 30 3 = nI (2 ^ n) ∧ ∀ s, s < 2 ^ n → gm_r μ 31 s = nI (sm c 0 s n) ∧ gm_r μ 32 s = nI (sm c 1 s n) ∧ gm_r μ 37 s = nI (opN n c s) ∧ gm_r μ 38 s = nI (nx n c D N s)
def SVw (n : Nat) (c : Nat → Nat → Nat) (D N : Nat → Nat) (μ : Mem) : Prop := ∀ s, s < 2 ^ n → gm_r μ 39 s = nI (wy (mA n c D N) n s) ∧ gm_r μ 40 s = if 0 < wy (mA n c D N) n s then nI (hg (mA n c D N) n (mO n c) s) else -1
def SVe (n : Nat) (c : Nat → Nat → Nat) (D N : Nat → Nat) (μ : Mem) : Prop := gm_r μ 30 15 = -1 ∨ ∃ w, w < 2 ^ n ∧ gm_r μ 30 15 = nI w ∧ ∀ s, s ≤ w → gm_r μ 41 s = nI (en (mA n c D N) n w s)
def SV (n : Nat) (c : Nat → Nat → Nat) (D N : Nat → Nat) (μ : Mem) : Prop := SVt n c D N μ ∧ SVw n c D N μ ∧ SVe n c D N μ
def S0 (μ : Mem) : Prop := ∀ o, 31 ≤ o → o ≤ 36 → gm_r μ o 0 = 0
def SE (n : Nat) (c : Nat → Nat → Nat) (D N : Nat → Nat) (μ : Mem) : Prop := S0 μ ∧ (gm_r μ 30 2 = 0 ∨ SV n c D N μ)
theorem S0.fr {L : List Nat} {μ μ' : Mem} (hf : Fr L μ μ') (hL : ¬ 10 ∈ L) (h : S0 μ) : S0 μ' := fun o h1 h2 => by
  rw [hf.r (o := o) 10 (by unfold own; rw [if_neg (by omega), if_neg (by omega), if_neg (by omega), if_neg (by omega), if_neg (by omega), if_neg (by omega), if_neg (by omega), if_neg (by omega), if_pos (by omega), if_pos ⟨h1, h2, rfl⟩]) hL]
  exact h o h1 h2
section SETS
variable {G : gC} {l : Launch} {μ : Mem} {n : Nat} {c : Nat → Nat → Nat} {D N : Nat → Nat}
def tb (n : Nat) (c : Nat → Nat → Nat) (D : Nat → Nat) (s : Nat) (μ : Mem) : Prop := gm_r μ 31 s = nI (sm c 0 s n) ∧ gm_r μ 32 s = nI (sm c 1 s n) ∧ gm_r μ 33 s = nI (un c 4 s n) ∧ gm_r μ 34 s = nI (un c 5 s n) ∧ gm_r μ 35 s = nI (un c 6 s n) ∧ gm_r μ 36 s = nI (dd D s n)
theorem s_addUp {P : Mem → Prop} {k : Nat} {μ0 : Mem} (hS : ST n c D μ) (hk : k < n) (hF : Fr [8] μ μ0) (hz : gm_r μ0 30 3 = nI (2 ^ n)) (hT : ∀ s, s < 2 ^ k → tb n c D s μ0) (h : ∀ μ', Fr [8] μ μ' → gm_r μ' 30 3 = nI (2 ^ n) → (∀ s, s < 2 ^ (k + 1) → tb n c D s μ') → P μ') : qX6_addUp G l (nI k) (nI (2 ^ k)) μ0 P := by
  have hK := hS.2.2
  have hn := hK.1
  have hp : 2 ^ k < 1024 := lt1024 hn (Nat.pow_lt_pow_right (by decide) hk)
  have hpn : 2 ^ k + 2 ^ k ≤ 1024 := by
    have h1 : 2 ^ (k + 1) ≤ 2 ^ 10 := Nat.pow_le_pow_right (by decide) (by omega)
    have h2 : 2 ^ (k + 1) = 2 ^ k * 2 := Nat.pow_succ 2 k
    omega
  have h0 := Nat.two_pow_pos k
  refine eX6_addUp ⟨vp_in_nI (by omega) (by decide), t7_deadIn (hS.fr hF (by decide)).1 hn (fun k hk => (hK.2 k hk).2.2.2.2.2.2.2.2) (by omega) ?_⟩
  rw [nI_clamp (by omega)]
  have loop : ∀ d a μ', a + d = 2 ^ k → Fr [8] μ μ' → gm_r μ' 30 3 = nI (2 ^ n) → (∀ s, s < 2 ^ k + a → tb n c D s μ') → hX6_addUp_23 G l P (nI (2 ^ k)) k (nI (dd D (2 ^ k) n)) (nI a) μ' := by
    intro d
    induction d with
    | zero =>
      intro a μ' ha k1 kz k2
      refine eX6_addUp_23 ⟨by omega, fun _ => h μ' k1 kz (fun s hs => k2 s ?_), fun q => absurd (by rw [show a = 2 ^ k by omega]; exact Int32.le_refl _) q⟩
      rw [Nat.pow_succ] at hs
      omega
    | succ d ih =>
      intro a μ' ha k1 kz k2
      have hak : a < 2 ^ k := by omega
      have eo : a ||| 2 ^ k = 2 ^ k + a := add_or hak
      have hc := ((hS.fr k1 (by decide)).1.2 k hk).1
      have r31 : ∀ (ν : Mem) q v w, gm_r (gm_w ν 31 q v) (5 + 1 + k) w = gm_r ν (5 + 1 + k) w := fun ν q v w => gm_rw_o (by omega)
      have r32 : ∀ (ν : Mem) q v w, gm_r (gm_w ν 32 q v) (5 + 1 + k) w = gm_r ν (5 + 1 + k) w := fun ν q v w => gm_rw_o (by omega)
      have r33 : ∀ (ν : Mem) q v w, gm_r (gm_w ν 33 q v) (5 + 1 + k) w = gm_r ν (5 + 1 + k) w := fun ν q v w => gm_rw_o (by omega)
      have r34 : ∀ (ν : Mem) q v w, gm_r (gm_w ν 34 q v) (5 + 1 + k) w = gm_r ν (5 + 1 + k) w := fun ν q v w => gm_rw_o (by omega)
      refine eX6_addUp_23 ⟨by omega, fun q => absurd q (nI_ge hak (by omega)), fun _ => ?_⟩
      simp only [r31, r32, r33, r34]
      rw [nI_or, eo, nI_clamp (by omega), nI_clamp (by omega), nI_1, hc 0 (by decide), hc 1 (by decide), hc 4 (by decide), hc 5 (by decide), hc 6 (by decide)]
      obtain ⟨t1, t2, t3, t4, t5, t6⟩ := k2 a (by omega)
      rw [t1, t2, t3, t4, t5, t6, nI_add, nI_add, nI_or, nI_or, nI_or, nI_or]
      have hb : a.testBit k = false := Nat.testBit_lt_two_pow hak
      have oo : ∀ o, 31 ≤ o ∧ o ≤ 36 → own o (2 ^ k + a) ∈ [8] := fun o ho => by rw [own_s (by omega) (by omega)]; decide
      refine ⟨vp_in_nI (by omega) (by decide), vp_in_nI (by omega) (by decide), ih (a + 1) _ (by omega) ((((((k1.then_w (oo 31 (by omega))).then_w (oo 32 (by omega))).then_w (oo 33 (by omega))).then_w (oo 34 (by omega))).then_w (oo 35 (by omega))).then_w (oo 36 (by omega))) ?_ (fun s hs => ?_)⟩
      · rw [gm_rw_o (by decide), gm_rw_o (by decide), gm_rw_o (by decide), gm_rw_o (by decide), gm_rw_o (by decide), gm_rw_o (by decide)]; exact kz
      · by_cases e : s = 2 ^ k + a
        · subst e
          refine ⟨?_, ?_, ?_, ?_, ?_, ?_⟩
          · rw [gm_rw_o (by decide), gm_rw_o (by decide), gm_rw_o (by decide), gm_rw_o (by decide), gm_rw_o (by decide), gm_rw_s, ← eo, sm_or hb, if_pos hk]
          · rw [gm_rw_o (by decide), gm_rw_o (by decide), gm_rw_o (by decide), gm_rw_o (by decide), gm_rw_s, ← eo, sm_or hb, if_pos hk]
          · rw [gm_rw_o (by decide), gm_rw_o (by decide), gm_rw_o (by decide), gm_rw_s, ← eo, un_or _ _ _ _ _ hk]
          · rw [gm_rw_o (by decide), gm_rw_o (by decide), gm_rw_s, ← eo, un_or _ _ _ _ _ hk]
          · rw [gm_rw_o (by decide), gm_rw_s, ← eo, un_or _ _ _ _ _ hk]
          · rw [gm_rw_s, ← eo, dd_or]
        · obtain ⟨u1, u2, u3, u4, u5, u6⟩ := k2 s (by omega)
          refine ⟨?_, ?_, ?_, ?_, ?_, ?_⟩
          · rw [gm_rw_o (by decide), gm_rw_o (by decide), gm_rw_o (by decide), gm_rw_o (by decide), gm_rw_o (by decide), gm_rw_k e]; exact u1
          · rw [gm_rw_o (by decide), gm_rw_o (by decide), gm_rw_o (by decide), gm_rw_o (by decide), gm_rw_k e, gm_rw_o (by decide)]; exact u2
          · rw [gm_rw_o (by decide), gm_rw_o (by decide), gm_rw_o (by decide), gm_rw_k e, gm_rw_o (by decide), gm_rw_o (by decide)]; exact u3
          · rw [gm_rw_o (by decide), gm_rw_o (by decide), gm_rw_k e, gm_rw_o (by decide), gm_rw_o (by decide), gm_rw_o (by decide)]; exact u4
          · rw [gm_rw_o (by decide), gm_rw_k e, gm_rw_o (by decide), gm_rw_o (by decide), gm_rw_o (by decide), gm_rw_o (by decide)]; exact u5
          · rw [gm_rw_k e, gm_rw_o (by decide), gm_rw_o (by decide), gm_rw_o (by decide), gm_rw_o (by decide), gm_rw_o (by decide)]; exact u6
  exact loop (2 ^ k) 0 μ0 (by omega) hF hz hT
/-- the table of the fewest, S being in hand -/
def fwQ (A : Nat → Nat → Bool) (n : Nat) (O : Nat → Nat) (S K B t : Nat) : Int32 := if t < B then (if 0 < wy A n t then nI (hg A n O t) else -1) else if t = 0 ∨ wyQ A n S K t = 0 then -1 else nI (mnQ A n O S K t)
def W3 (n : Nat) (c : Nat → Nat → Nat) (D N : Nat → Nat) (S K B : Nat) (μ : Mem) : Prop := ∀ t, t < 2 ^ n → gm_r μ 39 t = nI (wyQ (mA n c D N) n S K t) ∧ gm_r μ 40 t = fwQ (mA n c D N) n (mO n c) S K B t
theorem SVt.w {o k : Nat} {v : Int32} (ho : o = 39 ∨ o = 40 ∨ o = 41 ∨ (o = 30 ∧ (k = 2 ∨ k = 15))) (h : SVt n c D N μ) : SVt n c D N (gm_w μ o k v) := by
  refine ⟨?_, fun s hs => ?_⟩
  · rw [gm_rw, if_neg (by omega)]; exact h.1
  · obtain ⟨h1, h2, h3, h4⟩ := h.2 s hs
    rw [gm_rw_o (by omega), gm_rw_o (by omega), gm_rw_o (by omega), gm_rw_o (by omega)]
    exact ⟨h1, h2, h3, h4⟩
theorem s_spread {P : Mem → Prop} {S : Nat} (hS : ST n c D μ) (hs : S < 2 ^ n) (hw : 0 < wy (mA n c D N) n S) (h : ∀ μ', Fr [8] μ μ' → SVt n c D N μ' → W3 n c D N S n (S + 1) μ' → P μ') : ∀ μ0, Fr [8] μ μ0 → SVt n c D N μ0 → W3 n c D N S 0 (S + 1) μ0 → qX6_spread G l (nI S) μ0 P := by
  have hK := hS.2.2
  have hn := hK.1
  have hs2 := lt1024 hn hs
  have hA := mA_no n c D N
  have loop : ∀ d K μ', K + d = n → Fr [8] μ μ' → SVt n c D N μ' → W3 n c D N S K (S + 1) μ' → hX6_spread_2 G l P (nI S) (nI K) μ' := by
    intro d
    induction d with
    | zero =>
      intro K μ' hk k1 k2 k3
      have hc := (hS.fr k1 (by decide)).1.1
      rw [show K = n by omega] at k3 ⊢
      exact eX6_spread_2 ⟨fun _ => h μ' k1 k2 k3, fun q => absurd (by rw [hc]; exact Int32.le_refl _) q⟩
    | succ d ih =>
      intro K μ' hk k1 k2 k3
      have hc := (hS.fr k1 (by decide)).1.1
      have hnx := lt1024 hn (nx_lt n c D N S)
      refine eX6_spread_2 ⟨fun q => absurd (by rw [hc] at q; exact q) (nI_ge (by omega) (by omega)), fun _ => ?_⟩
      rw [nI_clamp (by omega), (k2.2 S hs).2.2.2, nI_has (by omega) (by omega), nx_bit (by omega), nI_1, nI_bit1 (by omega), nI_or]
      refine ⟨vp_in_nI (by omega) (by decide), fun q => ih (K + 1) μ' (by omega) k1 k2 (fun t ht => ?_), fun q v4 e4 => ?_⟩
      · have hno : ¬ (mA n c D N S K = true ∧ t = S ||| 2 ^ K) := fun z => q z.1
        have h1 := wyQ_no (n := n) (lt1024 hn ht) hno
        have h2 := mnQ_no (n := n) (O := mO n c) (lt1024 hn ht) (fun z => q z.1 : ¬ (mA n c D N S K = true ∧ 0 < wy (mA n c D N) n S ∧ t = S ||| 2 ^ K))
        have h3 := k3 t ht
        unfold fwQ at h3 ⊢
        rw [h1, h2]
        exact h3
      · subst e4
        have hmore : S ||| 2 ^ K < 2 ^ n := or_lt hs (by omega)
        have hm2 := lt1024 hn hmore
        have hb := hA S K q
        have hgt := lt_or hb
        have hne : S ||| 2 ^ K ≠ 0 := by omega
        rw [nI_clamp (by omega)]
        obtain ⟨m1, m2⟩ := k3 (S ||| 2 ^ K) hmore
        obtain ⟨w1, w2⟩ := k3 S hs
        have w1' : gm_r μ' 39 S = nI (wy (mA n c D N) n S) := by rw [w1, wyQ_full hn hA hs2 (Nat.le_refl S)]
        have w2' : gm_r μ' 40 S = nI (hg (mA n c D N) n (mO n c) S) := by rw [w2]; unfold fwQ; rw [if_pos (by omega), if_pos hw]
        have hgl := hg_le hn hA (mO_le n c) _ S hs2 rfl hw
        have hy := wyQ_yes hn hA hs2 (show K < n by omega) q
        have hmy := mnQ_yes (O := mO n c) hn hA hs2 (show K < n by omega) q hw
        have hql := wyQ_le hn hA (S := S) (K := K) hm2
        have mw := mnQ_wyQ hn hA (mO_le n c) (S := S) (K := K) hm2 hne
        rw [m1, w1', w2', nI_z (by omega), nI_add, ← hy]
        have fin : ∀ v : Int32, v = nI (mnQ (mA n c D N) n (mO n c) S (K + 1) (S ||| 2 ^ K)) → hX6_spread_2 G l P (nI S) (nI (K + 1)) (gm_w (gm_w μ' 40 (S ||| 2 ^ K) v) 39 (S ||| 2 ^ K) (nI (wyQ (mA n c D N) n S (K + 1) (S ||| 2 ^ K)))) := fun v hv => by
          refine ih (K + 1) _ (by omega) ((k1.then_w (by rw [own_s (by omega) (by omega)]; decide)).then_w (by rw [own_s (by omega) (by omega)]; decide)) ((k2.w (by omega)).w (by omega)) (fun t ht => ?_)
          by_cases e : t = S ||| 2 ^ K
          · subst e
            refine ⟨gm_rw_s, ?_⟩
            rw [gm_rw_o (by decide), gm_rw_s, hv]
            unfold fwQ
            rw [if_neg (by omega), if_neg]
            rintro (z | z)
            · exact hne z
            · omega
          · have h1 := wyQ_no (A := mA n c D N) (S := S) (K := K) (n := n) (lt1024 hn ht) (fun z => e z.2)
            have h2 := mnQ_no (A := mA n c D N) (S := S) (K := K) (n := n) (O := mO n c) (lt1024 hn ht) (fun z => e z.2.2)
            have h3 := k3 t ht
            rw [gm_rw_k e, gm_rw_o (by decide), gm_rw_o (by decide), gm_rw_k e]
            unfold fwQ at h3 ⊢
            rw [h1, h2]
            exact h3
        refine ⟨vp_in_nI (by omega) (by decide), fun z => fin _ ?_, fun z => fin _ ?_⟩
        · have hle := mw.2 z
          have e40 : gm_r μ' 40 (S ||| 2 ^ K) = nI (mnQ (mA n c D N) n (mO n c) S K (S ||| 2 ^ K)) := by
            rw [m2]
            unfold fwQ
            rw [if_neg (by omega), if_neg]
            rintro (y | y)
            · exact hne y
            · exact z y
          rw [e40, nI_min (by omega) (by omega), hmy, Nat.min_comm]
        · rw [hmy, mw.1 z, Nat.min_eq_right (by omega)]
  intro μ0 k1 k2 k3
  exact eX6_spread (loop n 0 μ0 (by omega) k1 k2 k3)
theorem s_build {P : Mem → Prop} (hS : ST n c D μ) (hV : NV N μ) (h0 : S0 μ) (h : ∀ μ', Fr [8] μ μ' → gm_r μ' 30 2 = 1 → SV n c D N μ' → P μ') : qX6_build G l μ P := by
  have hK := hS.2.2
  have hn := hK.1
  have hA := mA_no n c D N
  have hp : 2 ^ n ≤ 1024 := Nat.pow_le_pow_right (by decide) hn
  have h2 := Nat.two_pow_pos n
  -- third
  have l133 : ∀ d S μ', S + d = 2 ^ n → Fr [8] μ μ' → SVt n c D N μ' → W3 n c D N S 0 S μ' → hX6_build_133 G l P (nI S) μ' := by
    intro d
    induction d with
    | zero =>
      intro S μ' hs k1 k2 k3
      refine eX6_build_133 ⟨fun _ => h _ ((k1.then_w (by decide)).then_w (by decide)) gm_rw_s ⟨(k2.w (by omega)).w (by omega), fun t ht => ?_, Or.inl ?_⟩, fun q => absurd (by rw [k2.1, show S = 2 ^ n by omega]; exact Int32.le_refl _) q⟩
      · obtain ⟨q1, q2⟩ := k3 t ht
        rw [gm_rw_o (by decide), gm_rw_o (by decide), gm_rw_o (by decide), gm_rw_o (by decide), q1, q2, wyQ_full hn hA (lt1024 hn ht) (by omega)]
        unfold fwQ
        rw [if_pos (by omega)]
        exact ⟨rfl, rfl⟩
      · rw [gm_rw_k (by decide), gm_rw_s]
    | succ d ih =>
      intro S μ' hs k1 k2 k3
      have hS2 : S < 2 ^ n := by omega
      obtain ⟨q1, q2⟩ := k3 S hS2
      have hwl := wy_le hn hA S
      rw [wyQ_full hn hA (by omega) (Nat.le_refl S)] at q1
      refine eX6_build_133 ⟨fun q => absurd (by rw [k2.1] at q; exact q) (nI_ge hS2 (by omega)), fun _ => ⟨vp_in_nI (by omega) (by decide), ?_⟩⟩
      rw [nI_clamp (by omega), q1, show (0 : Int32) = nI 0 from rfl, nI_leI (by omega) (by decide), nI_1]
      refine ⟨fun z => ?_, fun z => ?_⟩
      · have hw0 : wy (mA n c D N) n S = 0 := by omega
        refine ih (S + 1) μ' (by omega) k1 k2 (fun t ht => ?_)
        obtain ⟨p1, p2⟩ := k3 t ht
        refine ⟨by rw [p1, wyQ_skip hw0], ?_⟩
        rw [p2]
        unfold fwQ
        rw [wyQ_skip hw0, mnQ_skip hw0]
        by_cases e : t = S
        · subst e
          rw [if_neg (Nat.lt_irrefl t), if_pos (show t < t + 1 by omega), wyQ_full hn hA (by omega) (Nat.le_refl t), hw0, if_pos (Or.inr rfl), if_neg (Nat.lt_irrefl 0)]
        · by_cases y : t < S
          · rw [if_pos y, if_pos (show t < S + 1 by omega)]
          · rw [if_neg y, if_neg (show ¬ t < S + 1 by omega)]
      · have hw : 0 < wy (mA n c D N) n S := by omega
        have hop := opN_lt hK S
        rw [(k2.2 S hS2).2.2.1]
        refine t_bc hop ?_
        have hgl := hg_le hn hA (mO_le n c) _ S (by omega) rfl hw
        have ev : (if gm_r μ' 40 S < nI (pc (opN n c S)) then nI (pc (opN n c S)) else gm_r μ' 40 S) = nI (hg (mA n c D N) n (mO n c) S) := by
          have hO := mO_le n c S
          have eO : pc (opN n c S) = mO n c S := rfl
          rw [eO, q2]
          unfold fwQ
          rw [if_neg (Nat.lt_irrefl S)]
          by_cases e : S = 0
          · subst e
            rw [if_pos (Or.inl rfl), hg_zero, if_pos]
            rw [Int32.lt_iff_toInt_lt, nI_toInt (by omega), show (-1 : Int32).toInt = -1 from rfl]
            omega
          · have hwq := wyQ_full (K := 0) hn hA (show S < 1024 by omega) (Nat.le_refl S)
            have mw := (mnQ_wyQ hn hA (mO_le n c) (S := S) (K := 0) (show S < 1024 by omega) e).2 (by omega)
            rw [if_neg (show ¬ (S = 0 ∨ wyQ (mA n c D N) n S 0 S = 0) by omega), mnQ_full (S := S) (K := 0) hn (by omega) e (Nat.le_refl S), nI_max (by omega) (by omega)]
        rw [ev]
        refine s_spread hS hS2 hw (fun μ1 f1 t1 w1 => ?_) _ (k1.then_w (by rw [own_s (by omega) (by omega)]; decide)) (k2.w (by omega)) (fun t ht => ?_)
        · refine ih (S + 1) μ1 (by omega) f1 t1 (fun t ht => ?_)
          obtain ⟨p1, p2⟩ := w1 t ht
          refine ⟨by rw [p1, wyQ_next], ?_⟩
          rw [p2]
          unfold fwQ
          rw [wyQ_next, mnQ_next]
        · obtain ⟨p1, p2⟩ := k3 t ht
          refine ⟨by rw [gm_rw_o (by decide)]; exact p1, ?_⟩
          rw [gm_rw]
          unfold fwQ at p2 ⊢
          by_cases e : t = S
          · rw [if_pos ⟨rfl, e⟩, e, if_pos (by omega), if_pos hw]
          · rw [if_neg (fun y => e y.2), p2]
            by_cases y : t < S
            · rw [if_pos y, if_pos (show t < S + 1 by omega)]
            · rw [if_neg y, if_neg (show ¬ t < S + 1 by omega)]
  -- second
  have l42 : ∀ d S μ', S + d = 2 ^ n → Fr [8] μ μ' → gm_r μ' 30 3 = nI (2 ^ n) → (∀ s, s < 2 ^ n → tb n c D s μ') → (∀ s, s < S → gm_r μ' 37 s = nI (opN n c s) ∧ gm_r μ' 38 s = nI (nx n c D N s) ∧ gm_r μ' 39 s = (if s = 0 then 1 else 0) ∧ gm_r μ' 40 s = -1) → hX6_build_42 G l P (nI S) μ' := by
    intro d
    induction d with
    | zero =>
      intro S μ' hs k1 k2 k3 k4
      refine eX6_build_42 ⟨fun _ => l133 (2 ^ n) 0 μ' (by omega) k1 ⟨k2, fun s hs => ?_⟩ (fun t ht => ?_), fun q => absurd (by rw [k2, show S = 2 ^ n by omega]; exact Int32.le_refl _) q⟩
      · obtain ⟨a1, a2, _⟩ := k3 s hs
        obtain ⟨b1, b2, _⟩ := k4 s (by omega)
        exact ⟨a1, a2, b1, b2⟩
      · obtain ⟨_, _, b3, b4⟩ := k4 t (by omega)
        rw [b3, b4]
        unfold fwQ
        rw [wyQ_start, if_neg (Nat.not_lt_zero t)]
        refine ⟨by split <;> rfl, ?_⟩
        by_cases e : t = 0
        · rw [if_pos (Or.inl e)]
        · rw [if_pos (Or.inr (if_neg e))]
    | succ d ih =>
      intro S μ' hs k1 k2 k3 k4
      have hS2 : S < 2 ^ n := by omega
      obtain ⟨a1, a2, a3, a4, a5, a6⟩ := k3 S hS2
      refine eX6_build_42 ⟨fun q => absurd (by rw [k2] at q; exact q) (nI_ge hS2 (by omega)), fun _ => ⟨vp_in_nI (by omega) (by decide), ?_⟩⟩
      rw [nI_clamp (by omega), a3, a4, a5, a6, nI_sd]
      have f1 : Fr [8] μ (gm_w μ' 37 S (nI (sd (un c 4 S n) (un c 5 S n)))) := k1.then_w (by rw [own_s (by omega) (by omega)]; decide)
      refine t5_next_ (hS.fr f1 (by decide)).1 hK (hV.fr f1 (by decide)).1 (by omega) ?_
      rw [nI_z (by omega), nI_1]
      have fin : ∀ v : Int32, v = (if S = 0 then 1 else 0) → hX6_build_42 G l P (nI (S + 1)) (gm_w (gm_w (gm_w (gm_w μ' 37 S (nI (sd (un c 4 S n) (un c 5 S n)))) 38 S (nI (nx n c D N S))) 39 S v) 40 S (-1)) := fun v hv => by
        refine ih (S + 1) _ (by omega) (((f1.then_w (by rw [own_s (by omega) (by omega)]; decide)).then_w (by rw [own_s (by omega) (by omega)]; decide)).then_w (by rw [own_s (by omega) (by omega)]; decide)) ?_ (fun s hs => ?_) (fun s hs => ?_)
        · rw [gm_rw_o (by decide), gm_rw_o (by decide), gm_rw_o (by decide), gm_rw_o (by decide)]; exact k2
        · have rr : ∀ o, 31 ≤ o ∧ o ≤ 36 → ∀ v1 v2 v3 v4, gm_r (gm_w (gm_w (gm_w (gm_w μ' 37 S v1) 38 S v2) 39 S v3) 40 S v4) o s = gm_r μ' o s := fun o ho v1 v2 v3 v4 => by rw [gm_rw_o (by omega), gm_rw_o (by omega), gm_rw_o (by omega), gm_rw_o (by omega)]
          unfold tb
          rw [rr 31 (by omega), rr 32 (by omega), rr 33 (by omega), rr 34 (by omega), rr 35 (by omega), rr 36 (by omega)]
          exact k3 s hs
        · by_cases e : s = S
          · subst e
            refine ⟨?_, ?_, ?_, ?_⟩
            · rw [gm_rw_o (by decide), gm_rw_o (by decide), gm_rw_o (by decide), gm_rw_s]; rfl
            · rw [gm_rw_o (by decide), gm_rw_o (by decide), gm_rw_s]
            · rw [gm_rw_o (by decide), gm_rw_s, hv]
            · rw [gm_rw_s]
          · rw [gm_rw_o (by decide), gm_rw_o (by decide), gm_rw_o (by decide), gm_rw_k e, gm_rw_o (by decide), gm_rw_o (by decide), gm_rw_k e, gm_rw_o (by decide), gm_rw_o (by decide), gm_rw_k e, gm_rw_o (by decide), gm_rw_o (by decide), gm_rw_k e, gm_rw_o (by decide), gm_rw_o (by decide), gm_rw_o (by decide)]
            exact k4 s (by omega)
      exact ⟨fun z => fin _ (if_neg z).symm, fun z => fin _ (if_pos z).symm⟩
  -- first
  have l15 : ∀ d k μ', k + d = n → Fr [8] μ μ' → gm_r μ' 30 3 = nI (2 ^ n) → (∀ s, s < 2 ^ k → tb n c D s μ') → hX6_build_15 G l P (nI k) μ' := by
    intro d
    induction d with
    | zero =>
      intro k μ' hk k1 k2 k3
      have hc := (hS.fr k1 (by decide)).1.1
      rw [show k = n by omega] at k3 ⊢
      exact eX6_build_15 ⟨fun _ => l42 (2 ^ n) 0 μ' (by omega) k1 k2 k3 (fun s hs => absurd hs (Nat.not_lt_zero s)), fun q => absurd (by rw [hc]; exact Int32.le_refl _) q⟩
    | succ d ih =>
      intro k μ' hk k1 k2 k3
      have hc := (hS.fr k1 (by decide)).1.1
      refine eX6_build_15 ⟨fun q => absurd (by rw [hc] at q; exact q) (nI_ge (by omega) (by omega)), fun _ => ?_⟩
      rw [nI_bit1 (by omega), nI_1]
      exact s_addUp hS (by omega) k1 k2 k3 (fun μ1 f1 z1 t1 => ih (k + 1) μ1 (by omega) f1 z1 t1)
  refine eX6_build ?_
  rw [hS.1.1, nI_bit1 (by omega)]
  refine l15 n 0 _ (by omega) (Fr.w (by decide)) gm_rw_s (fun s hs => ?_)
  have : s = 0 := by rw [Nat.pow_zero] at hs; omega
  subst this
  unfold tb
  rw [gm_rw_o (by decide), gm_rw_o (by decide), gm_rw_o (by decide), gm_rw_o (by decide), gm_rw_o (by decide), gm_rw_o (by decide), sm_z, sm_z, un_z, un_z, un_z, dd_z]
  exact ⟨h0 31 (by decide) (by decide), h0 32 (by decide) (by decide), h0 33 (by decide) (by decide), h0 34 (by decide) (by decide), h0 35 (by decide) (by decide), h0 36 (by decide) (by decide)⟩
theorem SV.fr {L : List Nat} {μ' : Mem} (hf : Fr L μ μ') (hL : ¬ 8 ∈ L) (hL2 : ¬ 10 ∈ L) (h : SV n c D N μ) : SV n c D N μ' := by
  have rr : ∀ o k, 30 ≤ o ∧ o ≤ 41 → gm_r μ' o k = gm_r μ o k := fun o k ho => by
    by_cases e : 31 ≤ o ∧ o ≤ 36 ∧ k = 0
    · exact hf.r 10 (by unfold own; rw [if_neg (by omega), if_neg (by omega), if_neg (by omega), if_neg (by omega), if_neg (by omega), if_neg (by omega), if_neg (by omega), if_neg (by omega), if_pos ho, if_pos e]) hL2
    · exact hf.r 8 (own_s ho (by omega)) hL
  obtain ⟨⟨a1, a2⟩, a3, a4⟩ := h
  refine ⟨⟨by rw [rr _ _ (by omega)]; exact a1, fun s hs => ?_⟩, fun s hs => ?_, ?_⟩
  · rw [rr _ _ (by omega), rr _ _ (by omega), rr _ _ (by omega), rr _ _ (by omega)]; exact a2 s hs
  · rw [rr _ _ (by omega), rr _ _ (by omega)]; exact a3 s hs
  · unfold SVe
    rw [rr _ _ (by omega)]
    rcases a4 with a4 | ⟨w, w1, w2, w3⟩
    · exact Or.inl a4
    · exact Or.inr ⟨w, w1, w2, fun s hs => by rw [rr _ _ (by omega)]; exact w3 s hs⟩
theorem SE.fr {L : List Nat} {μ' : Mem} (hf : Fr L μ μ') (hL : ¬ 8 ∈ L) (hL2 : ¬ 10 ∈ L) (h : SE n c D N μ) : SE n c D N μ' := by
  refine ⟨h.1.fr hf hL2, ?_⟩
  rw [hf.r 8 rfl hL]
  rcases h.2 with h | h
  · exact Or.inl h
  · exact Or.inr (h.fr hf hL hL2)
theorem t9_fresh {P : Mem → Prop} (hS : ST n c D μ) (hV : NV N μ) (hE : SE n c D N μ) (h : ∀ μ', Fr [8] μ μ' → SV n c D N μ' → SE n c D N μ' → P μ') : qX9_freshSets G l μ P := by
  refine eX9_freshSets ⟨fun q => ?_, fun q => s_build hS hV hE.1 (fun μ' f1 z1 v1 => h μ' f1 v1 ⟨hE.1.fr f1 (by decide), Or.inr v1⟩)⟩
  rcases hE.2 with z | z
  · exact absurd z q
  · exact h μ Fr.rfl z hE
end SETS
