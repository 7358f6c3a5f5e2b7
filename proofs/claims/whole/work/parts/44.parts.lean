/-! parts: which SETS can be a NUMBER behind others, and their WORTH -/
def rcg (ok : Nat → Bool) (A : Nat → Nat → Bool) (n b : Nat) : Nat → Nat → Bool
  | 0, p => p == 0
  | d + 1, p => (List.range n).any (fun k => p.testBit k && ok (cl p k) && A (b ||| cl p k) k && rcg ok A n b d (cl p k))
def RC (ok : Nat → Bool) (A : Nat → Nat → Bool) (n b p : Nat) : Bool := rcg ok A n b (pc p) p
def rcK (ok : Nat → Bool) (A : Nat → Nat → Bool) (n b p : Nat) : Nat → Bool
  | 0 => p == 0
  | K + 1 => rcK ok A n b p K || (p.testBit K && ok (cl p K) && A (b ||| cl p K) K && RC ok A n b (cl p K))
section RCS
variable {ok : Nat → Bool} {A : Nat → Nat → Bool} {n b p : Nat}
theorem rcK_succ (K : Nat) : rcK ok A n b p (K + 1) = (rcK ok A n b p K || (p.testBit K && ok (cl p K) && A (b ||| cl p K) K && RC ok A n b (cl p K))) := rfl
theorem rcK_iff : ∀ K, rcK ok A n b p K = true ↔ p = 0 ∨ ∃ k, k < K ∧ p.testBit k = true ∧ ok (cl p k) = true ∧ A (b ||| cl p k) k = true ∧ RC ok A n b (cl p k) = true
  | 0 => by simp [rcK]
  | K + 1 => by
    have ih := rcK_iff K
    rw [rcK_succ, Bool.or_eq_true, ih]
    constructor
    · rintro ((h | ⟨k, h1, h2⟩) | h)
      · exact Or.inl h
      · exact Or.inr ⟨k, by omega, h2⟩
      · simp only [Bool.and_eq_true] at h
        exact Or.inr ⟨K, by omega, h.1.1.1, h.1.1.2, h.1.2, h.2⟩
    · rintro (h | ⟨k, h1, h2, h3, h4, h5⟩)
      · exact Or.inl (Or.inl h)
      · by_cases q : k = K
        · subst q
          exact Or.inr (by simp only [Bool.and_eq_true]; exact ⟨⟨⟨h2, h3⟩, h4⟩, h5⟩)
        · exact Or.inl (Or.inr ⟨k, by omega, h2, h3, h4, h5⟩)
theorem RC_iff (hn : n ≤ 10) (hp : p < 1024) : RC ok A n b p = true ↔ p = 0 ∨ ∃ k, k < n ∧ p.testBit k = true ∧ ok (cl p k) = true ∧ A (b ||| cl p k) k = true ∧ RC ok A n b (cl p k) = true := by
  by_cases h0 : p = 0
  · subst h0
    exact ⟨fun _ => Or.inl rfl, fun _ => rfl⟩
  · have hpos : pc p ≠ 0 := fun q => h0 (pc_zero hp q)
    obtain ⟨d, hd⟩ : ∃ d, pc p = d + 1 := ⟨pc p - 1, by omega⟩
    have e : RC ok A n b p = (List.range n).any (fun k => p.testBit k && ok (cl p k) && A (b ||| cl p k) k && rcg ok A n b d (cl p k)) := by
      unfold RC; rw [hd]; rfl
    rw [e, List.any_eq_true]
    constructor
    · rintro ⟨k, h1, h2⟩
      rw [List.mem_range] at h1
      simp only [Bool.and_eq_true] at h2
      have := pc_cl hp (k := k) (by omega) h2.1.1.1
      refine Or.inr ⟨k, h1, h2.1.1.1, h2.1.1.2, h2.1.2, ?_⟩
      unfold RC
      rw [show pc (cl p k) = d by omega]
      exact h2.2
    · rintro (h | ⟨k, h1, h2, h3, h4, h5⟩)
      · exact absurd h h0
      · have := pc_cl hp (k := k) (by omega) h2
        refine ⟨k, List.mem_range.mpr h1, ?_⟩
        unfold RC at h5
        rw [show pc (cl p k) = d by omega] at h5
        simp only [Bool.and_eq_true]
        exact ⟨⟨⟨h2, h3⟩, h4⟩, h5⟩
theorem rcK_n (hn : n ≤ 10) (hp : p < 1024) : rcK ok A n b p n = RC ok A n b p := by
  rw [Bool.eq_iff_iff, rcK_iff, RC_iff hn hp]
end RCS
theorem cl_sb {p k : Nat} : Sb (cl p k) p := sb_sdl
theorem or_inj {b w s p : Nat} (hd : b &&& w = 0) (hs : Sb s w) (hp : Sb p w) (h : b ||| s = b ||| p) : s = p := by
  apply Nat.eq_of_testBit_eq
  intro i
  have h1 : (b ||| s).testBit i = (b ||| p).testBit i := by rw [h]
  rw [Nat.testBit_or, Nat.testBit_or] at h1
  by_cases q : b.testBit i = true
  · have h2 : (b &&& w).testBit i = false := by rw [hd]; exact Nat.zero_testBit i
    rw [Nat.testBit_and, q, Bool.true_and] at h2
    have h3 : s.testBit i = false := by
      rw [← Bool.not_eq_true]; intro z; rw [hs i z] at h2; exact absurd h2 (by decide)
    have h4 : p.testBit i = false := by
      rw [← Bool.not_eq_true]; intro z; rw [hp i z] at h2; exact absurd h2 (by decide)
    rw [h3, h4]
  · rw [Bool.not_eq_true] at q
    rw [q] at h1
    simpa using h1
theorem dj_bit {b w i : Nat} (hd : b &&& w = 0) (h : w.testBit i = true) : b.testBit i = false := by
  have h2 : (b &&& w).testBit i = false := by rw [hd]; exact Nat.zero_testBit i
  rw [Nat.testBit_and, h, Bool.and_true] at h2
  exact h2
theorem cl_base {b p k : Nat} (hb : b < 1024) (hp : p < 1024) (hk : b.testBit k = false) : cl (b ||| p) k = b ||| cl p k := by
  have hbp : b ||| p < 1024 := Nat.or_lt_two_pow (n := 10) hb hp
  apply Nat.eq_of_testBit_eq
  intro i
  rw [cl_bit hbp, Nat.testBit_or, Nat.testBit_or, cl_bit hp]
  by_cases q : i = k
  · subst q; rw [hk]; simp
  · simp [q]
theorem or_sb {a b w : Nat} (h1 : Sb a w) (h2 : Sb b w) : Sb (a ||| b) w := fun i hi => by
  rw [Nat.testBit_or, Bool.or_eq_true] at hi
  exact hi.elim (h1 i) (h2 i)
theorem pw_sb {k w : Nat} (h : w.testBit k = true) : Sb (2 ^ k) w := fun i hi => by
  rw [Nat.testBit_two_pow, decide_eq_true_eq] at hi
  rw [← hi]; exact h
def On (L : List Nat) (μ μ' : Mem) : Prop := μ'.1 = μ.1 ∧ μ'.2.2 = μ.2.2 ∧ ∀ o k, ¬ o ∈ L → gm_r μ' o k = gm_r μ o k
theorem On.rfl {L : List Nat} {μ : Mem} : On L μ μ := ⟨Eq.refl _, Eq.refl _, fun _ _ _ => Eq.refl _⟩
theorem On.trans {L : List Nat} {μ μ1 μ2 : Mem} (h1 : On L μ μ1) (h2 : On L μ1 μ2) : On L μ μ2 := ⟨h2.1.trans h1.1, h2.2.1.trans h1.2.1, fun o k h => (h2.2.2 o k h).trans (h1.2.2 o k h)⟩
theorem On.mono {L L' : List Nat} {μ μ' : Mem} (h : On L μ μ') (hs : ∀ x, x ∈ L → x ∈ L') : On L' μ μ' := ⟨h.1, h.2.1, fun o k q => h.2.2 o k (fun z => q (hs o z))⟩
theorem On.w {L : List Nat} {o k : Nat} {μ μ' : Mem} {v : Int32} (h : On L μ μ') (ho : o ∈ L) : On L μ (gm_w μ' o k v) := ⟨h.1, h.2.1, fun o' k' q => by
  have hne : o' ≠ o := fun e => q (by rw [e]; exact ho)
  rw [gm_rw_o hne]
  exact h.2.2 o' k' q⟩
theorem On.fr {L R : List Nat} {μ μ' : Mem} (h : On L μ μ') (hL : ∀ o k, o ∈ L → own o k ∈ R) : Fr R μ μ' := ⟨fun o k q => h.2.2 o k (fun z => q (hL o k z)), fun _ => h.1⟩
theorem Only.on {o : Nat} {L : List Nat} {μ μ' : Mem} (h : Only o μ μ') (ho : o ∈ L) : On L μ μ' := ⟨h.1, h.2.1, fun o' k q => h.2.2 o' k (fun e => q (e ▸ ho))⟩
theorem on_m {o k : Nat} (h : o ∈ [90, 95, 96, 97, 98, 99]) : own o k ∈ [0] := by
  have h2 : (85 ≤ o ∧ o ≤ 91) ∨ (95 ≤ o ∧ o ≤ 102) := by simp at h; omega
  rw [own_m h2]; decide
theorem on_c {o k : Nat} {L : List Nat} (hL : ∀ x, x ∈ L → 106 ≤ x) (h : o ∈ L) : own o k ∈ [9] := by
  rw [own_big (hL o h)]; decide
def tt : Nat → Bool := fun _ => true
def hkK (n : Nat) (c : Nat → Nat → Nat) (A : Nat → Nat → Bool) (b p : Nat) : Nat → Bool
  | 0 => false
  | K + 1 => hkK n c A b p K || (p.testBit K && (c K 4 &&& opN n c (b ||| p) != 0) && RC tt A n b (cl p K) && A (b ||| cl p K) K)
theorem hkK_succ (n : Nat) (c : Nat → Nat → Nat) (A : Nat → Nat → Bool) (b p K : Nat) : hkK n c A b p (K + 1) = (hkK n c A b p K || (p.testBit K && (c K 4 &&& opN n c (b ||| p) != 0) && RC tt A n b (cl p K) && A (b ||| cl p K) K)) := rfl
theorem hkK_iff {n : Nat} {c : Nat → Nat → Nat} {A : Nat → Nat → Bool} {b p : Nat} : ∀ K, hkK n c A b p K = true ↔ ∃ k, k < K ∧ p.testBit k = true ∧ ¬ (c k 4 &&& opN n c (b ||| p)) = 0 ∧ RC tt A n b (cl p k) = true ∧ A (b ||| cl p k) k = true
  | 0 => by simp [hkK]
  | K + 1 => by
    have ih := hkK_iff (n := n) (c := c) (A := A) (b := b) (p := p) K
    rw [hkK_succ, Bool.or_eq_true, ih]
    constructor
    · rintro (⟨k, h1, h2⟩ | h)
      · exact ⟨k, by omega, h2⟩
      · simp only [Bool.and_eq_true, bne_iff_ne] at h
        exact ⟨K, by omega, h.1.1.1, h.1.1.2, h.1.2, h.2⟩
    · rintro ⟨k, h1, h2, h3, h4, h5⟩
      by_cases q : k = K
      · subst q
        exact Or.inr (by simp only [Bool.and_eq_true, bne_iff_ne]; exact ⟨⟨⟨h2, h3⟩, h4⟩, h5⟩)
      · exact Or.inl ⟨k, by omega, h2, h3, h4, h5⟩
def wo (n : Nat) (c : Nat → Nat → Nat) (D N W : Nat → Nat) (b p : Nat) : Nat := if RC tt (mA n c D N) n b p = true ∧ pc p ≤ 6 ∧ W 0 ≤ sm c 0 p n ∧ sm c 0 p n ≤ W 1 then sm c 1 p n + W 5 * pc (opN n c (b ||| p)) + (if hkK n c (mA n c D N) b p n = true then W 4 else 0) + 1 else 0
theorem sm1_le {n : Nat} {c : Nat → Nat → Nat} {D : Nat → Nat} (hK : SK n c D) (p : Nat) : sm c 1 p n ≤ 90 := by
  have := sm_le (c := c) (w := 1) (s := p) (m := 9) (n := n) (fun k hk => (hK.2 k hk).2.1)
  have := hK.1
  omega
theorem wo_le {n : Nat} {c : Nat → Nat → Nat} {D N W : Nat → Nat} (hK : SK n c D) (hW : LK W) (b p : Nat) : wo n c D N W b p ≤ 400 := by
  unfold wo
  have h1 := sm1_le hK p
  have h2 : W 5 * pc (opN n c (b ||| p)) ≤ 20 * 10 := Nat.mul_le_mul hW.2.2.2.2.1 (pcn_le _ _)
  have h3 := hW.2.2.2.1
  split
  · split <;> omega
  · omega
section MPARTS
variable {G : gC} {l : Launch} {μ : Mem} {n : Nat} {c : Nat → Nat → Nat} {D N W : Nat → Nat}
theorem m_reach {P : Mem → Prop} {b w : Nat} (hS : ST n c D μ) (hC : CM n c D N μ) (hb : b < 2 ^ n) (hw : w < 2 ^ n) (hd : b &&& w = 0) (h : ∀ μ', On [95] μ μ' → (∀ p, Sb p w → gm_r μ' 95 (b ||| p) = if RC tt (mA n c D N) n b p then 1 else 0) → P μ') : qX10_findReach G l (nI b) (nI w) μ P := by
  have hK := hS.2.2
  have hn := hK.1
  have hb2 := lt1024 hn hb
  have hw2 := lt1024 hn hw
  -- one SET
  have inner : ∀ p, Sb p w → (∀ μ', On [95] μ μ' → (∀ s, Sb s w → s ≤ p → gm_r μ' 95 (b ||| s) = if RC tt (mA n c D N) n b s then 1 else 0) → (((((nI p - nI w) &&& nI w) = 0) → hX10_findReach_5 G l P (nI b) (nI w) ((nI p - nI w) &&& nI w) (0 : Int32) μ') ∧ ((¬ ((nI p - nI w) &&& nI w) = 0) → hX10_findReach_5 G l P (nI b) (nI w) ((nI p - nI w) &&& nI w) (1 : Int32) μ'))) → ∀ d K μ', K + d = n → On [95] μ μ' → (∀ s, Sb s w → s < p → gm_r μ' 95 (b ||| s) = if RC tt (mA n c D N) n b s then 1 else 0) → gm_r μ' 95 (b ||| p) = (if rcK tt (mA n c D N) n b p K then 1 else 0) → hX10_findReach_34 G l P (nI b) (nI w) (nI p) (nI (b ||| p)) (nI K) μ' := by
    intro p hp hnext d
    have hp2 : p < 1024 := Nat.lt_of_le_of_lt (sb_le hp) hw2
    have hbp : b ||| p < 1024 := Nat.or_lt_two_pow (n := 10) hb2 hp2
    induction d with
    | zero =>
      intro K μ' hKd o1 k1 k2
      have s1 := (hS.fr (o1.fr (R := [0]) (fun o k z => on_m (by simp at z; subst z; decide))) (by decide)).2.1
      refine eX10_findReach_34 ⟨fun _ => hnext μ' o1 (fun s hs hsp => ?_), fun q => absurd (by rw [s1.1, show K = n by omega]; exact Int32.le_refl _) q⟩
      by_cases e : s = p
      · subst e; rw [k2, show K = n by omega, rcK_n hn hp2]
      · exact k1 s hs (by omega)
    | succ d ih =>
      intro K μ' hKd o1 k1 k2
      have hKn : K < n := by omega
      have s1 := (hS.fr (o1.fr (R := [0]) (fun o k z => on_m (by simp at z; subst z; decide))) (by decide)).2.1
      refine eX10_findReach_34 ⟨fun q => absurd (by rw [s1.1] at q; exact q) (nI_ge (by omega) (by omega)), fun _ v7 e7 => ⟨vp_in_nI (by omega) (by decide), ?_⟩⟩
      rw [nI_bit1 (by omega), nI_sd] at e7
      subst e7
      rw [nI_clamp (by omega), k2, nI_1]
      have step : ∀ v : Int32, v = (if rcK tt (mA n c D N) n b p (K + 1) then 1 else 0) → hX10_findReach_34 G l P (nI b) (nI w) (nI p) (nI (b ||| p)) (nI (K + 1)) (gm_w μ' 95 (b ||| p) v) := fun v hv => by
        refine ih (K + 1) _ (by omega) (o1.w (by decide)) (fun s hs hsp => ?_) (by rw [gm_rw_s, hv])
        rw [gm_rw_k (fun e => by have := or_inj hd hs hp e; omega)]
        exact k1 s hs hsp
      refine ⟨fun q => step _ ?_, fun q => t_has (by omega) (by omega) ⟨fun q2 => step _ ?_, fun q2 => ?_⟩⟩
      · have : rcK tt (mA n c D N) n b p K = true := by
          by_cases z : rcK tt (mA n c D N) n b p K = true
          · exact z
          · rw [if_neg z] at q; exact absurd rfl q
        rw [rcK_succ, this]; rfl
      · rw [(if_has rfl).1] at q2
        have : ¬ rcK tt (mA n c D N) n b p K = true := fun z => by rw [if_pos z] at q; exact absurd q (by decide)
        rw [rcK_succ, q2]
        simp [this]
      · rw [(if_has rfl).2] at q2
        have hbk : b.testBit K = false := dj_bit hd (hp K q2)
        have hnr : ¬ rcK tt (mA n c D N) n b p K = true := fun z => by rw [if_pos z] at q; exact absurd q (by decide)
        have ecl : sd (b ||| p) (2 ^ K) = b ||| cl p K := cl_base hb2 hp2 hbk
        have hcl : cl p K < p := cl_lt hp2 q2
        have hbc : b ||| cl p K < 2 ^ n := Nat.or_lt_two_pow hb (Nat.lt_of_lt_of_le (Nat.lt_of_lt_of_le hcl (sb_le hp)) (by omega))
        have hbc2 := lt1024 hn hbc
        rw [ecl]
        refine ⟨vp_in_nI (by omega) (by decide), ?_⟩
        rw [nI_clamp (by omega), k1 _ (sb_trans cl_sb hp) hcl]
        have hnx := lt1024 hn (nx_lt n c D N (b ||| cl p K))
        refine ⟨fun q3 => step _ ?_, fun q3 => ?_⟩
        · have : ¬ RC tt (mA n c D N) n b (cl p K) = true := fun z => by rw [if_pos z] at q3; exact absurd q3 (by decide)
          rw [rcK_succ]
          simp [this, hnr]
        · have hrc : RC tt (mA n c D N) n b (cl p K) = true := by
            by_cases z : RC tt (mA n c D N) n b (cl p K) = true
            · exact z
            · rw [if_neg z] at q3; exact absurd rfl q3
          rw [o1.2.2 90 _ (by decide), hC _ hbc]
          refine t_has (by omega) (by omega) ⟨fun q4 => step _ ?_, fun q4 => step _ ?_⟩
          · rw [(if_has rfl).1, nx_bit hKn] at q4
            have q5 : mA n c D N (b ||| cl p K) K = false := q4
            rw [rcK_succ, q5]
            simp [hnr]
          · rw [(if_has rfl).2, nx_bit hKn] at q4
            have q5 : mA n c D N (b ||| cl p K) K = true := q4
            rw [rcK_succ, q5, hrc, q2]
            simp [tt]
  have outer : ∀ p, Sb p w → (∀ μ', On [95] μ μ' → (∀ s, Sb s w → s ≤ p → gm_r μ' 95 (b ||| s) = if RC tt (mA n c D N) n b s then 1 else 0) → (((((nI p - nI w) &&& nI w) = 0) → hX10_findReach_5 G l P (nI b) (nI w) ((nI p - nI w) &&& nI w) (0 : Int32) μ') ∧ ((¬ ((nI p - nI w) &&& nI w) = 0) → hX10_findReach_5 G l P (nI b) (nI w) ((nI p - nI w) &&& nI w) (1 : Int32) μ'))) → ∀ μ', On [95] μ μ' → (∀ s, Sb s w → s < p → gm_r μ' 95 (b ||| s) = if RC tt (mA n c D N) n b s then 1 else 0) → hX10_findReach_5 G l P (nI b) (nI w) (nI p) (1 : Int32) μ' := by
    intro p hp hnext μ' o1 k1
    have hp2 : p < 1024 := Nat.lt_of_le_of_lt (sb_le hp) hw2
    have hbp : b ||| p < 1024 := Nat.or_lt_two_pow (n := 10) hb2 hp2
    refine eX10_findReach_5 ⟨fun q => absurd q (by decide), fun _ => ?_⟩
    rw [nI_or, nI_z (by omega), nI_clamp (by omega)]
    have go : ∀ v : Int32, v = (if rcK tt (mA n c D N) n b p 0 then 1 else 0) → hX10_findReach_34 G l P (nI b) (nI w) (nI p) (nI (b ||| p)) 0 (gm_w μ' 95 (b ||| p) v) := fun v hv => by
      refine inner p hp hnext n 0 _ (by omega) (o1.w (by decide)) (fun s hs hsp => ?_) (by rw [gm_rw_s, hv])
      rw [gm_rw_k (fun e => by have := or_inj hd hs hp e; omega)]
      exact k1 s hs hsp
    refine ⟨fun q => ⟨vp_in_nI (by omega) (by decide), go _ ?_⟩, fun q => ⟨vp_in_nI (by omega) (by decide), go _ ?_⟩⟩
    · unfold rcK; simp [q]
    · unfold rcK; simp [q]
  refine eX10_findReach ?_
  have all : ∀ μ', On [95] μ μ' → (∀ s, Sb s w → s < 0 → gm_r μ' 95 (b ||| s) = if RC tt (mA n c D N) n b s then 1 else 0) → hX10_findReach_5 G l P (nI b) (nI w) (nI 0) (1 : Int32) μ' := by
    refine asc (H := fun p => ∀ μ', On [95] μ μ' → (∀ s, Sb s w → s < p → gm_r μ' 95 (b ||| s) = if RC tt (mA n c D N) n b s then 1 else 0) → hX10_findReach_5 G l P (nI b) (nI w) (nI p) (1 : Int32) μ') (l := w) ?_ ?_ hw2
    · refine outer w sb_rfl (fun μ' o1 k1 => ?_)
      rw [up_last hw2]
      exact ⟨fun _ => eX10_findReach_5 ⟨fun _ => h μ' o1 (fun p hp => k1 p hp (sb_le hp)), fun q => absurd rfl q⟩, fun q => absurd rfl q⟩
    · intro p p' hp hne hx ih
      refine outer p hp (fun μ' o1 k1 => ?_)
      obtain ⟨p2, e2, hx2⟩ := up_step hw2 hp hne
      have e3 : p2 = p' := Nat.le_antisymm (hx2.2.2 p' hx.1 hx.2.1) (hx.2.2 p2 hx2.1 hx2.2.1)
      subst e3
      have := sb_le hx.1
      have := hx.2.1
      rw [e2]
      refine ⟨fun q => absurd ((nI_z (by omega)).mp q) (by omega), fun _ => ih μ' o1 (fun s hs hsp => k1 s hs (Nat.le_of_not_lt (fun z => by have := hx.2.2 s hs z; omega)))⟩
  exact all μ On.rfl (fun s _ z => absurd z (by omega))
end MPARTS
