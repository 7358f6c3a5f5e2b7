/-! kind: what can be gathered, in numbers (0: none; v + 1) -/
section GTD
variable (n : Nat) (c : Nat → Nat → Nat) (D N W : Nat → Nat) (pb : Nat)
def gth : Nat → Nat → Nat
  | 0, t => if t = 0 then 1 else 0
  | j + 1, t => mxv (fun a => if a ≠ t ∧ sd a t = 0 then comb (gth j a) (wo n c D N W (pb ||| a) (sd t a)) else 0) (t + 1)
def ed (a p j : Nat) : Nat := comb (gth n c D N W pb j a) (wo n c D N W (pb ||| a) p)
def gv (j t a : Nat) : Nat := if a ≠ t ∧ sd a t = 0 then ed n c D N W pb a (sd t a) j else 0
def isG (T : Nat → Nat → Nat → Prop) : Nat → Nat → Nat → Prop
  | 0, t, v => v = if t = 0 then 1 else 0
  | j + 1, t, v => (∀ a, Sb a t → a ≠ t → T a (sd t a) j → ed n c D N W pb a (sd t a) j ≤ v) ∧ (v = 0 ∨ ∃ a, Sb a t ∧ a ≠ t ∧ T a (sd t a) j ∧ ed n c D N W pb a (sd t a) j = v)
def GI (w : Nat) (rd : Nat → Nat → Int32) (J : Nat) (T : Nat → Nat → Nat → Prop) : Prop := ∀ j t, j ≤ J → Sb t w → ∃ v, rd j t = nI v - 1 ∧ v ≤ 400 * j + 1 ∧ isG n c D N W pb T j t v
end GTD
section GTH
variable {n : Nat} {c : Nat → Nat → Nat} {D N W : Nat → Nat} {pb w : Nat}
theorem gth_succ (j t : Nat) : gth n c D N W pb (j + 1) t = mxv (gv n c D N W pb j t) (t + 1) := rfl
theorem gth_le (hK : SK n c D) (hW : LK W) : ∀ j t, gth n c D N W pb j t ≤ 400 * j + 1
  | 0, t => by unfold gth; split <;> omega
  | j + 1, t => by
    rw [gth_succ]
    refine mxv_le (fun a _ => ?_)
    unfold gv
    split
    · have h1 := gth_le hK hW j a
      have h2 := wo_le (N := N) hK hW (pb ||| a) (sd t a)
      have := comb_le (X := 400 * j) (Y := 400) h1 h2
      unfold ed
      omega
    · omega
theorem ed_le (hK : SK n c D) (hW : LK W) (a p j : Nat) : ed n c D N W pb a p j ≤ 400 * (j + 1) + 1 := by
  have h1 := gth_le (N := N) (pb := pb) hK hW j a
  have h2 := wo_le (N := N) hK hW (pb ||| a) p
  have := comb_le (X := 400 * j) (Y := 400) h1 h2
  unfold ed
  omega
theorem pc_lt_of {a t : Nat} (ht : t < 1024) (h : Sb a t) (hne : a ≠ t) : pc a < pc t ∧ sd t a ≠ 0 := by
  have h1 := pcn_sd (s := a) (t := t) h 10 (by decide)
  have h2 := sb_sub ht h
  have h3 := sb_le h
  have h4 : sd t a ≠ 0 := by omega
  have h5 : 0 < pc (sd t a) := Nat.pos_of_ne_zero (fun z => h4 (pc_zero (Nat.lt_of_le_of_lt (sd_le t a) ht) z))
  refine ⟨?_, h4⟩
  show pcn a 10 < pcn t 10
  have h6 : pcn (sd t a) 10 = pc (sd t a) := rfl
  omega
theorem gth_pc : ∀ j t, t < 1024 → 0 < gth n c D N W pb j t → j ≤ pc t
  | 0, _, _, _ => Nat.zero_le _
  | j + 1, t, ht, h => by
    rw [gth_succ] at h
    obtain ⟨a, ha, he⟩ := mxv_ex h
    rw [← he] at h
    unfold gv at h
    by_cases q : a ≠ t ∧ sd a t = 0
    · rw [if_pos q] at h
      have h1 := (comb_pos.mp h).1
      have hs : Sb a t := (sd_zero (by omega)).mp q.2
      have := gth_pc j a (by omega) h1
      have := (pc_lt_of ht hs q.1).1
      omega
    · rw [if_neg q] at h; omega
theorem gi_done {rd : Nat → Nat → Int32} {J : Nat} {T : Nat → Nat → Nat → Prop} (h : GI n c D N W pb w rd J T) {j t : Nat} (hj : j ≤ J) (ht : Sb t w) (ht2 : t < 1024) (hT : ∀ a i, Sb a t → a ≠ t → i < J → T a (sd t a) i) : rd j t = nI (gth n c D N W pb j t) - 1 := by
  obtain ⟨v, h1, _, h2⟩ := h j t hj ht
  rw [h1]
  cases j with
  | zero =>
    have h3 : v = if t = 0 then 1 else 0 := h2
    rw [h3]; rfl
  | succ j =>
    obtain ⟨h3, h4⟩ := h2
    have e : gth n c D N W pb (j + 1) t = v := by
      rw [gth_succ]
      refine Nat.le_antisymm (mxv_le (fun a ha => ?_)) ?_
      · unfold gv
        by_cases q : a ≠ t ∧ sd a t = 0
        · rw [if_pos q]
          have hs : Sb a t := (sd_zero (by omega)).mp q.2
          exact h3 a hs q.1 (hT a j hs q.1 (by omega))
        · rw [if_neg q]; omega
      · rcases h4 with h4 | ⟨a, h5, h6, _, h8⟩
        · omega
        · have hle := sb_le h5
          have : gv n c D N W pb j t a = v := by
            unfold gv
            rw [if_pos ⟨h6, (sd_zero (by omega)).mpr h5⟩]
            exact h8
          rw [← this]
          exact mxv_ge (by omega)
    rw [e]
theorem gi_ext {rd : Nat → Nat → Int32} {J : Nat} {T T' : Nat → Nat → Nat → Prop} (hw : w < 1024) (h : GI n c D N W pb w rd J T) (h1 : ∀ a p j, T a p j → T' a p j) (h2 : ∀ a p j, Sb a w → Sb p (sd w a) → p ≠ 0 → j < J → T' a p j → T a p j ∨ ed n c D N W pb a p j = 0) : GI n c D N W pb w rd J T' := by
  intro j t hj ht
  have ht2 := Nat.lt_of_le_of_lt (sb_le ht) hw
  obtain ⟨v, g1, g0, g2⟩ := h j t hj ht
  refine ⟨v, g1, g0, ?_⟩
  cases j with
  | zero => exact g2
  | succ j =>
    obtain ⟨g3, g4⟩ := g2
    refine ⟨fun a ha hne hT => ?_, ?_⟩
    · have hsub : Sb (sd t a) (sd w a) := fun i hi => by
        have hi10 : i < 10 := Nat.lt_of_not_le (fun z => by rw [hi_bit (Nat.lt_of_le_of_lt (sd_le t a) ht2) z] at hi; exact absurd hi (by decide))
        rw [sd_bit (by omega), Bool.and_eq_true] at hi ⊢
        exact ⟨ht i hi.1, hi.2⟩
      rcases h2 a (sd t a) j (sb_trans ha ht) hsub (pc_lt_of ht2 ha hne).2 (by omega) hT with q | q
      · exact g3 a ha hne q
      · omega
    · rcases g4 with g4 | ⟨a, g5, g6, g7, g8⟩
      · exact Or.inl g4
      · exact Or.inr ⟨a, g5, g6, h1 _ _ _ g7, g8⟩
theorem sd_part {a p w : Nat} (hw : w < 1024) (ha : Sb a w) (h0 : p ≠ 0) (h : Sb p (sd w a)) : sd (a ||| p) a = p := by
  obtain ⟨g1, g2, g3, g4, g5, g6⟩ := part_ok hw ha h0 h
  have ha2 := Nat.lt_of_le_of_lt (sb_le ha) hw
  apply Nat.eq_of_testBit_eq
  intro i
  by_cases hi : i < 32
  · rw [sd_bit hi, Nat.testBit_or]
    have h2 : (p &&& a).testBit i = false := by rw [g6]; exact Nat.zero_testBit i
    rw [Nat.testBit_and] at h2
    revert h2
    cases a.testBit i <;> cases p.testBit i <;> decide
  · rw [hi_bit g5 (by omega), hi_bit (Nat.lt_of_le_of_lt (sd_le _ _) (Nat.lt_of_le_of_lt (sb_le g1) hw)) (by omega)]
theorem or_sd {a t : Nat} (ht : t < 1024) (h : Sb a t) : a ||| sd t a = t := by
  apply Nat.eq_of_testBit_eq
  intro i
  rw [Nat.testBit_or]
  by_cases hi : i < 32
  · rw [sd_bit hi]
    by_cases q : a.testBit i = true
    · rw [q, h i q]; rfl
    · rw [Bool.not_eq_true] at q
      rw [q]; simp
  · rw [hi_bit ht (by omega), hi_bit (Nat.lt_of_le_of_lt (sb_le h) ht) (by omega), hi_bit (Nat.lt_of_le_of_lt (sd_le t a) ht) (by omega)]
    rfl
theorem gi_edge {rd rd' : Nat → Nat → Int32} {J a p j : Nat} {T : Nat → Nat → Nat → Prop} (hK : SK n c D) (hW : LK W) (hw : w < 1024) (ha : Sb a w) (h0 : p ≠ 0) (hp : Sb p (sd w a)) (hj : j < J) (h : GI n c D N W pb w rd J T) (hr : ∀ i t, i ≤ J → Sb t w → ¬ (i = j + 1 ∧ t = a ||| p) → rd' i t = rd i t) (hv : ∀ v, v ≤ 400 * (j + 1) + 1 → rd (j + 1) (a ||| p) = nI v - 1 → rd' (j + 1) (a ||| p) = nI (max v (ed n c D N W pb a p j)) - 1) : GI n c D N W pb w rd' J (fun a' p' j' => T a' p' j' ∨ (a' = a ∧ p' = p ∧ j' = j)) := by
  intro i t hi ht
  have ht2 := Nat.lt_of_le_of_lt (sb_le ht) hw
  have hsp := sd_part hw ha h0 hp
  obtain ⟨g1, g2, g3, g4, g5, g6⟩ := part_ok hw ha h0 hp
  obtain ⟨v, k1, k0, k2⟩ := h i t hi ht
  by_cases e : i = j + 1 ∧ t = a ||| p
  · obtain ⟨rfl, rfl⟩ := e
    have hed := ed_le (N := N) (pb := pb) hK hW a p j
    refine ⟨_, hv v k0 k1, by omega, fun a' ha' hne hT => ?_, ?_⟩
    · rcases hT with q | ⟨rfl, q2, _⟩
      · have := k2.1 a' ha' hne q; omega
      · rw [hsp]; omega
    · by_cases q : ed n c D N W pb a p j ≤ v
      · rw [show max v (ed n c D N W pb a p j) = v by omega]
        rcases k2.2 with k3 | ⟨a', k4, k5, k6, k7⟩
        · exact Or.inl k3
        · exact Or.inr ⟨a', k4, k5, Or.inl k6, k7⟩
      · rw [show max v (ed n c D N W pb a p j) = ed n c D N W pb a p j by omega]
        refine Or.inr ⟨a, fun z hz => by rw [Nat.testBit_or, hz]; rfl, by omega, Or.inr ⟨rfl, hsp, rfl⟩, by rw [hsp]⟩
  · refine ⟨v, (hr i t hi ht e).trans k1, k0, ?_⟩
    cases i with
    | zero => exact k2
    | succ i =>
      have hno : ∀ a', Sb a' t → ¬ (a' = a ∧ sd t a' = p ∧ i = j) := by
        rintro a' ha' ⟨rfl, q2, rfl⟩
        have := or_sd ht2 ha'
        rw [q2] at this
        exact e ⟨rfl, this.symm⟩
      refine ⟨fun a' ha' hne hT => ?_, ?_⟩
      · rcases hT with q | q
        · exact k2.1 a' ha' hne q
        · exact absurd q (hno a' ha')
      · rcases k2.2 with k3 | ⟨a', k4, k5, k6, k7⟩
        · exact Or.inl k3
        · exact Or.inr ⟨a', k4, k5, Or.inl k6, k7⟩
theorem gi_none {rd : Nat → Nat → Int32} {J : Nat} (h0 : ∀ t, Sb t w → rd 0 t = nI (if t = 0 then 1 else 0) - 1) (h1 : ∀ j t, j < J → Sb t w → rd (j + 1) t = -1) : GI n c D N W pb w rd J (fun _ _ _ => False) := by
  intro j t hj ht
  cases j with
  | zero => exact ⟨_, h0 t ht, by split <;> omega, rfl⟩
  | succ j => exact ⟨0, by rw [h1 j t (by omega) ht]; rfl, by omega, fun _ _ _ z => absurd z id, Or.inl rfl⟩
/-- the kindest SET of those below s -/
def kb (g : Nat → Nat) : Nat → Nat
  | 0 => 0
  | s + 1 => if 0 < g s ∧ (kb g s = 0 ∨ pc (kb g s - 1) < pc s ∨ (pc (kb g s - 1) = pc s ∧ g (kb g s - 1) < g s)) then s + 1 else kb g s
theorem kb_succ (g : Nat → Nat) (s : Nat) : kb g (s + 1) = if 0 < g s ∧ (kb g s = 0 ∨ pc (kb g s - 1) < pc s ∨ (pc (kb g s - 1) = pc s ∧ g (kb g s - 1) < g s)) then s + 1 else kb g s := rfl
theorem kb_le (g : Nat → Nat) : ∀ s, kb g s ≤ s
  | 0 => Nat.le_refl _
  | s + 1 => by
    have := kb_le g s
    rw [kb_succ]
    split <;> omega
theorem kb_skip {g : Nat → Nat} {s : Nat} : ∀ d, (∀ t, s ≤ t → t < s + d → g t = 0) → kb g (s + d) = kb g s
  | 0, _ => rfl
  | d + 1, h => by
    rw [← Nat.add_assoc, kb_succ, if_neg (fun z => by have := h (s + d) (by omega) (by omega); omega), kb_skip d (fun t h1 h2 => h t h1 (by omega))]
theorem kb_none {g : Nat → Nat} (s : Nat) (h : ∀ t, t < s → g t = 0) : kb g s = 0 := by
  have := kb_skip (g := g) (s := 0) s (fun t _ h2 => h t (by omega))
  rw [Nat.zero_add] at this
  exact this
theorem kb_pos {g : Nat → Nat} : ∀ s, 0 < kb g s → 0 < g (kb g s - 1)
  | 0, h => absurd h (Nat.not_lt_zero _)
  | s + 1, h => by
    rw [kb_succ] at h ⊢
    by_cases q : 0 < g s ∧ (kb g s = 0 ∨ pc (kb g s - 1) < pc s ∨ (pc (kb g s - 1) = pc s ∧ g (kb g s - 1) < g s))
    · rw [if_pos q]; exact q.1
    · rw [if_neg q] at h ⊢; exact kb_pos s h
end GTH
