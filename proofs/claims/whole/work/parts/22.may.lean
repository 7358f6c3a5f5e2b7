/-! which SCENE may come behind which SET -/
def okf (N : Nat → Nat) (tells told f : Nat) : Bool := !(tells.testBit f) || ((N f &&& (told ||| tells)) == 0)
def mtB (N : Nat → Nat) (tells told : Nat) : Bool := (List.range 8).all (okf N tells told)
theorem mtB_iff {N : Nat → Nat} {tells told : Nat} : mtB N tells told = true ↔ ∀ f, f < 8 → okf N tells told f = true := by
  unfold mtB
  rw [List.all_eq_true]
  exact ⟨fun h f hf => h f (List.mem_range.mpr hf), fun h f hf => h f (List.mem_range.mp hf)⟩
def mayB (n : Nat) (c : Nat → Nat → Nat) (D N : Nat → Nat) (k s : Nat) : Bool := (!s.testBit k && (sd (c k 3) s == 0) && (sd (c k 5) (un c 4 s n ||| c k 4) == 0) && (sd (c k 7) (un c 6 s n) == 0) && ((c k 2 &&& dd D s n) == 0)) && mtB N (c k 6) (un c 6 s n)
/-- the SET of those below m that may -/
def nxm (n : Nat) (c : Nat → Nat → Nat) (D N : Nat → Nat) (s : Nat) : Nat → Nat | 0 => 0 | k + 1 => if mayB n c D N k s then nxm n c D N s k ||| 2 ^ k else nxm n c D N s k
def nx (n : Nat) (c : Nat → Nat → Nat) (D N : Nat → Nat) (s : Nat) : Nat := nxm n c D N s n
theorem nxm_bit (n : Nat) (c : Nat → Nat → Nat) (D N : Nat → Nat) (s i : Nat) : ∀ m, (nxm n c D N s m).testBit i = (decide (i < m) && mayB n c D N i s)
  | 0 => by simp [nxm]
  | m + 1 => by
    have ih := nxm_bit n c D N s i m
    unfold nxm
    by_cases h : mayB n c D N m s
    · rw [if_pos h, Nat.testBit_or, ih, Nat.testBit_two_pow]
      by_cases e : i = m
      · subst e; simp [h]
      · by_cases h2 : i < m
        · have : i < m + 1 := by omega
          simp [h2, this]
          intro _
          omega
        · have : ¬ i < m + 1 := by omega
          simp [h2, this]
          omega
    · rw [if_neg h, ih]
      by_cases e : i = m
      · subst e; simp [h]
      · by_cases h2 : i < m
        · have : i < m + 1 := by omega
          simp [h2, this]
        · have : ¬ i < m + 1 := by omega
          simp [h2, this]
theorem nx_lt (n : Nat) (c : Nat → Nat → Nat) (D N : Nat → Nat) (s : Nat) : nx n c D N s < 2 ^ n := by
  apply Nat.lt_pow_two_of_testBit
  intro i hi
  unfold nx
  rw [nxm_bit]
  simp
  omega
theorem nx_bit {n : Nat} {c : Nat → Nat → Nat} {D N : Nat → Nat} {s k : Nat} (hk : k < n) : (nx n c D N s).testBit k = mayB n c D N k s := by
  unfold nx
  rw [nxm_bit]
  simp [hk]
theorem sd_lt {a b m : Nat} (h : a < 2 ^ m) : sd a b < 2 ^ m := Nat.lt_of_le_of_lt (sd_le a b) h
theorem and_lt {a b m : Nat} (h : a < 2 ^ m) : a &&& b < 2 ^ m := Nat.lt_of_le_of_lt Nat.and_le_left h
/-- never, in the class and in the reference -/
def NC (N : Nat → Nat) (μ : Mem) : Prop := ∀ f, f < 8 → gm_r μ 29 f = nI (N f) ∧ N f < 256
def NM (N : Nat → Nat) (μ : Mem) : Prop := ∀ f, f < 8 → gm_r μ 82 f = nI (N f) ∧ N f < 256
section MAY
variable {G : gC} {l : Launch} {μ : Mem} {P : Int32 → Mem → Prop} {n s w : Nat} {c : Nat → Nat → Nat} {D N : Nat → Nat}
theorem t5_mayTell {tells told : Nat} (hN : NC N μ) (ht : tells < 256) (h : P (if mtB N tells told then 1 else 0) μ) : qX5_mayTell G l (nI tells) (nI told) μ P := by
  refine eX5_mayTell ?_
  have key : (∀ f, f < 0 → okf N tells told f = true) → hX5_mayTell_2 G l P (nI tells) (nI told) (nI 0) μ := by
    refine down (H := fun j => (∀ f, f < j → okf N tells told f = true) → hX5_mayTell_2 G l P (nI tells) (nI told) (nI j) μ) (n := 8) ?_ ?_
    · intro hall
      rw [if_pos (mtB_iff.mpr hall)] at h
      exact eX5_mayTell_2 ⟨fun _ => h, fun hc => absurd (Int32.le_refl _) hc⟩
    · intro j hj ih hall
      refine eX5_mayTell_2 ⟨fun hc => absurd hc (nI_ge hj (by decide)), fun _ => ⟨fun hz => ?_, fun hz => ⟨fun hb => ?_, fun hb => ⟨vp_in_nI hj (by decide), fun ha => ?_, fun ha => ?_⟩⟩⟩⟩
      · rw [nI_shr (by omega) (by omega), nI_z (Nat.lt_of_le_of_lt (Nat.div_le_self _ _) (by omega))] at hz
        have : ∀ f, f < 8 → okf N tells told f = true := fun f hf => by
          by_cases hfj : f < j
          · exact hall f hfj
          · have hb : tells.testBit f = false := by
              rw [Nat.testBit_eq_decide_div_mod_eq]
              have : tells / 2 ^ f = 0 := by
                apply Nat.div_eq_of_lt
                have h1 : tells < 2 ^ j := by
                  rcases Nat.div_eq_zero_iff.mp hz with h2 | h2
                  · have := Nat.two_pow_pos j
                    omega
                  · exact h2
                exact Nat.lt_of_lt_of_le h1 (Nat.pow_le_pow_right (by decide) (by omega))
              simp [this]
            simp [okf, hb]
        rw [if_pos (mtB_iff.mpr this)] at h
        exact h
      · rw [nI_has (by omega) (by omega)] at hb
        rw [nI_1]
        refine ih (fun f hf => ?_)
        by_cases e : f = j
        · subst e; simp [okf, hb]
        · exact hall f (by omega)
      · rw [nI_clamp (by omega), (hN j hj).1, nI_or, nI_and, nI_z (Nat.lt_of_lt_of_le (and_lt (m := 8) (hN j hj).2) (by decide))] at ha
        rw [nI_1]
        refine ih (fun f hf => ?_)
        by_cases e : f = j
        · subst e; simp [okf, ha]
        · exact hall f (by omega)
      · rw [nI_clamp (by omega), (hN j hj).1, nI_or, nI_and, nI_z (Nat.lt_of_lt_of_le (and_lt (m := 8) (hN j hj).2) (by decide))] at ha
        rw [nI_has (by omega) (by omega)] at hb
        have : ¬ mtB N tells told = true := fun q => by
          have := mtB_iff.mp q j hj
          simp [okf, hb] at this
          exact ha this
        rw [if_neg this] at h
        exact h
  exact key (fun f hf => absurd hf (Nat.not_lt_zero f))
theorem SKb (hK : SK n c D) {k w : Nat} (hk : k < n) (hw : w < 8) : c k w < 1024 := by
  obtain ⟨h1, h2, h3, h4, h5, h6, h7, h8, h9⟩ := hK.2 k hk
  have := lt1024 (n := k) (s := c k 3) (by have := hK.1; omega) h4
  rcases (show w = 0 ∨ w = 1 ∨ w = 2 ∨ w = 3 ∨ w = 4 ∨ w = 5 ∨ w = 6 ∨ w = 7 by omega) with rfl | rfl | rfl | rfl | rfl | rfl | rfl | rfl <;> omega
theorem SKu (hK : SK n c D) (hw : w < 8) : un c w s n < 1024 := un_lt (m := 10) (fun k hk => SKb hK hk hw)
theorem SKd (hK : SK n c D) : dd D s n < 256 := dd_lt (fun k hk => (hK.2 k hk).2.2.2.2.2.2.2.2)
theorem sdz {a b : Nat} (ha : a < 1024) : nI a &&& (nI b ^^^ (-1 : Int32)) = 0 ↔ sd a b = 0 := by
  rw [nI_sd, nI_z (Nat.lt_of_le_of_lt (sd_le a b) (by omega))]
theorem t5_next_ (hS : SC n c D μ) (hK : SK n c D) (hN : NC N μ) (hs : s < 1024) (h : P (nI (nx n c D N s)) μ) : qX5_nextWhere G l (nI s) (nI (un c 4 s n)) (nI (un c 6 s n)) (nI (dd D s n)) μ P := by
  have hn := hK.1
  refine eX5_nextWhere ?_
  refine down (H := fun j => hX5_nextWhere_6 G l P (nI s) (nI (un c 4 s n)) (nI (un c 6 s n)) (nI (dd D s n)) (nI (nxm n c D N s j)) (nI j) μ) (n := n) ?_ ?_
  · exact eX5_nextWhere_6 ⟨fun _ => h, fun hc => absurd (by rw [hS.1]; exact Int32.le_refl _) hc⟩
  · intro j hj ih
    have no : mayB n c D N j s = false → hX5_nextWhere_6 G l P (nI s) (nI (un c 4 s n)) (nI (un c 6 s n)) (nI (dd D s n)) (nI (nxm n c D N s j)) (nI j + 1) μ := fun hm => by
      have e : nxm n c D N s (j + 1) = nxm n c D N s j := if_neg (by rw [hm]; decide)
      rw [e] at ih
      rw [nI_1]
      exact ih
    have hc := fun w hw => (hS.2 j hj).1 w hw
    have hb := fun w hw => SKb hK hj (w := w) hw
    refine eX5_nextWhere_6 ⟨fun hc => absurd (by rw [← hS.1]; exact hc) (nI_ge hj (by omega)), fun _ => ⟨vp_in_nI (by omega) (by decide), fun h1 => ?_, fun h1 => ⟨fun h2 => ?_, fun h2 => ⟨fun h3 => ?_, fun h3 => ⟨fun h4 => ?_, fun h4 => ⟨fun h5 => ?_, fun h5 => ?_⟩⟩⟩⟩⟩⟩
    all_goals (try rw [nI_clamp (by omega)] at *)
    · rw [nI_has0 (by omega) (by omega)] at h1
      exact no (by simp [mayB, h1])
    · rw [hc 3 (by decide), sdz (hb 3 (by decide))] at h2
      exact no (by simp [mayB, h2])
    · rw [hc 5 (by decide), hc 4 (by decide), nI_or, sdz (hb 5 (by decide))] at h3
      exact no (by simp [mayB, h3])
    · rw [hc 7 (by decide), sdz (hb 7 (by decide))] at h4
      exact no (by simp [mayB, h4])
    · rw [hc 2 (by decide), nI_and, nI_z (Nat.lt_of_lt_of_le (and_lt (m := 10) (hb 2 (by decide))) (by decide))] at h5
      exact no (by simp [mayB, h5])
    · rw [nI_has0 (by omega) (by omega)] at h1
      rw [hc 3 (by decide), sdz (hb 3 (by decide))] at h2
      rw [hc 5 (by decide), hc 4 (by decide), nI_or, sdz (hb 5 (by decide))] at h3
      rw [hc 7 (by decide), sdz (hb 7 (by decide))] at h4
      rw [hc 2 (by decide), nI_and, nI_z (Nat.lt_of_lt_of_le (and_lt (m := 10) (hb 2 (by decide))) (by decide))] at h5
      rw [hc 6 (by decide)]
      have em : mayB n c D N j s = mtB N (c j 6) (un c 6 s n) := by simp [mayB, h1, h2, h3, h4, h5]
      refine t5_mayTell hN ((hK.2 j hj).2.2.2.2.2.2.1) ⟨fun hr => ?_, fun hr v hv => ?_⟩
      · refine no ?_
        rw [em]
        by_cases q : mtB N (c j 6) (un c 6 s n) = true
        · rw [if_pos q] at hr
          exact absurd hr (by decide)
        · simpa using q
      · have q : mayB n c D N j s = true := by
          rw [em]
          by_cases q : mtB N (c j 6) (un c 6 s n) = true
          · exact q
          · rw [if_neg q] at hr
            exact absurd rfl hr
        have e : v = nI (nxm n c D N s (j + 1)) := by
          rw [hv, nI_bit1 (by omega), nI_or]
          exact congrArg nI (if_pos q).symm
        rw [e, nI_1]
        exact ih
theorem t5_next (hS : SC n c D μ) (hK : SK n c D) (hN : NC N μ) (hs : s < 1024) (h : P (nI (nx n c D N s)) μ) : qX5_nextBehind G l (nI s) μ P := by
  have hn := hK.1
  refine eX5_nextBehind (t7_union (w := 4) hS hn (by omega) (by decide) (t7_union (w := 6) hS hn (by omega) (by decide) (t7_deadIn hS hn (fun k hk => (hK.2 k hk).2.2.2.2.2.2.2.2) (by omega) (t5_next_ hS hK hN hs h))))
end MAY
