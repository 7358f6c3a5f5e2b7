/-! what a part of the relation reads, and what a call leaves alone: regions -/
def own (o k : Nat) : Nat :=
  if o = 0 then (if k = 11 then 9 else 0)
  else if o = 1 ∨ o = 2 ∨ o = 84 then 1
  else if o = 3 then (if k = 4 then 2 else 0)
  else if o = 4 ∨ (6 ≤ o ∧ o ≤ 15) ∨ (79 ≤ o ∧ o ≤ 81) then 3
  else if (28 ≤ o ∧ o ≤ 29) ∨ o = 82 then 4
  else if o = 45 ∨ o = 83 then 5
  else if (42 ≤ o ∧ o ≤ 44) ∨ (92 ≤ o ∧ o ≤ 94) then 6
  else if (69 ≤ o ∧ o ≤ 77) ∨ (103 ≤ o ∧ o ≤ 105) then 7
  else if 30 ≤ o ∧ o ≤ 41 then (if 31 ≤ o ∧ o ≤ 36 ∧ k = 0 then 10 else 8)
  else if 106 ≤ o then 9
  else if o = 78 then (if k = 0 then 3 else if k = 1 then 7 else if k = 8 then 1 else if k = 13 then 2 else if k = 22 ∨ k = 23 ∨ k = 26 ∨ k = 27 then 6 else 0)
  else 0
def Fr (L : List Nat) (μ μ' : Mem) : Prop := (∀ o k, ¬ own o k ∈ L → gm_r μ' o k = gm_r μ o k) ∧ (¬ 9 ∈ L → μ'.1 = μ.1)
theorem Fr.rfl {L : List Nat} {μ : Mem} : Fr L μ μ := ⟨fun _ _ _ => Eq.refl _, fun _ => Eq.refl _⟩
theorem Fr.trans {L : List Nat} {μ μ1 μ2 : Mem} (h1 : Fr L μ μ1) (h2 : Fr L μ1 μ2) : Fr L μ μ2 := ⟨fun o k h => (h2.1 o k h).trans (h1.1 o k h), fun h => (h2.2 h).trans (h1.2 h)⟩
theorem Fr.mono {L L' : List Nat} {μ μ' : Mem} (h : Fr L μ μ') (hs : ∀ x, x ∈ L → x ∈ L') : Fr L' μ μ' := ⟨fun o k hn => h.1 o k (fun q => hn (hs _ q)), fun hn => h.2 (fun q => hn (hs _ q))⟩
theorem gm_rw {μ : Mem} {o k o' k' : Nat} {x : Int32} : gm_r (gm_w μ o k x) o' k' = if o' = o ∧ k' = k then x else gm_r μ o' k' := by
  unfold gm_r gm_w gm_row va_up upd
  by_cases h1 : o' = o
  · subst h1
    by_cases h2 : k' = k
    · simp [h2]
    · simp [h2]
  · simp [h1]
theorem gm_rw_o {μ : Mem} {o k o' k' : Nat} {x : Int32} (h : o' ≠ o) : gm_r (gm_w μ o k x) o' k' = gm_r μ o' k' := by rw [gm_rw, if_neg (fun q => h q.1)]
theorem gm_rw_k {μ : Mem} {o k o' k' : Nat} {x : Int32} (h : k' ≠ k) : gm_r (gm_w μ o k x) o' k' = gm_r μ o' k' := by rw [gm_rw, if_neg (fun q => h q.2)]
theorem gm_rw_s {μ : Mem} {o k : Nat} {x : Int32} : gm_r (gm_w μ o k x) o k = x := by rw [gm_rw, if_pos ⟨rfl, rfl⟩]
theorem gm_w1 {μ : Mem} {o k : Nat} {x : Int32} : (gm_w μ o k x).1 = μ.1 := rfl
theorem Fr.w {L : List Nat} {μ : Mem} {o k : Nat} {x : Int32} (h : own o k ∈ L) : Fr L μ (gm_w μ o k x) := ⟨fun o' k' hn => by
  rw [gm_rw]
  by_cases q : o' = o ∧ k' = k
  · rw [q.1, q.2] at hn
    exact absurd h hn
  · rw [if_neg q], fun _ => Eq.refl _⟩
theorem Fr.then_w {L : List Nat} {μ μ' : Mem} {o k : Nat} {x : Int32} (hf : Fr L μ μ') (h : own o k ∈ L) : Fr L μ (gm_w μ' o k x) := hf.trans (Fr.w h)
theorem Fr.then_wl {L : List Nat} {μ μ' : Mem} {k : Nat} {x : Int64} (hf : Fr L μ μ') : Fr L μ (gm_wl μ' k x) := ⟨fun o k' hn => hf.1 o k' hn, hf.2⟩
theorem Fr.r {L : List Nat} {μ μ' : Mem} (h : Fr L μ μ') {o k : Nat} (j : Nat) (ho : own o k = j) (hj : ¬ j ∈ L) : gm_r μ' o k = gm_r μ o k := h.1 o k (by rw [ho]; exact hj)
theorem own_big {o k : Nat} (h : 106 ≤ o) : own o k = 9 := by unfold own; rw [if_neg (by omega), if_neg (by omega), if_neg (by omega), if_neg (by omega), if_neg (by omega), if_neg (by omega), if_neg (by omega), if_neg (by omega), if_neg (by omega), if_pos h]
section FRAME
variable {L : List Nat} {μ μ' : Mem}
def TX (t : Nat) (x : Nat → Nat) (μ : Mem) : Prop := gm_r μ 1 1 = nI t ∧ gm_r μ 78 8 = nI t ∧ t ≤ 400 ∧ ∀ i, i < t → gm_r μ 2 i = nI (x i) ∧ gm_r μ 84 i = nI (x i) ∧ x i < 256
theorem TX.fr {t : Nat} {x : Nat → Nat} (hf : Fr L μ μ') (hL : ¬ 1 ∈ L) (h : TX t x μ) : TX t x μ' := by
  refine ⟨?_, ?_, h.2.2.1, fun i hi => ⟨?_, ?_, (h.2.2.2 i hi).2.2⟩⟩
  · rw [hf.r 1 rfl hL]; exact h.1
  · rw [hf.r 1 rfl hL]; exact h.2.1
  · rw [hf.r 1 (by simp [own]) hL]; exact (h.2.2.2 i hi).1
  · rw [hf.r 1 (by simp [own]) hL]; exact (h.2.2.2 i hi).2.1
def FA (μ : Mem) : Prop := gm_r μ 3 4 = gm_r μ 78 13
theorem FA.fr (hf : Fr L μ μ') (hL : ¬ 2 ∈ L) (h : FA μ) : FA μ' := by
  unfold FA
  rw [hf.r 2 rfl hL, hf.r 2 rfl hL]
  exact h
def ST (n : Nat) (c : Nat → Nat → Nat) (D : Nat → Nat) (μ : Mem) : Prop := SC n c D μ ∧ SM n c D μ ∧ SK n c D
theorem own_st {k w : Nat} (hk : k < 10) : own (5 + 1 + k) w = 3 := by
  unfold own
  have : 6 ≤ 5 + 1 + k ∧ 5 + 1 + k ≤ 15 := by omega
  rw [if_neg (by omega), if_neg (by omega), if_neg (by omega), if_pos (by omega)]
theorem ST.fr {n : Nat} {c : Nat → Nat → Nat} {D : Nat → Nat} (hf : Fr L μ μ') (hL : ¬ 3 ∈ L) (h : ST n c D μ) : ST n c D μ' := by
  obtain ⟨h1, h2, h3⟩ := h
  have hn := h3.1
  refine ⟨⟨?_, fun k hk => ⟨fun w hw => ?_, ?_⟩⟩, ⟨?_, fun k hk => ⟨?_, fun j hj => ?_, ?_⟩⟩, h3⟩
  · rw [hf.r 3 rfl hL]; exact h1.1
  · rw [hf.r 3 (own_st (by omega)) hL]; exact (h1.2 k hk).1 w hw
  · rw [hf.r 3 (own_st (by omega)) hL]; exact (h1.2 k hk).2
  · rw [hf.r 3 rfl hL]; exact h2.1
  · rw [hf.r 3 (by simp [own]) hL]; exact (h2.2 k hk).1
  · rw [hf.r 3 (by simp [own]) hL]; exact (h2.2 k hk).2.1 j hj
  · rw [hf.r 3 (by simp [own]) hL]; exact (h2.2 k hk).2.2
/-- how many bits a row of SETS has in all -/
def pcs (N : Nat → Nat) : Nat → Nat | 0 => 0 | f + 1 => pcs N f + pc (N f)
def NV (N : Nat → Nat) (μ : Mem) : Prop := NC N μ ∧ NM N μ ∧ (∀ f g, f < 8 → g < 8 → (N f).testBit g = (N g).testBit f) ∧ ∃ p, gm_r μ 28 2 = nI p ∧ pcs N 8 = 2 * p
theorem NV.fr {N : Nat → Nat} (hf : Fr L μ μ') (hL : ¬ 4 ∈ L) (h : NV N μ) : NV N μ' := by
  obtain ⟨h1, h2, h3, p, h4, h5⟩ := h
  refine ⟨fun f q => ⟨?_, (h1 f q).2⟩, fun f q => ⟨?_, (h2 f q).2⟩, h3, p, ?_, h5⟩
  · rw [hf.r 4 (by simp [own]) hL]; exact (h1 f q).1
  · rw [hf.r 4 (by simp [own]) hL]; exact (h2 f q).1
  · rw [hf.r 4 rfl hL]; exact h4
def LW (W : Nat → Nat) (μ : Mem) : Prop := LC W μ ∧ LM W μ ∧ LK W
theorem LW.fr {W : Nat → Nat} (hf : Fr L μ μ') (hL : ¬ 5 ∈ L) (h : LW W μ) : LW W μ' := by
  refine ⟨fun j hj => ?_, fun j hj => ?_, h.2.2⟩
  · rw [hf.r 5 (by simp [own]) hL]; exact h.1 j hj
  · rw [hf.r 5 (by simp [own]) hL]; exact h.2.1 j hj
def BO (n : Nat) (r : Nat → Nat) (f m : Nat) (e : Nat → Nat) (μ : Mem) : Prop := BC r f m e μ ∧ BM r f m e μ ∧ BK n r f m e
theorem BO.fr {n f m : Nat} {r e : Nat → Nat} (hf : Fr L μ μ') (hL : ¬ 6 ∈ L) (h : BO n r f m e μ) : BO n r f m e μ' := by
  obtain ⟨⟨a1, a2, a3, a4⟩, ⟨b1, b2, b3, b4, b5, b6⟩, h3⟩ := h
  refine ⟨⟨?_, ?_, fun i hi => ?_, fun j hj => ?_⟩, ⟨?_, ?_, ?_, ?_, fun j hj => ⟨?_, fun i hi => ?_⟩, fun i hi => ?_⟩, h3⟩
  · rw [hf.r 6 rfl hL]; exact a1
  · rw [hf.r 6 rfl hL]; exact a2
  · rw [hf.r 6 (by simp [own]) hL]; exact a3 i hi
  · rw [hf.r 6 (by simp [own]) hL]; exact a4 j hj
  · rw [hf.r 6 rfl hL]; exact b1
  · rw [hf.r 6 rfl hL]; exact b2
  · rw [hf.r 6 rfl hL]; exact b3
  · rw [hf.r 6 rfl hL]; exact b4
  · rw [hf.r 6 (by simp [own]) hL]; exact (b5 j hj).1
  · rw [hf.r 6 (by simp [own]) hL]; exact (b5 j hj).2 i hi
  · rw [hf.r 6 (by simp [own]) hL]; exact b6 i hi
/-- a STATE kept: the class's book i (cells 69 + 4 i ..), the reference's row of 110 -/
def KS (n i : Nat) (r : Nat → Nat) (f m : Nat) (e W : Nat → Nat) (μ : Mem) : Prop :=
  (gm_r μ (69 + 4 * i) 1 = nI f ∧ gm_r μ (69 + 4 * i) 3 = nI m ∧ (∀ k, k < f → gm_r μ (70 + 4 * i) k = nI (r k)) ∧ (∀ j, j < m → gm_r μ (71 + 4 * i) j = nI (e j)) ∧ ∀ j, j < 8 → gm_r μ (72 + 4 * i) j = nI (W j))
  ∧ (gm_r μ 103 (110 * i) = nI m ∧ gm_r μ 103 (110 * i + 1) = nI (seg r 0 (bst e m)) ∧ gm_r μ 103 (110 * i + 2) = nI (f - bst e m) ∧ gm_r μ 103 (110 * i + 3) = nI (seg r (bst e m) f) ∧ (∀ j, j < m → gm_r μ 103 (110 * i + 4 + j) = nI (e j - bst e j) ∧ ∀ k, k < e j - bst e j → gm_r μ 103 (110 * i + 16 + (6 * j + k)) = nI (r (bst e j + k))) ∧ (∀ k, k < f - bst e m → gm_r μ 103 (110 * i + 88 + k) = nI (r (bst e m + k))) ∧ ∀ j, j < 8 → gm_r μ 103 (110 * i + 94 + j) = nI (W j))
  ∧ BK n r f m e ∧ LK W
def KP (k n : Nat) (μ : Mem) : Prop := ∃ T, gm_r μ 78 1 = nI T ∧ T ≤ k ∧ ∀ i, i < 2 → (gm_r μ 77 i = 0 ∧ (gm_r μ 105 i = 0 ∨ ∃ a, a < T ∧ gm_r μ 104 i = nI a)) ∨ (gm_r μ 77 i = 1 ∧ gm_r μ 105 i = 1 ∧ gm_r μ 104 i = nI T ∧ ∃ r f m e W, KS n i r f m e W μ)
theorem own_ks {i o k : Nat} (hi : i < 2) (ho : o < 4) : own (69 + o + 4 * i) k = 7 := by
  unfold own
  rw [if_neg (by omega), if_neg (by omega), if_neg (by omega), if_neg (by omega), if_neg (by omega), if_neg (by omega), if_neg (by omega), if_pos (by omega)]
theorem KS.fr {n i f m : Nat} {r e W : Nat → Nat} (hi : i < 2) (hf : Fr L μ μ') (hL : ¬ 7 ∈ L) (h : KS n i r f m e W μ) : KS n i r f m e W μ' := by
  obtain ⟨⟨a1, a2, a3, a4, a5⟩, ⟨b1, b2, b3, b4, b5, b6, b7⟩, h3⟩ := h
  refine ⟨⟨?_, ?_, fun k hk => ?_, fun j hj => ?_, fun j hj => ?_⟩, ⟨?_, ?_, ?_, ?_, fun j hj => ⟨?_, fun k hk => ?_⟩, fun k hk => ?_, fun j hj => ?_⟩, h3⟩
  · rw [hf.r 7 (own_ks (o := 0) hi (by decide)) hL]; exact a1
  · rw [hf.r 7 (own_ks (o := 0) hi (by decide)) hL]; exact a2
  · rw [hf.r 7 (own_ks (o := 1) hi (by decide)) hL]; exact a3 k hk
  · rw [hf.r 7 (own_ks (o := 2) hi (by decide)) hL]; exact a4 j hj
  · rw [hf.r 7 (own_ks (o := 3) hi (by decide)) hL]; exact a5 j hj
  · rw [hf.r 7 (by simp [own]) hL]; exact b1
  · rw [hf.r 7 (by simp [own]) hL]; exact b2
  · rw [hf.r 7 (by simp [own]) hL]; exact b3
  · rw [hf.r 7 (by simp [own]) hL]; exact b4
  · rw [hf.r 7 (by simp [own]) hL]; exact (b5 j hj).1
  · rw [hf.r 7 (by simp [own]) hL]; exact (b5 j hj).2 k hk
  · rw [hf.r 7 (by simp [own]) hL]; exact b6 k hk
  · rw [hf.r 7 (by simp [own]) hL]; exact b7 j hj
theorem KP.fr {k n : Nat} (hf : Fr L μ μ') (hL : ¬ 7 ∈ L) (h : KP k n μ) : KP (k + 1) n μ' := by
  obtain ⟨T, h1, h2, h3⟩ := h
  refine ⟨T, by rw [hf.r 7 rfl hL]; exact h1, by omega, fun i hi => ?_⟩
  rw [hf.r (o := 77) 7 (by simp [own]) hL, hf.r (o := 105) 7 (by simp [own]) hL, hf.r (o := 104) 7 (by simp [own]) hL]
  rcases h3 i hi with h | ⟨g1, g2, g3, r, f, m, e, W, g4⟩
  · exact Or.inl h
  · exact Or.inr ⟨g1, g2, g3, r, f, m, e, W, g4.fr hi hf hL⟩
/-- whether plans are made -/
def PO (μ : Mem) : Prop := (gm_r μ 0 11 = 0 ∧ μ.1 = 106) ∨ (¬ gm_r μ 0 11 = 0 ∧ μ.1 = 144)
theorem PO.fr (hf : Fr L μ μ') (hL : ¬ 9 ∈ L) (h : PO μ) : PO μ' := by
  unfold PO
  rw [hf.r 9 rfl hL, hf.2 hL]
  exact h
def FG (μ : Mem) : Prop := ¬ gm_r μ 0 11 = 0 → gm_r μ 106 7 = -1 ∧ gm_r μ 106 9 = -1
theorem FG.fr (hf : Fr L μ μ') (hL : ¬ 9 ∈ L) (h : FG μ) : FG μ' := by
  unfold FG
  rw [hf.r 9 rfl hL, hf.r 9 rfl hL, hf.r 9 rfl hL]
  exact h
theorem t9_forget {G : gC} {l : Launch} {P : Mem → Prop} (hP : PO μ) (h : ∀ μ', Fr [9] μ μ' → PO μ' → FG μ' → P μ') : qX9_forgetPlans G l μ P := by
  refine eX9_forgetPlans ⟨fun h0 => h μ Fr.rfl hP (fun q => absurd h0 q), fun h1 => ?_⟩
  have hz : μ.1 = 144 := by
    rcases hP with ⟨g, _⟩ | ⟨_, g⟩
    · exact absurd g h1
    · exact g
  refine ⟨by omega, eX2_forget ⟨by omega, h _ ((Fr.w (by decide)).then_w (by decide)) (Or.inr ⟨?_, hz⟩) (fun _ => ⟨?_, ?_⟩)⟩⟩
  · rw [gm_rw_o (by decide), gm_rw_o (by decide)]; exact h1
  · rw [gm_rw_k (by decide), gm_rw_s]
  · rw [gm_rw_s]
end FRAME
