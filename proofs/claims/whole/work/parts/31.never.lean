/-! never, and count -/
theorem pcn_xor (a g : Nat) : ∀ k, pcn (a ^^^ 2 ^ g) k + (if g < k ∧ a.testBit g = true then 1 else 0) = pcn a k + (if g < k ∧ a.testBit g = false then 1 else 0)
  | 0 => by simp [pcn]
  | k + 1 => by
    have ih := pcn_xor a g k
    have e1 : pcn (a ^^^ 2 ^ g) (k + 1) = pcn (a ^^^ 2 ^ g) k + (if (a ^^^ 2 ^ g).testBit k then 1 else 0) := rfl
    have e2 : pcn a (k + 1) = pcn a k + (if a.testBit k then 1 else 0) := rfl
    rw [e1, e2, Nat.testBit_xor, Nat.testBit_two_pow]
    by_cases h : g = k
    · subst h
      have hn : ¬ g < g := by omega
      have hs : g < g + 1 := by omega
      simp only [hn, hs, false_and, true_and, if_false] at ih ⊢
      cases hb : a.testBit g <;> simp at ih ⊢ <;> omega
    · have h1 : (g < k + 1) = (g < k) := by apply propext; omega
      have h2 : decide (g = k) = false := by simp [h]
      simp only [h1, h2, Bool.xor_false]
      omega
theorem pc_xor {a g : Nat} (hg : g < 10) : pc (a ^^^ 2 ^ g) + (if a.testBit g = true then 1 else 0) = pc a + (if a.testBit g = false then 1 else 0) := by
  have := pcn_xor a g 10
  simpa [hg, pc] using this
theorem pcs_up (N : Nat → Nat) (f v : Nat) : ∀ k, pcs (updN N f v) k + (if f < k then pc (N f) else 0) = pcs N k + (if f < k then pc v else 0)
  | 0 => by simp [pcs]
  | k + 1 => by
    have ih := pcs_up N f v k
    have e1 : pcs (updN N f v) (k + 1) = pcs (updN N f v) k + pc (updN N f v k) := rfl
    have e2 : pcs N (k + 1) = pcs N k + pc (N k) := rfl
    rw [e1, e2]
    unfold updN at *
    by_cases h : f = k
    · subst h
      have h1 : ¬ f < f := by omega
      have h2 : f < f + 1 := by omega
      rw [if_neg h1, if_neg h1] at ih
      rw [if_pos h2, if_pos h2, if_pos rfl]
      omega
    · have h1 : (f < k + 1) = (f < k) := by apply propext; omega
      simp only [h1]
      rw [if_neg (fun q => h q.symm)]
      omega
/-- the pair f, g turned -/
def nvT (N : Nat → Nat) (f g : Nat) : Nat → Nat := updN (updN N f (N f ^^^ 2 ^ g)) g (N g ^^^ 2 ^ f)
theorem nvT_bit (N : Nat → Nat) {f g i j : Nat} (hfg : f ≠ g) : (nvT N f g i).testBit j = ((N i).testBit j ^^ (decide (i = f ∧ j = g) || decide (i = g ∧ j = f))) := by
  unfold nvT updN
  by_cases h1 : i = g
  · subst h1
    have : ¬ i = f := fun q => hfg q.symm
    simp [Nat.testBit_xor, Nat.testBit_two_pow, this]
    by_cases h2 : j = f
    · simp [h2]
    · have : ¬ f = j := fun q => h2 q.symm
      simp [h2, this]
  · by_cases h2 : i = f
    · subst h2
      simp [h1, Nat.testBit_xor, Nat.testBit_two_pow]
      by_cases h3 : j = g
      · simp [h3]
      · have : ¬ g = j := fun q => h3 q.symm
        simp [h3, this]
    · simp [h1, h2]
theorem nvT_lt {N : Nat → Nat} (hN : ∀ f, f < 8 → N f < 256) {f g : Nat} (hf : f < 8) (hg : g < 8) : ∀ i, i < 8 → nvT N f g i < 256 := by
  intro i hi
  have p : ∀ j, j < 8 → 2 ^ j < 2 ^ 8 := fun j hj => Nat.pow_lt_pow_right (by decide) hj
  unfold nvT updN
  by_cases h1 : i = g
  · rw [if_pos h1]; exact Nat.xor_lt_two_pow (n := 8) (hN g hg) (p f hf)
  · rw [if_neg h1]
    by_cases h2 : i = f
    · rw [if_pos h2]; exact Nat.xor_lt_two_pow (n := 8) (hN f hf) (p g hg)
    · rw [if_neg h2]; exact hN i hi
theorem nvT_pcs {N : Nat → Nat} {f g : Nat} (hf : f < 8) (hg : g < 8) (hfg : f ≠ g) (hs : (N f).testBit g = (N g).testBit f) : pcs (nvT N f g) 8 + (if (N f).testBit g = true then 2 else 0) = pcs N 8 + (if (N f).testBit g = false then 2 else 0) := by
  have h1 := pcs_up N f (N f ^^^ 2 ^ g) 8
  have h2 := pcs_up (updN N f (N f ^^^ 2 ^ g)) g (N g ^^^ 2 ^ f) 8
  have h3 := pc_xor (a := N f) (g := g) (by omega)
  have h4 := pc_xor (a := N g) (g := f) (by omega)
  have e : updN N f (N f ^^^ 2 ^ g) g = N g := by unfold updN; rw [if_neg (fun q => hfg q.symm)]
  rw [if_pos hf, if_pos hf] at h1
  rw [if_pos hg, if_pos hg, e] at h2
  unfold nvT
  rw [← hs] at h4
  cases hb : (N f).testBit g <;> simp [hb] at h3 h4 ⊢ <;> omega
section NEVER
variable {G : gC} {l : Launch} {μ : Mem} {N : Nat → Nat}
theorem t_nevers {P : Int32 → Mem → Prop} {p : Nat} (hN : NM N μ) (hp : pcs N 8 = 2 * p) (h : P (nI p) μ) : qX10_nevers G l μ P := by
  have bd : ∀ k, k ≤ 8 → pcs N k ≤ 10 * k := fun k => by
    induction k with
    | zero => intro _; exact Nat.le_refl _
    | succ k ih =>
      intro hk
      have := ih (by omega)
      have h2 := pcn_le (N k) 10
      have e : pcs N (k + 1) = pcs N k + pcn (N k) 10 := rfl
      omega
  refine eX10_nevers ?_
  refine down (H := fun j => hX10_nevers_4 G l P (nI (pcs N j)) (nI j) μ) (n := 8) ?_ ?_
  · refine eX10_nevers_4 ⟨fun _ => ?_, fun q => absurd (Int32.le_refl _) q⟩
    have e : ∀ p : Nat, p < 41 → nI (2 * p) / 2 = nI p := by decide +kernel
    rw [hp, e p (by have := bd 8 (Nat.le_refl _); omega)]
    exact h
  · intro j hj ih
    refine eX10_nevers_4 ⟨fun q => absurd q (nI_ge (b := 8) hj (by decide)), fun _ => ⟨vp_in_nI hj (by decide), ?_⟩⟩
    rw [nI_clamp (by omega), (hN j hj).1]
    refine t_ones (by have := (hN j hj).2; omega) ?_
    rw [nI_add, nI_1]
    exact ih
theorem t_isNever {P : Int32 → Mem → Prop} {f g : Nat} (hN : NC N μ) (hf : f < 8) (hg : g < 8) (h : P (if (N f).testBit g then 1 else 0) μ) : qX5_isNever G l (nI f) (nI g) μ P := by
  refine eX5_isNever ⟨fun q => absurd q (nI_pos (by omega)), fun _ => ⟨fun q => absurd q (nI_ge (b := 8) hf (by decide)), fun _ => ⟨vp_in_nI hf (by decide), fun q => ?_, fun q => ?_⟩⟩⟩
  · rw [nI_clamp (by omega), (hN f hf).1, nI_has (by have := (hN f hf).2; omega) (by omega)] at q
    rw [if_neg q] at h; exact h
  · rw [nI_clamp (by omega), (hN f hf).1, nI_has (by have := (hN f hf).2; omega) (by omega)] at q
    rw [if_pos q] at h; exact h
/-- what the reference makes of never f, g -/
theorem t_neverM {P : Int32 → Mem → Prop} {f g : Nat} {a3 : Int32} (hN : NM N μ) (hS : (N f).testBit g = (N g).testBit f) (hf : f < 8) (hg : g < 8) (hfg : f ≠ g) (b : Bool) (ha : a3 = if b then 1 else 0)
    (h : ∀ N', (N' = if (N f).testBit g = b then N else nvT N f g) → P (if (N f).testBit g then 1 else 0) (gm_w (gm_w μ 82 f (nI (N' f))) 82 g (nI (N' g)))) : qX10_never G l (nI f) (nI g) a3 μ P := by
  have h07 : ∀ k, k < 8 → ((0 : Int32) ≤ nI k ∧ nI k ≤ 7) := fun k hk => (w_in (a := 0) (by decide) 7 (by decide)).mpr ⟨k, by omega, by omega, rfl⟩
  refine eX10_never (t_inI 0 7 rfl rfl ?_)
  rw [if_pos (h07 f hf)]
  refine ⟨fun q => absurd q (by decide), fun _ => t_inI 0 7 rfl rfl ?_⟩
  rw [if_pos (h07 g hg)]
  refine ⟨fun q => absurd q (by decide), fun _ => ⟨fun _ => ⟨vp_in_nI hf (by decide), fun v9 e9 => ?_⟩, fun q => absurd ((nI_eq (by omega) (by omega)).mp q) hfg⟩⟩
  rw [nI_clamp (by omega), (hN f hf).1, nI_bit (by have := (hN f hf).2; omega) (by omega)] at e9
  subst e9
  have key := h _ rfl
  have or_set : ∀ a k : Nat, a.testBit k = true → a ||| 2 ^ k = a := fun a k hb => by
    apply Nat.eq_of_testBit_eq
    intro i
    rw [Nat.testBit_or, Nat.testBit_two_pow]
    by_cases q : k = i
    · subst q; simp [hb]
    · simp [q]
  have or_xor : ∀ a k : Nat, a.testBit k = false → a ||| 2 ^ k = a ^^^ 2 ^ k := fun a k hb => by
    apply Nat.eq_of_testBit_eq
    intro i
    rw [Nat.testBit_or, Nat.testBit_xor, Nat.testBit_two_pow]
    by_cases q : k = i
    · subst q; simp [hb]
    · simp [q]
  have sd_no : ∀ a k : Nat, a < 256 → a.testBit k = false → sd a (2 ^ k) = a := fun a k ha hb => by
    apply Nat.eq_of_testBit_eq
    intro i
    by_cases h32 : i < 32
    · rw [sd_bit h32, Nat.testBit_two_pow]
      by_cases q : k = i
      · subst q; simp [hb]
      · simp [q]
    · have h8 : 2 ^ 8 ≤ 2 ^ i := Nat.pow_le_pow_right (by decide) (by omega)
      rw [Nat.testBit_lt_two_pow (Nat.lt_of_le_of_lt (sd_le _ _) (by omega)), Nat.testBit_lt_two_pow (by omega)]
  have sd_xor : ∀ a k : Nat, a < 256 → k < 8 → a.testBit k = true → sd a (2 ^ k) = a ^^^ 2 ^ k := fun a k ha hk hb => by
    apply Nat.eq_of_testBit_eq
    intro i
    by_cases h32 : i < 32
    · rw [sd_bit h32, Nat.testBit_xor, Nat.testBit_two_pow]
      by_cases q : k = i
      · subst q; simp [hb]
      · simp [q]
    · have h8 : 2 ^ 8 ≤ 2 ^ i := Nat.pow_le_pow_right (by decide) (by omega)
      have hk2 : 2 ^ k < 2 ^ 8 := Nat.pow_lt_pow_right (by decide) hk
      rw [Nat.testBit_lt_two_pow (Nat.lt_of_le_of_lt (sd_le _ _) (by omega)), Nat.testBit_lt_two_pow (Nat.lt_of_lt_of_le (Nat.xor_lt_two_pow (n := 8) ha hk2) h8)]
  have nf : nvT N f g f = N f ^^^ 2 ^ g := by unfold nvT updN; rw [if_neg hfg, if_pos rfl]
  have ng : nvT N f g g = N g ^^^ 2 ^ f := by unfold nvT updN; rw [if_pos rfl]
  have r2 : ∀ v : Int32, gm_r (gm_w μ 82 f v) 82 g = nI (N g) := fun v => by rw [gm_rw_k (fun q => hfg q.symm)]; exact (hN g hg).1
  have hbf := (hN f hf).2
  have hbg := (hN g hg).2
  rw [nI_clamp (by omega), (hN f hf).1, nI_bit1 (by omega), nI_sd, nI_or]
  refine ⟨fun q => ?_, fun q => ?_⟩
  · have hb : b = false := by cases b with | false => rfl | true => rw [ha] at q; exact absurd q (by decide)
    subst hb
    refine eX10_never_79 ⟨vp_in_nI hf (by decide), fun _ => ⟨vp_in_nI hg (by decide), ?_⟩, fun q2 => absurd q q2⟩
    rw [nI_clamp (by omega), nI_clamp (by omega), r2, nI_bit1 (by omega), nI_sd]
    cases hb2 : (N f).testBit g with
    | false =>
      rw [sd_no _ _ hbf hb2, sd_no _ _ hbg (hS ▸ hb2)]
      rw [hb2] at key
      exact key
    | true =>
      rw [sd_xor _ _ hbf hg hb2, sd_xor _ _ hbg hf (hS ▸ hb2)]
      rw [hb2, show (if true = false then N else nvT N f g) = nvT N f g from rfl, nf, ng] at key
      exact key
  · have hb : b = true := by cases b with | true => rfl | false => rw [ha] at q; exact absurd rfl q
    subst hb
    refine eX10_never_79 ⟨vp_in_nI hf (by decide), fun q2 => absurd q2 q, fun _ => ⟨vp_in_nI hg (by decide), ?_⟩⟩
    rw [nI_clamp (by omega), nI_clamp (by omega), r2, nI_bit1 (by omega), nI_or]
    cases hb2 : (N f).testBit g with
    | true =>
      rw [or_set _ _ hb2, or_set _ _ (hS ▸ hb2)]
      rw [hb2] at key
      exact key
    | false =>
      rw [or_xor _ _ hb2, or_xor _ _ (hS ▸ hb2)]
      rw [hb2, show (if false = true then N else nvT N f g) = nvT N f g from rfl, nf, ng] at key
      exact key
theorem pr_never (hN : NV N μ) (hP : PO μ) (a1 a2 a3 : Int32) (h3 : a3 = 0 ∨ a3 = 1) : qX9_never G l a1 a2 a3 μ (fun r1 μ1 => qX10_never G l a1 a2 a3 μ1 (fun r2 μ2 => r1 = r2 ∧ ((Fr [4] μ μ2 ∧ NV N μ2) ∨ (Fr [4, 8, 9] μ μ2 ∧ PO μ2 ∧ FG μ2 ∧ gm_r μ2 30 2 = 0 ∧ ∃ N, NV N μ2)))) := by
  obtain ⟨hC, hM, hS, p, hp1, hp2⟩ := hN
  have hN : NV N μ := ⟨hC, hM, hS, p, hp1, hp2⟩
  have in7 : ∀ x : Int32, ((0 : Int32) ≤ x ∧ x ≤ 7) ↔ ∃ k, k < 8 ∧ x = nI k := fun x => by
    refine (w_in (a := 0) (by decide) 7 (by decide)).trans ⟨fun ⟨k, _, h1, h2⟩ => ⟨k, by omega, h2⟩, fun ⟨k, h1, h2⟩ => ⟨k, by omega, by omega, h2⟩⟩
  have out : (¬ ∃ f g, f < 8 ∧ g < 8 ∧ a1 = nI f ∧ a2 = nI g ∧ f ≠ g) → qX10_never G l a1 a2 a3 μ (fun r2 μ2 => -1001 = r2 ∧ ((Fr [4] μ μ2 ∧ NV N μ2) ∨ (Fr [4, 8, 9] μ μ2 ∧ PO μ2 ∧ FG μ2 ∧ gm_r μ2 30 2 = 0 ∧ ∃ N, NV N μ2))) := fun hno => by
    have fin : -1001 = (-1001 : Int32) ∧ ((Fr [4] μ μ ∧ NV N μ) ∨ (Fr [4, 8, 9] μ μ ∧ PO μ ∧ FG μ ∧ gm_r μ 30 2 = 0 ∧ ∃ N, NV N μ)) := ⟨rfl, Or.inl ⟨Fr.rfl, hN⟩⟩
    refine eX10_never (t_inI 0 7 rfl rfl ?_)
    by_cases h1 : ∃ k, k < 8 ∧ a1 = nI k
    · rw [if_pos ((in7 a1).mpr h1)]
      refine ⟨fun q => absurd q (by decide), fun _ => t_inI 0 7 rfl rfl ?_⟩
      by_cases h2 : ∃ k, k < 8 ∧ a2 = nI k
      · rw [if_pos ((in7 a2).mpr h2)]
        refine ⟨fun q => absurd q (by decide), fun _ => ⟨fun q => ?_, fun _ => fin⟩⟩
        obtain ⟨f, f1, f2⟩ := h1
        obtain ⟨g, g1, g2⟩ := h2
        exact absurd ⟨f, g, f1, g1, f2, g2, fun e => q (by rw [f2, g2, e])⟩ hno
      · rw [if_neg (fun q => h2 ((in7 a2).mp q))]
        exact ⟨fun _ => fin, fun q => absurd rfl q⟩
    · rw [if_neg (fun q => h1 ((in7 a1).mp q))]
      exact ⟨fun _ => fin, fun q => absurd rfl q⟩
  by_cases hfg : ∃ f g, f < 8 ∧ g < 8 ∧ a1 = nI f ∧ a2 = nI g ∧ f ≠ g
  · obtain ⟨f, g, hf, hg, rfl, rfl, hne⟩ := hfg
    obtain ⟨b, hb⟩ : ∃ b : Bool, a3 = if b then 1 else 0 := by
      rcases h3 with h | h
      · exact ⟨false, h⟩
      · exact ⟨true, h⟩
    refine eX9_never ⟨fun q => absurd q (nI_pos (by omega)), fun _ => ⟨fun q => absurd q (nI_ge (b := 8) hf (by decide)), fun _ => ⟨fun q => absurd q (nI_pos (by omega)), fun _ => ⟨fun q => absurd q (nI_ge (b := 8) hg (by decide)), fun _ => ⟨fun _ => t_isNever hC hf hg ⟨fun q => ?_, fun q => ?_⟩, fun q => absurd ((nI_eq (by omega) (by omega)).mp q) hne⟩⟩⟩⟩⟩
    · have hbb : (N f).testBit g = b := by
        rw [hb] at q
        cases h1 : (N f).testBit g <;> cases b <;> rw [h1] at q <;> first | rfl | exact absurd q (by decide)
      have fin : ∀ r1 : Int32, r1 = (if (N f).testBit g then 1 else 0) → qX10_never G l (nI f) (nI g) a3 μ (fun r2 μ2 => r1 = r2 ∧ ((Fr [4] μ μ2 ∧ NV N μ2) ∨ (Fr [4, 8, 9] μ μ2 ∧ PO μ2 ∧ FG μ2 ∧ gm_r μ2 30 2 = 0 ∧ ∃ N, NV N μ2))) := fun r1 hr => by
        refine t_neverM hM (hS f g hf hg) hf hg hne b hb (fun N' hN' => ⟨hr, Or.inl ⟨?_, ?_⟩⟩)
        · exact (Fr.w (by rw [show own 82 f = 4 from by simp [own]]; decide)).then_w (by rw [show own 82 g = 4 from by simp [own]]; decide)
        · rw [if_pos hbb] at hN'
          subst hN'
          refine ⟨fun i hi => ⟨?_, (hC i hi).2⟩, fun i hi => ⟨?_, (hM i hi).2⟩, hS, p, ?_, hp2⟩
          · rw [gm_rw_o (by decide), gm_rw_o (by decide)]; exact (hC i hi).1
          · rw [gm_rw, gm_rw]
            by_cases q1 : i = g
            · rw [if_pos ⟨rfl, q1⟩, q1]
            · rw [if_neg (fun z => q1 z.2)]
              by_cases q2 : i = f
              · rw [if_pos ⟨rfl, q2⟩, q2]
              · rw [if_neg (fun z => q2 z.2)]; exact (hM i hi).1
          · rw [gm_rw_o (by decide), gm_rw_o (by decide)]; exact hp1
      refine ⟨fun h0 => fin 0 h0.symm, fun h0 => fin 1 ?_⟩
      cases h1 : (N f).testBit g
      · rw [h1] at h0; exact absurd rfl h0
      · rfl
    · have hbb : ¬ (N f).testBit g = b := fun z => q (by rw [hb, z])
      have hp : ∃ y p' : _, (if (if (N f).testBit g then (1 : Int32) else 0) = 0 then (1 : Int32) else -1) = y ∧ nI p + y = nI p' ∧ pcs (nvT N f g) 8 = 2 * p' := by
        have h := nvT_pcs hf hg hne (hS f g hf hg)
        have bd : p ≤ 1000 := by
          have bd : ∀ k, pcs N k ≤ 10 * k := fun k => by
            induction k with
            | zero => exact Nat.le_refl _
            | succ k ih =>
              have h2 := pcn_le (N k) 10
              have e : pcs N (k + 1) = pcs N k + pcn (N k) 10 := rfl
              omega
          have := bd 8
          omega
        cases h1 : (N f).testBit g with
        | false =>
          refine ⟨1, p + 1, by simp, ?_, ?_⟩
          · rw [nI_1]
          · simp [h1] at h; omega
        | true =>
          simp [h1] at h
          obtain ⟨p', rfl⟩ : ∃ p', p = p' + 1 := ⟨p - 1, by omega⟩
          refine ⟨-1, p', by simp, ?_, by omega⟩
          rw [show nI (p' + 1) + (-1 : Int32) = nI (p' + 1) - 1 from (Int32.sub_eq_add_neg _ _).symm, nI_pred]
      obtain ⟨y, p', ey, ep, es⟩ := hp
      have t40 : ∀ P : Mem → Prop, (P (gm_w (gm_w (gm_w μ 28 2 (nI p')) 29 f (nI (nvT N f g f))) 29 g (nI (nvT N f g g)))) → hX5_turnNever_40 G l P (nI f) (nI g) y (gm_r μ 28 2) μ := fun P h => by
        have nf : nvT N f g f = N f ^^^ 2 ^ g := by unfold nvT updN; rw [if_neg hne, if_pos rfl]
        have ng : nvT N f g g = N g ^^^ 2 ^ f := by unfold nvT updN; rw [if_pos rfl]
        refine eX5_turnNever_40 ⟨vp_in_nI hf (by decide), vp_in_nI hg (by decide), ?_⟩
        rw [nI_clamp (by omega), nI_clamp (by omega), hp1, ep, gm_rw_k (fun q => hne q.symm), gm_rw_o (by decide), (hC f hf).1, (hC g hg).1, nI_bit1 (by omega), nI_bit1 (by omega), nI_xor, nI_xor, ← nf, ← ng]
        exact h
      refine eX5_turnNever ⟨fun q => absurd q (nI_pos (by omega)), fun _ => ⟨fun q => absurd q (nI_ge (b := 8) hf (by decide)), fun _ => ⟨fun q => absurd q (nI_pos (by omega)), fun _ => ⟨fun _ => t_isNever hC hf hg ?_, fun q => absurd (nI_lt (b := 8) hg (by decide)) q⟩⟩⟩⟩
      have rest : ∀ P : Mem → Prop, (∀ μ1, Fr [4, 8, 9] μ μ1 → PO μ1 → FG μ1 → gm_r μ1 30 2 = 0 → NC (nvT N f g) μ1 → NM N μ1 → gm_r μ1 28 2 = nI p' → P μ1) → qX9_forgetPlans G l (gm_w (gm_w (gm_w (gm_w μ 28 2 (nI p')) 29 f (nI (nvT N f g f))) 29 g (nI (nvT N f g g))) 30 2 0) P := fun P h => by
        have fr0 : Fr [4, 8, 9] μ (gm_w (gm_w (gm_w (gm_w μ 28 2 (nI p')) 29 f (nI (nvT N f g f))) 29 g (nI (nvT N f g g))) 30 2 0) := (((Fr.w (by decide)).then_w (by rw [show own 29 f = 4 from by simp [own]]; decide)).then_w (by rw [show own 29 g = 4 from by simp [own]]; decide)).then_w (by decide)
        refine t9_forget ?_ (fun μ1 f1 p1 g1 => h μ1 (fr0.trans (f1.mono (by decide))) p1 g1 ?_ ?_ ?_ ?_)
        · unfold PO
          rw [gm_rw_o (by decide), gm_rw_o (by decide), gm_rw_o (by decide), gm_rw_o (by decide)]
          exact hP
        · rw [f1.r 8 rfl (by decide), gm_rw_s]
        · intro i hi
          refine ⟨?_, nvT_lt (fun k hk => (hC k hk).2) hf hg i hi⟩
          rw [f1.r 4 (by simp [own]) (by decide), gm_rw_o (by decide), gm_rw, gm_rw]
          by_cases q1 : i = g
          · rw [if_pos ⟨rfl, q1⟩, q1]
          · rw [if_neg (fun z => q1 z.2)]
            by_cases q2 : i = f
            · rw [if_pos ⟨rfl, q2⟩, q2]
            · rw [if_neg (fun z => q2 z.2), gm_rw_o (by decide), (hC i hi).1]
              unfold nvT updN
              rw [if_neg q1, if_neg q2]
        · intro i hi
          refine ⟨?_, (hM i hi).2⟩
          rw [f1.r 4 (by simp [own]) (by decide), gm_rw_o (by decide), gm_rw_o (by decide), gm_rw_o (by decide), gm_rw_o (by decide)]
          exact (hM i hi).1
        · rw [f1.r 4 rfl (by decide), gm_rw_o (by decide), gm_rw_o (by decide), gm_rw_o (by decide), gm_rw_s]
      have fin : ∀ (r1 : Int32), r1 = (if (N f).testBit g then 1 else 0) → ∀ μ1, Fr [4, 8, 9] μ μ1 → PO μ1 → FG μ1 → gm_r μ1 30 2 = 0 → NC (nvT N f g) μ1 → NM N μ1 → gm_r μ1 28 2 = nI p' → qX10_never G l (nI f) (nI g) a3 μ1 (fun r2 μ2 => r1 = r2 ∧ ((Fr [4] μ μ2 ∧ NV N μ2) ∨ (Fr [4, 8, 9] μ μ2 ∧ PO μ2 ∧ FG μ2 ∧ gm_r μ2 30 2 = 0 ∧ ∃ N, NV N μ2))) := by
        intro r1 hr μ1 f1 p1 g1 z1 c1 m1 q1
        refine t_neverM m1 (hS f g hf hg) hf hg hne b hb (fun N' hN' => ⟨hr, Or.inr ⟨?_, ?_, ?_, ?_, nvT N f g, ?_⟩⟩)
        · exact (f1.then_w (by rw [show own 82 f = 4 from by simp [own]]; decide)).then_w (by rw [show own 82 g = 4 from by simp [own]]; decide)
        · unfold PO
          rw [gm_rw_o (by decide), gm_rw_o (by decide)]
          exact p1
        · unfold FG
          rw [gm_rw_o (by decide), gm_rw_o (by decide), gm_rw_o (by decide), gm_rw_o (by decide), gm_rw_o (by decide), gm_rw_o (by decide)]
          exact g1
        · rw [gm_rw_o (by decide), gm_rw_o (by decide)]; exact z1
        · rw [if_neg hbb] at hN'
          subst hN'
          refine ⟨fun i hi => ⟨?_, (c1 i hi).2⟩, fun i hi => ⟨?_, (c1 i hi).2⟩, fun i j hi hj => ?_, p', ?_, es⟩
          · rw [gm_rw_o (by decide), gm_rw_o (by decide)]; exact (c1 i hi).1
          · rw [gm_rw, gm_rw]
            by_cases q1 : i = g
            · rw [if_pos ⟨rfl, q1⟩, q1]
            · rw [if_neg (fun z => q1 z.2)]
              by_cases q2 : i = f
              · rw [if_pos ⟨rfl, q2⟩, q2]
              · rw [if_neg (fun z => q2 z.2), (m1 i hi).1]
                unfold nvT updN
                rw [if_neg q1, if_neg q2]
          · rw [nvT_bit N hne, nvT_bit N hne, hS i j hi hj]
            congr 1
            rw [Bool.or_comm]
            congr 1 <;> (apply decide_eq_decide.mpr; exact ⟨fun ⟨a, b⟩ => ⟨b, a⟩, fun ⟨a, b⟩ => ⟨b, a⟩⟩)
          · rw [gm_rw_o (by decide), gm_rw_o (by decide)]; exact q1
      have two : ∀ μ1, Fr [4, 8, 9] μ μ1 → PO μ1 → FG μ1 → gm_r μ1 30 2 = 0 → NC (nvT N f g) μ1 → NM N μ1 → gm_r μ1 28 2 = nI p' → (((if (N f).testBit g then (1 : Int32) else 0) = 0 → qX10_never G l (nI f) (nI g) a3 μ1 (fun r2 μ2 => (0 : Int32) = r2 ∧ ((Fr [4] μ μ2 ∧ NV N μ2) ∨ (Fr [4, 8, 9] μ μ2 ∧ PO μ2 ∧ FG μ2 ∧ gm_r μ2 30 2 = 0 ∧ ∃ N, NV N μ2)))) ∧ (¬ (if (N f).testBit g then (1 : Int32) else 0) = 0 → qX10_never G l (nI f) (nI g) a3 μ1 (fun r2 μ2 => (1 : Int32) = r2 ∧ ((Fr [4] μ μ2 ∧ NV N μ2) ∨ (Fr [4, 8, 9] μ μ2 ∧ PO μ2 ∧ FG μ2 ∧ gm_r μ2 30 2 = 0 ∧ ∃ N, NV N μ2))))) := fun μ1 x1 x2 x3 x4 x5 x6 x7 => by
        refine ⟨fun h0 => fin 0 h0.symm μ1 x1 x2 x3 x4 x5 x6 x7, fun h0 => fin 1 ?_ μ1 x1 x2 x3 x4 x5 x6 x7⟩
        cases h1 : (N f).testBit g
        · rw [h1] at h0; exact absurd rfl h0
        · rfl
      refine ⟨fun h0 => ?_, fun h0 => ?_⟩
      · have : y = 1 := by rw [← ey, if_pos h0]
        subst this
        exact t40 _ (rest _ two)
      · have : y = -1 := by rw [← ey, if_neg h0]
        subst this
        exact t40 _ (rest _ two)
  · have o1 := out hfg
    refine eX9_never ⟨fun _ => o1, fun q1 => ⟨fun _ => o1, fun q2 => ⟨fun _ => o1, fun q3 => ⟨fun _ => o1, fun q4 => ⟨fun q5 => ?_, fun _ => o1⟩⟩⟩⟩⟩
    exfalso
    obtain ⟨f, f1, rfl⟩ := nI_of q1
    obtain ⟨g, g1, rfl⟩ := nI_of q3
    rw [show (8 : Int32) = nI 8 from rfl, nI_leI (by decide) f1] at q2
    rw [show (8 : Int32) = nI 8 from rfl, nI_leI (by decide) g1] at q4
    exact hfg ⟨f, g, by omega, by omega, rfl, rfl, fun e => q5 (by rw [e])⟩
end NEVER
