/-! a list: the class -/
section LISTC
variable {G : gC} {l : Launch} {t n w i j v : Nat} {x : Nat → Nat} {c : Nat → Nat → Nat} {D : Nat → Nat}
theorem CI.up {last : Nat} (h : CI n last c D) (hw : last ≤ w) : CI n w c D := ⟨h.1, h.2.1, h.2.2.1, fun u hu hu8 => h.2.2.2.1 u (by omega) hu8, fun z => h.2.2.2.2 (by omega)⟩
theorem CI_num (h : CI n w c D) (hw0 : 1 ≤ w) (hw : w < 9) (hF : nF x w n c D i j = 0) : CI n w (nC w n (vlu x i j) c) (nD w n (vlu x i j) D) := by
  obtain ⟨g0, g1, g2, g3⟩ := grt_ok w hw
  obtain ⟨k1, k2, k3, k4, k5, k6, k7, k8, k9⟩ := nF_ok hF
  obtain ⟨h1, h2, ⟨b0, b1, b2, b3, b4, b5, b6, b7, b8⟩, h4, h5⟩ := h
  generalize vlu x i j = v at *
  have p8 : 2 ≤ w → w ≠ 3 → 2 ^ v < 2 ^ 8 := fun z1 z2 => Nat.pow_lt_pow_right (by decide) (by have := g3 z1 z2; omega)
  have lst : ∀ u, u = w → 2 ≤ w → w ≤ 7 → w ≠ 3 → c n u < 256 → nC w n v c n u < 256 := fun u e z1 z2 z3 z4 => by
    subst e; rw [nC_lst ⟨z1, z2⟩]; exact Nat.or_lt_two_pow (n := 8) z4 (p8 z1 z3)
  refine ⟨h1, SK_num h2, ⟨?_, ?_, ?_, ?_, ?_, ?_, ?_, ?_, ?_⟩, fun u hu hu8 => ?_, fun z => ?_⟩
  · rw [nC_ne (by omega) (by omega)]; exact b0
  · by_cases e : w = 1
    · subst e; rw [nC_num (by decide)]
      have : gr 1 = 9 := rfl
      omega
    · rw [nC_ne (by omega) (by omega)]; exact b1
  · by_cases e : w = 2
    · exact lst 2 e.symm (by omega) (by omega) (by omega) b2
    · by_cases e8 : w = 8
      · subst e8; rw [nC_die]; exact Nat.or_lt_two_pow (n := 8) b2 (p8 (by decide) (by decide))
      · rw [nC_ne (by omega) (by omega)]; exact b2
  · by_cases e : w = 3
    · subst e
      rw [nC_lst (by decide)]
      exact Nat.or_lt_two_pow b3 (Nat.pow_lt_pow_right (by decide) (k6 rfl))
    · rw [nC_ne (by omega) (by omega)]; exact b3
  · by_cases e : w = 4
    · exact lst 4 e.symm (by omega) (by omega) (by omega) b4
    · rw [nC_ne (by omega) (by omega)]; exact b4
  · by_cases e : w = 5
    · exact lst 5 e.symm (by omega) (by omega) (by omega) b5
    · rw [nC_ne (by omega) (by omega)]; exact b5
  · by_cases e : w = 6
    · exact lst 6 e.symm (by omega) (by omega) (by omega) b6
    · rw [nC_ne (by omega) (by omega)]; exact b6
  · by_cases e : w = 7
    · exact lst 7 e.symm (by omega) (by omega) (by omega) b7
    · rw [nC_ne (by omega) (by omega)]; exact b7
  · by_cases e : w = 8
    · subst e; rw [nD_die]; have := g3 (by decide) (by decide); omega
    · rw [nD_ne e]; exact b8
  · rw [nC_ne (by omega) (by omega)]; exact h4 u hu hu8
  · rw [nD_ne (by omega)]; exact h5 z
theorem pc_num (h : CI n w c D) (hl : 2 ≤ w ∧ w ≤ 7) (hF : nF x w n c D i j = 0) : pc (nC w n (vlu x i j) c n w) = pc (c n w) + 1 := by
  obtain ⟨g0, g1, g2, g3⟩ := grt_ok w (by omega)
  obtain ⟨k1, k2, k3, k4, k5, _⟩ := nF_ok hF
  have := g2 hl.1
  rw [nC_lst hl]
  exact pc_or (by omega) (k5 hl)
theorem chr_pos {k : Nat} (h : chr t x i = k + 1) : i < t := by
  refine Nat.lt_of_not_le (fun z => ?_)
  unfold chr at h
  rw [if_neg (by omega)] at h
  omega
theorem c_list {P : Int32 → Mem → Prop} (hw0 : 1 ≤ w) (hw : w < 9) : ∀ d m i c D μ, m + d = 11 → i ≤ t → CI n w c D → (2 ≤ w ∧ w ≤ 7 → pc (c n w) + d = 11) → (¬ (2 ≤ w ∧ w ≤ 7) → m = 0) → (w = 8 → D n = 0) → TXC t x μ → CR i n c D μ → ((LF t x w n d i c D).1 ≠ 0 → ∀ μ', CF μ μ' → gm_r μ' 3 3 = nI (LF t x w n d i c D).1 → gm_r μ' 3 4 = nI (LF t x w n d i c D).2.1 → P (nI w) μ') → ((LF t x w n d i c D).1 = 0 → ∀ μ', CF μ μ' → (LF t x w n d i c D).2.2.1 ≤ t → CI n w (LF t x w n d i c D).2.2.2.1 (LF t x w n d i c D).2.2.2.2 → CR (LF t x w n d i c D).2.2.1 n (LF t x w n d i c D).2.2.2.1 (LF t x w n d i c D).2.2.2.2 μ' → P (nI w) μ') → qX4_readNumber G l (nI w) μ (fun μ4 => hX4_readPart_31 G l P (nI w) (nI m) μ4) := by
  intro d
  induction d with
  | zero =>
    intro m i c D μ hm hi hC hpc hnl _ _ _ _ _
    by_cases hl : 2 ≤ w ∧ w ≤ 7
    · have := hpc hl
      have : pc (c n w) ≤ 10 := pcn_le _ _
      omega
    · have := hnl hl; omega
  | succ d ih =>
    intro m i c D μ hm hi hC hpc hnl hD8 hT hR hf hok
    have ht := hT.2.1
    have hs : sk t x i ≤ t := (rn_ok (t := t) (p := isBl x) hi).2.1
    have hdg := rn_ok (t := t) (p := isDg x) hs
    have hde : de t x (sk t x i) ≤ t := hdg.2.1
    have hs2 : sk t x (de t x (sk t x i)) ≤ t := (rn_ok (t := t) (p := isBl x) hde).2.1
    rw [LF_succ] at hf hok
    refine c_number hT hi hw hC.nb hR hD8 (fun q μ1 c1 g1 g2 => ?_) (fun q μ1 c1 r1 => ?_)
    · rw [if_pos q] at hf
      have hP := hf q μ1 c1 g1 g2
      have hle := nF_le (x := x) (w := w) (n := n) (c := c) (D := D) (i := sk t x i) (j := de t x (sk t x i))
      refine eX4_readPart_31 ⟨fun _ => hP, fun _ => ⟨fun _ => hP, fun z => absurd z ?_⟩⟩
      rw [g1, nI_z (by omega)]
      exact q
    · rw [if_neg (fun z => z q)] at hf hok
      have hC1 := CI_num hC hw0 hw q
      have hT1 := hT.cf c1
      have hm9 : m < 10 := by
        refine Nat.lt_of_not_le (fun z => ?_)
        by_cases hl : 2 ≤ w ∧ w ≤ 7
        · have e1 := pc_num hC hl q
          have e2 := hpc hl
          have : pc (nC w n (vlu x (sk t x i) (de t x (sk t x i))) c n w) ≤ 10 := pcn_le _ _
          omega
        · have := hnl hl; omega
      refine eX4_readPart_31 ⟨fun z => absurd z (by rw [show (10 : Int32) = nI 10 from rfl, nI_leI (by decide) (by omega)]; omega), fun _ => ⟨fun z => absurd r1.2.2.1 z, fun _ => eX4_takeComma (c_skip hT1 hde r1.2.1 (fun μ2 a2 g2 => t7_isList hw ?_))⟩⟩
      have r2 := r1.a2 a2 g2
      by_cases hl : 2 ≤ w ∧ w ≤ 7
      · rw [if_pos hl]
        refine ⟨fun z => absurd z (by decide), fun _ => ?_⟩
        rw [g2]
        refine c_at (hT1.cf a2.cf) (by omega) ?_
        have hcl := chr_lt (x := x) (t := t) (i := sk t x (de t x (sk t x i))) (fun i hi => (hT.2.2 i hi).2)
        rw [show (44 : Int32) = nI 45 - 1 from by decide, dI_eq (by omega) (by decide)]
        refine ⟨fun z => ⟨fun y => absurd y (by decide), fun _ => ?_⟩, fun z => ⟨fun _ => ?_, fun y => absurd rfl y⟩⟩
        · rw [if_pos ⟨hl, z⟩] at hf hok
          have hlt := chr_pos (k := 44) z
          rw [g2, nI_1, nI_1]
          have a3 : A2 μ2 (gm_w μ2 3 2 (nI (sk t x (de t x (sk t x i)) + 1))) := A2.rfl.w
          have c3 : CF μ (gm_w μ2 3 2 (nI (sk t x (de t x (sk t x i)) + 1))) := (c1.trans a2.cf).trans a3.cf
          refine ih (m + 1) _ _ _ _ (by omega) (by omega) hC1 (fun _ => ?_) (fun y => absurd hl y) (fun y => by omega) (hT.cf c3) (r2.a2 a3 gm_rw_s) (fun y μ4 c4 => hf y μ4 (c3.trans c4)) (fun y μ4 c4 => hok y μ4 (c3.trans c4))
          rw [pc_num hC hl q]
          have := hpc hl
          omega
        · rw [if_neg (fun y => z y.2)] at hok
          exact hok rfl μ2 (c1.trans a2.cf) hs2 hC1 r2
      · rw [if_neg hl]
        rw [if_neg (fun y => hl y.1)] at hok
        exact ⟨fun _ => ⟨fun _ => hok rfl μ2 (c1.trans a2.cf) hs2 hC1 r2, fun y => absurd rfl y⟩, fun y => absurd rfl y⟩
theorem LF_le : ∀ d i c D, (LF t x w n d i c D).1 ≤ 9 := by
  intro d
  induction d with
  | zero => intro i c D; exact Nat.le_refl _
  | succ d ih =>
    intro i c D
    rw [LF_succ]
    split
    · have := nF_le (x := x) (w := w) (n := n) (c := c) (D := D) (i := sk t x i) (j := de t x (sk t x i))
      show nF x w n c D (sk t x i) (de t x (sk t x i)) ≤ 9
      omega
    · split
      · exact ih _ _ _
      · exact Nat.zero_le _
theorem LF_7' (hw0 : 1 ≤ w) (hw : w < 9) : ∀ d i c D, CI n w c D → (2 ≤ w ∧ w ≤ 7 → pc (c n w) + d = 11) → (¬ (2 ≤ w ∧ w ≤ 7) → 0 < d) → (LF t x w n d i c D).1 ≤ 7 := by
  intro d
  induction d with
  | zero =>
    intro i c D hC hpc hd
    by_cases hl : 2 ≤ w ∧ w ≤ 7
    · have := hpc hl
      have : pc (c n w) ≤ 10 := pcn_le _ _
      omega
    · have := hd hl; omega
  | succ d ih =>
    intro i c D hC hpc hd
    rw [LF_succ]
    by_cases q : nF x w n c D (sk t x i) (de t x (sk t x i)) ≠ 0
    · rw [if_pos q]; exact nF_le
    · rw [if_neg q]
      by_cases q2 : (2 ≤ w ∧ w ≤ 7) ∧ chr t x (sk t x (de t x (sk t x i))) = 45
      · rw [if_pos q2]
        have q' := Classical.not_not.mp q
        refine ih _ _ _ (CI_num hC hw0 hw q') (fun hl => ?_) (fun hl => absurd q2.1 hl)
        rw [pc_num hC hl q']
        have := hpc hl
        omega
      · rw [if_neg q2]; exact Nat.zero_le _
theorem LF_7 (hw0 : 1 ≤ w) (hC : CI n w c D) (hz : 2 ≤ w ∧ w ≤ 7 → pc (c n w) = 0) (_h : 0 < w) (hw : w < 9) : (LF t x w n 11 i c D).1 ≤ 7 := LF_7' hw0 hw 11 i c D hC (fun hl => by rw [hz hl]) (fun _ => by decide)
theorem QF_succ {d last : Nat} : QF t x n (d + 1) last i c D = if chr t x (sk t x i) = 60 then (0, 0, sk t x i + 1, c, D) else if wdF x (sk t x i) (we t x (sk t x i)) ≤ last + 1 then (1, sk t x i, i, c, D) else if (LF t x (wdF x (sk t x i) (we t x (sk t x i)) - 1) n 11 (we t x (sk t x i)) c D).1 ≠ 0 then LF t x (wdF x (sk t x i) (we t x (sk t x i)) - 1) n 11 (we t x (sk t x i)) c D else QF t x n d (wdF x (sk t x i) (we t x (sk t x i)) - 1) (LF t x (wdF x (sk t x i) (we t x (sk t x i)) - 1) n 11 (we t x (sk t x i)) c D).2.2.1 (LF t x (wdF x (sk t x i) (we t x (sk t x i)) - 1) n 11 (we t x (sk t x i)) c D).2.2.2.1 (LF t x (wdF x (sk t x i) (we t x (sk t x i)) - 1) n 11 (we t x (sk t x i)) c D).2.2.2.2 := rfl
/-- between clauses: n SCENES are told -/
def CZ (i n : Nat) (c : Nat → Nat → Nat) (D : Nat → Nat) (μ : Mem) : Prop := ¬ gm_r μ 3 1 = 0 ∧ gm_r μ 3 2 = nI i ∧ gm_r μ 3 3 = 0 ∧ gm_r μ 3 4 = -1 ∧ gm_r μ 3 5 = nI (ur c 4 n) ∧ gm_r μ 3 6 = nI (ur c 5 n) ∧ gm_r μ 3 7 = nI (dr D n) ∧ gm_r μ 16 1 = nI n ∧ ∀ k, k < n → (∀ u, u < 8 → gm_r μ (17 + 1 + k) u = nI (c k u)) ∧ gm_r μ (17 + 1 + k) 8 = nI (D k) - 1
theorem CI.sk {last : Nat} (h : CI n last c D) : SK (n + 1) c D := ⟨by have := h.1; omega, fun k hk => by
  by_cases e : k = n
  · subst e; exact h.2.2.1
  · exact h.2.1.2 k (by omega)⟩
theorem c_clause {P : Mem → Prop} : ∀ d m last i c D μ, m + d = 9 → m ≤ last → last ≤ 8 → i ≤ t → CI n last c D → TXC t x μ → CR i n c D μ → ((QF t x n d last i c D).1 ≠ 0 → ∀ μ', CF μ μ' → gm_r μ' 3 3 = nI (QF t x n d last i c D).1 → gm_r μ' 3 4 = nI (QF t x n d last i c D).2.1 → (QF t x n d last i c D).1 ≤ 7 → P μ') → ((QF t x n d last i c D).1 = 0 → ∀ μ', CF μ μ' → (QF t x n d last i c D).2.2.1 ≤ t → SK (n + 1) (QF t x n d last i c D).2.2.2.1 (QF t x n d last i c D).2.2.2.2 → CZ (QF t x n d last i c D).2.2.1 (n + 1) (QF t x n d last i c D).2.2.2.1 (QF t x n d last i c D).2.2.2.2 μ' → P μ') → hX4_readClause_61 G l P (nI last) (nI m) μ := by
  intro d
  induction d with
  | zero => intro m last i c D μ h1 h2 h3; omega
  | succ d ih =>
    intro m last i c D μ hm hml hl8 hi hC hT hR hf hok
    have ht := hT.2.1
    have hn := hC.1
    have hs : sk t x i ≤ t := (rn_ok (t := t) (p := isBl x) hi).2.1
    rw [QF_succ] at hf hok
    refine eX4_readClause_61 ⟨fun z => absurd z (by rw [show (9 : Int32) = nI 9 from rfl, nI_leI (by decide) (by omega)]; omega), fun _ => ⟨fun z => absurd hR.2.2.1 z, fun _ => c_skip hT hi hR.2.1 (fun μ1 a1 g1 => ?_)⟩⟩
    have r1 := hR.a2 a1 g1
    have hT1 := hT.cf a1.cf
    rw [g1]
    refine c_at hT1 (by omega) ?_
    have hcl := chr_lt (x := x) (t := t) (i := sk t x i) (fun i hi => (hT.2.2 i hi).2)
    rw [show (59 : Int32) = nI 60 - 1 from by decide, dI_eq (by omega) (by decide)]
    refine ⟨fun z => ?_, fun z => ⟨r1.1, ?_⟩⟩
    · rw [if_neg z] at hf hok
      have hwl : we t x (sk t x i) ≤ t := (rn_ok (t := t) (p := isLt x) hs).2.1
      have wrong : wdF x (sk t x i) (we t x (sk t x i)) ≤ last + 1 → ∀ μ2, A2 μ1 μ2 → qX4_fail G l (1 : Int32) (gm_r μ1 3 2) μ2 (fun μ6 => hX4_readClause_61 G l P (nI last) (nI m + 1) μ6) := fun y μ2 a2 => by
        rw [if_pos y] at hf
        refine eX4_fail ?_
        have hP := hf Nat.one_ne_zero (gm_w (gm_w μ2 3 3 1) 3 4 (gm_r μ1 3 2)) (((a1.trans a2).cf.w (Or.inl rfl)).w (Or.inl rfl)) (by rw [gm_rw_k (by decide), gm_rw_s]; rfl) (by rw [gm_rw_s]; exact g1) (by show 1 ≤ 7; decide)
        refine eX4_readClause_61 ⟨fun _ => hP, fun _ => ⟨fun _ => hP, fun u => absurd u ?_⟩⟩
        rw [gm_rw_k (by decide), gm_rw_s]
        decide
      refine eX4_readPart (c_takeWord hT1 hs g1 (fun y => ⟨fun u => absurd u ?_, fun _ => wrong (by omega) μ1 A2.rfl⟩) (fun w hwd hw9 μ2 a2 g2 => ?_))
      · rw [Int32.lt_iff_toInt_lt, nI_toInt (by omega), show (-1 : Int32).toInt = -1 from rfl]
        omega
      · rw [nI_ltI (by omega) (by omega)]
        refine ⟨fun u => ?_, fun u => wrong (by omega) μ2 a2⟩
        have hwd1 : wdF x (sk t x i) (we t x (sk t x i)) - 1 = w := by omega
        rw [if_neg (by omega), hwd1] at hf hok
        have hC2 := hC.up (w := w) (by omega)
        refine c_list (by omega) hw9 11 0 (we t x (sk t x i)) c D μ2 (by omega) hwl hC2 (fun hl => ?_) (fun _ => rfl) (fun e => hC.2.2.2.2 (by omega)) (hT1.cf a2.cf) (r1.a2 a2 g2) (fun y μ3 c3 k3 k4 => ?_) (fun y μ3 c3 k3 k4 k5 => ?_)
        · rw [hC.2.2.2.1 w (by omega) (by omega)]; rfl
        · rw [if_pos y] at hf
          have h7 : (LF t x w n 11 (we t x (sk t x i)) c D).1 ≤ 9 := LF_le 11 _ _ _
          have hP := hf y μ3 ((a1.trans a2).cf.trans c3) k3 k4 (LF_7 (by omega) hC2 (fun hl => by rw [hC.2.2.2.1 w (by omega) (by omega)]; rfl) (by omega) hw9)
          refine eX4_readClause_61 ⟨fun _ => hP, fun _ => ⟨fun _ => hP, fun v => absurd v ?_⟩⟩
          rw [k3, nI_z (by omega)]
          exact y
        · rw [if_neg (fun v => v y)] at hf hok
          rw [nI_1]
          exact ih (m + 1) w _ _ _ μ3 (by omega) (by omega) (by omega) k3 k4 (hT1.cf (a2.cf.trans c3)) k5 (fun y μ4 c4 => hf y μ4 (((a1.trans a2).cf.trans c3).trans c4)) (fun y μ4 c4 => hok y μ4 (((a1.trans a2).cf.trans c3).trans c4))
    · rw [if_pos z] at hok
      have hlt := chr_pos (k := 59) z
      rw [g1, nI_1]
      obtain ⟨q1, q2, q3, q4, q5, q6, q7, q8, q9⟩ := r1
      refine eX7_closeScene_16 ?_
      rw [gm_rw_o (by decide), q8, show (10 : Int32) = nI 10 from rfl, nI_leI (by decide) (by omega), nI_1]
      refine ⟨fun y => absurd y (by omega), fun _ => hok rfl _ ((a1.w.cf).w (Or.inr (by decide))) (by show sk t x i + 1 ≤ t; omega) hC.sk ⟨?_, ?_, ?_, ?_, ?_, ?_, ?_, ?_, fun k hk => ⟨fun u hu => ?_, ?_⟩⟩⟩
      · rw [gm_rw_o (by decide), gm_rw_k (by decide)]; exact q1
      · rw [gm_rw_o (by decide), gm_rw_s]
      · rw [gm_rw_o (by decide), gm_rw_k (by decide)]; exact q3
      · rw [gm_rw_o (by decide), gm_rw_k (by decide)]; exact q4
      · rw [gm_rw_o (by decide), gm_rw_k (by decide)]; exact q5
      · rw [gm_rw_o (by decide), gm_rw_k (by decide)]; exact q6
      · rw [gm_rw_o (by decide), gm_rw_k (by decide)]; exact q7
      · rw [gm_rw_s]
      · rw [gm_rw_o (by omega), gm_rw_o (by omega)]; exact (q9 k (by omega)).1 u hu
      · rw [gm_rw_o (by omega), gm_rw_o (by omega)]; exact (q9 k (by omega)).2
end LISTC
