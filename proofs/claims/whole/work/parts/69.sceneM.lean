/-! a clause: the model, whole -/
section SCENEM
variable {G : gC} {l : Launch} {μ : Mem} {t n i : Nat} {x : Nat → Nat} {c : Nat → Nat → Nat} {D : Nat → Nat}
def MZ (i n : Nat) (c : Nat → Nat → Nat) (D : Nat → Nat) (μ : Mem) : Prop := MP i n μ ∧ ∀ k, k < n → gm_r μ 85 k = nI (c k 0) ∧ (∀ j, j < 7 → gm_r μ 87 (8 * k + j) = nI (c k (j + 1))) ∧ gm_r μ 86 k = nI (D k) - 1
theorem m_cend {P : Mem → Prop} {f : Nat} {x1 y : Int32} (hf0 : f ≠ 0) (hf9 : f ≤ 9) (h12 : gm_r μ 78 12 = nI f) (h13 : gm_r μ 78 13 = y) (h : ∀ μ', MG μ μ' → gm_r μ' 78 12 = nI f → gm_r μ' 78 13 = y → P μ') : hX10_takeScene_114 G l P x1 μ := by
  have hne : ¬ gm_r μ 78 12 = 0 := by rw [h12, nI_z (by omega)]; exact hf0
  refine eX10_takeScene_114 ⟨fun _ => eX10_takeScene_210 ⟨fun _ => t_one (h _ ((MG.rfl.w (Or.inl ⟨rfl, by decide, by decide⟩)).w (Or.inl ⟨rfl, by decide, by decide⟩)) ?_ ?_), fun q => absurd q hne⟩, fun q => absurd q hne⟩
  · rw [gm_rw_k (by decide), gm_rw_k (by decide)]; exact h12
  · rw [gm_rw_k (by decide), gm_rw_k (by decide)]; exact h13
theorem LF_one {w : Nat} (hw : ¬ (2 ≤ w ∧ w ≤ 7)) : LF t x w n 11 i c D = if nF x w n c D (sk t x i) (de t x (sk t x i)) ≠ 0 then (nF x w n c D (sk t x i) (de t x (sk t x i)), sk t x i, i, c, D) else (0, 0, sk t x (de t x (sk t x i)), nC w n (vlu x (sk t x i) (de t x (sk t x i))) c, nD w n (vlu x (sk t x i) (de t x (sk t x i))) D) := by
  rw [LF_succ]
  by_cases q : nF x w n c D (sk t x i) (de t x (sk t x i)) ≠ 0
  · rw [if_pos q, if_pos q]
  · rw [if_neg q, if_neg q, if_neg (fun z => hw z.1)]
theorem LF_t {w : Nat} : ∀ d i c D, i ≤ t → (LF t x w n d i c D).1 = 0 → (LF t x w n d i c D).2.2.1 ≤ t := by
  intro d
  induction d with
  | zero => intro i c D _ h; exact absurd h (by show ¬ 9 = 0; decide)
  | succ d ih =>
    intro i c D hi
    have hs : sk t x i ≤ t := (rn_ok (t := t) (p := isBl x) hi).2.1
    have hde : de t x (sk t x i) ≤ t := (rn_ok (t := t) (p := isDg x) hs).2.1
    have hs2 : sk t x (de t x (sk t x i)) ≤ t := (rn_ok (t := t) (p := isBl x) hde).2.1
    rw [LF_succ]
    by_cases q : nF x w n c D (sk t x i) (de t x (sk t x i)) ≠ 0
    · rw [if_pos q]; exact fun h => absurd h q
    · rw [if_neg q]
      by_cases q2 : (2 ≤ w ∧ w ≤ 7) ∧ chr t x (sk t x (de t x (sk t x i))) = 45
      · rw [if_pos q2]
        have := chr_pos (k := 44) q2.2
        exact ih _ _ _ (by omega)
      · rw [if_neg q2]; exact fun _ => hs2
theorem LF_ci {w : Nat} (hw0 : 1 ≤ w) (hw : w < 9) : ∀ d i c D, CI n w c D → (LF t x w n d i c D).1 = 0 → CI n w (LF t x w n d i c D).2.2.2.1 (LF t x w n d i c D).2.2.2.2 := by
  intro d
  induction d with
  | zero => intro i c D _ h; exact absurd h (by show ¬ 9 = 0; decide)
  | succ d ih =>
    intro i c D hC
    rw [LF_succ]
    by_cases q : nF x w n c D (sk t x i) (de t x (sk t x i)) ≠ 0
    · rw [if_pos q]; exact fun h => absurd h q
    · rw [if_neg q]
      have q' := Classical.not_not.mp q
      by_cases q2 : (2 ≤ w ∧ w ≤ 7) ∧ chr t x (sk t x (de t x (sk t x i))) = 45
      · rw [if_pos q2]; exact ih _ _ _ (CI_num hC hw0 hw q')
      · rw [if_neg q2]; exact fun _ => CI_num hC hw0 hw q'
theorem m_clause {P : Mem → Prop} : ∀ d m last i i' c D μ, m + d = 9 → m ≤ last → last ≤ 8 → i' ≤ t → sk t x i' = sk t x i → i ≤ t → CI n last c D → TXM t x μ → MP i' n μ → ME n c D (fun _ _ => False) μ → ((QF t x n d last i c D).1 ≠ 0 → ∀ μ', MG μ μ' → gm_r μ' 78 12 = nI (QF t x n d last i c D).1 → gm_r μ' 78 13 = nI (QF t x n d last i c D).2.1 → (QF t x n d last i c D).1 ≤ 9 → P μ') → ((QF t x n d last i c D).1 = 0 → ∀ μ', MG μ μ' → (QF t x n d last i c D).2.2.1 ≤ t → SK (n + 1) (QF t x n d last i c D).2.2.2.1 (QF t x n d last i c D).2.2.2.2 → MZ (QF t x n d last i c D).2.2.1 (n + 1) (QF t x n d last i c D).2.2.2.1 (QF t x n d last i c D).2.2.2.2 μ' → P μ') → hX10_takeScene_114 G l P (nI last - 1) μ := by
  intro d
  induction d with
  | zero => intro m last i i' c D μ h1 h2 h3; omega
  | succ d ih =>
    intro m last i i' c D μ hm hml hl8 hi' hsk hi hC hT hM hE hf hok
    have ht := hT.2.1
    have hn := hC.1
    have hs : sk t x i ≤ t := (rn_ok (t := t) (p := isBl x) hi).2.1
    have hss : sk t x (sk t x i) = sk t x i := rn_idem hi
    rw [QF_succ] at hf hok
    refine eX10_takeScene_114 ⟨fun z => absurd hM.2.1 z, fun _ => m_here hT hi' hM.1 (fun μ1 a1 k9 _ => ?_)⟩
    rw [hsk] at k9 ⊢
    have m1 := hM.a9 a1 k9
    have e1 := hE.g5 a1.g5
    have hT1 := hT.a9 a1
    have hcl := chr_lt (x := x) (t := t) (i := sk t x i) (fun i hi => (hT.2.2 i hi).2)
    rw [show (59 : Int32) = nI 60 - 1 from by decide, dI_eq (by omega) (by decide)]
    refine ⟨fun z => ?_, fun z => ?_⟩
    · rw [if_pos z] at hok
      have hlt := chr_pos (k := 59) z
      refine eX10_takeScene_210 ⟨fun q => absurd m1.2.1 q, fun _ => t_one ?_⟩
      rw [if_neg (by decide), k9, m1.2.2.2, nI_1, nI_1]
      refine hok rfl _ ((a1.g5.mg.w (Or.inl ⟨rfl, by decide, by decide⟩)).w (Or.inl ⟨rfl, by decide, by decide⟩)) (by show sk t x i + 1 ≤ t; omega) hC.sk ⟨⟨?_, ?_, ?_, ?_⟩, fun k hk => ⟨?_, fun u hu => ?_, ?_⟩⟩
      · rw [gm_rw_k (by decide), gm_rw_s]
      · rw [gm_rw_k (by decide), gm_rw_k (by decide)]; exact m1.2.1
      · rw [gm_rw_k (by decide), gm_rw_k (by decide)]; exact m1.2.2.1
      · rw [gm_rw_s]
      · rw [gm_rw_o (by decide), gm_rw_o (by decide)]; exact (e1 k (by omega)).1
      · rw [gm_rw_o (by decide), gm_rw_o (by decide)]; exact (e1 k (by omega)).2.1 u hu id
      · rw [gm_rw_o (by decide), gm_rw_o (by decide)]; exact (e1 k (by omega)).2.2
    · rw [if_neg z] at hf hok
      refine m_takeWord hT1 hs k9 (fun μ2 a2 j9 j10 j11 => ?_)
      rw [hss] at j9 j10 j11
      have hT2 := hT1.a9 a2
      have m2 := m1.a9 a2 j9
      have e2 := e1.g5 a2.g5
      have hwo := rn_ok (t := t) (p := isLt x) hs
      have hwl : we t x (sk t x i) ≤ t := hwo.2.1
      have hwg : sk t x i ≤ we t x (sk t x i) := hwo.1
      have hw9 := wdF_le (x := x) (i := sk t x i) (j := we t x (sk t x i))
      refine m_kindOf hT2 hwg hwl j10 j11 ?_
      rw [dI_dle (by omega) (by omega)]
      refine ⟨fun y => eX10_takeScene_150 ?_, fun y => eX10_takeScene_150 ?_⟩
      · rw [if_pos (by omega)] at hf
        refine m_no m2.2.1 (by decide) ⟨fun _ => m_cend (f := 1) (y := nI (sk t x i)) (by decide) (by decide) (by rw [gm_rw_k (by decide), gm_rw_s]; rfl) (by rw [gm_rw_s]; exact j10) (fun μ4 c4 q12 q13 => hf Nat.one_ne_zero μ4 ((((a1.trans a2).g5.mg.w (Or.inl ⟨rfl, by decide, by decide⟩)).w (Or.inl ⟨rfl, by decide, by decide⟩)).trans c4) q12 q13 (by show 1 ≤ 9; decide)), fun u => absurd rfl u⟩
      · rw [if_neg (by omega)] at hf hok
        obtain ⟨w, hwd⟩ : ∃ w, wdF x (sk t x i) (we t x (sk t x i)) = w + 1 := ⟨wdF x (sk t x i) (we t x (sk t x i)) - 1, by omega⟩
        rw [hwd, Nat.add_sub_cancel] at hf hok y ⊢
        have hw1 : 1 ≤ w := by omega
        have hw8 : w ≤ 8 := by omega
        obtain ⟨j, rfl⟩ : ∃ j, w = j + 1 := ⟨w - 1, by omega⟩
        rw [nI_pred, nI_z (by omega), show (7 : Int32) = nI 7 from rfl, nI_eq (by omega) (by decide)]
        have hC2 := hC.up (w := j + 1) (by omega)
        have m12 : MG μ μ2 := (a1.trans a2).g5.mg
        have hcz : j + 1 < 8 → c n (j + 1) = 0 := fun u => hC.2.2.2.1 (j + 1) (by omega) u
        -- behind the part
        have bad : (LF t x (j + 1) n 11 (we t x (sk t x i)) c D).1 ≠ 0 → ∀ μ3 x1, MG μ μ3 → gm_r μ3 78 12 = nI (LF t x (j + 1) n 11 (we t x (sk t x i)) c D).1 → gm_r μ3 78 13 = nI (LF t x (j + 1) n 11 (we t x (sk t x i)) c D).2.1 → hX10_takeScene_114 G l P x1 μ3 := fun u μ3 x1 c3 q12 q13 => by
          rw [if_pos u] at hf
          exact m_cend u (LF_le 11 _ _ _) q12 q13 (fun μ4 c4 r12 r13 => hf u μ4 (c3.trans c4) r12 r13 (LF_le 11 _ _ _))
        have go : (LF t x (j + 1) n 11 (we t x (sk t x i)) c D).1 = 0 → ∀ μ3 i3, MG μ μ3 → i3 ≤ t → sk t x i3 = sk t x (LF t x (j + 1) n 11 (we t x (sk t x i)) c D).2.2.1 → (LF t x (j + 1) n 11 (we t x (sk t x i)) c D).2.2.1 ≤ t → CI n (j + 1) (LF t x (j + 1) n 11 (we t x (sk t x i)) c D).2.2.2.1 (LF t x (j + 1) n 11 (we t x (sk t x i)) c D).2.2.2.2 → MP i3 n μ3 → ME n (LF t x (j + 1) n 11 (we t x (sk t x i)) c D).2.2.2.1 (LF t x (j + 1) n 11 (we t x (sk t x i)) c D).2.2.2.2 (fun _ _ => False) μ3 → hX10_takeScene_114 G l P (nI j) μ3 := fun u μ3 i3 c3 q1 q2 q3 q4 q5 q6 => by
          rw [if_neg (fun v => v u)] at hf hok
          have := ih (m + 1) (j + 1) _ i3 _ _ μ3 (by omega) (by omega) (by omega) q1 q2 q3 q4 (hT.mg c3) q5 q6 (fun v μ4 c4 => hf v μ4 (c3.trans c4)) (fun v μ4 c4 => hok v μ4 (c3.trans c4))
          rw [nI_pred] at this
          exact this
        have hs3 : sk t x (we t x (sk t x i)) ≤ t := (rn_ok (t := t) (p := isBl x) hwl).2.1
        have hde3 : de t x (sk t x (we t x (sk t x i))) ≤ t := (rn_ok (t := t) (p := isDg x) hs3).2.1
        have hs4 : sk t x (de t x (sk t x (we t x (sk t x i)))) ≤ t := (rn_ok (t := t) (p := isBl x) hde3).2.1
        have hss4 : sk t x (de t x (sk t x (we t x (sk t x i)))) = sk t x (sk t x (de t x (sk t x (we t x (sk t x i))))) := (rn_idem hde3).symm
        refine m_yes m2.2.1 (by decide) ⟨fun u => absurd u (by decide), fun _ => ⟨fun u => ⟨fun u2 => ?_, fun u2 => ?_⟩, fun u => ?_⟩⟩
        · -- a list
          have hlist := m_list (G := G) (l := l) (P := fun μ37 => hX10_takeScene_114 G l P (nI j) μ37) (x := x) (t := t) (n := n) (j := j) (by omega) 11 (we t x (sk t x i)) c D μ2 hwl hC2 (by rw [hcz (by omega)]; rfl) hT2 m2 (fun k hk => ⟨(e2 k hk).1, fun u' hu' _ => (e2 k hk).2.1 u' hu' id, (e2 k hk).2.2⟩) (fun v μ3 c3 q12 q13 _ => bad v μ3 _ (m12.trans c3) q12 q13) (fun v μ3 c3 q5 q6 => go v μ3 _ (m12.trans c3) (LF_t 11 _ _ _ hwl v) rfl (LF_t 11 _ _ _ hwl v) (LF_ci (by omega) (by omega) 11 _ _ _ hC2 v) q5 q6)
          rw [hcz (by omega)] at hlist
          exact eX10_takeList hlist
        · -- dies
          subst u2
          have e8 := LF_one (t := t) (x := x) (n := n) (i := we t x (sk t x i)) (c := c) (D := D) (w := 8) (by decide)
          refine m_dying hT2 hwl hC2 (hC.2.2.2.2 (by omega)) m2 e2 (fun v μ3 c3 q12 q13 => ?_) (fun v μ3 c3 q5 q6 => ?_)
          · rw [if_pos v] at e8
            refine bad (by rw [e8]; exact v) μ3 _ (m12.trans c3) (by rw [e8]; exact q12) (by rw [e8]; exact q13)
          · rw [if_neg (fun u3 => u3 v)] at e8
            refine go (by rw [e8]) μ3 (de t x (sk t x (we t x (sk t x i)))) (m12.trans c3) hde3 (by rw [e8]; exact hss4) (by rw [e8]; exact hs4) (by rw [e8]; exact CI_num hC2 (by omega) (by omega) v) q5 (by rw [e8]; exact q6)
        · -- joy
          subst u
          have e8 := LF_one (t := t) (x := x) (n := n) (i := we t x (sk t x i)) (c := c) (D := D) (w := 1) (by decide)
          have hg : gr 1 = 9 := rfl
          have ix : (8 : Int32) * gm_r μ2 78 14 = nI (8 * n + 0) := by rw [m2.2.2.2, show (8 : Int32) = nI 8 from rfl, pk_mul]; rfl
          rw [ix, nI_clamp (by omega)]
          refine m_number (low := 0) (high := 9) hT2 hwl m2.1 m2.2.1 (by decide) (by decide) (fun q μ3 g5 k12 k13 => ⟨vp_in_nI (by omega) (by decide), ?_⟩) (fun q1 q2 y3 μ3 g5 k12 k13 => ⟨vp_in_nI (by omega) (by decide), ?_⟩) (fun q1 q2 q3 q4 μ3 a3 l9 l10 => ⟨vp_in_nI (by omega) (by decide), ?_⟩)
          · have e := nF_1 (x := x) (w := 1) (n := n) (c := c) (D := D) q
            rw [e, if_pos (by decide)] at e8
            refine bad (by rw [e8]; exact Nat.succ_ne_zero _) _ _ ((m12.trans g5.mg).w (Or.inr (by decide))) ?_ ?_
            · rw [gm_rw_o (by decide), e8]; exact k12
            · rw [gm_rw_o (by decide), e8]; exact k13
          · have e := nF_2 (x := x) (w := 1) (n := n) (c := c) (D := D) q1 (by omega)
            rw [e, if_pos (by decide)] at e8
            refine bad (by rw [e8]; exact Nat.succ_ne_zero _) _ _ ((m12.trans g5.mg).w (Or.inr (by decide))) ?_ ?_
            · rw [gm_rw_o (by decide), e8]; exact k12
            · rw [gm_rw_o (by decide), e8]; exact k13
          · have e := nF_0 (x := x) (w := 1) (n := n) (c := c) (D := D) q1 (by omega) (by omega) (by omega) (by omega) (by omega)
            rw [if_neg (fun u3 => u3 e)] at e8
            have m3 := m2.a9 a3 l9
            have e3 := e2.g5 a3.g5
            refine go (by rw [e8]) _ (de t x (sk t x (we t x (sk t x i)))) ((m12.trans a3.g5.mg).w (Or.inr (by decide))) hde3 (by rw [e8]; exact hss4) (by rw [e8]; exact hs4) (by rw [e8]; exact CI_num hC2 (by omega) (by omega) e) ⟨?_, ?_, ?_, ?_⟩ ?_
            · rw [gm_rw_o (by decide)]; exact m3.1
            · rw [gm_rw_o (by decide)]; exact m3.2.1
            · rw [gm_rw_o (by decide)]; exact m3.2.2.1
            · rw [gm_rw_o (by decide)]; exact m3.2.2.2
            · rw [e8, nD_ne (by decide)]
              intro k hk
              refine ⟨?_, fun u' hu' _ => ?_, ?_⟩
              · rw [gm_rw_o (by decide)]
                by_cases e4 : k = n
                · subst e4
                  show _ = nI (nC 1 k _ c k 0)
                  rw [nC_ne (by decide) (by omega)]; exact (e3 k hk).1
                · show _ = nI (nC 1 n _ c k 0)
                  rw [nC_old e4]; exact (e3 k hk).1
              · show _ = nI (nC 1 n _ c k (u' + 1))
                by_cases e4 : k = n ∧ u' = 0
                · obtain ⟨rfl, rfl⟩ := e4
                  rw [gm_rw_s, nC_num (by decide)]
                · rw [gm_rw_k (by omega)]
                  by_cases e5 : k = n
                  · subst e5
                    rw [nC_ne (by omega) (by omega)]; exact (e3 k hk).2.1 u' hu' id
                  · rw [nC_old e5]; exact (e3 k hk).2.1 u' hu' id
              · rw [gm_rw_o (by decide)]; exact (e3 k hk).2.2
end SCENEM
