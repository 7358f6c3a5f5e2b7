/-! plan: the class -/
def Lo (μ μ' : Mem) : Prop := μ'.1 = μ.1 ∧ ∀ o k, o < 106 → gm_r μ' o k = gm_r μ o k
theorem Lo.fr {μ μ' : Mem} (h : Lo μ μ') : Fr [9] μ μ' := ⟨fun o k q => h.2 o k (Nat.lt_of_not_le (fun z => q (by rw [own_big z]; decide))), fun q => absurd (by decide) q⟩
theorem SVt.lo {n : Nat} {c : Nat → Nat → Nat} {D N : Nat → Nat} {μ μ' : Mem} (hf : Lo μ μ') (h : SVt n c D N μ) : SVt n c D N μ' := by
  refine ⟨by rw [hf.2 _ _ (by decide)]; exact h.1, fun s hs => ⟨?_, ?_, ?_, ?_⟩⟩
  · rw [hf.2 _ _ (by decide)]; exact (h.2 s hs).1
  · rw [hf.2 _ _ (by decide)]; exact (h.2 s hs).2.1
  · rw [hf.2 _ _ (by decide)]; exact (h.2 s hs).2.2.1
  · rw [hf.2 _ _ (by decide)]; exact (h.2 s hs).2.2.2
/-- a turn of planFor: what it leaves alone -/
def Cf (a : Nat) (μ μ' : Mem) : Prop := μ'.1 = μ.1 ∧ ∀ o k, o ≠ 107 → (k ≠ a ∨ o < 109 ∨ 131 < o) → gm_r μ' o k = gm_r μ o k
theorem Cf.lo {a : Nat} {μ μ' : Mem} (h : Cf a μ μ') : Lo μ μ' := ⟨h.1, fun o k ho => h.2 o k (by omega) (Or.inr (Or.inl (by omega)))⟩
theorem Cf.rfl {a : Nat} {μ : Mem} : Cf a μ μ := ⟨Eq.refl _, fun _ _ _ _ => Eq.refl _⟩
theorem Cf.trans {a : Nat} {μ μ1 μ2 : Mem} (h1 : Cf a μ μ1) (h2 : Cf a μ1 μ2) : Cf a μ μ2 := ⟨h2.1.trans h1.1, fun o k p q => (h2.2 o k p q).trans (h1.2 o k p q)⟩
theorem Cf.w {a o : Nat} {μ μ' : Mem} {v : Int32} (h : Cf a μ μ') (ho : 109 ≤ o ∧ o ≤ 131) : Cf a μ (gm_w μ' o a v) := ⟨h.1, fun o' k p q => by
  rw [gm_rw, if_neg (fun z => by rcases q with q | q | q <;> omega)]
  exact h.2 o' k p q⟩
theorem On.cf {a : Nat} {μ μ' : Mem} (h : On [107] μ μ') : Cf a μ μ' := ⟨h.1, fun o k p _ => h.2.2 o k (by simpa using p)⟩
section PLANC
variable {G : gC} {l : Launch} {μ : Mem} {n : Nat} {c : Nat → Nat → Nat} {D N W : Nat → Nat} {pb w : Nat}
def CB (n : Nat) (c : Nat → Nat → Nat) (D N W : Nat → Nat) (pb w a : Nat) (X : Nat → Nat) (μ : Mem) : Prop := ∀ j, j ≤ 10 → gm_r μ (108 + 1 + j) a = nI (bp n c D N W pb w j a (X j)) - 1 ∧ (0 < j → 0 < bp n c D N W pb w j a (X j) → ∃ f, gm_r μ (120 + 1 + j) a = nI f ∧ isF (vl n c D N W pb w (j - 1) a) (bp n c D N W pb w j a (X j)) f)
theorem CB.congr {a : Nat} {X X' : Nat → Nat} (h : CB n c D N W pb w a X μ) (e : ∀ j, j ≤ 10 → bp n c D N W pb w j a (X j) = bp n c D N W pb w j a (X' j)) : CB n c D N W pb w a X' μ := fun j hj => by
  rw [← e j hj]; exact h j hj
theorem CB.get {a : Nat} {X : Nat → Nat} (h : CB n c D N W pb w a X μ) {j x : Nat} (hj : j ≤ 10) (hx : X j = x) : gm_r μ (108 + 1 + j) a = nI (bp n c D N W pb w j a x) - 1 ∧ (0 < j → 0 < bp n c D N W pb w j a x → ∃ f, gm_r μ (120 + 1 + j) a = nI f ∧ isF (vl n c D N W pb w (j - 1) a) (bp n c D N W pb w j a x) f) := by
  subst hx; exact h j hj
theorem CB.put {a : Nat} {X : Nat → Nat} (h : ∀ j, j ≤ 10 → ∃ x, X j = x ∧ gm_r μ (108 + 1 + j) a = nI (bp n c D N W pb w j a x) - 1 ∧ (0 < j → 0 < bp n c D N W pb w j a x → ∃ f, gm_r μ (120 + 1 + j) a = nI f ∧ isF (vl n c D N W pb w (j - 1) a) (bp n c D N W pb w j a x) f)) : CB n c D N W pb w a X μ := fun j hj => by
  obtain ⟨x, hx, h1⟩ := h j hj
  subst hx; exact h1
theorem CB.cf {a a' : Nat} {X : Nat → Nat} {μ' : Mem} (h : CB n c D N W pb w a X μ) (hf : Cf a' μ μ') (hne : a ≠ a') : CB n c D N W pb w a X μ' := fun j hj => by
  rw [hf.2 _ _ (by omega) (Or.inl hne), hf.2 (120 + 1 + j) _ (by omega) (Or.inl hne)]; exact h j hj
theorem bp_step {j a x : Nat} : bp n c D N W pb w (j + 1) a (x + 1) = max (bp n c D N W pb w (j + 1) a x) (vl n c D N W pb w j a x) := rfl
theorem bp_le (hK : SK n c D) (hW : LK W) {j a x : Nat} (hx : x ≤ 1024) : bp n c D N W pb w j a x ≤ 400 * j + 1 := by
  have := bs_le (N := N) (pb := pb) (w := w) hK hW j a
  cases j with
  | zero => exact this
  | succ j =>
    rw [bs_succ] at this
    refine Nat.le_trans ?_ this
    exact mxv_le (fun p hp => mxv_ge (by omega))
theorem bp_next {j a p p' : Nat} (hw : w < 1024) (hx : Nx (sd w a) p p') : bp n c D N W pb w (j + 1) a p' = bp n c D N W pb w (j + 1) a (p + 1) := by
  have h1 := hx.2.1
  have h2 := sb_le hx.1
  have h3 := sd_le w a
  refine mxv_skip' (by omega) (fun q h4 h5 => Nat.eq_zero_of_not_pos (fun z => ?_))
  have h6 := (sd_zero (show q < 1024 by omega)).mp (vl_pos z).2.1
  have := hx.2.2 q h6 (by omega)
  omega
theorem c_choose {P : Mem → Prop} {a : Nat} (hS : ST n c D μ) (hV : SVt n c D N μ) (hL : LW W μ) (h144 : μ.1 = 144) (hpb : gm_r μ 106 3 = nI pb) (hpn : pb < 2 ^ n) (hw : w < 2 ^ n) (hd : pb &&& w = 0) (ha : Sb a w) (hI : CB n c D N W pb w a (fun _ => 1) μ) (hT : ∀ a', Sb a' w → a < a' → ∀ j, j ≤ 10 → gm_r μ (108 + 1 + j) a' = nI (bs n c D N W pb w j a') - 1) (h : ∀ μ', Cf a μ μ' → CB n c D N W pb w a (fun _ => 1024) μ' → P μ') : qX2_chooseFirst G l (nI a) (nI (sd w a)) μ P := by
  have hK := hS.2.2
  have hn := hK.1
  have hW := hL.2.2
  have hw2 := lt1024 hn hw
  have han : a < 2 ^ n := Nat.lt_of_le_of_lt (sb_le ha) hw
  have ha2 := lt1024 hn han
  have hln : sd w a < 2 ^ n := Nat.lt_of_le_of_lt (sd_le w a) hw
  have hl2 := lt1024 hn hln
  have hb : pb ||| a < 2 ^ n := Nat.or_lt_two_pow hpn han
  have hdj : (pb ||| a) &&& sd w a = 0 := by
    apply Nat.eq_of_testBit_eq
    intro i
    rw [Nat.testBit_and, Nat.zero_testBit]
    by_cases q : (sd w a).testBit i = true
    · have hi : i < 10 := Nat.lt_of_not_le (fun z => by rw [hi_bit hl2 z] at q; exact absurd q (by decide))
      have q2 := q
      rw [sd_bit (by omega), Bool.and_eq_true] at q2
      have h1 : pb.testBit i = false := dj_bit hd q2.1
      have h2 : a.testBit i = false := by simpa using q2.2
      rw [Nat.testBit_or, h1, h2]; rfl
    · rw [Bool.not_eq_true] at q
      rw [q, Bool.and_false]
  have hpcl : pc (sd w a) ≤ 10 := pcn_le _ _
  have h2 := pc2_le (l := sd w a)
  have htop := cnt_top hl2
  refine eX2_chooseFirst ⟨by rw [h144]; decide, c_parts hS hV hL h144 hpb hb hln hdj (fun μ1 o1 i1 => t_bc hl2 ?_)⟩
  have all : ∀ μ', Cf a μ μ' → PI n c (pb ||| a) (sd w a) (ACT n c D N W (pb ||| a)) μ' → CB n c D N W pb w a (fun _ => 0 + 1) μ' → hX2_chooseFirst_17 G l P (nI a) (nI (sd w a)) (nI (pc (sd w a))) (nI 0) (nI (cnt (sd w a) 0 + 1)) μ' := by
    refine asc (H := fun p => ∀ μ', Cf a μ μ' → PI n c (pb ||| a) (sd w a) (ACT n c D N W (pb ||| a)) μ' → CB n c D N W pb w a (fun _ => p + 1) μ' → hX2_chooseFirst_17 G l P (nI a) (nI (sd w a)) (nI (pc (sd w a))) (nI p) (nI (cnt (sd w a) p + 1)) μ') (l := sd w a) ?_ ?_ hl2
    · intro μ' c1 i1 b1
      refine eX2_chooseFirst_17 ⟨fun _ => h μ' c1 (b1.congr (fun j hj => ?_)), fun q => absurd (by rw [nI_bit1 (by omega), htop]; exact Int32.le_refl _) q⟩
      cases j with
      | zero => rfl
      | succ j =>
        refine (mxv_skip' (by omega) (fun q h4 h5 => Nat.eq_zero_of_not_pos (fun z => ?_))).symm
        have := sb_le ((sd_zero h5).mp (vl_pos z).2.1)
        omega
    · intro p p' hp hne hx ih μ' c1 i1 b1
      have hxc := Nx_cnt hl2 hp hx
      have hp1 := hx.2.1
      have hple := sb_le hx.1
      have hcp := cnt_le hl2 hple
      have hp0 : p' ≠ 0 := by omega
      obtain ⟨g1, g2, g3, g4, g5, g6⟩ := part_ok hw2 ha hp0 hx.1
      have hsd : sd p' (sd w a) = 0 := (sd_zero g5).mpr hx.1
      have lo1 := c1.lo
      have hwo := wo_le (N := N) hK hW (pb ||| a) p'
      refine eX2_chooseFirst_17 ⟨fun q => absurd q (by rw [nI_bit1 (by omega), nI_leI (by omega) (by omega)]; omega), fun _ => ⟨by rw [c1.1, h144]; decide, ?_⟩⟩
      rw [up_to hl2 hp hne hx]
      refine c_worth (D := D) (N := N) (W := W) hK (hV.lo lo1) (hL.fr lo1.fr (by decide)).1 hW (by rw [c1.1, h144]) (by rw [c1.2 _ _ (by decide) (Or.inr (Or.inl (by decide)))]; exact hpb) hb hln i1 hx.1 ?_
      -- behind the part
      have next : ∀ μ2, Cf a μ μ2 → PI n c (pb ||| a) (sd w a) (ACT n c D N W (pb ||| a)) μ2 → CB n c D N W pb w a (fun _ => p' + 1) μ2 → hX2_chooseFirst_17 G l P (nI a) (nI (sd w a)) (nI (pc (sd w a))) (nI p') (nI (cnt (sd w a) p + 1) + 1) μ2 := fun μ2 c2 i2 b2 => by
        rw [← hxc, nI_1]
        exact ih μ2 c2 i2 b2
      have bpn : ∀ j, bp n c D N W pb w (j + 1) a (p' + 1) = max (bp n c D N W pb w (j + 1) a (p + 1)) (vl n c D N W pb w j a p') := fun j => by
        rw [bp_step, bp_next hw2 hx]
      rw [dI_m1 (by omega)]
      refine ⟨fun q => t_bc g5 ?_, fun q => ?_⟩
      · have em : ((1 : Int32) + nI (pc (sd w a))) - nI (pc p') = nI (1 + pc (sd w a) - pc p') := by
          rw [nI_one, nI_add, pk_sub]
          have := pcn_sd (s := p') (t := sd w a) hx.1 10 (by decide)
          show pcn p' 10 ≤ 1 + pcn (sd w a) 10
          omega
        rw [em]
        have hpw : pc (sd w a) + pc a = pc w := pcn_sd (s := a) (t := w) ha 10 (by decide)
        have hple2 : pc p' ≤ pc (sd w a) := by
          have := pcn_sd (s := p') (t := sd w a) hx.1 10 (by decide)
          show pcn p' 10 ≤ pcn (sd w a) 10
          omega
        have inner : ∀ d j μ2, j + d = 2 + pc (sd w a) - pc p' → 1 ≤ j → Cf a μ μ2 → PI n c (pb ||| a) (sd w a) (ACT n c D N W (pb ||| a)) μ2 → CB n c D N W pb w a (fun i => if i < j then p' + 1 else p + 1) μ2 → hX2_chooseFirst_66 G l P (nI a) (nI (sd w a)) (nI (pc (sd w a))) (nI p') (nI (cnt (sd w a) p + 1)) (nI (wo n c D N W (pb ||| a) p') - 1) (nI (1 + pc (sd w a) - pc p')) (nI j) μ2 := by
          intro d
          induction d with
          | zero =>
            intro j μ2 hj hj1 c2 i2 b2
            refine eX2_chooseFirst_66 ⟨fun _ => next μ2 c2 i2 (b2.congr (fun i hi => ?_)), fun z => absurd (nI_lt (by omega) (by omega)) z⟩
            show bp n c D N W pb w i a (if i < j then p' + 1 else p + 1) = _
            by_cases e : i < j
            · rw [if_pos e]
            · rw [if_neg e]
              obtain ⟨i', rfl⟩ : ∃ i', i = i' + 1 := ⟨i - 1, by omega⟩
              rw [bpn]
              have : vl n c D N W pb w i' a p' = 0 := Nat.eq_zero_of_not_pos (fun z => by
                have h5 := bs_pc hw2 i' (a ||| p') g1 (vl_pos z).2.2.1
                omega)
              omega
          | succ d ihd =>
            intro j μ2 hj hj1 c2 i2 b2
            obtain ⟨i, rfl⟩ : ∃ i, j = i + 1 := ⟨j - 1, by omega⟩
            have hi10 : i + 1 ≤ 10 := by omega
            have hbi := bs_le (N := N) (pb := pb) (w := w) hK hW i (a ||| p')
            have hbc := bp_le (N := N) (pb := pb) (w := w) hK hW (j := i + 1) (a := a) (x := p + 1) (by omega)
            have hb2 := b2.get hi10 (x := p + 1) (if_neg (Nat.lt_irrefl _))
            have hag : a ||| p' < 1024 := Nat.lt_of_le_of_lt (sb_le g1) hw2
            refine eX2_chooseFirst_66 ⟨fun z => absurd z (nI_nlt (by omega) (by omega)), fun _ => ⟨by rw [c2.1, h144]; decide, ?_⟩⟩
            rw [nI_pred, nI_or, nI_clamp (by omega), nI_clamp (by omega), nI_clamp (by omega), nI_clamp (by omega), nI_1]
            refine ⟨vp_in_nI (by omega) (by decide), vp_in_nI (by omega) (by decide), fun v17 e17 => ?_⟩
            rw [c2.2 _ _ (by omega) (Or.inl (by omega)), hT _ g1 g2 i (by omega)] at e17
            subst e17
            rw [dI_m1 (by omega)]
            have stay : vl n c D N W pb w i a p' ≤ bp n c D N W pb w (i + 1) a (p + 1) → hX2_chooseFirst_66 G l P (nI a) (nI (sd w a)) (nI (pc (sd w a))) (nI p') (nI (cnt (sd w a) p + 1)) (nI (wo n c D N W (pb ||| a) p') - 1) (nI (1 + pc (sd w a) - pc p')) (nI (i + 1 + 1)) μ2 := fun hle => by
              refine ihd (i + 1 + 1) μ2 (by omega) (by omega) c2 i2 (b2.congr (fun j2 hj2 => ?_))
              show bp n c D N W pb w j2 a (if j2 < i + 1 then p' + 1 else p + 1) = bp n c D N W pb w j2 a (if j2 < i + 1 + 1 then p' + 1 else p + 1)
              by_cases e : j2 = i + 1
              · subst e
                rw [if_neg (Nat.lt_irrefl _), if_pos (by omega), bpn]
                omega
              · by_cases e2 : j2 < i + 1
                · rw [if_pos e2, if_pos (by omega)]
                · rw [if_neg e2, if_neg (by omega)]
            refine ⟨fun z => stay ?_, fun z => ⟨vp_in_nI (by omega) (by decide), vp_in_nI (by omega) (by decide), ?_⟩⟩
            · rw [vl_of hp0 hsd, z]
              unfold comb
              rw [if_pos (Or.inl rfl)]
              omega
            · rw [dI_add (by omega) (by omega), ← vl_of hp0 hsd, hb2.1]
              have hvl : vl n c D N W pb w i a p' ≤ 400 * i + 400 + 1 := by
                rw [vl_of hp0 hsd]
                exact comb_le hbi hwo
              rw [dI_dle (by omega) (by omega)]
              refine ⟨stay, fun z2 => ?_⟩
              refine ihd (i + 1 + 1) _ (by omega) (by omega) ((c2.w (by omega)).w (by omega)) (fun s hs => ?_) (CB.put (fun j2 hj2 => ?_))
              · rw [gm_rw_o (by omega), gm_rw_o (by omega)]; exact i2 s hs
              · by_cases e : j2 = i + 1
                · subst e
                  have em2 : bp n c D N W pb w (i + 1) a (p' + 1) = vl n c D N W pb w i a p' := by
                    rw [bpn]; omega
                  refine ⟨p' + 1, if_pos (by omega), ?_, fun _ _ => ⟨p', by rw [gm_rw_s], ?_, fun q2 hq2 => ?_⟩⟩
                  · rw [gm_rw_o (by omega), gm_rw_s, em2]
                  · rw [em2]; rfl
                  · rw [em2]
                    have h7 : vl n c D N W pb w i a q2 ≤ bp n c D N W pb w (i + 1) a p' := mxv_ge hq2
                    rw [bp_next hw2 hx] at h7
                    show vl n c D N W pb w i a q2 < _
                    omega
                · by_cases e2 : j2 < i + 1
                  · refine ⟨p' + 1, if_pos (by omega), ?_⟩
                    rw [gm_rw_o (by omega), gm_rw_o (by omega), gm_rw_o (by omega), gm_rw_o (by omega)]
                    exact b2.get hj2 (if_pos e2)
                  · refine ⟨p + 1, if_neg (by omega), ?_⟩
                    rw [gm_rw_o (by omega), gm_rw_o (by omega), gm_rw_o (by omega), gm_rw_o (by omega)]
                    exact b2.get hj2 (if_neg e2)
        refine inner (1 + pc (sd w a) - pc p') 1 μ' (by omega) (by omega) c1 i1 (b1.congr (fun i hi => ?_))
        show bp n c D N W pb w i a (p + 1) = bp n c D N W pb w i a (if i < 1 then p' + 1 else p + 1)
        cases i with
        | zero => rfl
        | succ i => rw [if_neg (by omega)]
      · refine eX2_chooseFirst_66 ⟨fun _ => next μ' c1 i1 (b1.congr (fun i hi => ?_)), fun z => absurd (by decide) z⟩
        cases i with
        | zero => rfl
        | succ i =>
          show _ = bp n c D N W pb w (i + 1) a (p' + 1)
          rw [bpn]
          have : vl n c D N W pb w i a p' = 0 := Nat.eq_zero_of_not_pos (fun z => by have := (vl_pos z).2.2.2; omega)
          omega
  exact all μ1 o1.cf i1 (fun j hj => by
    rw [o1.2.2 _ _ (by simp; omega), o1.2.2 (120 + 1 + j) _ (by simp; omega)]
    exact hI j hj)
end PLANC
