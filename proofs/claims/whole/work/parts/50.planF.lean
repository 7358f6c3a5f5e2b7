/-! plan: the class's tables, whole -/
def Pl (μ μ' : Mem) : Prop := μ'.1 = μ.1 ∧ ∀ o k, (o < 106 ∨ 131 < o ∨ (o = 106 ∧ k ≠ 3 ∧ k ≠ 7)) → gm_r μ' o k = gm_r μ o k
theorem Pl.lo {μ μ' : Mem} (h : Pl μ μ') : Lo μ μ' := ⟨h.1, fun o k ho => h.2 o k (Or.inl ho)⟩
theorem Pl.rfl {μ : Mem} : Pl μ μ := ⟨Eq.refl _, fun _ _ _ => Eq.refl _⟩
theorem Pl.trans {μ μ1 μ2 : Mem} (h1 : Pl μ μ1) (h2 : Pl μ1 μ2) : Pl μ μ2 := ⟨h2.1.trans h1.1, fun o k q => (h2.2 o k q).trans (h1.2 o k q)⟩
theorem Cf.pl {a : Nat} {μ μ' : Mem} (h : Cf a μ μ') : Pl μ μ' := ⟨h.1, fun o k q => h.2 o k (by omega) (Or.inr (by omega))⟩
theorem Pl.w {k : Nat} {μ μ' : Mem} {v : Int32} (h : Pl μ μ') (hk : k = 3 ∨ k = 7) : Pl μ (gm_w μ' 106 k v) := ⟨h.1, fun o k' q => by
  rw [gm_rw, if_neg (fun z => by omega)]
  exact h.2 o k' q⟩
section PLANF
variable {G : gC} {l : Launch} {μ : Mem} {n : Nat} {c : Nat → Nat → Nat} {D N W : Nat → Nat} {pb w : Nat}
def PT (n : Nat) (c : Nat → Nat → Nat) (D N W : Nat → Nat) (pb w : Nat) (μ : Mem) : Prop := ∀ a, Sb a w → CB n c D N W pb w a (fun _ => 1024) μ
theorem vl_0 {j a : Nat} : vl n c D N W pb w j a 0 = 0 := by unfold vl; rw [if_neg (fun z => z.1 rfl)]
theorem bp_1 {j a : Nat} : bp n c D N W pb w (j + 1) a 1 = 0 := by
  show max (mxv _ 0) (vl n c D N W pb w j a 0) = 0
  rw [vl_0]; rfl
theorem c_turn {P : Mem → Prop} {a : Nat} (hS : ST n c D μ) (hV : SVt n c D N μ) (hL : LW W μ) (h144 : μ.1 = 144) (hpb : gm_r μ 106 3 = nI pb) (hpn : pb < 2 ^ n) (hw : w < 2 ^ n) (hd : pb &&& w = 0) (ha : Sb a w) (hT : ∀ a', Sb a' w → a < a' → CB n c D N W pb w a' (fun _ => 1024) μ) {x4 : Int32} (h : ∀ μ', Cf a μ μ' → (∀ a', Sb a' w → a ≤ a' → CB n c D N W pb w a' (fun _ => 1024) μ') → hX2_planFor_37 G l P (nI w) (nI (pc w)) ((nI a - (1 : Int32)) &&& nI w) (x4 + (1 : Int32)) μ') : hX2_planFor_48 G l P (nI w) (nI (pc w)) (nI a) x4 (0 : Int32) μ := by
  have hK := hS.2.2
  have hn := hK.1
  have hw2 := lt1024 hn hw
  have ha2 := Nat.lt_of_le_of_lt (sb_le ha) hw2
  have loop : ∀ d j μ', j + d = 11 → Cf a μ μ' → (∀ i, i < j → gm_r μ' (108 + 1 + i) a = nI (bp n c D N W pb w i a 1) - 1) → hX2_planFor_48 G l P (nI w) (nI (pc w)) (nI a) x4 (nI j) μ' := by
    intro d
    induction d with
    | zero =>
      intro j μ' hj c1 k1
      refine eX2_planFor_48 ⟨fun _ => ⟨by rw [c1.1, h144]; decide, ?_⟩, fun q => absurd (by rw [show j = 11 by omega]; decide) q⟩
      rw [nI_sd]
      have lo1 := c1.lo
      refine c_choose (D := D) (N := N) (W := W) (pb := pb) (hS.fr lo1.fr (by decide)) (hV.lo lo1) (hL.fr lo1.fr (by decide)) (by rw [c1.1, h144]) (by rw [c1.2 _ _ (by decide) (Or.inr (Or.inl (by decide)))]; exact hpb) hpn hw hd ha (fun i hi => ⟨k1 i (by omega), fun h0 h1 => ?_⟩) (fun a' ha' hlt i hi => ?_) (fun μ2 c2 b2 => h μ2 (c1.trans c2) (fun a' ha' hle => ?_))
      · obtain ⟨i', rfl⟩ : ∃ i', i = i' + 1 := ⟨i - 1, by omega⟩
        rw [bp_1] at h1
        omega
      · have := ((hT a' ha' hlt).cf c1 (by omega) i hi).1
        rw [bp_top] at this
        exact this
      · by_cases e : a' = a
        · subst e; exact b2
        · exact (hT a' ha' (by omega)).cf (c1.trans c2) (by omega)
    | succ d ih =>
      intro j μ' hj c1 k1
      refine eX2_planFor_48 ⟨fun q => absurd q (nI_nlt (b := j) (a := 10) (by omega) (by omega)), fun _ => ⟨by rw [c1.1, h144]; decide, vp_in_nI (by omega) (by decide), ?_⟩⟩
      rw [nI_z (by omega), nI_eq (by omega) (by omega), nI_clamp (by omega), nI_clamp (by omega), nI_1]
      have step : ∀ v : Int32, v = nI (bp n c D N W pb w j a 1) - 1 → hX2_planFor_48 G l P (nI w) (nI (pc w)) (nI a) x4 (nI (j + 1)) (gm_w μ' (108 + 1 + j) a v) := fun v hv => by
        refine ih (j + 1) _ (by omega) (c1.w (by omega)) (fun i hi => ?_)
        by_cases e : i = j
        · subst e; rw [gm_rw_s, hv]
        · rw [gm_rw_o (by omega)]; exact k1 i (by omega)
      refine ⟨fun q => ⟨vp_in_nI (by omega) (by decide), step _ ?_⟩, fun q => ⟨fun q2 => ⟨vp_in_nI (by omega) (by decide), step _ ?_⟩, fun q2 => ⟨vp_in_nI (by omega) (by decide), step _ ?_⟩⟩⟩
      · obtain ⟨i', rfl⟩ : ∃ i', j = i' + 1 := ⟨j - 1, by omega⟩
        rw [bp_1]; rfl
      · subst q
        show _ = nI (if a = w then 1 else 0) - 1
        rw [if_neg q2]; rfl
      · subst q
        show _ = nI (if a = w then 1 else 0) - 1
        rw [if_pos q2]; rfl
  exact loop 11 0 μ (by omega) Cf.rfl (fun i hi => absurd hi (by omega))
theorem c_plan {P : Mem → Prop} {r e : Nat → Nat} {f m : Nat} (hS : ST n c D μ) (hV : SVt n c D N μ) (hL : LW W μ) (hO : BO n r f m e μ) (h144 : μ.1 = 144) (hw : w < 2 ^ n) (hd : seg r 0 (bst e m) &&& w = 0) (hc : gm_r μ 106 7 = -1 ∨ ∃ w', w' < 2 ^ n ∧ gm_r μ 106 7 = nI w' ∧ PT n c D N W (seg r 0 (bst e m)) w' μ) (h : ∀ μ', Pl μ μ' → gm_r μ' 106 7 = nI w → PT n c D N W (seg r 0 (bst e m)) w μ' → P μ') : qX2_planFor G l (nI w) μ P := by
  have hK := hS.2.2
  have hn := hK.1
  have hw2 := lt1024 hn hw
  have hf := (BKm hO.2.2).2.2.2
  have hpn := (segK hO.2.2 (a := 0) hf).1
  have h2 := pc2_le (l := w)
  have htop := cnt_top hw2
  have hpc : pc w ≤ 10 := pcn_le _ _
  refine eX2_planFor ⟨by rw [h144]; decide, fun _ => b_printed hO.1 hO.2.2 (b_setUpTo hO.1 hO.2.2 hf ⟨by rw [h144]; decide, t_bc hw2 ?_⟩), fun q => h μ Pl.rfl q ?_⟩
  · have one : ∀ a, Sb a w → (∀ μ', Pl μ μ' → gm_r μ' 106 3 = nI (seg r 0 (bst e m)) → (∀ a', Sb a' w → a ≤ a' → CB n c D N W (seg r 0 (bst e m)) w a' (fun _ => 1024) μ') → hX2_planFor_37 G l P (nI w) (nI (pc w)) ((nI a - (1 : Int32)) &&& nI w) (nI (2 ^ pc w - 1 - cnt w a + 1)) μ') → ∀ μ', Pl μ μ' → gm_r μ' 106 3 = nI (seg r 0 (bst e m)) → (∀ a', Sb a' w → a < a' → CB n c D N W (seg r 0 (bst e m)) w a' (fun _ => 1024) μ') → hX2_planFor_37 G l P (nI w) (nI (pc w)) (nI a) (nI (2 ^ pc w - 1 - cnt w a)) μ' := by
      intro a ha hnext μ' p1 g1 t1
      refine eX2_planFor_37 ⟨fun q => absurd q (by rw [nI_bit1 (by omega), nI_leI (by omega) (by omega)]; have := cnt_le hw2 (sb_le ha); omega), fun _ => ?_⟩
      have lo1 := p1.lo
      refine c_turn (hS.fr lo1.fr (by decide)) (hV.lo lo1) (hL.fr lo1.fr (by decide)) (by rw [p1.1, h144]) g1 hpn hw hd ha t1 (fun μ2 c2 t2 => ?_)
      rw [nI_1]
      exact hnext μ2 (p1.trans c2.pl) (by rw [c2.2 _ _ (by decide) (Or.inr (Or.inl (by decide)))]; exact g1) t2
    have all : ∀ μ', Pl μ μ' → gm_r μ' 106 3 = nI (seg r 0 (bst e m)) → (∀ a', Sb a' w → w < a' → CB n c D N W (seg r 0 (bst e m)) w a' (fun _ => 1024) μ') → hX2_planFor_37 G l P (nI w) (nI (pc w)) (nI w) (nI (2 ^ pc w - 1 - cnt w w)) μ' := by
      refine desc (H := fun a => ∀ μ', Pl μ μ' → gm_r μ' 106 3 = nI (seg r 0 (bst e m)) → (∀ a', Sb a' w → a < a' → CB n c D N W (seg r 0 (bst e m)) w a' (fun _ => 1024) μ') → hX2_planFor_37 G l P (nI w) (nI (pc w)) (nI a) (nI (2 ^ pc w - 1 - cnt w a)) μ') (l := w) ?_ ?_
      · refine one 0 sb_zero (fun μ' p1 g1 t1 => ?_)
        refine eX2_planFor_37 ⟨fun _ => ⟨by rw [p1.1, h144]; decide, ?_⟩, fun q => absurd ?_ q⟩
        · refine h _ (p1.w (Or.inr rfl)) (by rw [gm_rw_s]) (fun a ha => ?_)
          intro j hj
          rw [gm_rw_o (by omega), gm_rw_o (by omega)]
          exact t1 a ha (Nat.zero_le _) j hj
        · have e0 : cnt w 0 = 0 := rfl
          have := Nat.two_pow_pos (pc w)
          rw [nI_bit1 (by omega), e0, show 2 ^ pc w - 1 - 0 + 1 = 2 ^ pc w by omega]
          exact Int32.le_refl _
      · intro a ha h0 hs1 hs2 hlow ih
        refine one a ha (fun μ' p1 g1 t1 => ?_)
        have hc1 := dn_cnt hw2 ha h0
        have hc2 := cnt_le hw2 (sb_le ha)
        rw [dn_I h0, show 2 ^ pc w - 1 - cnt w a + 1 = 2 ^ pc w - 1 - cnt w ((a - 1) &&& w) by omega]
        exact ih μ' p1 g1 (fun a' ha' hlt => t1 a' ha' (Nat.le_of_not_lt (fun z => by have := hlow a' ha' z; omega)))
    have e1 : 2 ^ pc w - 1 - cnt w w = 0 := by omega
    rw [e1] at all
    refine all _ (Pl.rfl.w (Or.inl rfl)) (by rw [gm_rw_s]) (fun a' ha' hlt => absurd (sb_le ha') (by omega))
  · rcases hc with hc | ⟨w', h1, h3, h4⟩
    · rw [hc] at q
      exact absurd q.symm (nI_nm1 (by omega))
    · rw [h3, nI_eq (by have := lt1024 hn h1; omega) (by omega)] at q
      rw [← q]; exact h4
end PLANF
