/-! kind: the class's table -/
theorem dI_max {x y : Nat} (hx : x < 2 ^ 30) (hy : y < 2 ^ 30) : (if nI x - 1 < nI y - 1 then nI y - 1 else nI x - 1) = nI (max x y) - 1 := by
  by_cases h : x < y
  · rw [if_pos ((dI_dlt hx hy).mpr h), show max x y = y by omega]
  · rw [if_neg (fun z => h ((dI_dlt hx hy).mp z)), show max x y = x by omega]
def Gb (μ μ' : Mem) : Prop := μ'.1 = μ.1 ∧ ∀ o k, o ≠ 107 → ¬ (133 ≤ o ∧ o ≤ 143) → gm_r μ' o k = gm_r μ o k
theorem Gb.lo {μ μ' : Mem} (h : Gb μ μ') : Lo μ μ' := ⟨h.1, fun o k ho => h.2 o k (by omega) (by omega)⟩
theorem Gb.rfl {μ : Mem} : Gb μ μ := ⟨Eq.refl _, fun _ _ _ _ => Eq.refl _⟩
theorem Gb.trans {μ μ1 μ2 : Mem} (h1 : Gb μ μ1) (h2 : Gb μ1 μ2) : Gb μ μ2 := ⟨h2.1.trans h1.1, fun o k p q => (h2.2 o k p q).trans (h1.2 o k p q)⟩
theorem Gb.w {o k : Nat} {μ μ' : Mem} {v : Int32} (h : Gb μ μ') (ho : 133 ≤ o ∧ o ≤ 143) : Gb μ (gm_w μ' o k v) := ⟨h.1, fun o' k' p q => by
  rw [gm_rw_o (by omega)]
  exact h.2 o' k' p q⟩
theorem On.gb {μ μ' : Mem} (h : On [107] μ μ') : Gb μ μ' := ⟨h.1, fun o k p _ => h.2.2 o k (by simpa using p)⟩
def rdC (μ : Mem) : Nat → Nat → Int32 := fun j t => gm_r μ (132 + 1 + j) t
theorem dj_rest {n pb w a : Nat} (hn : n ≤ 10) (hw : w < 2 ^ n) (hd : pb &&& w = 0) : (pb ||| a) &&& sd w a = 0 := by
  have hl2 : sd w a < 1024 := Nat.lt_of_le_of_lt (sd_le w a) (lt1024 hn hw)
  apply Nat.eq_of_testBit_eq
  intro i
  rw [Nat.testBit_and, Nat.zero_testBit]
  by_cases q : (sd w a).testBit i = true
  · have hi : i < 10 := Nat.lt_of_not_le (fun z => by rw [hi_bit hl2 z] at q; exact absurd q (by decide))
    have q2 := q
    rw [sd_bit (by omega), Bool.and_eq_true] at q2
    have h1 : pb.testBit i = false := dj_bit hd q2.1
    have h2 : a.testBit i = false := by simpa using q2.2
    rw [Nat.testBit_or, h1, h2]; rfl
  · rw [Bool.not_eq_true] at q
    rw [q, Bool.and_false]
def Gl (μ μ' : Mem) : Prop := μ'.1 = μ.1 ∧ ∀ o k, (o < 106 ∨ (108 ≤ o ∧ o ≤ 131) ∨ (o = 106 ∧ k ≠ 3 ∧ k ≠ 9)) → gm_r μ' o k = gm_r μ o k
theorem Gl.lo {μ μ' : Mem} (h : Gl μ μ') : Lo μ μ' := ⟨h.1, fun o k ho => h.2 o k (Or.inl ho)⟩
theorem Gl.rfl {μ : Mem} : Gl μ μ := ⟨Eq.refl _, fun _ _ _ => Eq.refl _⟩
theorem Gl.trans {μ μ1 μ2 : Mem} (h1 : Gl μ μ1) (h2 : Gl μ1 μ2) : Gl μ μ2 := ⟨h2.1.trans h1.1, fun o k q => (h2.2 o k q).trans (h1.2 o k q)⟩
theorem Gb.gl {μ μ' : Mem} (h : Gb μ μ') : Gl μ μ' := ⟨h.1, fun o k q => h.2 o k (by omega) (by omega)⟩
theorem Gl.w {k : Nat} {μ μ' : Mem} {v : Int32} (h : Gl μ μ') (hk : k = 3 ∨ k = 9) : Gl μ (gm_w μ' 106 k v) := ⟨h.1, fun o k' q => by
  rw [gm_rw, if_neg (fun z => by omega)]
  exact h.2 o k' q⟩
section GATHC
variable {G : gC} {l : Launch} {μ : Mem} {n : Nat} {c : Nat → Nat → Nat} {D N W : Nat → Nat} {pb w : Nat}
theorem ed_0 {a p j : Nat} (h : gth n c D N W pb j a = 0 ∨ wo n c D N W (pb ||| a) p = 0) : ed n c D N W pb a p j = 0 := by
  unfold ed comb; rw [if_pos h]
theorem c_behind {P : Mem → Prop} {a : Nat} (hS : ST n c D μ) (hV : SVt n c D N μ) (hL : LW W μ) (h144 : μ.1 = 144) (hpb : gm_r μ 106 3 = nI pb) (hpn : pb < 2 ^ n) (hw : w < 2 ^ n) (hd : pb &&& w = 0) (ha : Sb a w) (hI : GI n c D N W pb w (rdC μ) 10 (fun a' _ _ => a' < a)) (h : ∀ μ', Gb μ μ' → GI n c D N W pb w (rdC μ') 10 (fun a' _ _ => a' ≤ a) → P μ') : qX2_gatherBehind G l (nI a) (nI (sd w a)) μ P := by
  have hK := hS.2.2
  have hn := hK.1
  have hW := hL.2.2
  have hw2 := lt1024 hn hw
  have han : a < 2 ^ n := Nat.lt_of_le_of_lt (sb_le ha) hw
  have ha2 := lt1024 hn han
  have hln : sd w a < 2 ^ n := Nat.lt_of_le_of_lt (sd_le w a) hw
  have hl2 := lt1024 hn hln
  have hb : pb ||| a < 2 ^ n := Nat.or_lt_two_pow hpn han
  have hpcl : pc (sd w a) ≤ 10 := pcn_le _ _
  have hpca : pc a ≤ 10 := pcn_le _ _
  have h2 := pc2_le (l := sd w a)
  have htop := cnt_top hl2
  refine eX2_gatherBehind ⟨by rw [h144]; decide, c_parts hS hV hL h144 hpb hb hln (dj_rest hn hw hd) (fun μ1 o1 i1 => t_bc hl2 (t_bc ha2 ?_))⟩
  have all : ∀ μ', Gb μ μ' → PI n c (pb ||| a) (sd w a) (ACT n c D N W (pb ||| a)) μ' → GI n c D N W pb w (rdC μ') 10 (fun a' p' _ => a' < a ∨ (a' = a ∧ p' ≤ 0)) → hX2_gatherBehind_23 G l P (nI a) (nI (sd w a)) (nI (pc (sd w a))) (nI (pc a)) (nI 0) (nI (cnt (sd w a) 0 + 1)) μ' := by
    refine asc (H := fun p => ∀ μ', Gb μ μ' → PI n c (pb ||| a) (sd w a) (ACT n c D N W (pb ||| a)) μ' → GI n c D N W pb w (rdC μ') 10 (fun a' p' _ => a' < a ∨ (a' = a ∧ p' ≤ p)) → hX2_gatherBehind_23 G l P (nI a) (nI (sd w a)) (nI (pc (sd w a))) (nI (pc a)) (nI p) (nI (cnt (sd w a) p + 1)) μ') (l := sd w a) ?_ ?_ hl2
    · intro μ' c1 i1 b1
      refine eX2_gatherBehind_23 ⟨fun _ => h μ' c1 (gi_ext hw2 b1 (fun a' p' j q => by omega) (fun a' p' j q1 q2 q3 _ q4 => Or.inl ?_)), fun q => absurd (by rw [nI_bit1 (by omega), htop]; exact Int32.le_refl _) q⟩
      by_cases e : a' = a
      · subst e; exact Or.inr ⟨rfl, sb_le q2⟩
      · exact Or.inl (by omega)
    · intro p q hp hne hx ih μ' c1 i1 b1
      have hxc := Nx_cnt hl2 hp hx
      have hp1 := hx.2.1
      have hple := sb_le hx.1
      have hcp := cnt_le hl2 hple
      have hq0 : q ≠ 0 := by omega
      obtain ⟨g1, g2, g3, g4, g5, g6⟩ := part_ok hw2 ha hq0 hx.1
      have hpcs : pc (a ||| q) ≤ 10 := pcn_le _ _
      have hag : a ||| q < 1024 := Nat.lt_of_le_of_lt (sb_le g1) hw2
      have lo1 := c1.lo
      have hwo := wo_le (N := N) hK hW (pb ||| a) q
      refine eX2_gatherBehind_23 ⟨fun z => absurd z (by rw [nI_bit1 (by omega), nI_leI (by omega) (by omega)]; omega), fun _ => ⟨by rw [c1.1, h144]; decide, ?_⟩⟩
      rw [up_to hl2 hp hne hx]
      refine c_worth (D := D) (N := N) (W := W) hK (hV.lo lo1) (hL.fr lo1.fr (by decide)).1 hW (by rw [c1.1, h144]) (by rw [c1.2 _ _ (by decide) (by decide)]; exact hpb) hb hln i1 hx.1 ?_
      have next : ∀ μ2, Gb μ μ2 → PI n c (pb ||| a) (sd w a) (ACT n c D N W (pb ||| a)) μ2 → GI n c D N W pb w (rdC μ2) 10 (fun a' p' _ => a' < a ∨ (a' = a ∧ p' ≤ q)) → hX2_gatherBehind_23 G l P (nI a) (nI (sd w a)) (nI (pc (sd w a))) (nI (pc a)) (nI q) (nI (cnt (sd w a) p + 1) + 1) μ2 := fun μ2 c2 i2 b2 => by
        rw [← hxc, nI_1]
        exact ih μ2 c2 i2 b2
      have inner : ∀ d j μ2, j + d = pc a + 1 → Gb μ μ2 → PI n c (pb ||| a) (sd w a) (ACT n c D N W (pb ||| a)) μ2 → GI n c D N W pb w (rdC μ2) 10 (fun a' p' j' => a' < a ∨ (a' = a ∧ (p' < q ∨ (p' = q ∧ j' < j)))) → hX2_gatherBehind_51 G l P (nI a) (nI (sd w a)) (nI (pc (sd w a))) (nI (pc a)) (nI q) (nI (cnt (sd w a) p + 1)) (nI (wo n c D N W (pb ||| a) q) - 1) (nI j) μ2 := by
        intro d
        induction d with
        | zero =>
          intro j μ2 hj c2 i2 b2
          refine eX2_gatherBehind_51 ⟨fun _ => next μ2 c2 i2 (gi_ext hw2 b2 (fun a' p' j' z => by omega) (fun a' p' j' _ _ _ _ z => ?_)), fun z => absurd (nI_lt (by omega) (by omega)) z⟩
          by_cases e : a' = a ∧ p' = q ∧ j ≤ j'
          · obtain ⟨rfl, rfl, e3⟩ := e
            exact Or.inr (ed_0 (Or.inl (Nat.eq_zero_of_not_pos (fun z2 => by have := gth_pc j' a' ha2 z2; omega))))
          · exact Or.inl (by omega)
        | succ d ihd =>
          intro j μ2 hj c2 i2 b2
          have hj9 : j + 1 ≤ 10 := by omega
          refine eX2_gatherBehind_51 ⟨fun z => absurd z (nI_nlt (by omega) (by omega)), fun _ => ?_⟩
          rw [dI_m1 (by omega)]
          refine ⟨fun z => next μ2 c2 i2 (gi_ext hw2 b2 (fun a' p' j' z2 => by omega) (fun a' p' j' _ _ _ _ z2 => ?_)), fun z => ⟨by rw [c2.1, h144]; decide, vp_in_nI (by omega) (by decide), vp_in_nI (by omega) (by decide), ?_⟩⟩
          · by_cases e : a' = a ∧ p' = q
            · obtain ⟨rfl, rfl⟩ := e
              exact Or.inr (ed_0 (Or.inr z))
            · exact Or.inl (by omega)
          · have hgj := gth_le (N := N) (pb := pb) hK hW j a
            have hrd : gm_r μ2 (132 + 1 + j) a = nI (gth n c D N W pb j a) - 1 := gi_done b2 (by omega) ha ha2 (fun a' i q1 q2 _ => Or.inl (by have := sb_le q1; omega))
            rw [nI_1, nI_clamp (by omega), nI_clamp (by omega), nI_clamp (by omega), nI_or, nI_clamp (by omega), hrd, dI_m1 (by omega)]
            refine ⟨fun z2 => ihd (j + 1) μ2 (by omega) c2 i2 (gi_ext hw2 b2 (fun a' p' j' z3 => by omega) (fun a' p' j' _ _ _ _ z3 => ?_)), fun z2 => ⟨vp_in_nI (by omega) (by decide), vp_in_nI (by omega) (by decide), ?_⟩⟩
            · by_cases e : a' = a ∧ p' = q ∧ j' = j
              · obtain ⟨rfl, rfl, rfl⟩ := e
                exact Or.inr (ed_0 (Or.inl z2))
              · exact Or.inl (by omega)
            · obtain ⟨v, v1, v2, _⟩ := b2 (j + 1) (a ||| q) hj9 g1
              have v1' : gm_r μ2 (132 + 1 + (j + 1)) (a ||| q) = nI v - 1 := v1
              have hed := ed_le (N := N) (pb := pb) hK hW a q j
              have eE : (nI (gth n c D N W pb j a) - 1) + (nI (wo n c D N W (pb ||| a) q) - 1) = nI (ed n c D N W pb a q j) - 1 := dI_add (by omega) (by omega)
              rw [v1', eE, dI_max (by omega) (by omega)]
              have c3 : Gb μ (gm_w μ2 (132 + 1 + (j + 1)) (a ||| q) (nI (max v (ed n c D N W pb a q j)) - 1)) := c2.w (by omega)
              refine ihd (j + 1) _ (by omega) c3 (fun s hs => by rw [gm_rw_o (by omega)]; exact i2 s hs) (gi_ext hw2 (gi_edge (J := 10) (j := j) (a := a) (p := q) (rd := rdC μ2) (rd' := rdC (gm_w μ2 (132 + 1 + (j + 1)) (a ||| q) (nI (max v (ed n c D N W pb a q j)) - 1))) hK hW hw2 ha hq0 hx.1 (by omega) b2 (fun i t _ _ hno => ?_) (fun v' hv' e' => ?_)) (fun a' p' j' z3 => ?_) (fun a' p' j' _ _ _ _ z3 => Or.inl ?_))
              · show gm_r (gm_w _ _ _ _) (132 + 1 + i) t = _
                have e0 : ¬ (132 + 1 + i = 132 + 1 + (j + 1) ∧ t = a ||| q) := fun z3 => hno ⟨by omega, z3.2⟩
                rw [gm_rw, if_neg e0]
                rfl
              · have e2 : v' = v := by
                  have e3 := v1.symm.trans e'
                  rw [dI_eq (by omega) (by omega)] at e3
                  exact e3.symm
                show gm_r (gm_w _ _ _ _) _ _ = _
                rw [gm_rw_s, e2]
              · omega
              · omega
      refine inner (pc a + 1) 0 μ' (by omega) c1 i1 (gi_ext hw2 b1 (fun a' p' j' z => by omega) (fun a' p' j' _ q2 _ _ z => Or.inl ?_))
      rcases z with z | ⟨rfl, z | z⟩
      · exact Or.inl z
      · exact Or.inr ⟨rfl, nx_ge hx q2 z⟩
      · omega
  refine all μ1 o1.gb i1 (gi_ext (T := fun a' _ _ => a' < a) hw2 (fun j t hj ht => ?_) (fun a' p' j q => Or.inl q) (fun a' p' j _ _ q3 _ z => Or.inl (by omega)))
  show ∃ v, gm_r μ1 (132 + 1 + j) t = _ ∧ _
  rw [o1.2.2 _ _ (by simp; omega)]
  exact hI j t hj ht
theorem c_isGath {P : Int32 → Mem → Prop} {a : Nat} (h144 : μ.1 = 144) (ha2 : a < 1024) (h0 : (∀ j, j ≤ 10 → gm_r μ (132 + 1 + j) a = -1) → P 0 μ) (h1 : P 1 μ) : qX2_isGathered G l (nI a) μ P := by
  have loop : ∀ d j, j + d = 11 → (∀ i, i < j → gm_r μ (132 + 1 + i) a = -1) → hX2_isGathered_2 G l P (nI a) (nI j) μ := by
    intro d
    induction d with
    | zero =>
      intro j hj k
      exact eX2_isGathered_2 ⟨fun _ => h0 (fun i hi => k i (by omega)), fun q => absurd (by rw [show j = 11 by omega]; decide) q⟩
    | succ d ih =>
      intro j hj k
      refine eX2_isGathered_2 ⟨fun q => absurd q (nI_nlt (b := j) (a := 10) (by omega) (by omega)), fun _ => ⟨by rw [h144]; decide, vp_in_nI (by omega) (by decide), vp_in_nI (by omega) (by decide), ?_⟩⟩
      rw [nI_clamp (by omega), nI_clamp (by omega), nI_1]
      refine ⟨fun q => ih (j + 1) (by omega) (fun i hi => ?_), fun _ => h1⟩
      by_cases e : i = j
      · subst e; exact q
      · exact k i (by omega)
  exact eX2_isGathered (loop 11 0 (by omega) (fun i hi => absurd hi (by omega)))
def GT (n : Nat) (c : Nat → Nat → Nat) (D N W : Nat → Nat) (pb w : Nat) (μ : Mem) : Prop := ∀ j t, j ≤ 10 → Sb t w → gm_r μ (132 + 1 + j) t = nI (gth n c D N W pb j t) - 1
theorem c_gather {P : Mem → Prop} {r e : Nat → Nat} {f m : Nat} (hS : ST n c D μ) (hV : SVt n c D N μ) (hL : LW W μ) (hO : BO n r f m e μ) (h144 : μ.1 = 144) (hw : w < 2 ^ n) (hd : seg r 0 (bst e m) &&& w = 0) (hc : gm_r μ 106 9 = -1 ∨ ∃ w', w' < 2 ^ n ∧ gm_r μ 106 9 = nI w' ∧ GT n c D N W (seg r 0 (bst e m)) w' μ) (h : ∀ μ', Gl μ μ' → gm_r μ' 106 9 = nI w → GT n c D N W (seg r 0 (bst e m)) w μ' → P μ') : qX2_gatherFor G l (nI w) μ P := by
  have hK := hS.2.2
  have hn := hK.1
  have hW := hL.2.2
  have hw2 := lt1024 hn hw
  have hf := (BKm hO.2.2).2.2.2
  have hpn := (segK hO.2.2 (a := 0) hf).1
  have h2 := pc2_le (l := w)
  have htop := cnt_top hw2
  have hpc : pc w ≤ 10 := pcn_le _ _
  refine eX2_gatherFor ⟨by rw [h144]; decide, fun _ => ?_, fun q => h μ Gl.rfl q ?_⟩
  · -- the walk over all SETS
    have one : ∀ a, Sb a w → (∀ μ', Gl μ μ' → gm_r μ' 106 3 = nI (seg r 0 (bst e m)) → GI n c D N W (seg r 0 (bst e m)) w (rdC μ') 10 (fun a' _ _ => a' ≤ a) → hX2_gatherFor_85 G l P (nI w) (nI (pc w)) ((nI a - nI w) &&& nI w) (nI (cnt w a + 1)) μ') → ∀ μ', Gl μ μ' → gm_r μ' 106 3 = nI (seg r 0 (bst e m)) → GI n c D N W (seg r 0 (bst e m)) w (rdC μ') 10 (fun a' _ _ => a' < a) → hX2_gatherFor_85 G l P (nI w) (nI (pc w)) (nI a) (nI (cnt w a)) μ' := by
      intro a ha hnext μ' p1 g1 b1
      have ha2 := Nat.lt_of_le_of_lt (sb_le ha) hw2
      have hca := cnt_le hw2 (sb_le ha)
      refine eX2_gatherFor_85 ⟨fun q => absurd q (by rw [nI_bit1 (by omega), nI_leI (by omega) (by omega)]; omega), fun _ => ⟨by rw [p1.1, h144]; decide, c_isGath (by rw [p1.1, h144]) ha2 (fun hz => ⟨fun _ => ?_, fun q => absurd rfl q⟩) ⟨fun q => absurd q (by decide), fun _ => ⟨by rw [p1.1, h144]; decide, ?_⟩⟩⟩⟩
      · rw [nI_1]
        refine hnext μ' p1 g1 (gi_ext hw2 b1 (fun a' _ _ q => by omega) (fun a' p' j _ _ _ hj z => ?_))
        by_cases e2 : a' = a
        · subst e2
          have hrd : gm_r μ' (132 + 1 + j) a' = nI (gth n c D N W (seg r 0 (bst e m)) j a') - 1 := gi_done b1 (by omega) ha ha2 (fun a2 i q1 q2 _ => by have := sb_le q1; omega)
          have hgj := gth_le (N := N) (pb := seg r 0 (bst e m)) hK hW j a'
          rw [hz j (by omega)] at hrd
          exact Or.inr (ed_0 (Or.inl ((dI_m1 (by omega)).mp hrd.symm)))
        · exact Or.inl (by omega)
      · rw [nI_sd]
        have lo1 := p1.lo
        refine c_behind (hS.fr lo1.fr (by decide)) (hV.lo lo1) (hL.fr lo1.fr (by decide)) (by rw [p1.1, h144]) g1 hpn hw hd ha b1 (fun μ2 c2 b2 => ?_)
        rw [nI_1]
        exact hnext μ2 (p1.trans c2.gl) (by rw [c2.2 _ _ (by decide) (by decide)]; exact g1) b2
    have all : ∀ μ', Gl μ μ' → gm_r μ' 106 3 = nI (seg r 0 (bst e m)) → GI n c D N W (seg r 0 (bst e m)) w (rdC μ') 10 (fun a' _ _ => a' < 0) → hX2_gatherFor_85 G l P (nI w) (nI (pc w)) (nI 0) (nI (cnt w 0)) μ' := by
      refine asc (H := fun a => ∀ μ', Gl μ μ' → gm_r μ' 106 3 = nI (seg r 0 (bst e m)) → GI n c D N W (seg r 0 (bst e m)) w (rdC μ') 10 (fun a' _ _ => a' < a) → hX2_gatherFor_85 G l P (nI w) (nI (pc w)) (nI a) (nI (cnt w a)) μ') (l := w) ?_ ?_ hw2
      · refine one w sb_rfl (fun μ' p1 g1 b1 => ?_)
        rw [htop]
        refine eX2_gatherFor_85 ⟨fun _ => ⟨by rw [p1.1, h144]; decide, h _ (p1.w (Or.inr rfl)) (by rw [gm_rw_s]) (fun j t hj ht => ?_)⟩, fun q => absurd (by rw [nI_bit1 (by omega)]; exact Int32.le_refl _) q⟩
        rw [gm_rw_o (by omega)]
        exact gi_done b1 hj ht (Nat.lt_of_le_of_lt (sb_le ht) hw2) (fun a' i q1 q2 _ => Nat.le_trans (sb_le q1) (sb_le ht))
      · intro a a' ha hne hx ih
        refine one a ha (fun μ' p1 g1 b1 => ?_)
        rw [up_to hw2 ha hne hx, ← Nx_cnt hw2 ha hx]
        exact ih μ' p1 g1 (gi_ext hw2 b1 (fun a2 _ _ q => by have := hx.2.1; omega) (fun a2 p' j q1 _ _ _ z => Or.inl (nx_ge hx q1 z)))
    -- the table is cleared first
    have rows : ∀ d j μ', j + d = 11 → Gb μ μ' → (∀ i t, i < j → t ≤ w → gm_r μ' (132 + 1 + i) t = if i = 0 ∧ t = 0 then 0 else -1) → hX2_gatherFor_11 G l P (nI w) (nI j) μ' := by
      intro d
      induction d with
      | zero =>
        intro j μ' hj c1 k1
        have lo1 := c1.lo
        have hO1 := hO.fr lo1.fr (by decide)
        refine eX2_gatherFor_11 ⟨fun _ => ⟨by rw [c1.1, h144]; decide, b_printed hO1.1 hO1.2.2 (b_setUpTo hO1.1 hO1.2.2 hf ⟨by rw [c1.1, h144]; decide, t_bc hw2 ?_⟩)⟩, fun q => absurd (by rw [show j = 11 by omega]; decide) q⟩
        refine all _ (c1.gl.w (Or.inl rfl)) (by rw [gm_rw_s]) (gi_ext (T := fun _ _ _ => False) hw2 (gi_none (fun t ht => ?_) (fun i t hi ht => ?_)) (fun _ _ _ q => absurd q id) (fun a2 p' j q1 _ _ _ z => absurd z (by omega)))
        · show gm_r (gm_w _ _ _ _) (132 + 1 + 0) t = _
          rw [gm_rw_o (by decide), k1 0 t (by omega) (sb_le ht)]
          by_cases e2 : t = 0
          · rw [if_pos ⟨rfl, e2⟩, if_pos e2]; rfl
          · rw [if_neg (fun z => e2 z.2), if_neg e2]; rfl
        · show gm_r (gm_w _ _ _ _) (132 + 1 + (i + 1)) t = _
          rw [gm_rw_o (by omega), k1 (i + 1) t (by omega) (sb_le ht), if_neg (by omega)]
      | succ d ih =>
        intro j μ' hj c1 k1
        refine eX2_gatherFor_11 ⟨fun q => absurd q (nI_nlt (b := j) (a := 10) (by omega) (by omega)), fun _ => ?_⟩
        have cols : ∀ d2 t0 μ2, t0 + d2 = w + 1 → Gb μ μ2 → (∀ i t, i < j → t ≤ w → gm_r μ2 (132 + 1 + i) t = if i = 0 ∧ t = 0 then 0 else -1) → (∀ t, t < t0 → gm_r μ2 (132 + 1 + j) t = if j = 0 ∧ t = 0 then 0 else -1) → hX2_gatherFor_19 G l P (nI w) (nI j) (nI t0) μ2 := by
          intro d2
          induction d2 with
          | zero =>
            intro t0 μ2 ht c2 k2 k3
            refine eX2_gatherFor_19 ⟨fun _ => ?_, fun q => absurd (nI_lt (by omega) (by omega)) q⟩
            rw [nI_1]
            refine ih (j + 1) μ2 (by omega) c2 (fun i t hi ht2 => ?_)
            by_cases e2 : i = j
            · subst e2; exact k3 t (by omega)
            · exact k2 i t (by omega) ht2
          | succ d2 ih2 =>
            intro t0 μ2 ht c2 k2 k3
            refine eX2_gatherFor_19 ⟨fun q => absurd q (nI_nlt (by omega) (by omega)), fun _ => ⟨by rw [c2.1, h144]; decide, vp_in_nI (by omega) (by decide), ?_⟩⟩
            rw [nI_z (by omega), nI_z (by omega), nI_clamp (by omega), nI_clamp (by omega), nI_1]
            have step : ∀ v : Int32, v = (if j = 0 ∧ t0 = 0 then 0 else -1) → hX2_gatherFor_19 G l P (nI w) (nI j) (nI (t0 + 1)) (gm_w μ2 (132 + 1 + j) t0 v) := fun v hv => by
              refine ih2 (t0 + 1) _ (by omega) (c2.w (by omega)) (fun i t hi ht2 => by rw [gm_rw_o (by omega)]; exact k2 i t hi ht2) (fun t ht2 => ?_)
              by_cases e2 : t = t0
              · subst e2; rw [gm_rw_s, hv]
              · rw [gm_rw_k e2]; exact k3 t (by omega)
            refine ⟨fun q => ⟨vp_in_nI (by omega) (by decide), step _ ?_⟩, fun q => ⟨fun q2 => ⟨vp_in_nI (by omega) (by decide), step _ ?_⟩, fun q2 => ⟨vp_in_nI (by omega) (by decide), step _ ?_⟩⟩⟩
            · rw [if_neg (fun z => q z.1)]
            · rw [if_neg (fun z => q2 z.2)]
            · rw [if_pos ⟨q, q2⟩]
        exact cols (w + 1) 0 μ' (by omega) c1 k1 (fun t ht => absurd ht (by omega))
    exact rows 11 0 μ (by omega) Gb.rfl (fun i t hi => absurd hi (by omega))
  · rcases hc with hc | ⟨w', h1, h3, h4⟩
    · rw [hc] at q
      exact absurd q.symm (nI_nm1 (by omega))
    · rw [h3, nI_eq (by have := lt1024 hn h1; omega) (by omega)] at q
      rw [← q]; exact h4
end GATHC
