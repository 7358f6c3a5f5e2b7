/-! the WORTH of parts: the class's table, whole -/
section CPARTS2
variable {G : gC} {l : Launch} {μ : Mem} {n : Nat} {c : Nat → Nat → Nat} {D N W : Nat → Nat}
theorem cnt_pos {w p : Nat} (h : 0 < p) : 0 < cnt w p := by
  have := cnt_mono (l := w) (a := 1) (p - 1)
  rw [show 1 + (p - 1) = p by omega] at this
  have e : cnt w 1 = 1 := by
    show 0 + (if sd 0 w = 0 then 1 else 0) = 1
    rw [if_pos (by unfold sd; simp)]
  omega
theorem up_to {l p p' : Nat} (hl : l < 1024) (hp : Sb p l) (hne : p ≠ l) (hx : Nx l p p') : (nI p - nI l) &&& nI l = nI p' := by
  obtain ⟨p2, e2, hx2⟩ := up_step hl hp hne
  rw [e2, Nat.le_antisymm (hx2.2.2 p' hx.1 hx.2.1) (hx.2.2 p2 hx2.1 hx2.2.1)]
theorem nx_ge {l p p' s : Nat} (hx : Nx l p p') (hs : Sb s l) (h : s < p') : s ≤ p := Nat.le_of_not_lt (fun z => by have := hx.2.2 s hs z; omega)
theorem c_parts {P : Mem → Prop} {pb a w : Nat} (hS : ST n c D μ) (hV : SVt n c D N μ) (hL : LW W μ) (h144 : μ.1 = 144) (hpb : gm_r μ 106 3 = nI pb) (hb : pb ||| a < 2 ^ n) (hw : w < 2 ^ n) (hd : (pb ||| a) &&& w = 0) (h : ∀ μ', On [107] μ μ' → PI n c (pb ||| a) w (ACT n c D N W (pb ||| a)) μ' → P μ') : qX2_findParts G l (nI a) (nI w) μ P := by
  have hK := hS.2.2
  have hn := hK.1
  have hW := hL.2.2
  have hb2 := lt1024 hn hb
  have hw2 := lt1024 hn hw
  have h2 := pc2_le (l := w)
  have htop := cnt_top hw2
  -- the second walk
  have grow : ∀ p, Sb p w → (∀ μ', On [107] μ μ' → PI n c (pb ||| a) w (fun u k => u ≤ p ∧ ACT n c D N W (pb ||| a) u k) μ' → hX2_findParts_62 G l P (nI w) (nI (pb ||| a)) (nI (2 ^ pc w)) ((nI p - nI w) &&& nI w) (nI (cnt w p + 1)) μ') → ∀ μ', On [107] μ μ' → PI n c (pb ||| a) w (fun u k => u < p ∧ ACT n c D N W (pb ||| a) u k) μ' → hX2_findParts_62 G l P (nI w) (nI (pb ||| a)) (nI (2 ^ pc w)) (nI p) (nI (cnt w p)) μ' := by
    intro p hp hnext μ' o1 p1
    have hp2 : p < 1024 := Nat.lt_of_le_of_lt (sb_le hp) hw2
    have hcp := cnt_le hw2 (sb_le hp)
    obtain ⟨v, v1, v2, v3, v4⟩ := p1 p hp
    have erc : 1 ≤ v ↔ RC (okW n c W) (mA n c D N) n (pb ||| a) p = true := by
      rw [v3, RC_iff hn hp2]
      constructor
      · rintro (q | ⟨k, q1, q2, q3, q4, q5, q6⟩)
        · exact Or.inl q
        · exact Or.inr ⟨k, q1, q2, q5, q6, q4⟩
      · rintro (q | ⟨k, q1, q2, q3, q4, q5⟩)
        · exact Or.inl q
        · exact Or.inr ⟨k, q1, q2, cl_lt hp2 q2, q5, q3, q4⟩
    have skip : (∀ k, ¬ ACT n c D N W (pb ||| a) p k) → hX2_findParts_62 G l P (nI w) (nI (pb ||| a)) (nI (2 ^ pc w)) ((nI p - nI w) &&& nI w) (nI (cnt w p) + 1) μ' := fun hno => by
      rw [nI_1]
      refine hnext μ' o1 (p1.congr (fun u k _ _ _ _ => ?_) hw2)
      constructor
      · exact fun q => ⟨by omega, q.2⟩
      · rintro ⟨q1, q2⟩
        by_cases e : u = p
        · subst e; exact absurd q2 (hno k)
        · exact ⟨by omega, q2⟩
    have hli : sm c 0 p n ≤ 990 := by
      have := sm_le (c := c) (w := 0) (s := p) (m := 99) (n := n) (fun k hk => (hK.2 k hk).1.2)
      omega
    have hpn : p < 2 ^ n := Nat.lt_of_le_of_lt (sb_le hp) hw
    refine eX2_findParts_62 ⟨fun q => absurd q (by rw [nI_leI (by omega) (by omega)]; omega), fun _ => t_bc hp2 ⟨fun q => ?_, fun q => ⟨by rw [o1.1, h144]; decide, vp_in_nI (by omega) (by decide), ?_⟩⟩⟩
    · rw [show (6 : Int32) = nI 6 from rfl, nI_leI (by decide) (by have := pcn_le p 10; show pcn p 10 < _; omega)] at q
      exact eX2_findParts_106 ⟨fun _ => skip (fun k z => by have := (okW_iff.mp z.2.1).1; omega), fun z => absurd rfl z⟩
    · rw [show (6 : Int32) = nI 6 from rfl, nI_leI (by decide) (by have := pcn_le p 10; show pcn p 10 < _; omega)] at q
      rw [nI_clamp (by omega), o1.2.2 45 _ (by decide), hL.1 1 (by decide), o1.2.2 31 _ (by decide), (hV.2 p hpn).1, nI_ltI (by have := hW.1; omega) (by omega)]
      refine ⟨fun q2 => eX2_findParts_106 ⟨fun _ => skip (fun k z => by have := (okW_iff.mp z.2.1).2; omega), fun z => absurd rfl z⟩, fun q2 => eX2_findParts_106 ⟨fun z => absurd z (by decide), fun _ => ⟨by rw [o1.1, h144]; decide, vp_in_nI (by omega) (by decide), ?_⟩⟩⟩
      rw [nI_clamp (by omega), v2, nI_z (by omega)]
      refine ⟨fun q3 => skip (fun k z => by have := erc.mpr z.1; omega), fun q3 => ?_⟩
      have hrc := erc.mp (by omega)
      have hok : okW n c W p = true := okW_iff.mpr ⟨by omega, by omega⟩
      have hbp : (pb ||| a) ||| p < 2 ^ n := Nat.or_lt_two_pow hb hpn
      have hbp2 := lt1024 hn hbp
      have hnx := lt1024 hn (nx_lt n c D N ((pb ||| a) ||| p))
      rw [nI_or, nI_clamp (by omega), o1.2.2 38 _ (by decide), (hV.2 _ hbp).2.2.2, nI_and]
      refine ⟨vp_in_nI (by omega) (by decide), ?_⟩
      refine c_grow (D := D) (N := N) (T := fun u k => u < p ∧ ACT n c D N W (pb ||| a) u k) hS hV h144 hb hw hp (Nat.lt_of_le_of_lt Nat.and_le_right (by omega)) (fun k hk => ?_) (fun μ2 o2 p2 => ?_) μ' o1 p1
      · rw [Nat.testBit_and, Bool.and_eq_true] at hk
        have hkn : k < n := by
          refine Nat.lt_of_not_le (fun z => ?_)
          have h1 : 2 ^ k ≤ nx n c D N ((pb ||| a) ||| p) := Nat.ge_two_pow_of_testBit hk.1
          have h2 : 2 ^ n ≤ 2 ^ k := Nat.pow_le_pow_right (by decide) z
          have := nx_lt n c D N ((pb ||| a) ||| p)
          omega
        refine ⟨hkn, hk.2, ?_⟩
        have h3 := hk.1
        rw [nx_bit hkn] at h3
        have h4 := mA_no n c D N _ _ h3
        rw [Nat.testBit_or, Bool.or_eq_false_iff] at h4
        exact h4.2
      · rw [nI_1]
        refine hnext μ2 o2 (p2.congr (fun u k _ hk hkw _ => ?_) hw2)
        constructor
        · rintro (q4 | ⟨rfl, q5⟩)
          · exact ⟨by omega, q4.2⟩
          · rw [Nat.testBit_and, Bool.and_eq_true, nx_bit hk] at q5
            exact ⟨Nat.le_refl _, hrc, hok, q5.1⟩
        · rintro ⟨q4, q5⟩
          by_cases e : u = p
          · subst e
            refine Or.inr ⟨rfl, ?_⟩
            rw [Nat.testBit_and, nx_bit hk, hkw, Bool.and_true]
            exact q5.2.2
          · exact Or.inl ⟨by omega, q5⟩
  have second : ∀ μ', On [107] μ μ' → PI n c (pb ||| a) w (fun u k => u < 0 ∧ ACT n c D N W (pb ||| a) u k) μ' → hX2_findParts_62 G l P (nI w) (nI (pb ||| a)) (nI (2 ^ pc w)) (nI 0) (nI (cnt w 0)) μ' := by
    refine asc (H := fun p => ∀ μ', On [107] μ μ' → PI n c (pb ||| a) w (fun u k => u < p ∧ ACT n c D N W (pb ||| a) u k) μ' → hX2_findParts_62 G l P (nI w) (nI (pb ||| a)) (nI (2 ^ pc w)) (nI p) (nI (cnt w p)) μ') (l := w) ?_ ?_ hw2
    · refine grow w sb_rfl (fun μ' o1 p1 => ?_)
      rw [htop]
      exact eX2_findParts_62 ⟨fun _ => h μ' o1 (p1.congr (fun u k hu _ _ _ => ⟨fun q => q.2, fun q => ⟨sb_le hu, q⟩⟩) hw2), fun q => absurd (Int32.le_refl _) q⟩
    · intro p p' hp hne hx ih
      refine grow p hp (fun μ' o1 p1 => ?_)
      rw [up_to hw2 hp hne hx, ← Nx_cnt hw2 hp hx]
      exact ih μ' o1 (p1.congr (fun u k hu _ _ _ => ⟨fun q => ⟨by have := hx.2.1; omega, q.2⟩, fun q => ⟨nx_ge hx hu q.1, q.2⟩⟩) hw2)
  -- the first walk
  have one : ∀ p, Sb p w → (∀ μ', On [107] μ μ' → (∀ s, Sb s w → s ≤ p → gm_r μ' 107 s = if s = 0 then 1 else 0) → hX2_findParts_21 G l P (nI w) (nI (pb ||| a)) (nI (2 ^ pc w)) ((nI p - nI w) &&& nI w) (nI (cnt w p + 1)) μ') → ∀ μ', On [107] μ μ' → (∀ s, Sb s w → s < p → gm_r μ' 107 s = if s = 0 then 1 else 0) → hX2_findParts_21 G l P (nI w) (nI (pb ||| a)) (nI (2 ^ pc w)) (nI p) (nI (cnt w p)) μ' := by
    intro p hp hnext μ' o1 k1
    have hp2 : p < 1024 := Nat.lt_of_le_of_lt (sb_le hp) hw2
    have hcp := cnt_le hw2 (sb_le hp)
    refine eX2_findParts_21 ⟨fun q => absurd q (by rw [nI_leI (by omega) (by omega)]; omega), fun _ => ⟨by rw [o1.1, h144]; decide, ?_⟩⟩
    rw [nI_z (by omega), nI_clamp (by omega), nI_1]
    have step : ∀ v : Int32, v = (if p = 0 then 1 else 0) → hX2_findParts_21 G l P (nI w) (nI (pb ||| a)) (nI (2 ^ pc w)) ((nI p - nI w) &&& nI w) (nI (cnt w p + 1)) (gm_w μ' 107 p v) := fun v hv => by
      refine hnext _ (o1.w (by decide)) (fun s hs hsp => ?_)
      by_cases e : s = p
      · subst e; rw [gm_rw_s, hv]
      · rw [gm_rw_k e]; exact k1 s hs (by omega)
    refine ⟨fun q => ⟨vp_in_nI (by omega) (by decide), step _ ?_⟩, fun q => ⟨vp_in_nI (by omega) (by decide), step _ ?_⟩⟩
    · rw [if_neg (fun e => q (by rw [e]; rfl))]
    · rw [if_pos (Nat.eq_zero_of_not_pos (fun z => by have := cnt_pos (w := w) z; omega))]
  have first : ∀ μ', On [107] μ μ' → (∀ s, Sb s w → s < 0 → gm_r μ' 107 s = if s = 0 then 1 else 0) → hX2_findParts_21 G l P (nI w) (nI (pb ||| a)) (nI (2 ^ pc w)) (nI 0) (nI (cnt w 0)) μ' := by
    refine asc (H := fun p => ∀ μ', On [107] μ μ' → (∀ s, Sb s w → s < p → gm_r μ' 107 s = if s = 0 then 1 else 0) → hX2_findParts_21 G l P (nI w) (nI (pb ||| a)) (nI (2 ^ pc w)) (nI p) (nI (cnt w p)) μ') (l := w) ?_ ?_ hw2
    · refine one w sb_rfl (fun μ' o1 k1 => ?_)
      rw [htop, up_last hw2]
      refine eX2_findParts_21 ⟨fun _ => second μ' o1 (fun p hp => ⟨if p = 0 then 1 else 0, by split <;> omega, ?_, ?_, ?_⟩), fun q => absurd (Int32.le_refl _) q⟩
      · rw [k1 p hp (sb_le hp)]
        split <;> rfl
      · constructor
        · intro q
          by_cases e : p = 0
          · exact Or.inl e
          · rw [if_neg e] at q; omega
        · rintro (q | ⟨k, _, _, q, _⟩)
          · rw [if_pos q]; omega
          · omega
      · constructor
        · intro q
          by_cases e : p = 0
          · rw [if_pos e] at q; omega
          · rw [if_neg e] at q; omega
        · rintro ⟨k, _, _, ⟨q, _⟩, _⟩
          omega
    · intro p p' hp hne hx ih
      refine one p hp (fun μ' o1 k1 => ?_)
      rw [up_to hw2 hp hne hx, ← Nx_cnt hw2 hp hx]
      exact ih μ' o1 (fun s hs hsp => k1 s hs (nx_ge hx hs hsp))
  refine eX2_findParts ⟨by rw [h144]; decide, t_bc hw2 ?_⟩
  rw [nI_bit1 (by have := pcn_le w 10; show pcn w 10 < _; omega), hpb, nI_or]
  exact first μ On.rfl (fun s _ z => absurd z (by omega))
theorem c_worth {P : Int32 → Mem → Prop} {pb a w p : Nat} (hK : SK n c D) (hV : SVt n c D N μ) (hLC : LC W μ) (hW : LK W) (h144 : μ.1 = 144) (hpb : gm_r μ 106 3 = nI pb) (hb : pb ||| a < 2 ^ n) (hw : w < 2 ^ n) (hI : PI n c (pb ||| a) w (ACT n c D N W (pb ||| a)) μ) (hp : Sb p w) (h : P (nI (wo n c D N W (pb ||| a) p) - 1) μ) : qX2_worthOfPart G l (nI a) (nI p) μ P := by
  have hn := hK.1
  have hb2 := lt1024 hn hb
  have hw2 := lt1024 hn hw
  have hpn : p < 2 ^ n := Nat.lt_of_le_of_lt (sb_le hp) hw
  have hp2 := lt1024 hn hpn
  obtain ⟨v, v1, v2, v3, v4⟩ := hI p hp
  have erc : 1 ≤ v ↔ RC (okW n c W) (mA n c D N) n (pb ||| a) p = true := by
    rw [v3, RC_iff hn hp2]
    constructor
    · rintro (q | ⟨k, q1, q2, q4, q5, q6⟩)
      · exact Or.inl q
      · exact Or.inr ⟨k, q1, q2, q5, q6, q4⟩
    · rintro (q | ⟨k, q1, q2, q3, q4, q5⟩)
      · exact Or.inl q
      · exact Or.inr ⟨k, q1, q2, q5, q3, q4⟩
  have none : ¬ (RC tt (mA n c D N) n (pb ||| a) p = true ∧ pc p ≤ 6 ∧ W 0 ≤ sm c 0 p n ∧ sm c 0 p n ≤ W 1) → P (-1) μ := fun z => by
    have : wo n c D N W (pb ||| a) p = 0 := by unfold wo; rw [if_neg z]
    rw [this] at h
    exact h
  have hli : sm c 0 p n ≤ 990 := by
    have := sm_le (c := c) (w := 0) (s := p) (m := 99) (n := n) (fun k hk => (hK.2 k hk).1.2)
    omega
  have hbp : (pb ||| a) ||| p < 2 ^ n := Nat.or_lt_two_pow hb hpn
  have hbp2 := lt1024 hn hbp
  have hop := opN_lt hK ((pb ||| a) ||| p)
  refine eX2_worthOfPart ⟨by rw [h144]; decide, vp_in_nI (by omega) (by decide), ?_⟩
  rw [nI_clamp (by omega), v2, nI_z (by omega), (hV.2 p hpn).1, hLC 0 (by decide), hLC 1 (by decide), nI_ltI (by omega) (by have := hW.1; omega), nI_leI (by omega) (by have := hW.1; omega)]
  refine ⟨fun q => none (fun z => ?_), fun q => ⟨fun q2 => none (fun z => by omega), fun q2 => ⟨fun q3 => ?_, fun q3 => none (fun z => q3 z.2.2.2)⟩⟩⟩
  · have := erc.mpr (rc_ok hn p hp2 z.2.1 z.2.2.2 z.1)
    omega
  · have hrc := erc.mp (by omega)
    have h6 := rc_6 hn hp2 hrc
    have hwo : wo n c D N W (pb ||| a) p = sm c 1 p n + W 5 * pc (opN n c ((pb ||| a) ||| p)) + (if hkK n c (mA n c D N) (pb ||| a) p n = true then W 4 else 0) + 1 := by
      unfold wo; rw [if_pos ⟨rc_tt hn p hp2 hrc, h6, by omega, q3⟩]
    have ehk : v = 2 ↔ hkK n c (mA n c D N) (pb ||| a) p n = true := by
      rw [v4, hkK_iff]
      constructor
      · rintro ⟨k, q4, q5, q6, q7⟩
        exact ⟨k, q4, q5, q7, rc_tt hn _ (cl_lt1024 hp2) q6.1, q6.2.2⟩
      · rintro ⟨k, q4, q5, q6, q7, q8⟩
        have e2 := pc_cl hp2 (k := k) (by omega) q5
        have e3 := sm_mono (c := c) (w := 0) (cl_sb (p := p) (k := k)) n
        exact ⟨k, q4, q5, ⟨rc_ok hn _ (cl_lt1024 hp2) (by omega) (by omega) q7, okW_iff.mpr ⟨by omega, by omega⟩, q8⟩, q6⟩
    rw [hpb, nI_or, nI_or, nI_clamp (by omega), (hV.2 _ hbp).2.2.1]
    refine ⟨vp_in_nI (by omega) (by decide), fun v7 e7 => ?_⟩
    subst e7
    rw [show (2 : Int32) = nI 2 from rfl, nI_eq (by omega) (by decide), hLC 4 (by decide)]
    have fin : ∀ y : Nat, y = (if hkK n c (mA n c D N) (pb ||| a) p n = true then W 4 else 0) → hX2_worthOfPart_88 G l P (nI p) (nI (opN n c ((pb ||| a) ||| p))) (nI y) μ := fun y hy => by
      refine eX2_worthOfPart_88 ⟨by rw [h144]; decide, vp_in_nI (by omega) (by decide), t_bc hop ?_⟩
      rw [nI_clamp (by omega), (hV.2 p hpn).2.1, hLC 5 (by decide), pk_mul, nI_add, nI_add, hy, ← nI_pred, ← hwo]
      exact h
    refine ⟨fun q4 => fin 0 ?_, fun q4 => fin (W 4) ?_⟩
    · rw [if_neg (fun z => q4 (ehk.mpr z))]
    · rw [if_pos (ehk.mp q4)]
end CPARTS2
