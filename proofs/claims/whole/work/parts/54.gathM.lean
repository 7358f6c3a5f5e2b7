/-! kind: the model's table -/
def rdM (μ : Mem) : Nat → Nat → Int32 := fun j t => gm_r μ 99 (1024 * j + t)
section GATHM
variable {G : gC} {l : Launch} {μ : Mem} {n : Nat} {c : Nat → Nat → Nat} {D N W : Nat → Nat} {pb w : Nat}
def NS (w : Nat) (μ : Mem) : Prop := ∀ j t, j ≤ 12 → t < 1024 → ¬ Sb t w → gm_r μ 99 (1024 * j + t) = -1
theorem m_behind {P : Mem → Prop} {a j0 : Nat} (hK : SK n c D) (hW : LK W) (hw : w < 2 ^ n) (ha : Sb a w) (hj0 : j0 ≤ 12) (hWT : ∀ p, Sb p (sd w a) → 0 < p → gm_r μ 96 p = nI (wo n c D N W (pb ||| a) p) - 1) (hI : GI n c D N W pb w (rdM μ) j0 (fun a' _ _ => a' < a)) (hN : NS w μ) (h : ∀ μ', On [99] μ μ' → GI n c D N W pb w (rdM μ') j0 (fun a' _ _ => a' ≤ a) → NS w μ' → hX10_findAll_35 G l P (nI j0) (nI w) (nI (a + 1)) μ') : hX10_findAll_71 G l P (nI j0) (nI w) (nI a) (nI (sd w a)) (nI (sd w a)) μ := by
  have hn := hK.1
  have hw2 := lt1024 hn hw
  have ha2 := Nat.lt_of_le_of_lt (sb_le ha) hw2
  have hl2 : sd w a < 1024 := Nat.lt_of_le_of_lt (sd_le w a) hw2
  have all : ∀ μ', On [99] μ μ' → GI n c D N W pb w (rdM μ') j0 (fun a' p' _ => a' < a ∨ (a' = a ∧ sd w a < p')) → NS w μ' → hX10_findAll_71 G l P (nI j0) (nI w) (nI a) (nI (sd w a)) (nI (sd w a)) μ' := by
    refine desc (H := fun y => ∀ μ', On [99] μ μ' → GI n c D N W pb w (rdM μ') j0 (fun a' p' _ => a' < a ∨ (a' = a ∧ y < p')) → NS w μ' → hX10_findAll_71 G l P (nI j0) (nI w) (nI a) (nI (sd w a)) (nI y) μ') (l := sd w a) ?_ ?_
    · intro μ' o1 b1 n1
      refine eX10_findAll_71 ⟨fun _ => ?_, fun q => absurd (Int32.le_refl _) q⟩
      rw [nI_1]
      exact h μ' o1 (gi_ext hw2 b1 (fun a' p' j q => by omega) (fun a' p' j _ _ q3 _ z => Or.inl (by omega))) n1
    · intro y hy hy0 _ hylt hlow ih μ' o1 b1 n1
      have hy2 : y < 1024 := Nat.lt_of_le_of_lt (sb_le hy) hl2
      obtain ⟨g1, g2, g3, g4, g5, g6⟩ := part_ok hw2 ha (by omega) hy
      have hag : a ||| y < 1024 := Nat.lt_of_le_of_lt (sb_le g1) hw2
      have hwo := wo_le (N := N) hK hW (pb ||| a) y
      have next : ∀ μ2, On [99] μ μ2 → GI n c D N W pb w (rdM μ2) j0 (fun a' p' _ => a' < a ∨ (a' = a ∧ y ≤ p')) → NS w μ2 → hX10_findAll_71 G l P (nI j0) (nI w) (nI a) (nI (sd w a)) ((nI y - (1 : Int32)) &&& nI (sd w a)) μ2 := fun μ2 o2 b2 n2 => by
        rw [dn_I hy0]
        refine ih μ2 o2 (gi_ext hw2 b2 (fun a' p' j q => by omega) (fun a' p' j _ q2 _ _ z => Or.inl ?_)) n2
        rcases z with z | ⟨rfl, z⟩
        · exact Or.inl z
        · exact Or.inr ⟨rfl, Nat.le_of_not_lt (fun z2 => by have := hlow p' q2 z2; omega)⟩
      have inner : ∀ d j μ2, j + d = j0 → On [99] μ μ2 → GI n c D N W pb w (rdM μ2) j0 (fun a' p' j' => a' < a ∨ (a' = a ∧ (y < p' ∨ (p' = y ∧ j' < j)))) → NS w μ2 → hX10_findAll_79 G l P (nI j0) (nI w) (nI a) (nI (sd w a)) (nI y) (nI j) μ2 := by
        intro d
        induction d with
        | zero =>
          intro j μ2 hj o2 b2 n2
          refine eX10_findAll_79 ⟨fun _ => next μ2 o2 (gi_ext hw2 b2 (fun a' p' j' z => by omega) (fun a' p' j' _ _ _ _ z => Or.inl (by omega))) n2, fun z => absurd (by rw [show j = j0 by omega]; exact Int32.le_refl _) z⟩
        | succ d ihd =>
          intro j μ2 hj o2 b2 n2
          have hgj := gth_le (N := N) (pb := pb) hK hW j a
          have hrd : gm_r μ2 99 (1024 * j + a) = nI (gth n c D N W pb j a) - 1 := gi_done b2 (by omega) ha ha2 (fun a' i q1 q2 _ => Or.inl (by have := sb_le q1; omega))
          obtain ⟨v, v1, v2, _⟩ := b2 (j + 1) (a ||| y) (by omega) g1
          have v1' : gm_r μ2 99 (1024 * (j + 1) + (a ||| y)) = nI v - 1 := v1
          have hed := ed_le (N := N) (pb := pb) hK hW a y j
          refine eX10_findAll_79 ⟨fun z => absurd z (by rw [nI_leI (by omega) (by omega)]; omega), fun _ => ⟨vp_in_nI (by omega) (by decide), ?_⟩⟩
          rw [nI_clamp (by omega), o2.2.2 96 _ (by decide), hWT y hy hy0, dI_neg (by omega), nI_1, nI_or, ix_I, ix_I, nI_clamp (by omega), hrd]
          refine ⟨fun z => next μ2 o2 (gi_ext hw2 b2 (fun a' p' j' z2 => by omega) (fun a' p' j' _ _ _ _ z2 => ?_)) n2, fun z => ⟨vp_in_nI (by omega) (by decide), fun v14 e14 v15 e15 => ?_⟩⟩
          · by_cases e : a' = a ∧ p' = y
            · obtain ⟨rfl, rfl⟩ := e
              exact Or.inr (ed_0 (Or.inr z))
            · exact Or.inl (by omega)
          · subst e14 e15
            rw [dI_neg (by omega), nI_clamp (by omega), v1']
            have step : ∀ x : Int32, x = nI (max v (ed n c D N W pb a y j)) - 1 → hX10_findAll_79 G l P (nI j0) (nI w) (nI a) (nI (sd w a)) (nI y) (nI (j + 1)) (gm_w μ2 99 (1024 * (j + 1) + (a ||| y)) x) := fun x hx => by
              refine ihd (j + 1) _ (by omega) (o2.w (by decide)) (gi_ext hw2 (gi_edge (J := j0) (j := j) (a := a) (p := y) (rd := rdM μ2) (rd' := rdM (gm_w μ2 99 (1024 * (j + 1) + (a ||| y)) x)) hK hW hw2 ha (by omega) hy (by omega) b2 (fun i t hi ht hno => ?_) (fun v' hv' e' => ?_)) (fun a' p' j' z3 => ?_) (fun a' p' j' _ _ _ _ z3 => Or.inl ?_)) (fun i t hi ht hns => ?_)
              · have ht2 := Nat.lt_of_le_of_lt (sb_le ht) hw2
                show gm_r (gm_w _ _ _ _) 99 (1024 * i + t) = _
                rw [gm_rw_k (fun z3 => hno (by omega))]
                rfl
              · have e2 : v' = v := by
                  have e3 := v1.symm.trans e'
                  rw [dI_eq (by omega) (by omega)] at e3
                  exact e3.symm
                show gm_r (gm_w _ _ _ _) 99 (1024 * (j + 1) + (a ||| y)) = _
                rw [gm_rw_s, e2, hx]
              · omega
              · omega
              · rw [gm_rw_k (fun z3 => ?_)]
                · exact n2 i t hi ht hns
                · have : t = a ||| y := by omega
                  exact hns (this ▸ g1)
            refine ⟨fun z2 => ⟨vp_in_nI (by omega) (by decide), step _ ?_⟩, fun z2 => ⟨vp_in_nI (by omega) (by decide), ?_⟩⟩
            · rw [ed_0 (Or.inl z2)]
              rw [Nat.max_eq_left (Nat.zero_le v)]
            · have eE : (nI (gth n c D N W pb j a) - 1) + (nI (wo n c D N W (pb ||| a) y) - 1) = nI (ed n c D N W pb a y j) - 1 := dI_add (by omega) (by omega)
              rw [eE, dI_dle (by omega) (by omega)]
              refine ⟨fun z3 => step _ ?_, fun z3 => step _ ?_⟩
              · rw [show max v (ed n c D N W pb a y j) = v by omega]
              · rw [show max v (ed n c D N W pb a y j) = ed n c D N W pb a y j by omega]
      refine eX10_findAll_71 ⟨fun q => absurd q (by rw [show (0 : Int32) = nI 0 from rfl, nI_leI (by omega) (by decide)]; omega), fun _ => ?_⟩
      exact inner j0 0 μ' (by omega) o1 (gi_ext hw2 b1 (fun a' p' j' z => by omega) (fun a' p' j' _ _ _ _ z => Or.inl (by omega))) n1
  exact all μ On.rfl (gi_ext hw2 hI (fun a' p' j q => Or.inl q) (fun a' p' j q1 q2 _ _ z => Or.inl (by
    rcases z with z | ⟨rfl, z⟩
    · exact z
    · have := sb_le q2; omega))) hN
theorem m_all {P : Mem → Prop} {j0 : Nat} (hS : ST n c D μ) (hV : NV N μ) (hL : LW W μ) (hpr : gm_r μ 78 23 = nI pb) (hpn : pb < 2 ^ n) (hw : w < 2 ^ n) (hd : pb &&& w = 0) (hj0 : j0 ≤ 12) (h : ∀ μ', On [90, 95, 96, 99] μ μ' → (∀ t, Sb t w → gm_r μ' 99 (1024 * j0 + t) = nI (gth n c D N W pb j0 t) - 1) → NS w μ' → P μ') : qX10_findAll G l (nI j0) (nI w) μ P := by
  have hK := hS.2.2
  have hn := hK.1
  have hW := hL.2.2
  have hw2 := lt1024 hn hw
  refine eX10_findAll (m_coming hS hV (fun μ1 o1 c1 => ?_))
  have o1' : On [90, 95, 96, 99] μ μ1 := o1.on (by decide)
  have sets : ∀ d a μ', a + d = w + 1 → On [90, 95, 96, 99] μ μ' → CM n c D N μ' → GI n c D N W pb w (rdM μ') j0 (fun a' _ _ => a' < a) → NS w μ' → hX10_findAll_35 G l P (nI j0) (nI w) (nI a) μ' := by
    intro d
    induction d with
    | zero =>
      intro a μ' hd2 o2 c2 b2 n2
      refine eX10_findAll_35 ⟨fun _ => h μ' o2 (fun t ht => ?_) n2, fun q => absurd (nI_lt (by omega) (by omega)) q⟩
      exact gi_done b2 (Nat.le_refl _) ht (Nat.lt_of_le_of_lt (sb_le ht) hw2) (fun a' i q1 q2 _ => by have := sb_le q1; have := sb_le ht; omega)
    | succ d ih =>
      intro a μ' hd2 o2 c2 b2 n2
      have ha2 : a < 1024 := by omega
      refine eX10_findAll_35 ⟨fun q => absurd q (nI_nlt (by omega) (by omega)), fun _ => ?_⟩
      rw [nI_sd, nI_z (Nat.lt_of_le_of_lt (sd_le _ _) (by omega)), nI_1]
      refine ⟨fun q => ih (a + 1) μ' (by omega) o2 c2 (gi_ext hw2 b2 (fun a' _ _ z => by omega) (fun a' p' j q1 _ _ _ z => Or.inl ?_)) n2, fun q => ?_⟩
      · by_cases e : a' = a
        · subst e; exact absurd ((sd_zero ha2).mpr q1) q
        · omega
      · have ha : Sb a w := (sd_zero ha2).mp q
        have hln : sd w a < 2 ^ n := Nat.lt_of_le_of_lt (sd_le w a) hw
        have f2 : Fr [0] μ μ' := o2.fr (fun o k z => on_m (by simp at z ⊢; omega))
        rw [o2.2.2 78 _ (by decide), hpr, nI_or, nI_sd]
        refine m_worths (hS.fr f2 (by decide)) c2 (hL.fr f2 (by decide)) (Nat.or_lt_two_pow hpn (by omega)) hln (dj_rest hn hw hd) (fun μ3 o3 w3 => ?_)
        refine m_behind hK hW hw ha hj0 w3 (fun j t hj ht => ?_) (fun j t hj ht hns => by rw [o3.2.2 99 _ (by decide)]; exact n2 j t hj ht hns) (fun μ4 o4 b4 n4 => ih (a + 1) μ4 (by omega) ((o2.trans (o3.mono (by decide))).trans (o4.mono (by decide))) (fun s hs => by rw [o4.2.2 90 _ (by decide), o3.2.2 90 _ (by decide)]; exact c2 s hs) (gi_ext hw2 b4 (fun a' _ _ z => by omega) (fun a' p' j q1 _ _ _ z => Or.inl (by omega))) n4)
        show ∃ v, gm_r μ3 99 (1024 * j + t) = _ ∧ _
        rw [o3.2.2 99 _ (by decide)]
        exact b2 j t hj ht
  have fill : ∀ d k μ', k + d = 13312 → On [90, 95, 96, 99] μ μ' → CM n c D N μ' → (∀ i, i < k → gm_r μ' 99 i = -1) → hX10_findAll_6 G l P (nI j0) (nI w) (nI k) μ' := by
    intro d
    induction d with
    | zero =>
      intro k μ' hk o2 c2 k2
      have ek : k = 13312 := by omega
      subst ek
      refine eX10_findAll_6 ⟨fun _ => ?_, fun q => absurd (Int32.le_refl _) q⟩
      refine sets (w + 1) 0 _ (by omega) (o2.w (by decide)) (fun s hs => by rw [gm_rw_o (by decide)]; exact c2 s hs) (gi_ext (T := fun _ _ _ => False) hw2 (gi_none (fun t ht => ?_) (fun j t hj ht => ?_)) (fun _ _ _ q => absurd q id) (fun a2 p' j q1 _ _ _ z => absurd z (by omega))) (fun j t hj ht hns => ?_)
      · have ht2 := Nat.lt_of_le_of_lt (sb_le ht) hw2
        show gm_r (gm_w _ _ _ _) 99 (1024 * 0 + t) = _
        by_cases e : t = 0
        · subst e
          rw [gm_rw_s]; rfl
        · rw [gm_rw_k (by omega), k2 _ (by omega), if_neg e]; rfl
      · have ht2 := Nat.lt_of_le_of_lt (sb_le ht) hw2
        show gm_r (gm_w _ _ _ _) 99 (1024 * (j + 1) + t) = _
        rw [gm_rw_k (by omega), k2 _ (by omega)]
      · have : t ≠ 0 := fun e => hns (e ▸ sb_zero)
        rw [gm_rw_k (by omega), k2 _ (by omega)]
    | succ d ih =>
      intro k μ' hk o2 c2 k2
      refine eX10_findAll_6 ⟨fun q => absurd q (by rw [show (13312 : Int32) = nI 13312 from rfl, nI_leI (by decide) (by omega)]; omega), fun _ => ⟨vp_in_nI (by omega) (by decide), ?_⟩⟩
      rw [nI_clamp (by omega), nI_1]
      refine ih (k + 1) _ (by omega) (o2.w (by decide)) (fun s hs => by rw [gm_rw_o (by decide)]; exact c2 s hs) (fun i hi => ?_)
      by_cases e : i = k
      · subst e; rw [gm_rw_s]
      · rw [gm_rw_k e]; exact k2 i (by omega)
  exact fill 13312 0 μ1 (by omega) o1' c1 (fun i hi => absurd hi (by omega))
end GATHM
