section PRKIND
variable {G : gC} {l : Launch} {μ : Mem} {n : Nat} {c : Nat → Nat → Nat} {D N W : Nat → Nat}
def gk (g : Nat → Nat) (K : Nat) : Nat := if K = 0 then 0 else g (K - 1)
theorem m_scan {P : Int32 → Mem → Prop} {j0 pb w : Nat} {x3 : Int32} (hS : ST n c D μ) (hW : LK W) (hw : w < 2 ^ n) (hj0 : j0 ≤ 12) (hT : ∀ t, Sb t w → gm_r μ 99 (1024 * j0 + t) = nI (gth n c D N W pb j0 t) - 1) (hN : NS w μ) (h1 : ¬ x3 = 0 → P (nI (gk (gww n c D N W pb w j0) (kb (gww n c D N W pb w j0) (w + 1))) - 1) μ) (h0 : x3 = 0 → P (nI (kb (gww n c D N W pb w j0) (w + 1)) - 1) μ) : hX10_kind_128 G l P (nI j0) x3 (-1) (-1) (0 : Int32) μ := by
  have hK := hS.2.2
  have hn := hK.1
  have hw2 := lt1024 hn hw
  have h2n : 2 ^ n ≤ 1024 := Nat.pow_le_pow_right (n := 2) (j := 10) (by decide) hn
  have h2p := Nat.two_pow_pos n
  have eend : kb (gww n c D N W pb w j0) (2 ^ n) = kb (gww n c D N W pb w j0) (w + 1) := by
    have := kb_skip (g := gww n c D N W pb w j0) (s := w + 1) (2 ^ n - (w + 1)) (fun t q1 q2 => gww_far hw2 (by omega) (by omega))
    rw [show w + 1 + (2 ^ n - (w + 1)) = 2 ^ n by omega] at this
    exact this
  refine down (H := fun s => hX10_kind_128 G l P (nI j0) x3 (nI (kb (gww n c D N W pb w j0) s) - 1) (nI (gk (gww n c D N W pb w j0) (kb (gww n c D N W pb w j0) s)) - 1) (nI s) μ) (n := 2 ^ n) ?_ ?_
  · refine eX10_kind_128 (t_all hS.2.1 hn ⟨fun _ => ?_, fun q => absurd (nI_lt (by omega) (by omega)) q⟩)
    rw [eend]
    exact ⟨h1, h0⟩
  · intro s hs ih
    have hs2 : s < 1024 := by omega
    have hkb := kb_le (gww n c D N W pb w j0) s
    have hgl := gww_le (N := N) (pb := pb) (w := w) hK hW j0 s
    have hv : gm_r μ 99 (1024 * j0 + s) = nI (gww n c D N W pb w j0 s) - 1 := by
      unfold gww
      by_cases q : sd s w = 0
      · rw [if_pos q]; exact hT s ((sd_zero hs2).mp q)
      · rw [if_neg q]; exact hN j0 s hj0 hs2 (fun z => q ((sd_zero hs2).mpr z))
    refine eX10_kind_128 (t_all hS.2.1 hn ⟨fun q => absurd q (nI_nlt (by omega) (by omega)), fun _ => ?_⟩)
    rw [ix_I, nI_clamp (by omega), hv]
    refine ⟨vp_in_nI (by omega) (by decide), fun v28 e28 => ?_⟩
    subst e28
    -- behind the comparison
    have cmp : ∀ y0 : Int32, ((¬ y0 = 0) ↔ (kb (gww n c D N W pb w j0) s = 0 ∨ pc (kb (gww n c D N W pb w j0) s - 1) < pc s ∨ (pc (kb (gww n c D N W pb w j0) s - 1) = pc s ∧ gww n c D N W pb w j0 (kb (gww n c D N W pb w j0) s - 1) < gww n c D N W pb w j0 s))) → hX10_kind_195 G l P (nI j0) x3 (nI (kb (gww n c D N W pb w j0) s) - 1) (nI (gk (gww n c D N W pb w j0) (kb (gww n c D N W pb w j0) s)) - 1) (nI s) (nI (gww n c D N W pb w j0 s) - 1) y0 μ := fun y0 hy => by
      have es := kb_succ (gww n c D N W pb w j0) s
      refine eX10_kind_195 ?_
      rw [dI_neg (by omega), nI_1]
      refine ⟨fun z => ?_, fun z => ⟨fun z2 => ?_, fun z2 => ?_⟩⟩
      · rw [if_neg (fun y => by omega)] at es
        rw [es] at ih; exact ih
      · rw [if_neg (fun y => (hy.mpr y.2) z2)] at es
        rw [es] at ih; exact ih
      · rw [if_pos ⟨by omega, hy.mp z2⟩] at es
        rw [es, nI_pred] at ih
        have eg : gk (gww n c D N W pb w j0) (s + 1) = gww n c D N W pb w j0 s := by
          unfold gk; rw [if_neg (by omega), Nat.add_sub_cancel]
        rw [eg] at ih
        exact ih
    rw [dI_neg (by omega)]
    refine ⟨fun z => cmp 1 ⟨fun _ => Or.inl z, fun _ => by decide⟩, fun z => ?_⟩
    obtain ⟨o, ho⟩ : ∃ o, kb (gww n c D N W pb w j0) s = o + 1 := ⟨kb (gww n c D N W pb w j0) s - 1, by omega⟩
    have hol := gww_le (N := N) (pb := pb) (w := w) hK hW j0 o
    have hp1 : pc s ≤ 10 := pcn_le _ _
    have hp2 : pc o ≤ 10 := pcn_le _ _
    have egk : gk (gww n c D N W pb w j0) (o + 1) = gww n c D N W pb w j0 o := by
      unfold gk; rw [if_neg (by omega), Nat.add_sub_cancel]
    rw [ho, egk, Nat.add_sub_cancel] at cmp
    rw [ho, egk]
    rw [nI_pred] at cmp ⊢
    refine t_ones (by omega) (t_ones (by omega) ?_)
    rw [nI_ltI (by omega) (by omega)]
    refine ⟨fun y => cmp 1 ⟨fun _ => Or.inr (Or.inl y), fun _ => by decide⟩, fun y => t_ones (by omega) (t_ones (by omega) ?_)⟩
    rw [nI_eq (by omega) (by omega), dI_dle (by omega) (by omega)]
    refine ⟨fun y2 => cmp 0 ⟨fun x => absurd rfl x, fun x => by omega⟩, fun y2 => ⟨fun y3 => cmp 0 ⟨fun x => absurd rfl x, fun x => by omega⟩, fun y3 => cmp 1 ⟨fun _ => Or.inr (Or.inr ⟨y2.symm, by omega⟩), fun _ => by decide⟩⟩⟩
theorem pr_kind {r e : Nat → Nat} {f m : Nat} (hS : ST n c D μ) (hV : NV N μ) (hE : SE n c D N μ) (hL : LW W μ) (hO : BO n r f m e μ) (hP : PL n c D N W (seg r 0 (bst e m)) μ) (a1 a2 a3 : Int32) : qX9_kind G l a1 a2 a3 μ (fun r1 μ1 => qX10_kind G l a1 a2 a3 μ1 (fun r2 μ2 => r1 = r2 ∧ Fr [0, 8, 9] μ μ2 ∧ SE n c D N μ2 ∧ PL n c D N W (seg r 0 (bst e m)) μ2)) := by
  have hK := hS.2.2
  have hn := hK.1
  have hW := hL.2.2
  have hf := (BKm hO.2.2).2.2.2
  have hpb := segK hO.2.2 (a := 0) hf
  have out1 : ¬ ((0 : Int32) ≤ a2 ∧ a2 ≤ 255) → qX10_kind G l a1 a2 a3 μ (fun r2 μ2 => (-1001 : Int32) = r2 ∧ Fr [0, 8, 9] μ μ2 ∧ SE n c D N μ2 ∧ PL n c D N W (seg r 0 (bst e m)) μ2) := fun hr => by
    refine eX10_kind (t_inI 0 255 rfl rfl ?_)
    rw [if_neg hr]
    exact ⟨fun q => absurd rfl q, fun _ => ⟨rfl, Fr.rfl, hE, hP⟩⟩
  have out2 : ((0 : Int32) ≤ a2 ∧ a2 ≤ 255) → ¬ ((1 : Int32) ≤ a1 ∧ a1 ≤ 12) → qX10_kind G l a1 a2 a3 μ (fun r2 μ2 => (-1002 : Int32) = r2 ∧ Fr [0, 8, 9] μ μ2 ∧ SE n c D N μ2 ∧ PL n c D N W (seg r 0 (bst e m)) μ2) := fun h2 hr => by
    refine eX10_kind (t_inI 0 255 rfl rfl ?_)
    rw [if_pos h2]
    refine ⟨fun _ => t_inI 1 12 rfl rfl ?_, fun q => absurd q (by decide)⟩
    rw [if_neg hr]
    exact ⟨fun _ => ⟨rfl, Fr.rfl, hE, hP⟩, fun q => absurd rfl q⟩
  have out3 : ((0 : Int32) ≤ a2 ∧ a2 ≤ 255) → ((1 : Int32) ≤ a1 ∧ a1 ≤ 12) → ¬ ((0 : Int32) ≤ a3 ∧ a3 ≤ 1) → qX10_kind G l a1 a2 a3 μ (fun r2 μ2 => (-1002 : Int32) = r2 ∧ Fr [0, 8, 9] μ μ2 ∧ SE n c D N μ2 ∧ PL n c D N W (seg r 0 (bst e m)) μ2) := fun h2 h1 hr => by
    refine eX10_kind (t_inI 0 255 rfl rfl ?_)
    rw [if_pos h2]
    refine ⟨fun _ => t_inI 1 12 rfl rfl ?_, fun q => absurd q (by decide)⟩
    rw [if_pos h1]
    refine ⟨fun q => absurd q (by decide), fun _ => t_inI 0 1 rfl rfl ?_⟩
    rw [if_neg hr]
    exact ⟨fun q => absurd rfl q, fun _ => ⟨rfl, Fr.rfl, hE, hP⟩⟩
  have l255 : a2 < 256 ↔ a2 ≤ 255 := by
    rw [Int32.lt_iff_toInt_lt, Int32.le_iff_toInt_le, show (256 : Int32).toInt = 256 from rfl, show (255 : Int32).toInt = 255 from rfl]
    omega
  refine eX9_kind ⟨fun q => out1 (fun z => absurd q (Int32.not_lt.mpr z.1)), fun q => ⟨fun q2 => ?_, fun q2 => out1 (fun z => q2 (l255.mpr z.2))⟩⟩
  have h2 : (0 : Int32) ≤ a2 ∧ a2 ≤ 255 := ⟨Int32.not_lt.mp q, l255.mp q2⟩
  refine ⟨fun q3 => out2 h2 (fun z => absurd q3 (Int32.not_lt.mpr z.1)), fun q3 => ⟨fun q4 => out2 h2 (fun z => absurd q4 (Int32.not_lt.mpr z.2)), fun q4 => ?_⟩⟩
  have h1 : (1 : Int32) ≤ a1 ∧ a1 ≤ 12 := ⟨Int32.not_lt.mp q3, Int32.not_lt.mp q4⟩
  refine ⟨fun q5 => out3 h2 h1 (fun z => absurd q5 (Int32.not_lt.mpr z.1)), fun q5 => ⟨fun q6 => ?_, fun q6 => out3 h2 h1 (fun z => q6 z.2)⟩⟩
  have h3 : (0 : Int32) ≤ a3 ∧ a3 ≤ 1 := ⟨Int32.not_lt.mp q5, q6⟩
  obtain ⟨ps, _, hps, rfl⟩ := (w_in (x := a2) (a := 0) (by decide) 255 (by decide)).mp h2
  obtain ⟨j0, hj1, hj12, rfl⟩ := (w_in (x := a1) (a := 1) (by decide) 12 (by decide)).mp h1
  refine t7_all hS.1 hn (b_printed hO.1 hO.2.2 (b_setUpTo hO.1 hO.2.2 hf (t7_deaths hS.1 hK (by omega) (fun v15 e15 => ?_))))
  rw [nI_sd, nI_sd, lvS_sd hn] at e15
  subst e15
  have hw : lvS D (seg r 0 (bst e m)) ps n < 2 ^ n := lvS_lt n
  have hw2 := lt1024 hn hw
  have hd : seg r 0 (bst e m) &&& lvS D (seg r 0 (bst e m)) ps n = 0 := lvS_pb
  refine c_fresh hS hV hE hP (fun μ1 f1 v1 e1 h144 h11 pq => ⟨by rw [h144]; decide, ?_⟩)
  refine c_gather (hS.fr f1 (by decide)) v1.1 (hL.fr f1 (by decide)) (hO.fr f1 (by decide)) h144 hw hd pq.2 (fun μ2 p2 g2 t2 => ?_)
  have f12 : Fr [9] μ1 μ2 := p2.lo.fr
  have F2 : Fr [8, 9] μ μ2 := f1.trans (f12.mono (by decide))
  have E2 := e1.fr f12 (by decide) (by decide)
  have h2144 : μ2.1 = 144 := by rw [p2.1, h144]
  have P2 : PL n c D N W (seg r 0 (bst e m)) μ2 := by
    have h0 : ¬ gm_r μ2 0 11 = 0 := by rw [p2.2 0 11 (Or.inl (by decide))]; exact h11
    refine ⟨Or.inr ⟨h0, h2144⟩, fun _ => ⟨?_, Or.inr ⟨_, hw, g2, t2⟩⟩⟩
    rw [p2.2 106 7 (Or.inr (Or.inr ⟨rfl, by decide, by decide⟩))]
    rcases pq.1 with k1 | ⟨w', k1, k2, k3⟩
    · exact Or.inl k1
    · refine Or.inr ⟨w', k1, k2, fun a ha j hj => ?_⟩
      rw [p2.2 _ _ (Or.inr (Or.inl (by omega))), p2.2 (120 + 1 + j) _ (Or.inr (Or.inl (by omega)))]
      exact k3 a ha j hj
  have mrun : ∀ r1 : Int32, (¬ a3 = 0 → r1 = nI (gk (gww n c D N W (seg r 0 (bst e m)) (lvS D (seg r 0 (bst e m)) ps n) j0) (kb (gww n c D N W (seg r 0 (bst e m)) (lvS D (seg r 0 (bst e m)) ps n) j0) (lvS D (seg r 0 (bst e m)) ps n + 1))) - 1) → (a3 = 0 → r1 = nI (kb (gww n c D N W (seg r 0 (bst e m)) (lvS D (seg r 0 (bst e m)) ps n) j0) (lvS D (seg r 0 (bst e m)) ps n + 1)) - 1) → qX10_kind G l (nI j0) (nI ps) a3 μ2 (fun r2 μ3 => r1 = r2 ∧ Fr [0, 8, 9] μ μ3 ∧ SE n c D N μ3 ∧ PL n c D N W (seg r 0 (bst e m)) μ3) := fun r1 c1 c0 => by
    have hS2 := hS.fr F2 (by decide)
    have hO2 := hO.fr F2 (by decide)
    refine eX10_kind (t_inI 0 255 rfl rfl ?_)
    rw [if_pos h2]
    refine ⟨fun _ => t_inI 1 12 rfl rfl ?_, fun q => absurd q (by decide)⟩
    rw [if_pos h1]
    refine ⟨fun q => absurd q (by decide), fun _ => t_inI 0 1 rfl rfl ?_⟩
    rw [if_pos h3]
    refine ⟨fun _ => ?_, fun q => absurd q (by decide)⟩
    refine down (H := fun k => hX10_kind_48 G l _ (nI j0) (nI ps) a3 (nI (lvS D (seg r 0 (bst e m)) ps k)) (nI k) μ2) (n := n) ?_ ?_
    · refine eX10_kind_48 ⟨fun _ => m_all hS2 (hV.fr F2 (by decide)) (hL.fr F2 (by decide)) hO2.2.1.2.1 hpb.1 hw hd hj12 (fun μ3 o3 t3 n3 => ?_), fun q => absurd (by rw [hS2.2.1.1]; exact Int32.le_refl _) q⟩
      have f3 : Fr [0] μ2 μ3 := on_fr0 o3 (by decide)
      have post : Fr [0, 8, 9] μ μ3 ∧ SE n c D N μ3 ∧ PL n c D N W (seg r 0 (bst e m)) μ3 := ⟨(F2.mono (by decide)).trans (f3.mono (by decide)), E2.fr f3 (by decide) (by decide), P2.fr f3 (by decide)⟩
      exact m_scan (hS2.fr f3 (by decide)) hW hw hj12 t3 n3 (fun z => ⟨c1 z, post⟩) (fun z => ⟨c0 z, post⟩)
    · intro k hk ih
      have hD := (hK.2 k hk).2.2.2.2.2.2.2.2
      have es : lvS D (seg r 0 (bst e m)) ps (k + 1) = if (seg r 0 (bst e m)).testBit k = false ∧ (D k = 0 ∨ ps.testBit (D k - 1) = false) then lvS D (seg r 0 (bst e m)) ps k ||| 2 ^ k else lvS D (seg r 0 (bst e m)) ps k := rfl
      refine eX10_kind_48 ⟨fun q => absurd (by rw [hS2.2.1.1] at q; exact q) (nI_ge (by omega) (by omega)), fun _ => ?_⟩
      rw [hO2.2.1.2.1, nI_1, nI_bit1 (by omega)]
      have no : ¬ ((seg r 0 (bst e m)).testBit k = false ∧ (D k = 0 ∨ ps.testBit (D k - 1) = false)) → hX10_kind_48 G l (fun r2 μ3 => r1 = r2 ∧ Fr [0, 8, 9] μ μ3 ∧ SE n c D N μ3 ∧ PL n c D N W (seg r 0 (bst e m)) μ3) (nI j0) (nI ps) a3 (nI (lvS D (seg r 0 (bst e m)) ps k) ||| 0) (nI (k + 1)) μ2 := fun z => by
        rw [if_neg z] at es
        rw [es] at ih
        rw [Int32.or_zero]
        exact ih
      have yes : ((seg r 0 (bst e m)).testBit k = false ∧ (D k = 0 ∨ ps.testBit (D k - 1) = false)) → ∀ v : Int32, v = nI (lvS D (seg r 0 (bst e m)) ps k) ||| nI (2 ^ k) → hX10_kind_48 G l (fun r2 μ3 => r1 = r2 ∧ Fr [0, 8, 9] μ μ3 ∧ SE n c D N μ3 ∧ PL n c D N W (seg r 0 (bst e m)) μ3) (nI j0) (nI ps) a3 v (nI (k + 1)) μ2 := fun z v ev => by
        rw [if_pos z] at es
        rw [es, ← nI_or] at ih
        rw [ev]
        exact ih
      refine t_has (by omega) (by omega) ⟨fun z => no (fun y => ?_), fun z => ⟨vp_in_nI (by omega) (by decide), ?_⟩⟩
      · rw [(if_has rfl).2, y.1] at z
        exact absurd z (by decide)
      · rw [(if_has rfl).1] at z
        rw [nI_clamp (by omega), (hS2.2.1.2 k hk).2.2, D_neg hD]
        refine ⟨fun y => yes ⟨z, Or.inl y⟩, fun y => ?_⟩
        rw [(D_m1 hD).2 y]
        refine t_has (by omega) (by omega) ⟨fun x => no (fun u => ?_), fun x => yes ⟨z, Or.inr ((if_has rfl).1.mp x)⟩⟩
        rw [(if_has rfl).2] at x
        rcases u.2 with u2 | u2
        · exact y u2
        · rw [u2] at x; exact absurd x (by decide)
  refine ⟨by rw [h2144]; decide, c_kindest hK hW h2144 hw hj12 t2 ?_⟩
  have hkb := kb_le (gww n c D N W (seg r 0 (bst e m)) (lvS D (seg r 0 (bst e m)) ps n) j0) (lvS D (seg r 0 (bst e m)) ps n + 1)
  refine ⟨fun z => mrun _ (fun y => absurd z y) (fun _ => rfl), fun z => ⟨fun y => ⟨by rw [h2144]; decide, ?_⟩, fun y => mrun _ (fun _ => ?_) (fun x => absurd x z)⟩⟩
  · rw [dI_m1 (by omega)] at y
    have hop := kb_pos (g := gww n c D N W (seg r 0 (bst e m)) (lvS D (seg r 0 (bst e m)) ps n) j0) (lvS D (seg r 0 (bst e m)) ps n + 1) (by omega)
    obtain ⟨o, ho⟩ : ∃ o, kb (gww n c D N W (seg r 0 (bst e m)) (lvS D (seg r 0 (bst e m)) ps n) j0) (lvS D (seg r 0 (bst e m)) ps n + 1) = o + 1 := ⟨_, (Nat.sub_add_cancel (by omega : 1 ≤ _)).symm⟩
    rw [ho, Nat.add_sub_cancel] at hop
    have hosd := gww_pos hop
    have ho2 : o < 1024 := by omega
    have hj10 : j0 ≤ 10 := Nat.le_of_not_lt (fun x => by rw [gww_11 ho2 x] at hop; omega)
    have egk : gk (gww n c D N W (seg r 0 (bst e m)) (lvS D (seg r 0 (bst e m)) ps n) j0) (o + 1) = gww n c D N W (seg r 0 (bst e m)) (lvS D (seg r 0 (bst e m)) ps n) j0 o := by
      unfold gk; rw [if_neg (by omega), Nat.add_sub_cancel]
    rw [ho, egk, hosd.2] at mrun
    rw [ho, nI_pred]
    refine eX2_worthGathered ⟨fun x => absurd x (nI_pos (by omega)), fun _ => ⟨fun x => absurd x (nI_nlt (b := j0) (a := 10) (by omega) (by omega)), fun _ => ⟨fun x => absurd x (nI_pos (by omega)), fun _ => ⟨fun x => ⟨by rw [h2144]; decide, vp_in_nI (by omega) (by decide), vp_in_nI (by omega) (by decide), ?_⟩, fun x => absurd ?_ x⟩⟩⟩⟩
    · rw [nI_clamp (by omega), nI_clamp (by omega), t2 j0 o hj10 ((sd_zero ho2).mp hosd.1)]
      exact mrun _ (fun _ => rfl) (fun x => absurd x z)
    · rw [show (1024 : Int32) = nI 1024 from rfl, nI_ltI (by omega) (by decide)]
      exact ho2
  · rw [dI_m1 (by omega)] at y
    rw [y]
    rfl
end PRKIND
