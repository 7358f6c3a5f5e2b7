section PRPLAN
variable {G : gC} {l : Launch} {μ : Mem} {n : Nat} {c : Nat → Nat → Nat} {D N W : Nat → Nat} {r e : Nat → Nat} {f m : Nat}
theorem on_fr0 {μ μ' : Mem} {L : List Nat} (h : On L μ μ') (hL : ∀ x, x ∈ L → x ∈ [90, 95, 96, 97, 98, 99]) : Fr [0] μ μ' := h.fr (fun o k z => on_m (hL o z))
theorem pr_plan (hS : ST n c D μ) (hV : NV N μ) (hE : SE n c D N μ) (hL : LW W μ) (hO : BO n r f m e μ) (hP : PL n c D N W (seg r 0 (bst e m)) μ) (a1 a2 a3 : Int32) : qX9_plan G l a1 a2 a3 μ (fun r1 μ1 => qX10_plan G l a1 a2 a3 μ1 (fun r2 μ2 => r1 = r2 ∧ Fr [0, 8, 9] μ μ2 ∧ SE n c D N μ2 ∧ PL n c D N W (seg r 0 (bst e m)) μ2)) := by
  have hK := hS.2.2
  have hn := hK.1
  have hW := hL.2.2
  have hf := (BKm hO.2.2).2.2.2
  have hpb := segK hO.2.2 (a := 0) hf
  refine eX9_plan (t9_areScenes hS.1 hn (fun s hs es => ⟨fun q => absurd q (by decide), fun _ => b_printed hO.1 hO.2.2 (b_setUpTo hO.1 hO.2.2 hf ?_)⟩) (fun hno => ⟨fun _ => ?_, fun q => absurd rfl q⟩))
  · subst es
    have hs2 := lt1024 hn hs
    rw [nI_and, nI_z (Nat.lt_of_le_of_lt Nat.and_le_left (by omega))]
    have rng : ¬ (1 ≤ a1 ∧ a1 ≤ 12) → s &&& seg r 0 (bst e m) = 0 → qX10_plan G l a1 (nI s) a3 μ (fun r2 μ2 => (-1002 : Int32) = r2 ∧ Fr [0, 8, 9] μ μ2 ∧ SE n c D N μ2 ∧ PL n c D N W (seg r 0 (bst e m)) μ2) := fun hr hz => by
      refine eX10_plan (t_noSet hS.2.1 hn (fun s' hs' e' => ⟨fun q => absurd rfl q, fun _ => ?_⟩) (fun q => absurd ⟨s, hs, rfl⟩ q))
      rw [hO.2.1.2.1, nI_and, nI_z (Nat.lt_of_le_of_lt Nat.and_le_left (by omega))]
      refine ⟨fun _ => t_inI 1 12 rfl rfl ?_, fun q => absurd hz q⟩
      rw [if_neg hr]
      exact ⟨fun q => absurd rfl q, fun _ => ⟨rfl, Fr.rfl, hE, hP⟩⟩
    refine ⟨fun hz => ⟨fun q => rng (fun z => absurd q (Int32.not_lt.mpr z.1)) hz, fun q => ⟨fun q2 => ?_, fun q2 => rng (fun z => q2 z.2) hz⟩⟩, fun q => ?_⟩
    · obtain ⟨j0, hj1, hj12, rfl⟩ := (w_in (x := a1) (a := 1) (by decide) 12 (by decide)).mp ⟨Int32.not_lt.mp q, q2⟩
      have hd : seg r 0 (bst e m) &&& s = 0 := by rw [Nat.and_comm]; exact hz
      refine c_fresh hS hV hE hP (fun μ1 f1 v1 e1 h144 h11 pq => ⟨by rw [h144]; decide, ?_⟩)
      refine c_plan (hS.fr f1 (by decide)) v1.1 (hL.fr f1 (by decide)) (hO.fr f1 (by decide)) h144 hs hd pq.1 (fun μ2 p2 g2 t2 => ?_)
      have f12 : Fr [9] μ1 μ2 := p2.lo.fr
      have F2 : Fr [8, 9] μ μ2 := f1.trans (f12.mono (by decide))
      have E2 := e1.fr f12 (by decide) (by decide)
      have h2144 : μ2.1 = 144 := by rw [p2.1, h144]
      have P2 : PL n c D N W (seg r 0 (bst e m)) μ2 := by
        have h0 : ¬ gm_r μ2 0 11 = 0 := by rw [p2.2 0 11 (Or.inl (by decide))]; exact h11
        refine ⟨Or.inr ⟨h0, h2144⟩, fun _ => ⟨Or.inr ⟨s, hs, g2, t2⟩, ?_⟩⟩
        rw [p2.2 106 9 (Or.inr (Or.inr ⟨rfl, by decide, by decide⟩))]
        rcases pq.2 with k1 | ⟨w', k1, k2, k3⟩
        · exact Or.inl k1
        · refine Or.inr ⟨w', k1, k2, fun j t hj ht => ?_⟩
          rw [p2.2 _ _ (Or.inr (Or.inl (by omega)))]
          exact k3 j t hj ht
      have hbs := bs_le (N := N) (pb := seg r 0 (bst e m)) (w := s) hK hW j0 0
      have h10 : 0 < bs n c D N W (seg r 0 (bst e m)) s j0 0 → j0 ≤ 10 := fun z => Nat.le_of_not_lt (fun z2 => by rw [bs_none hs2 z2] at z; omega)
      have mrun : ∀ r1 : Int32, (bs n c D N W (seg r 0 (bst e m)) s j0 0 = 0 → r1 = -1) → (0 < bs n c D N W (seg r 0 (bst e m)) s j0 0 → a3 = -1 → r1 = nI (bs n c D N W (seg r 0 (bst e m)) s j0 0) - 1) → (0 < bs n c D N W (seg r 0 (bst e m)) s j0 0 → ¬ a3 = -1 → ∀ i, i < j0 → a3 = nI i → r1 = nI (fp n c D N W (seg r 0 (bst e m)) s (j0 - i) (ch n c D N W (seg r 0 (bst e m)) s j0 i))) → (0 < bs n c D N W (seg r 0 (bst e m)) s j0 0 → ¬ a3 = -1 → (¬ ∃ i, i < j0 ∧ a3 = nI i) → r1 = -1) → qX10_plan G l (nI j0) (nI s) a3 μ2 (fun r2 μ3 => r1 = r2 ∧ Fr [0, 8, 9] μ μ3 ∧ SE n c D N μ3 ∧ PL n c D N W (seg r 0 (bst e m)) μ3) := fun r1 c0 c1 c2 c3 => by
        have hS2 := hS.fr F2 (by decide)
        have hO2 := hO.fr F2 (by decide)
        refine eX10_plan (t_noSet hS2.2.1 hn (fun s' hs' e' => ⟨fun q => absurd rfl q, fun _ => ?_⟩) (fun q => absurd ⟨s, hs, rfl⟩ q))
        rw [hO2.2.1.2.1, nI_and, nI_z (Nat.lt_of_le_of_lt Nat.and_le_left (by omega))]
        refine ⟨fun _ => t_inI 1 12 rfl rfl ?_, fun q => absurd hz q⟩
        rw [if_pos ⟨Int32.not_lt.mp q, q2⟩]
        refine ⟨fun _ => m_plan hS2 (hV.fr F2 (by decide)) (hL.fr F2 (by decide)) hO2.2.1.2.1 hpb.1 hs hd hj12 (fun μ3 o3 t3 => ?_), fun q => absurd q (by decide)⟩
        have f3 : Fr [0] μ2 μ3 := on_fr0 o3 (by decide)
        have post : Fr [0, 8, 9] μ μ3 ∧ SE n c D N μ3 ∧ PL n c D N W (seg r 0 (bst e m)) μ3 := ⟨(F2.mono (by decide)).trans (f3.mono (by decide)), E2.fr f3 (by decide) (by decide), P2.fr f3 (by decide)⟩
        have ev : gm_r μ3 97 (1024 * j0) = nI (bs n c D N W (seg r 0 (bst e m)) s j0 0) - 1 := (t3 0 sb_zero j0 (Nat.le_refl _)).1
        rw [show (1024 : Int32) = nI 1024 from rfl, pk_mul, nI_clamp (by omega), ev, dI_neg (by omega)]
        refine ⟨vp_in_nI (by omega) (by decide), fun z => ⟨?_, post⟩, fun z => ⟨fun z2 => ?_, fun z2 => ⟨c1 (by omega) z2, post⟩⟩⟩
        · rw [c0 z, z]; rfl
        · exact m_part (μ0 := μ2) hs2 (h10 (by omega)) t2 t3 (by omega) (fun i hi ei => ⟨c2 (by omega) z2 i hi ei, post⟩) (fun hno => ⟨c3 (by omega) z2 hno, post⟩)
      refine ⟨fun q3 => ⟨by rw [h2144]; decide, eX2_partOfBest ⟨fun q4 => ?_, fun q4 => ⟨fun q5 => ?_, fun q5 => ⟨by rw [h2144]; decide, ?_⟩⟩⟩⟩, fun q3 => ⟨by rw [h2144]; decide, c_best h2144 hs2 hj12 t2 (mrun _ (fun z => by rw [z]; rfl) (fun _ _ => rfl) (fun _ z => absurd q3 z) (fun _ z => absurd q3 z))⟩⟩
      · refine mrun _ (fun _ => rfl) (fun _ z => absurd z q3) (fun _ _ i hi ei => absurd q4 (by rw [ei]; exact nI_pos (by omega))) (fun _ _ _ => rfl)
      · refine mrun _ (fun _ => rfl) (fun _ z => absurd z q3) (fun _ _ i hi ei => absurd q5 (by rw [ei]; exact nI_ge (by omega) (by omega))) (fun _ _ _ => rfl)
      · have h3 : ∃ i, i < j0 ∧ a3 = nI i := by
          obtain ⟨k, k1, k2, k3⟩ := (w_in (x := a3) (a := 0) (by decide) j0 (by omega)).mp ⟨Int32.not_lt.mp q4, Int32.le_of_lt (Int32.not_le.mp q5)⟩
          refine ⟨k, Nat.lt_of_le_of_ne k2 (fun z => ?_), k3⟩
          rw [k3, z] at q5
          exact q5 (Int32.le_refl _)
        obtain ⟨i, hi, ei⟩ := h3
        subst ei
        refine c_best h2144 hs2 hj12 t2 ?_
        rw [dI_m1 (by omega)]
        refine ⟨fun z => ?_, fun z => mrun _ (fun _ => rfl) (fun z2 => absurd z (by omega)) (fun z2 => absurd z (by omega)) (fun z2 => absurd z (by omega))⟩
        have hp : 0 < bs n c D N W (seg r 0 (bst e m)) s j0 0 := by omega
        refine c_part h2144 hs2 (h10 hp) hi t2 hp (mrun _ (fun z2 => absurd z2 z) (fun _ z2 => absurd z2 q3) (fun _ _ i' hi' ei' => ?_) (fun _ _ z2 => absurd ⟨i, hi, rfl⟩ z2))
        rw [nI_eq (by omega) (by omega)] at ei'
        rw [ei']
    · refine eX10_plan (t_noSet hS.2.1 hn (fun s' hs' e' => ⟨fun q => absurd rfl q, fun _ => ?_⟩) (fun q => absurd ⟨s, hs, rfl⟩ q))
      rw [hO.2.1.2.1, nI_and, nI_z (Nat.lt_of_le_of_lt Nat.and_le_left (by omega))]
      exact ⟨fun z => absurd z q, fun _ => ⟨rfl, Fr.rfl, hE, hP⟩⟩
  · exact eX10_plan (t_noSet hS.2.1 hn (fun s hs e => absurd ⟨s, hs, e⟩ hno) (fun _ => ⟨fun _ => ⟨rfl, Fr.rfl, hE, hP⟩, fun q => absurd q (by decide)⟩))
end PRPLAN
