/-! calls that change nothing, of the book -/
theorem w_in {x : Int32} {a : Nat} (ha : a < 2 ^ 31) (b : Nat) (hb : b < 2 ^ 31) : (nI a ≤ x ∧ x ≤ nI b) ↔ ∃ k, a ≤ k ∧ k ≤ b ∧ x = nI k := by
  constructor
  · rintro ⟨h1, h2⟩
    have h0 : ¬ x < 0 := fun q => absurd (Int32.lt_of_le_of_lt h1 q) (nI_pos ha)
    obtain ⟨j, hj, rfl⟩ := nI_of h0
    rw [nI_leI ha hj] at h1
    rw [nI_leI hj hb] at h2
    exact ⟨j, h1, h2, rfl⟩
  · rintro ⟨k, h1, h2, rfl⟩
    exact ⟨(nI_leI ha (by omega)).mpr h1, (nI_leI (by omega) hb).mpr h2⟩
theorem sw_in {x : Int32} {b : Nat} (hb : b < 1000) (h : ¬ (x.toInt < 0 ∨ (b : Int) < x.toInt)) : ∃ k, k ≤ b ∧ x = nI k := by
  have h0 : ¬ x < 0 := fun q => h (Or.inl (by rw [Int32.lt_iff_toInt_lt] at q; exact q))
  obtain ⟨j, hj, rfl⟩ := nI_of h0
  rw [nI_toInt hj] at h
  exact ⟨j, by omega, rfl⟩
section PAIRB
variable {G : gC} {l : Launch} {μ : Mem} {n f m : Nat} {r e W : Nat → Nat} {c : Nat → Nat → Nat} {D : Nat → Nat}
theorem pr_scene (hS : SC n c D μ) (hM : SM n c D μ) (hK : SK n c D) (hC : BC r f m e μ) (hN : BM r f m e μ) (hB : BK n r f m e) (a1 a2 : Int32) : qX9_scene G l a1 a2 μ (fun r1 μ1 => qX10_scene G l a1 a2 μ1 (fun r2 μ2 => r1 = r2 ∧ μ2 = μ)) := by
  have hn := hK.1
  refine eX9_scene (t9_isScene hS hn (fun k hk e => ⟨fun _ => ?_, fun q => absurd q (by decide)⟩) (fun hno => ⟨fun q => absurd rfl q, fun _ => ?_⟩))
  · subst e
    have sc : ∀ (r1 : Int32), (∀ w, w ≤ 9 → a2 = nI w → qX10_scene G l (nI k) a2 μ (fun r2 μ2 => r1 = r2 ∧ μ2 = μ)) → ((¬ ∃ w, w ≤ 9 ∧ a2 = nI w) → r1 = -1002) → qX10_scene G l (nI k) a2 μ (fun r2 μ2 => r1 = r2 ∧ μ2 = μ) := by
      intro r1 h1 h2
      by_cases hw : ∃ w, w ≤ 9 ∧ a2 = nI w
      · obtain ⟨w, h3, h4⟩ := hw
        exact h1 w h3 h4
      · have hne : ∀ w : Nat, w ≤ 9 → ¬ a2 = nI w := fun w h3 h4 => hw ⟨w, h3, h4⟩
        exact eX10_scene (t_noScene hM hn (fun k' hk' e' => ⟨fun _ => ⟨fun _ => ⟨h2 hw, rfl⟩, fun q => absurd q (hne 0 (by decide)), fun q => absurd q (hne 1 (by decide)), fun q => absurd q (hne 2 (by decide)), fun q => absurd q (hne 3 (by decide)), fun q => absurd q (hne 4 (by decide)), fun q => absurd q (hne 5 (by decide)), fun q => absurd q (hne 6 (by decide)), fun q => absurd q (hne 7 (by decide)), fun q => absurd q (hne 8 (by decide)), fun q => absurd q (hne 9 (by decide))⟩, fun q => absurd rfl q⟩) (fun q => absurd ⟨k, hk, rfl⟩ q))
    refine ⟨fun q => sc _ (fun w hw e2 => absurd (e2 ▸ q) (nI_pos (by omega))) (fun _ => rfl), fun q0 => ⟨fun q1 => ?_, fun q => sc _ (fun w hw e2 => absurd ((nI_leI (b := 9) (by omega) (by decide)).mpr hw) (e2 ▸ q)) (fun _ => rfl)⟩⟩
    obtain ⟨w, hw9, e2⟩ : ∃ w, w ≤ 9 ∧ a2 = nI w := by
      obtain ⟨_, _, h2, h3⟩ := (w_in (a := 0) (x := a2) (by decide) 9 (by decide)).mp ⟨Int32.not_lt.mp q0, q1⟩
      exact ⟨_, h2, h3⟩
    subst e2
    have s1 : ∀ w : Nat, 1 ≤ w → nI w - 1 = nI (w - 1) := fun w h => by rw [nI_one, pk_sub h]
    have ne : ∀ a : Nat, a ≤ 9 → w ≠ a → ¬ nI w = nI a := fun a h1 h2 h3 => h2 ((nI_eq (by omega) (by omega)).mp h3)
    refine ⟨fun q9 => ?_, fun q9 => ?_⟩
    · have hw8 : w ≠ 9 := fun q => q9 (by rw [q]; rfl)
      have go : ∀ x : Int32, (w = 0 → gm_r μ 79 k = x) → (∀ v, 1 ≤ v → v ≤ 7 → w = v → nI (c k v) = x) → (w = 8 → gm_r μ 80 k = x) → qX10_scene G l (nI k) (nI w) μ (fun r2 μ2 => x = r2 ∧ μ2 = μ) := by
        intro x g0 g1 g8
        have gg : ∀ v, 1 ≤ v → v ≤ 7 → nI w = nI v → qX10_setOf G l (nI k) (nI w - 1) μ (fun r6 μ5 => x = r6 ∧ μ5 = μ) := fun v v1 v2 v3 => by
          have : w = v := (nI_eq (by omega) (by omega)).mp v3
          subst this
          rw [s1 w v1]
          refine t_setOf hM hn hk (by omega) ⟨?_, rfl⟩
          rw [show w - 1 + 1 = w by omega]
          exact (g1 w v1 v2 rfl).symm
        refine eX10_scene (t_noScene hM hn (fun k' hk' e' => ⟨fun _ => ⟨fun q => absurd q (by rw [nI_toInt (by omega)]; omega), fun q => ?_, gg 1 (by decide) (by decide), gg 2 (by decide) (by decide), gg 3 (by decide) (by decide), gg 4 (by decide) (by decide), gg 5 (by decide) (by decide), gg 6 (by decide) (by decide), gg 7 (by decide) (by decide), fun q => ?_, fun q => absurd q (ne 9 (by decide) hw8)⟩, fun q => absurd rfl q⟩) (fun q => absurd ⟨k, hk, rfl⟩ q))
        · refine ⟨vp_in_nI (by omega) (by decide), ?_, rfl⟩
          rw [nI_clamp (by omega)]
          exact (g0 ((nI_eq (b := 0) (by omega) (by decide)).mp q)).symm
        · refine ⟨vp_in_nI (by omega) (by decide), ?_, rfl⟩
          rw [nI_clamp (by omega)]
          exact (g8 ((nI_eq (b := 8) (by omega) (by decide)).mp q)).symm
      by_cases h8 : w < 8
      · refine t7_cell hS hn hk h8 (go _ (fun h => ?_) (fun v _ _ h => ?_) (fun h => absurd h (by omega)))
        · subst h
          exact (hM.2 k hk).1
        · subst h; rfl
      · have : w = 8 := by omega
        subst this
        refine eX7_cell ⟨fun q => absurd q (nI_pos (by omega)), fun _ => ⟨fun q => absurd q (nI_ge (b := 10) (by omega) (by decide)), fun _ => ⟨fun q => absurd q (nI_pos (by omega)), fun _ => ⟨fun q => absurd q (nI_ge (b := 9) (by omega) (by decide)), fun _ => ⟨vp_in_nI (by omega) (by decide), vp_in_nI (by omega) (by decide), ?_⟩⟩⟩⟩⟩
        rw [nI_clamp (by omega), nI_clamp (by omega), (hS.2 k hk).2]
        exact go _ (fun h => absurd h (by decide)) (fun v _ _ h => absurd h (by omega)) (fun _ => (hM.2 k hk).2.2)
    · have : w = 9 := (nI_eq (b := 9) (by omega) (by decide)).mp q9
      subst this
      refine b_numberOf hC hB (by omega) (eX10_scene (t_noScene hM hn (fun k' hk' e' => ⟨fun _ => ⟨fun q => absurd q (by decide), fun q => absurd q (by decide), fun q => absurd q (by decide), fun q => absurd q (by decide), fun q => absurd q (by decide), fun q => absurd q (by decide), fun q => absurd q (by decide), fun q => absurd q (by decide), fun q => absurd q (by decide), fun q => absurd q (by decide), fun _ => m_numberOf hN hB (by omega) ⟨rfl, rfl⟩⟩, fun q => absurd rfl q⟩) (fun q => absurd ⟨k, hk, rfl⟩ q)))
  · exact eX10_scene (t_noScene hM hn (fun k' hk' e' => absurd ⟨k', hk', e'⟩ hno) (fun _ => ⟨fun q => absurd q (by decide), fun _ => ⟨rfl, rfl⟩⟩))
theorem pr_lines (hS : SC n c D μ) (hM : SM n c D μ) (hK : SK n c D) (hC : BC r f m e μ) (hN : BM r f m e μ) (hB : BK n r f m e) (hL : LC W μ) (hQ : LM W μ) (hW : LK W) : qX9_lines G l μ (fun r1 μ1 => qX10_lines G l μ1 (fun r2 μ2 => r1 = r2 ∧ μ2 = μ)) := by
  refine eX9_lines ?_
  rw [hC.2.1]
  refine p_lines hS hK hC hB hL hW (Nat.le_refl m) (eX10_lines ?_)
  rw [hN.1, hN.2.2.2.1]
  refine m_lines hM hK hN hB hQ hW (Nat.le_refl m) (segK hB (Nat.le_refl f)).2 ⟨?_, rfl⟩
  unfold sN eN
  rw [if_neg (Nat.lt_irrefl m)]
theorem pr_readers (hS : SC n c D μ) (hM : SM n c D μ) (hK : SK n c D) (hC : BC r f m e μ) (hN : BM r f m e μ) (hB : BK n r f m e) (hL : LC W μ) (hQ : LM W μ) : qX9_readers G l μ (fun r1 μ1 => qX10_readers G l μ1 (fun r2 μ2 => r1 = r2 ∧ μ2 = μ)) := by
  refine eX9_readers ?_
  rw [hC.2.1]
  refine p_readers hS hK hC hB hL (Nat.le_refl m) (eX10_readers ?_)
  rw [hN.1]
  exact m_readers hM hK hN hB hQ (Nat.le_refl m) ⟨rfl, rfl⟩
theorem pr_number (hS : SC n c D μ) (hM : SM n c D μ) (hK : SK n c D) (hC : BC r f m e μ) (hN : BM r f m e μ) (hB : BK n r f m e) (hL : LC W μ) (hQ : LM W μ) (hW : LK W) (a1 a2 : Int32) : qX9_number G l a1 a2 μ (fun r1 μ1 => qX10_number G l a1 a2 μ1 (fun r2 μ2 => r1 = r2 ∧ μ2 = μ)) := by
  have hm := BKm hB
  have hn := hK.1
  have no : (¬ ∃ k, k < m ∧ a1 = nI k) → qX10_number G l a1 a2 μ (fun r2 μ2 => -1001 = r2 ∧ μ2 = μ) := fun hno => by
    refine eX10_number (t_inI 0 (nI m - 1) rfl (by rw [hN.1]) ?_)
    rw [if_neg (fun q => hno ((scn_iff (by omega) a1).mp q))]
    exact ⟨fun q => absurd rfl q, fun _ => ⟨rfl, rfl⟩⟩
  by_cases hk : ∃ k, k < m ∧ a1 = nI k
  · obtain ⟨k, hk, rfl⟩ := hk
    have he := BKe hB hk
    obtain ⟨z1, z2⟩ := hN.2.2.2.2.1 k hk
    have es : sN r f m e k = seg r (bst e k) (e k) := by unfold sN eN; rw [if_pos hk]
    have hs := (segK hB (a := bst e k) (b := e k) (by omega)).2
    have hs0 := (segK hB (a := 0) (b := e k) (by omega)).2
    -- the reference's side
    have mo : ∀ (x : Int32), ((a2.toInt < 0 ∨ 5 < a2.toInt) → (∀ w, 6 ≤ w → w ≤ 11 → a2 = nI w → x = if w - 6 < e k - bst e k then nI (r (bst e k + (w - 6))) else -1) ∧ ((¬ ∃ w, 6 ≤ w ∧ w ≤ 11 ∧ a2 = nI w) → x = -1002)) → (a2 = 0 → x = nI (e k - bst e k)) → (a2 = 1 → x = nI (liN n c r e W (seg r (bst e k) (e k)) k)) → (a2 = 2 → x = puV n c r e W k) → (a2 = 3 → x = (rdV n c r e W (k + 1)).toInt32) → (a2 = 4 → x = nI (opN n c (seg r 0 (e k)))) → (a2 = 5 → x = nI (remN n c r e (W 2) (seg r (bst e k) (e k)) k)) → qX10_number G l (nI k) a2 μ (fun r2 μ2 => x = r2 ∧ μ2 = μ) := by
      intro x g g0 g1 g2 g3 g4 g5
      refine eX10_number (t_inI 0 (nI m - 1) rfl (by rw [hN.1]) ?_)
      rw [if_pos ((scn_iff (by omega) (nI k)).mpr ⟨k, hk, rfl⟩)]
      refine ⟨fun _ => ⟨fun ho => ?_, fun q => ⟨vp_in_nI (by omega) (by decide), ?_, rfl⟩, fun q => m_setIn hN hB hk (m_lines hM hK hN hB hQ hW (by omega) hs ⟨g1 q, rfl⟩), fun q => m_pull hM hK hN hB hQ hk ⟨g2 q, rfl⟩, fun q => ?_, fun q => m_upTo hN hB hk (t_open hM hn (by omega) ⟨g4 q, rfl⟩), fun q => m_setIn hN hB hk (m_rem hM hK hN hB hQ hW (by omega) hs ⟨g5 q, rfl⟩)⟩, fun q => absurd q (by decide)⟩
      · refine t_inI 6 11 rfl rfl ?_
        by_cases hw : ∃ w, 6 ≤ w ∧ w ≤ 11 ∧ a2 = nI w
        · rw [if_pos (show (6 : Int32) ≤ a2 ∧ a2 ≤ 11 from (w_in (a := 6) (by decide) 11 (by decide)).mpr hw)]
          obtain ⟨w, w1, w2, rfl⟩ := hw
          have h7 := (g ho).1 w w1 w2 rfl
          refine ⟨fun _ => ⟨vp_in_nI (by omega) (by decide), ?_⟩, fun q => absurd q (by decide)⟩
          rw [nI_clamp (by omega), z1, show (6 : Int32) = nI 6 from rfl, pk_sub w1, nI_leI (by omega) (by omega)]
          refine ⟨fun q => ?_, fun q => ?_⟩
          · rw [if_neg (by omega)] at h7
            exact ⟨h7, rfl⟩
          · rw [if_pos (by omega)] at h7
            rw [pk_mul, nI_add, pk_sub (by omega), nI_clamp (by omega), show 6 * k + w - 6 = 6 * k + (w - 6) by omega, z2 _ (by omega)]
            exact ⟨vp_in_nI (by omega) (by decide), h7, rfl⟩
        · rw [if_neg (show ¬ ((6 : Int32) ≤ a2 ∧ a2 ≤ 11) from fun q => hw ((w_in (a := 6) (by decide) 11 (by decide)).mp q))]
          exact ⟨fun q => absurd rfl q, fun _ => ⟨(g ho).2 hw, rfl⟩⟩
      · rw [nI_clamp (by omega), z1]
        exact g0 q
      · have := m_readers (G := G) (l := l) (P := fun r2 μ2 => x = r2 ∧ μ2 = μ) (j := k + 1) hM hK hN hB hQ (by omega) ⟨g3 q, rfl⟩
        rw [← nI_1, show nI k + 1 - 1 = nI k by rw [nI_1, nI_pred]] at this
        exact this
    have cn : ∀ a b : Nat, a ≤ 11 → b ≤ 11 → a ≠ b → ¬ nI a = nI b := fun a b h1 h2 h3 h4 => h3 ((nI_eq (by omega) (by omega)).mp h4)
    have ti : ∀ a : Nat, a ≤ 11 → (nI a).toInt = (a : Int) := fun a h => nI_toInt (by omega)
    refine eX9_number ⟨fun q => absurd q (nI_pos (by omega)), fun _ => ⟨fun _ => ⟨fun ho => ⟨fun q => ?_, fun q6 => ⟨fun q11 => ?_, fun q => ?_⟩⟩, fun q => ?_, fun q => ?_, fun q => ?_, fun q => ?_, fun q => ?_, fun q => ?_⟩, fun q => absurd (by rw [hC.2.1]; exact nI_lt hk (by omega)) q⟩⟩
    · have hw : ¬ ∃ w, 6 ≤ w ∧ w ≤ 11 ∧ a2 = nI w := fun ⟨w, w1, w2, w3⟩ => by
        subst w3
        exact absurd q (by rw [show (6 : Int32) = nI 6 from rfl, nI_ltI (by omega) (by decide)]; omega)
      refine mo _ (fun _ => ⟨fun w w1 w2 w3 => absurd ⟨w, w1, w2, w3⟩ hw, fun _ => rfl⟩) ?_ ?_ ?_ ?_ ?_ ?_ <;> (intro q2; subst q2; exact absurd ho (by decide))
    · obtain ⟨w, w1, w2, rfl⟩ := (w_in (a := 6) (x := a2) (by decide) 11 (by decide)).mp ⟨Int32.not_lt.mp q6, q11⟩
      rw [show (6 : Int32) = nI 6 from rfl, pk_sub w1]
      by_cases hi : w - 6 < e k - bst e k
      · refine b_sceneOf hC hB hk hi (mo _ (fun _ => ⟨fun w' w1' w2' w3' => ?_, fun q => absurd ⟨w, w1, w2, rfl⟩ q⟩) ?_ ?_ ?_ ?_ ?_ ?_)
        · have : w = w' := (nI_eq (by omega) (by omega)).mp w3'
          subst this
          rw [if_pos hi]
        all_goals (intro q2; exact absurd ho (by rw [q2]; decide))
      · refine b_sceneNo hC hB hk hi (by omega) (mo _ (fun _ => ⟨fun w' w1' w2' w3' => ?_, fun q => absurd ⟨w, w1, w2, rfl⟩ q⟩) ?_ ?_ ?_ ?_ ?_ ?_)
        · have : w = w' := (nI_eq (by omega) (by omega)).mp w3'
          subst this
          rw [if_neg hi]
        all_goals (intro q2; exact absurd ho (by rw [q2]; decide))
    · have hw : ¬ ∃ w, 6 ≤ w ∧ w ≤ 11 ∧ a2 = nI w := fun ⟨w, w1, w2, w3⟩ => by
        subst w3
        exact q ((nI_leI (b := 11) (by omega) (by decide)).mpr w2)
      refine mo _ (fun _ => ⟨fun w w1 w2 w3 => absurd ⟨w, w1, w2, w3⟩ hw, fun _ => rfl⟩) ?_ ?_ ?_ ?_ ?_ ?_ <;> (intro q2; subst q2; exact absurd ho (by decide))
    · subst q
      refine b_end hC hB hk (b_start hC hB (by omega) ?_)
      rw [pk_sub (by omega)]
      exact mo _ (fun q => absurd q (by decide)) (fun _ => rfl) (fun q => absurd q (by decide)) (fun q => absurd q (by decide)) (fun q => absurd q (by decide)) (fun q => absurd q (by decide)) (fun q => absurd q (by decide))
    · subst q
      refine p_lines hS hK hC hB hL hW (by omega) ?_
      rw [es]
      exact mo _ (fun q => absurd q (by decide)) (fun q => absurd q (by decide)) (fun _ => rfl) (fun q => absurd q (by decide)) (fun q => absurd q (by decide)) (fun q => absurd q (by decide)) (fun q => absurd q (by decide))
    · subst q
      refine p_pull hS hK hC hB hL hk ?_
      exact mo _ (fun q => absurd q (by decide)) (fun q => absurd q (by decide)) (fun q => absurd q (by decide)) (fun _ => rfl) (fun q => absurd q (by decide)) (fun q => absurd q (by decide)) (fun q => absurd q (by decide))
    · subst q
      have := p_readers (G := G) (l := l) (P := fun r1 μ1 => qX10_number G l (nI k) 3 μ1 (fun r2 μ2 => r1 = r2 ∧ μ2 = μ)) (j := k + 1) hS hK hC hB hL (by omega) (mo _ (fun q => absurd q (by decide)) (fun q => absurd q (by decide)) (fun q => absurd q (by decide)) (fun q => absurd q (by decide)) (fun _ => rfl) (fun q => absurd q (by decide)) (fun q => absurd q (by decide)))
      rw [← nI_1, show nI k + 1 - 1 = nI k by rw [nI_1, nI_pred]] at this
      exact this
    · subst q
      refine p_open hS hK hC hB hk ?_
      exact mo _ (fun q => absurd q (by decide)) (fun q => absurd q (by decide)) (fun q => absurd q (by decide)) (fun q => absurd q (by decide)) (fun q => absurd q (by decide)) (fun _ => rfl) (fun q => absurd q (by decide))
    · subst q
      refine p_rem hS hK hC hB hL hW (by omega) ?_
      rw [es]
      exact mo _ (fun q => absurd q (by decide)) (fun q => absurd q (by decide)) (fun q => absurd q (by decide)) (fun q => absurd q (by decide)) (fun q => absurd q (by decide)) (fun q => absurd q (by decide)) (fun _ => rfl)
  · have hk2 : ¬ (¬ a1 < 0 ∧ ¬ nI m ≤ a1) := fun q => hk ((scn_iff2 (by omega) a1).mp q)
    refine eX9_number ⟨fun _ => no hk, fun q1 => ⟨fun q2 => ?_, fun _ => no hk⟩⟩
    rw [hC.2.1] at q2
    exact absurd ⟨q1, Int32.not_le.mpr q2⟩ hk2
end PAIRB
