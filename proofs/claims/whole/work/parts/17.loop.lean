theorem gI_mono {P P' : Int32 → Mem → Prop} (h : ∀ r μ, P r μ → P' r μ) : ∀ r μ, gI P r μ → gI P' r μ := fun _ _ ⟨x, e, hx⟩ => ⟨x, e, h x _ hx⟩
theorem gL_mono {P P' : Int64 → Mem → Prop} (h : ∀ r μ, P r μ → P' r μ) : ∀ r μ, gL P r μ → gL P' r μ := fun _ _ ⟨x, e, hx⟩ => ⟨x, e, h x _ hx⟩
theorem law_idx {L n : Nat} (hL : L ≤ 320) (h : 5 * n + 5 ≤ L) (j : Nat) (hj : j < 5) : nI (5 * n) + nI j = nI (5 * n + j) ∧ vp_in (nI (5 * n) + nI j) L := by
  rw [nI_add]
  exact ⟨rfl, vp_in_nI (by omega) (by omega)⟩
theorem and31 (x : Int32) : 0 ≤ (x &&& 31).toInt ∧ (x &&& 31).toInt < 32 := by
  obtain ⟨j, h1, h2⟩ := pk_andE x (m := 31) 5 (by decide)
  rw [h2, nI_toInt (by omega)]
  omega
set_option maxRecDepth 100000 in
set_option maxHeartbeats 4000000 in
theorem law_loop {G : gC} {l : Launch} {nm : String} {Rel : Nat → Mem → Prop} (hL : G.2.2.2 11 ≤ 320) (hst : st_all G l Rel) : ∀ (m n : Nat), n + m = 65 → ∀ (μ : Mem), Rel n μ → lawGo G l nm 18 (106 + 38 * n) (60000 + 34859 * n) (nI (5 * n)) μ := by
  intro m
  induction m with
  | zero =>
    intro n hn μ hR
    refine go_iload_n dL_law_18 rfl 3 rfl ?_
    refine go_aload_n dL_law_19 rfl 0 rfl ?_
    refine go_slen dL_law_20 ?_
    refine go_iconst (v := 5) dL_law_21 (by decide) ?_
    refine go_isub dL_law_22 ?_
    refine go_icmp_gt 977 dL_law_23 (by decide) (fun _ => ?_) (fun c => ?_)
    · refine go_iconst (v := 1) dL_law_977 (by decide) ?_
      exact law_ret (by omega) (by omega)
    · exfalso
      apply c
      rw [Int32.lt_iff_toInt_lt, nI_toInt (by omega), show (5 : Int32) = nI 5 from rfl, pk_sub_toInt (by omega) (by omega)]
      omega
  | succ m ih =>
    intro n hn μ hR
    refine go_iload_n dL_law_18 rfl 3 rfl ?_
    refine go_aload_n dL_law_19 rfl 0 rfl ?_
    refine go_slen dL_law_20 ?_
    refine go_iconst (v := 5) dL_law_21 (by decide) ?_
    refine go_isub dL_law_22 ?_
    refine go_icmp_gt 977 dL_law_23 (by decide) (fun _ => ?_) (fun c => ?_)
    · refine go_iconst (v := 1) dL_law_977 (by decide) ?_
      exact law_ret (by omega) (by omega)
    · have hle : 5 * n + 5 ≤ G.2.2.2 11 := by
        rw [Int32.lt_iff_toInt_lt, nI_toInt (by omega), show (5 : Int32) = nI 5 from rfl, pk_sub_toInt (by omega) (by omega)] at c
        omega
      have b0 : vp_in (nI (5 * n)) (G.2.2.2 11) := vp_in_nI (by omega) (by omega)
      have b1 : vp_in (nI (5 * n) + (1 : Int32)) (G.2.2.2 11) := (law_idx hL hle 1 (by decide)).2
      have b2 : vp_in (nI (5 * n) + (2 : Int32)) (G.2.2.2 11) := (law_idx hL hle 2 (by decide)).2
      have b3 : vp_in (nI (5 * n) + (3 : Int32)) (G.2.2.2 11) := (law_idx hL hle 3 (by decide)).2
      have b4 : vp_in (nI (5 * n) + (4 : Int32)) (G.2.2.2 11) := (law_idx hL hle 4 (by decide)).2
      have hE : ∀ μ', Rel (n + 1) μ' → lawGo G l nm 971 (106 + 38 * n + 38) (60000 + 34859 * n + 34859) (nI (5 * n)) μ' := fun μ' hR' => by
        refine go_iinc (v := nI (5 * (n + 1))) (lawLv G (nI (5 * (n + 1)))) [1, 2, 3, 0] 3 dL_law_971 rfl (show nI (5 * n) + nI 5 = _ by rw [nI_add]; rfl) (show 3 < 4 by decide) rfl ?_
        refine go_goto 18 dL_law_974 (by decide) ?_
        have h9 := ih (n + 1) (by omega) μ' hR'
        rw [show 106 + 38 * (n + 1) = 106 + 38 * n + 38 by omega, show 60000 + 34859 * (n + 1) = 60000 + 34859 * n + 34859 by omega] at h9
        exact h9
      refine go_aload_n dL_law_26 rfl 0 rfl ?_
      refine go_iload_n dL_law_27 rfl 3 rfl ?_
      refine go_sld dL_law_28 b0 ?_
      refine go_bipush (v := 31) dL_law_29 (by decide) ?_
      refine go_iand dL_law_31 ?_
      have hb := and31 (sc G (nI (5 * n)).toNatClampNeg)
      generalize hx : (sc G (nI (5 * n)).toNatClampNeg &&& 31) = x at hb ⊢
      by_cases hc : x.toInt < 0 ∨ 27 < x.toInt
      · refine go_tableOut 971 dL_law_32 hc (by decide) ?_
        exact go_widen (by omega) (by omega) (hE μ (hst.1 n μ hR))
      · obtain ⟨s0, s1, s2, s3, s4, s5, s6, s7, s8, s9, s10, s11, s12, s13, s14, s15, s16, s17, s18, s19, s20, s21, s22, s23, s24, s25, s26, s27⟩ := hst.2 n (by omega)
        rcases (show x.toInt = 0 ∨ x.toInt = 1 ∨ x.toInt = 2 ∨ x.toInt = 3 ∨ x.toInt = 4 ∨ x.toInt = 5 ∨ x.toInt = 6 ∨ x.toInt = 7 ∨ x.toInt = 8 ∨ x.toInt = 9 ∨ x.toInt = 10 ∨ x.toInt = 11 ∨ x.toInt = 12 ∨ x.toInt = 13 ∨ x.toInt = 14 ∨ x.toInt = 15 ∨ x.toInt = 16 ∨ x.toInt = 17 ∨ x.toInt = 18 ∨ x.toInt = 19 ∨ x.toInt = 20 ∨ x.toInt = 21 ∨ x.toInt = 22 ∨ x.toInt = 23 ∨ x.toInt = 24 ∨ x.toInt = 25 ∨ x.toInt = 26 ∨ x.toInt = 27 by omega) with e | e | e | e | e | e | e | e | e | e | e | e | e | e | e | e | e | e | e | e | e | e | e | e | e | e | e | e
        · refine go_tableIn 160 dL_law_32 (by omega) (by omega) (by rw [e]; rfl) (by decide) ?_
          refine law_case_0 (by omega) (by omega) b1 b2 b3 ?_
          exact Sp.mono (s0 _ _ μ  hR) (gI_mono (fun r1 μ1 h1 => Sp.mono h1 (gI_mono (fun r2 μ2 h2 => ⟨h2.1, hE μ2 h2.2⟩))))
        · refine go_tableIn 223 dL_law_32 (by omega) (by omega) (by rw [e]; rfl) (by decide) ?_
          refine law_case_1 (by omega) (by omega)  ?_
          exact Sp.mono (s1 μ  hR) (gI_mono (fun r1 μ1 h1 => Sp.mono h1 (gI_mono (fun r2 μ2 h2 => ⟨h2.1, hE μ2 h2.2⟩))))
        · refine go_tableIn 236 dL_law_32 (by omega) (by omega) (by rw [e]; rfl) (by decide) ?_
          refine law_case_2 (by omega) (by omega)  ?_
          exact Sp.mono (s2 μ  hR) (gI_mono (fun r1 μ1 h1 => Sp.mono h1 (gI_mono (fun r2 μ2 h2 => ⟨h2.1, hE μ2 h2.2⟩))))
        · refine go_tableIn 249 dL_law_32 (by omega) (by omega) (by rw [e]; rfl) (by decide) ?_
          refine law_case_3 (by omega) (by omega) b1 b2 ?_
          exact Sp.mono (s3 _ _ μ  hR) (gI_mono (fun r1 μ1 h1 => Sp.mono h1 (gI_mono (fun r2 μ2 h2 => ⟨h2.1, hE μ2 h2.2⟩))))
        · refine go_tableIn 282 dL_law_32 (by omega) (by omega) (by rw [e]; rfl) (by decide) ?_
          refine law_case_4 (by omega) (by omega) b1 b2 b3 ?_
          exact Sp.mono (s4 _ _ _ μ (by split <;> simp) hR) (gI_mono (fun r1 μ1 h1 => Sp.mono h1 (gI_mono (fun r2 μ2 h2 => ⟨h2.1, hE μ2 h2.2⟩))))
        · refine go_tableIn 341 dL_law_32 (by omega) (by omega) (by rw [e]; rfl) (by decide) ?_
          refine law_case_5 (by omega) (by omega) b1 ?_
          exact Sp.mono (s5 _ μ  hR) (gI_mono (fun r1 μ1 h1 => Sp.mono h1 (gI_mono (fun r2 μ2 h2 => ⟨h2.1, hE μ2 h2.2⟩))))
        · refine go_tableIn 364 dL_law_32 (by omega) (by omega) (by rw [e]; rfl) (by decide) ?_
          refine law_case_6 (by omega) (by omega) b1 b2 ?_
          exact Sp.mono (s6 _ _ μ  hR) (gI_mono (fun r1 μ1 h1 => Sp.mono h1 (gI_mono (fun r2 μ2 h2 => ⟨h2.1, hE μ2 h2.2⟩))))
        · refine go_tableIn 397 dL_law_32 (by omega) (by omega) (by rw [e]; rfl) (by decide) ?_
          refine law_case_7 (by omega) (by omega) b1 ?_
          exact Sp.mono (s7 _ μ  hR) (gI_mono (fun r1 μ1 h1 => Sp.mono h1 (gI_mono (fun r2 μ2 h2 => ⟨h2.1, hE μ2 h2.2⟩))))
        · refine go_tableIn 420 dL_law_32 (by omega) (by omega) (by rw [e]; rfl) (by decide) ?_
          refine law_case_8 (by omega) (by omega) b1 ?_
          exact Sp.mono (s8 _ μ  hR) (gL_mono (fun r1 μ1 h1 => Sp.mono h1 (gL_mono (fun r2 μ2 h2 => ⟨h2.1, hE μ2 h2.2⟩))))
        · refine go_tableIn 444 dL_law_32 (by omega) (by omega) (by rw [e]; rfl) (by decide) ?_
          refine law_case_9 (by omega) (by omega) b1 b2 b3 b4 ?_
          exact Sp.mono (s9 _ _ _ μ  hR) (gI_mono (fun r1 μ1 h1 => Sp.mono h1 (gI_mono (fun r2 μ2 h2 => ⟨h2.1, hE μ2 h2.2⟩))))
        · refine go_tableIn 517 dL_law_32 (by omega) (by omega) (by rw [e]; rfl) (by decide) ?_
          refine law_case_10 (by omega) (by omega)  ?_
          exact Sp.mono (s10 μ  hR) (gI_mono (fun r1 μ1 h1 => Sp.mono h1 (gI_mono (fun r2 μ2 h2 => ⟨h2.1, hE μ2 h2.2⟩))))
        · refine go_tableIn 530 dL_law_32 (by omega) (by omega) (by rw [e]; rfl) (by decide) ?_
          refine law_case_11 (by omega) (by omega) b1 b2 ?_
          exact Sp.mono (s11 _ _ μ  hR) (gI_mono (fun r1 μ1 h1 => Sp.mono h1 (gI_mono (fun r2 μ2 h2 => ⟨h2.1, hE μ2 h2.2⟩))))
        · refine go_tableIn 563 dL_law_32 (by omega) (by omega) (by rw [e]; rfl) (by decide) ?_
          refine law_case_12 (by omega) (by omega) b1 ?_
          exact Sp.mono (s12 _ μ  hR) (gI_mono (fun r1 μ1 h1 => Sp.mono h1 (gI_mono (fun r2 μ2 h2 => ⟨h2.1, hE μ2 h2.2⟩))))
        · refine go_tableIn 586 dL_law_32 (by omega) (by omega) (by rw [e]; rfl) (by decide) ?_
          refine law_case_13 (by omega) (by omega) b1 ?_
          exact Sp.mono (s13 _ μ  hR) (gI_mono (fun r1 μ1 h1 => Sp.mono h1 (gI_mono (fun r2 μ2 h2 => ⟨h2.1, hE μ2 h2.2⟩))))
        · refine go_tableIn 609 dL_law_32 (by omega) (by omega) (by rw [e]; rfl) (by decide) ?_
          refine law_case_14 (by omega) (by omega) b1 ?_
          exact Sp.mono (s14 _ μ  hR) (gI_mono (fun r1 μ1 h1 => Sp.mono h1 (gI_mono (fun r2 μ2 h2 => ⟨h2.1, hE μ2 h2.2⟩))))
        · refine go_tableIn 632 dL_law_32 (by omega) (by omega) (by rw [e]; rfl) (by decide) ?_
          refine law_case_15 (by omega) (by omega) b1 b2 ?_
          exact Sp.mono (s15 _ _ μ  hR) (gI_mono (fun r1 μ1 h1 => Sp.mono h1 (gI_mono (fun r2 μ2 h2 => ⟨h2.1, hE μ2 h2.2⟩))))
        · refine go_tableIn 665 dL_law_32 (by omega) (by omega) (by rw [e]; rfl) (by decide) ?_
          refine law_case_16 (by omega) (by omega) b1 b2 ?_
          exact Sp.mono (s16 _ _ μ  hR) (gI_mono (fun r1 μ1 h1 => Sp.mono h1 (gI_mono (fun r2 μ2 h2 => ⟨h2.1, hE μ2 h2.2⟩))))
        · refine go_tableIn 698 dL_law_32 (by omega) (by omega) (by rw [e]; rfl) (by decide) ?_
          refine law_case_17 (by omega) (by omega) b1 ?_
          exact Sp.mono (s17 _ μ  hR) (gI_mono (fun r1 μ1 h1 => Sp.mono h1 (gI_mono (fun r2 μ2 h2 => ⟨h2.1, hE μ2 h2.2⟩))))
        · refine go_tableIn 721 dL_law_32 (by omega) (by omega) (by rw [e]; rfl) (by decide) ?_
          refine law_case_18 (by omega) (by omega)  ?_
          exact Sp.mono (s18 μ  hR) (gI_mono (fun r1 μ1 h1 => Sp.mono h1 (gI_mono (fun r2 μ2 h2 => ⟨h2.1, hE μ2 h2.2⟩))))
        · refine go_tableIn 734 dL_law_32 (by omega) (by omega) (by rw [e]; rfl) (by decide) ?_
          refine law_case_19 (by omega) (by omega)  ?_
          exact Sp.mono (s19 μ  hR) (gI_mono (fun r1 μ1 h1 => Sp.mono h1 (gI_mono (fun r2 μ2 h2 => ⟨h2.1, hE μ2 h2.2⟩))))
        · refine go_tableIn 747 dL_law_32 (by omega) (by omega) (by rw [e]; rfl) (by decide) ?_
          refine law_case_20 (by omega) (by omega)  ?_
          exact Sp.mono (s20 μ  hR) (gI_mono (fun r1 μ1 h1 => Sp.mono h1 (gI_mono (fun r2 μ2 h2 => ⟨h2.1, hE μ2 h2.2⟩))))
        · refine go_tableIn 760 dL_law_32 (by omega) (by omega) (by rw [e]; rfl) (by decide) ?_
          refine law_case_21 (by omega) (by omega) b1 b2 ?_
          exact Sp.mono (s21 _ _ μ  hR) (gI_mono (fun r1 μ1 h1 => Sp.mono h1 (gI_mono (fun r2 μ2 h2 => ⟨h2.1, hE μ2 h2.2⟩))))
        · refine go_tableIn 793 dL_law_32 (by omega) (by omega) (by rw [e]; rfl) (by decide) ?_
          refine law_case_22 (by omega) (by omega)  ?_
          exact Sp.mono (s22 μ  hR) (gI_mono (fun r1 μ1 h1 => Sp.mono h1 (gI_mono (fun r2 μ2 h2 => ⟨h2.1, hE μ2 h2.2⟩))))
        · refine go_tableIn 806 dL_law_32 (by omega) (by omega) (by rw [e]; rfl) (by decide) ?_
          refine law_case_23 (by omega) (by omega) b1 b2 b3 ?_
          exact Sp.mono (s23 _ _ _ μ  hR) (gI_mono (fun r1 μ1 h1 => Sp.mono h1 (gI_mono (fun r2 μ2 h2 => ⟨h2.1, hE μ2 h2.2⟩))))
        · refine go_tableIn 849 dL_law_32 (by omega) (by omega) (by rw [e]; rfl) (by decide) ?_
          refine law_case_24 (by omega) (by omega) b1 b2 b3 ?_
          exact Sp.mono (s24 _ _ _ μ  hR) (gI_mono (fun r1 μ1 h1 => Sp.mono h1 (gI_mono (fun r2 μ2 h2 => ⟨h2.1, hE μ2 h2.2⟩))))
        · refine go_tableIn 892 dL_law_32 (by omega) (by omega) (by rw [e]; rfl) (by decide) ?_
          refine law_case_25 (by omega) (by omega) b1 b2 ?_
          exact Sp.mono (s25 _ _ μ  hR) (gI_mono (fun r1 μ1 h1 => Sp.mono h1 (gI_mono (fun r2 μ2 h2 => ⟨h2.1, hE μ2 h2.2⟩))))
        · refine go_tableIn 925 dL_law_32 (by omega) (by omega) (by rw [e]; rfl) (by decide) ?_
          refine law_case_26 (by omega) (by omega) b1 ?_
          exact Sp.mono (s26 _ μ  hR) (gI_mono (fun r1 μ1 h1 => Sp.mono h1 (gI_mono (fun r2 μ2 h2 => ⟨h2.1, hE μ2 h2.2⟩))))
        · refine go_tableIn 948 dL_law_32 (by omega) (by omega) (by rw [e]; rfl) (by decide) ?_
          refine law_case_27 (by omega) (by omega) b1 ?_
          exact Sp.mono (s27 _ μ  hR) (gI_mono (fun r1 μ1 h1 => Sp.mono h1 (gI_mono (fun r2 μ2 h2 => ⟨h2.1, hE μ2 h2.2⟩))))
