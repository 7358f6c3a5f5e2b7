/-! the relation, and all calls -/
def RE (k n : Nat) (c : Nat → Nat → Nat) (D N W r : Nat → Nat) (f m : Nat) (e : Nat → Nat) (μ : Mem) : Prop := (∃ t x, TX t x μ) ∧ FA μ ∧ ST n c D μ ∧ NV N μ ∧ LW W μ ∧ BO n r f m e μ ∧ KP k n μ ∧ SE n c D N μ ∧ PL n c D N W (seg r 0 (bst e m)) μ
def Rel (k : Nat) (μ : Mem) : Prop := ∃ n c D N W r f m e, RE k n c D N W r f m e μ
theorem TX.ex {L : List Nat} {μ μ' : Mem} (hf : Fr L μ μ') (hL : ¬ 1 ∈ L) (h : ∃ t x, TX t x μ) : ∃ t x, TX t x μ' := by
  obtain ⟨t, x, h⟩ := h
  exact ⟨t, x, h.fr hf hL⟩
theorem Rel.up {k : Nat} {μ : Mem} (h : Rel k μ) : Rel (k + 1) μ := by
  obtain ⟨n, c, D, N, W, r, f, m, e, tx, fa, st, nv, lw, bo, kp, se, pl⟩ := h
  exact ⟨n, c, D, N, W, r, f, m, e, tx, fa, st, nv, lw, bo, kp.fr (Fr.rfl (L := [])) (by decide), se, pl⟩
def W0 (j : Nat) : Nat := [1, 60, 2, 3, 4, 2, 1, 8].getD j 0
theorem W0_c : ∀ j, j < 8 → gz_atFirst.getD j 0 = nI (W0 j) := by decide +kernel
theorem W0_m : ∀ j, j < 8 → gm0_law j = nI (W0 j) := by decide +kernel
theorem Rel_0 : Rel 0 gm0 := by
  refine ⟨0, zC, zD, zD, W0, zD, 0, 0, zD, ⟨0, zD, rfl, rfl, by decide, fun i hi => absurd hi (by omega)⟩, rfl, ⟨⟨rfl, fun k hk => absurd hk (by omega)⟩, ⟨rfl, fun k hk => absurd hk (by omega)⟩, by decide, fun k hk => absurd hk (by omega)⟩, ⟨fun f hf => ⟨rfl, show 0 < 256 by decide⟩, fun f hf => ⟨rfl, show 0 < 256 by decide⟩, fun f g _ _ => (Nat.zero_testBit g).trans (Nat.zero_testBit f).symm, 0, rfl, by decide +kernel⟩, ⟨W0_c, W0_m, by unfold LK; decide +kernel⟩, ⟨⟨rfl, rfl, fun i hi => absurd hi (by omega), fun j hj => absurd hj (by omega)⟩, ⟨rfl, rfl, rfl, rfl, fun j hj => absurd hj (by omega), fun i hi => absurd hi (by omega)⟩, by decide, by decide, fun i hi => absurd hi (by omega), fun i j hi => absurd hi (by omega), fun j hj => absurd hj (by omega), by decide, by decide⟩, ⟨0, rfl, by decide, fun i hi => Or.inl ⟨rfl, Or.inl rfl⟩⟩, ⟨fun o h1 h2 => ?_, Or.inl rfl⟩, Or.inl ⟨rfl, rfl⟩, fun q => absurd rfl q⟩
  rcases (show o = 31 ∨ o = 32 ∨ o = 33 ∨ o = 34 ∨ o = 35 ∨ o = 36 by omega) with rfl | rfl | rfl | rfl | rfl | rfl <;> rfl
section ALL
variable {G : gC} {l : Launch} {k : Nat}
theorem w0 : st_0 G l (Rel k) (Rel (k + 1)) := fun a1 a2 μ h => by
  obtain ⟨n, c, D, N, W, r, f, m, e, ⟨t, x, tx⟩, fa, st, nv, lw, bo, kp, se, pl⟩ := h
  refine Sp.mono (pr_feed (G := G) (l := l) (a2 := a2) tx a1) (gI_mono (fun r1 μ1 h1 => Sp.mono h1 (gI_mono (fun r2 μ2 h2 => ⟨h2.1, ?_⟩))))
  obtain ⟨_, hf, tx2⟩ := h2
  exact ⟨n, c, D, N, W, r, f, m, e, tx2, fa.fr hf (by decide), st.fr hf (by decide), nv.fr hf (by decide), lw.fr hf (by decide), bo.fr hf (by decide), kp.fr hf (by decide), se.fr hf (by decide) (by decide), pl.fr hf (by decide)⟩
theorem w1 : st_1 G l (Rel k) (Rel (k + 1)) := fun μ h => by
  obtain ⟨n, c, D, N, W, r, f, m, e, ⟨t, x, tx⟩, fa, st, nv, lw, bo, kp, se, pl⟩ := h
  refine Sp.mono (pr_story (G := G) (l := l) tx kp pl.1) (gI_mono (fun r1 μ1 h1 => Sp.mono h1 (gI_mono (fun r2 μ2 h2 => ⟨h2.1, ?_⟩))))
  obtain ⟨_, fa2, tx2, hf | ⟨hf, po2, fg2, h30, n2, c2, D2, st2, kp2, bo2⟩⟩ := h2
  · exact ⟨n, c, D, N, W, r, f, m, e, ⟨_, _, tx2⟩, fa2, st.fr hf (by decide), nv.fr hf (by decide), lw.fr hf (by decide), bo.fr hf (by decide), kp.fr hf (by decide), se.fr hf (by decide) (by decide), pl.fr hf (by decide)⟩
  · exact ⟨n2, c2, D2, N, W, r, 0, 0, e, ⟨_, _, tx2⟩, fa2, st2, nv.fr hf (by decide), lw.fr hf (by decide), bo2 r e, kp2, ⟨se.1.fr hf (by decide), Or.inl h30⟩, PL.forgot po2 fg2⟩
theorem same {a b : Int32} {μ μ2 : Mem} (h : Rel k μ) (h2 : a = b ∧ μ2 = μ) : a = b ∧ Rel (k + 1) μ2 := ⟨h2.1, by rw [h2.2]; exact h.up⟩
theorem w2 : st_2 G l (Rel k) (Rel (k + 1)) := fun μ h => by
  obtain ⟨n, c, D, N, W, r, f, m, e, tx, fa, st, nv, lw, bo, kp, se, pl⟩ := id h
  exact Sp.mono (pr_fault (G := G) (l := l) fa) (gI_mono (fun r1 μ1 h1 => Sp.mono h1 (gI_mono (fun r2 μ2 h2 => same h h2))))
theorem w3 : st_3 G l (Rel k) (Rel (k + 1)) := fun a1 a2 μ h => by
  obtain ⟨n, c, D, N, W, r, f, m, e, tx, fa, st, nv, lw, bo, kp, se, pl⟩ := id h
  exact Sp.mono (pr_scene (G := G) (l := l) st.1 st.2.1 st.2.2 bo.1 bo.2.1 bo.2.2 a1 a2) (gI_mono (fun r1 μ1 h1 => Sp.mono h1 (gI_mono (fun r2 μ2 h2 => same h h2))))
theorem w4 : st_4 G l (Rel k) (Rel (k + 1)) := fun a1 a2 a3 μ h3 h => by
  obtain ⟨n, c, D, N, W, r, f, m, e, tx, fa, st, nv, lw, bo, kp, se, pl⟩ := h
  refine Sp.mono (pr_never (G := G) (l := l) nv pl.1 a1 a2 a3 h3) (gI_mono (fun r1 μ1 h1 => Sp.mono h1 (gI_mono (fun r2 μ2 h2 => ⟨h2.1, ?_⟩))))
  obtain ⟨_, ⟨hf, nv2⟩ | ⟨hf, po2, fg2, h30, N2, nv2⟩⟩ := h2
  · exact ⟨n, c, D, N, W, r, f, m, e, TX.ex hf (by decide) tx, fa.fr hf (by decide), st.fr hf (by decide), nv2, lw.fr hf (by decide), bo.fr hf (by decide), kp.fr hf (by decide), se.fr hf (by decide) (by decide), pl.fr hf (by decide)⟩
  · exact ⟨n, c, D, N2, W, r, f, m, e, TX.ex hf (by decide) tx, fa.fr hf (by decide), st.fr hf (by decide), nv2, lw.fr hf (by decide), bo.fr hf (by decide), kp.fr hf (by decide), ⟨se.1.fr hf (by decide), Or.inl h30⟩, PL.forgot po2 fg2⟩
theorem w5 : st_5 G l (Rel k) (Rel (k + 1)) := fun a1 μ h => by
  obtain ⟨n, c, D, N, W, r, f, m, e, ⟨t, x, tx⟩, fa, st, nv, lw, bo, kp, se, pl⟩ := id h
  exact Sp.mono (pr_count (G := G) (l := l) st bo nv tx a1) (gI_mono (fun r1 μ1 h1 => Sp.mono h1 (gI_mono (fun r2 μ2 h2 => same h h2))))
theorem w6 : st_6 G l (Rel k) (Rel (k + 1)) := fun a1 a2 μ h => by
  obtain ⟨n, c, D, N, W, r, f, m, e, tx, fa, st, nv, lw, bo, kp, se, pl⟩ := id h
  exact Sp.mono (pr_may (G := G) (l := l) st.1 st.2.1 st.2.2 nv.1 nv.2.1 a1 a2) (gI_mono (fun r1 μ1 h1 => Sp.mono h1 (gI_mono (fun r2 μ2 h2 => same h h2))))
theorem w7 : st_7 G l (Rel k) (Rel (k + 1)) := fun a1 μ h => by
  obtain ⟨n, c, D, N, W, r, f, m, e, tx, fa, st, nv, lw, bo, kp, se, pl⟩ := id h
  exact Sp.mono (pr_next (G := G) (l := l) st.1 st.2.1 st.2.2 nv.1 nv.2.1 a1) (gI_mono (fun r1 μ1 h1 => Sp.mono h1 (gI_mono (fun r2 μ2 h2 => same h h2))))
theorem sets {n : Nat} {c : Nat → Nat → Nat} {D N W r e : Nat → Nat} {f m : Nat} {μ μ2 : Mem} (h : RE k n c D N W r f m e μ) (hf : Fr [0, 8] μ μ2) (se2 : SE n c D N μ2) : Rel (k + 1) μ2 := by
  obtain ⟨tx, fa, st, nv, lw, bo, kp, se, pl⟩ := h
  exact ⟨n, c, D, N, W, r, f, m, e, TX.ex hf (by decide) tx, fa.fr hf (by decide), st.fr hf (by decide), nv.fr hf (by decide), lw.fr hf (by decide), bo.fr hf (by decide), kp.fr hf (by decide), se2, pl.fr hf (by decide)⟩
theorem w8 : st_8 G l (Rel k) (Rel (k + 1)) := fun a1 μ h => by
  obtain ⟨n, c, D, N, W, r, f, m, e, h⟩ := h
  exact Sp.mono (pr_orders (G := G) (l := l) h.2.2.1 h.2.2.2.1 h.2.2.2.2.2.2.2.1 a1) (gL_mono (fun r1 μ1 h1 => Sp.mono h1 (gL_mono (fun r2 μ2 h2 => ⟨h2.1, sets h h2.2.1 h2.2.2⟩))))
theorem w9 : st_9 G l (Rel k) (Rel (k + 1)) := fun a1 a2 a3 μ h => by
  obtain ⟨n, c, D, N, W, r, f, m, e, h⟩ := h
  exact Sp.mono (pr_order (G := G) (l := l) h.2.2.1 h.2.2.2.1 h.2.2.2.2.2.2.2.1 a1 a2 a3) (gI_mono (fun r1 μ1 h1 => Sp.mono h1 (gI_mono (fun r2 μ2 h2 => ⟨h2.1, sets h h2.2.1 h2.2.2⟩))))
theorem w10 : st_10 G l (Rel k) (Rel (k + 1)) := fun μ h => by
  obtain ⟨n, c, D, N, W, r, f, m, e, h⟩ := h
  exact Sp.mono (pr_good (G := G) (l := l) h.2.2.1 h.2.2.2.1 h.2.2.2.2.2.2.2.1) (gI_mono (fun r1 μ1 h1 => Sp.mono h1 (gI_mono (fun r2 μ2 h2 => ⟨h2.1, sets h h2.2.1 h2.2.2⟩))))
theorem w11 : st_11 G l (Rel k) (Rel (k + 1)) := fun a1 a2 μ h => by
  obtain ⟨n, c, D, N, W, r, f, m, e, h⟩ := h
  exact Sp.mono (pr_place (G := G) (l := l) h.2.2.1 h.2.2.2.1 h.2.2.2.2.2.2.2.1 a1 a2) (gI_mono (fun r1 μ1 h1 => Sp.mono h1 (gI_mono (fun r2 μ2 h2 => ⟨h2.1, sets h h2.2.1 h2.2.2⟩))))
theorem w12 : st_12 G l (Rel k) (Rel (k + 1)) := fun a1 μ h => by
  obtain ⟨n, c, D, N, W, r, f, m, e, tx, fa, st, nv, lw, bo, kp, se, pl⟩ := id h
  exact Sp.mono (pr_open (G := G) (l := l) st.1 st.2.1 st.2.2 a1) (gI_mono (fun r1 μ1 h1 => Sp.mono h1 (gI_mono (fun r2 μ2 h2 => same h h2))))
theorem w13 : st_13 G l (Rel k) (Rel (k + 1)) := fun a1 μ h => by
  obtain ⟨n, c, D, N, W, r, f, m, e, h⟩ := h
  exact Sp.mono (pr_atOnce (G := G) (l := l) h.2.2.1 h.2.2.2.1 h.2.2.2.2.2.2.2.1 a1) (gI_mono (fun r1 μ1 h1 => Sp.mono h1 (gI_mono (fun r2 μ2 h2 => ⟨h2.1, sets h h2.2.1 h2.2.2⟩))))
theorem w14 : st_14 G l (Rel k) (Rel (k + 1)) := fun a1 μ h => by
  obtain ⟨n, c, D, N, W, r, f, m, e, h⟩ := h
  exact Sp.mono (pr_along (G := G) (l := l) h.2.2.1 h.2.2.2.1 h.2.2.2.2.2.2.2.1 a1) (gI_mono (fun r1 μ1 h1 => Sp.mono h1 (gI_mono (fun r2 μ2 h2 => ⟨h2.1, sets h h2.2.1 h2.2.2⟩))))
theorem w15 : st_15 G l (Rel k) (Rel (k + 1)) := fun a1 a2 μ h => by
  obtain ⟨n, c, D, N, W, r, f, m, e, h⟩ := h
  exact Sp.mono (pr_shortest (G := G) (l := l) h.2.2.1 h.2.2.2.1 h.2.2.2.2.2.2.2.1 a1 a2) (gI_mono (fun r1 μ1 h1 => Sp.mono h1 (gI_mono (fun r2 μ2 h2 => ⟨h2.1, sets h h2.2.1 h2.2.2⟩))))
theorem w16 : st_16 G l (Rel k) (Rel (k + 1)) := fun a1 a2 μ h => by
  obtain ⟨n, c, D, N, W, r, f, m, e, tx, fa, st, nv, lw, bo, kp, se, pl⟩ := id h
  refine Sp.mono (pr_law (G := G) (l := l) lw pl.1 a1 a2) (gI_mono (fun r1 μ1 h1 => Sp.mono h1 (gI_mono (fun r2 μ2 h2 => ⟨h2.1, ?_⟩))))
  obtain ⟨_, e2 | ⟨hf, po2, fg2, W2, lw2⟩⟩ := h2
  · rw [e2]; exact h.up
  · exact ⟨n, c, D, N, W2, r, f, m, e, TX.ex hf (by decide) tx, fa.fr hf (by decide), st.fr hf (by decide), nv.fr hf (by decide), lw2, bo.fr hf (by decide), kp.fr hf (by decide), se.fr hf (by decide) (by decide), PL.forgot po2 fg2⟩
theorem book {n : Nat} {c : Nat → Nat → Nat} {D N W r e r' : Nat → Nat} {f m f' : Nat} {μ μ2 : Mem} (h : RE k n c D N W r f m e μ) (hf : Fr [6] μ μ2) (bo2 : BO n r' f' m e μ2) (he : seg r' 0 (bst e m) = seg r 0 (bst e m)) : Rel (k + 1) μ2 := by
  obtain ⟨tx, fa, st, nv, lw, bo, kp, se, pl⟩ := h
  refine ⟨n, c, D, N, W, r', f', m, e, TX.ex hf (by decide) tx, fa.fr hf (by decide), st.fr hf (by decide), nv.fr hf (by decide), lw.fr hf (by decide), bo2, kp.fr hf (by decide), se.fr hf (by decide) (by decide), ?_⟩
  rw [he]
  exact pl.fr hf (by decide)
theorem w17 : st_17 G l (Rel k) (Rel (k + 1)) := fun a1 μ h => by
  obtain ⟨n, c, D, N, W, r, f, m, e, h⟩ := h
  refine Sp.mono (pr_add (G := G) (l := l) h.2.2.1 h.2.2.2.2.2.1 h.2.2.2.1 a1) (gI_mono (fun r1 μ1 h1 => Sp.mono h1 (gI_mono (fun r2 μ2 h2 => ⟨h2.1, ?_⟩))))
  obtain ⟨_, hf, r', f', bo2, he⟩ := h2
  exact book h hf bo2 he
theorem w18 : st_18 G l (Rel k) (Rel (k + 1)) := fun μ h => by
  obtain ⟨n, c, D, N, W, r, f, m, e, h⟩ := h
  refine Sp.mono (pr_drop (G := G) (l := l) h.2.2.2.2.2.1) (gI_mono (fun r1 μ1 h1 => Sp.mono h1 (gI_mono (fun r2 μ2 h2 => ⟨h2.1, ?_⟩))))
  obtain ⟨_, hf, r', f', bo2, he⟩ := h2
  exact book h hf bo2 he
theorem w19 : st_19 G l (Rel k) (Rel (k + 1)) := fun μ h => by
  obtain ⟨n, c, D, N, W, r, f, m, e, tx, fa, st, nv, lw, bo, kp, se, pl⟩ := id h
  exact Sp.mono (pr_lines (G := G) (l := l) st.1 st.2.1 st.2.2 bo.1 bo.2.1 bo.2.2 lw.1 lw.2.1 lw.2.2) (gI_mono (fun r1 μ1 h1 => Sp.mono h1 (gI_mono (fun r2 μ2 h2 => same h h2))))
theorem w20 : st_20 G l (Rel k) (Rel (k + 1)) := fun μ h => by
  obtain ⟨n, c, D, N, W, r, f, m, e, tx, fa, st, nv, lw, bo, kp, se, pl⟩ := id h
  refine Sp.mono (pr_print (G := G) (l := l) st bo lw pl.1) (gI_mono (fun r1 μ1 h1 => Sp.mono h1 (gI_mono (fun r2 μ2 h2 => ⟨h2.1, ?_⟩))))
  obtain ⟨_, e2 | ⟨hf, po2, fg2, m2, e2, bo2⟩⟩ := h2
  · rw [e2]; exact h.up
  · exact ⟨n, c, D, N, W, r, f, m2, e2, TX.ex hf (by decide) tx, fa.fr hf (by decide), st.fr hf (by decide), nv.fr hf (by decide), lw.fr hf (by decide), bo2, kp.fr hf (by decide), se.fr hf (by decide) (by decide), PL.forgot po2 fg2⟩
theorem w21 : st_21 G l (Rel k) (Rel (k + 1)) := fun a1 a2 μ h => by
  obtain ⟨n, c, D, N, W, r, f, m, e, tx, fa, st, nv, lw, bo, kp, se, pl⟩ := id h
  exact Sp.mono (pr_number (G := G) (l := l) st.1 st.2.1 st.2.2 bo.1 bo.2.1 bo.2.2 lw.1 lw.2.1 lw.2.2 a1 a2) (gI_mono (fun r1 μ1 h1 => Sp.mono h1 (gI_mono (fun r2 μ2 h2 => same h h2))))
theorem w22 : st_22 G l (Rel k) (Rel (k + 1)) := fun μ h => by
  obtain ⟨n, c, D, N, W, r, f, m, e, tx, fa, st, nv, lw, bo, kp, se, pl⟩ := id h
  exact Sp.mono (pr_readers (G := G) (l := l) st.1 st.2.1 st.2.2 bo.1 bo.2.1 bo.2.2 lw.1 lw.2.1) (gI_mono (fun r1 μ1 h1 => Sp.mono h1 (gI_mono (fun r2 μ2 h2 => same h h2))))
theorem plans {n : Nat} {c : Nat → Nat → Nat} {D N W r e : Nat → Nat} {f m : Nat} {μ μ2 : Mem} (h : RE k n c D N W r f m e μ) (hf : Fr [0, 8, 9] μ μ2) (se2 : SE n c D N μ2) (pl2 : PL n c D N W (seg r 0 (bst e m)) μ2) : Rel (k + 1) μ2 := by
  obtain ⟨tx, fa, st, nv, lw, bo, kp, se, pl⟩ := h
  exact ⟨n, c, D, N, W, r, f, m, e, TX.ex hf (by decide) tx, fa.fr hf (by decide), st.fr hf (by decide), nv.fr hf (by decide), lw.fr hf (by decide), bo.fr hf (by decide), kp.fr hf (by decide), se2, pl2⟩
theorem w23 : st_23 G l (Rel k) (Rel (k + 1)) := fun a1 a2 a3 μ h => by
  obtain ⟨n, c, D, N, W, r, f, m, e, h⟩ := h
  exact Sp.mono (pr_plan (G := G) (l := l) h.2.2.1 h.2.2.2.1 h.2.2.2.2.2.2.2.1 h.2.2.2.2.1 h.2.2.2.2.2.1 h.2.2.2.2.2.2.2.2 a1 a2 a3) (gI_mono (fun r1 μ1 h1 => Sp.mono h1 (gI_mono (fun r2 μ2 h2 => ⟨h2.1, plans h h2.2.1 h2.2.2.1 h2.2.2.2⟩))))
theorem w24 : st_24 G l (Rel k) (Rel (k + 1)) := fun a1 a2 a3 μ h => by
  obtain ⟨n, c, D, N, W, r, f, m, e, h⟩ := h
  exact Sp.mono (pr_kind (G := G) (l := l) h.2.2.1 h.2.2.2.1 h.2.2.2.2.2.2.2.1 h.2.2.2.2.1 h.2.2.2.2.2.1 h.2.2.2.2.2.2.2.2 a1 a2 a3) (gI_mono (fun r1 μ1 h1 => Sp.mono h1 (gI_mono (fun r2 μ2 h2 => ⟨h2.1, plans h h2.2.1 h2.2.2.1 h2.2.2.2⟩))))
theorem w25 : st_25 G l (Rel k) (Rel (k + 1)) := fun a1 a2 μ h => by
  obtain ⟨n, c, D, N, W, r, f, m, e, tx, fa, st, nv, lw, bo, kp, se, pl⟩ := h
  refine Sp.mono (pr_chapter (G := G) (l := l) st bo a1 a2) (gI_mono (fun r1 μ1 h1 => Sp.mono h1 (gI_mono (fun r2 μ2 h2 => ⟨h2.1, ?_⟩))))
  have hf := h2.2
  exact ⟨n, c, D, N, W, r, f, m, e, TX.ex hf (by decide) tx, fa.fr hf (by decide), st.fr hf (by decide), nv.fr hf (by decide), lw.fr hf (by decide), bo.fr hf (by decide), kp.fr hf (by decide), se.fr hf (by decide) (by decide), pl.fr hf (by decide)⟩
theorem w26 (hk : k < 65) : st_26 G l (Rel k) (Rel (k + 1)) := fun a1 μ h => by
  obtain ⟨n, c, D, N, W, r, f, m, e, tx, fa, st, nv, lw, bo, kp, se, pl⟩ := h
  refine Sp.mono (pr_keep (G := G) (l := l) bo lw kp hk a1) (gI_mono (fun r1 μ1 h1 => Sp.mono h1 (gI_mono (fun r2 μ2 h2 => ⟨h2.1, ?_⟩))))
  obtain ⟨_, hf, kp2⟩ := h2
  exact ⟨n, c, D, N, W, r, f, m, e, TX.ex hf (by decide) tx, fa.fr hf (by decide), st.fr hf (by decide), nv.fr hf (by decide), lw.fr hf (by decide), bo.fr hf (by decide), kp2, se.fr hf (by decide) (by decide), pl.fr hf (by decide)⟩
theorem w27 (hk : k < 65) : st_27 G l (Rel k) (Rel (k + 1)) := fun a1 μ h => by
  obtain ⟨n, c, D, N, W, r, f, m, e, tx, fa, st, nv, lw, bo, kp, se, pl⟩ := id h
  refine Sp.mono (pr_goBack (G := G) (l := l) kp hk pl.1 a1) (gI_mono (fun r1 μ1 h1 => Sp.mono h1 (gI_mono (fun r2 μ2 h2 => ⟨h2.1, ?_⟩))))
  obtain ⟨_, e2 | ⟨hf, po2, fg2, r2, f2, m2, e2, W2, bo2, lw2⟩⟩ := h2
  · rw [e2]; exact h.up
  · exact ⟨n, c, D, N, W2, r2, f2, m2, e2, TX.ex hf (by decide) tx, fa.fr hf (by decide), st.fr hf (by decide), nv.fr hf (by decide), lw2, bo2, kp.fr hf (by decide), se.fr hf (by decide) (by decide), PL.forgot po2 fg2⟩
end ALL
theorem Rel_all (G : gC) (l : Launch) : st_all G l Rel := ⟨fun _ _ h => h.up, fun _ hk => ⟨w0, w1, w2, w3, w4, w5, w6, w7, w8, w9, w10, w11, w12, w13, w14, w15, w16, w17, w18, w19, w20, w21, w22, w23, w24, w25, w26 hk, w27 hk⟩⟩
