/-! calls that change nothing: class and reference side by side -/
section PAIRS
variable {G : gC} {l : Launch} {μ : Mem} {n : Nat} {c : Nat → Nat → Nat} {D N : Nat → Nat}
theorem pr_may (hS : SC n c D μ) (hM : SM n c D μ) (hK : SK n c D) (hC : NC N μ) (hN : NM N μ) (a1 a2 : Int32) : qX9_may G l a1 a2 μ (fun r1 μ1 => qX10_may G l a1 a2 μ1 (fun r2 μ2 => r1 = r2 ∧ μ2 = μ)) := by
  have hn := hK.1
  refine eX9_may (t9_isScene hS hn (fun k hk e => ⟨fun q => absurd q (by decide), fun _ => t9_areScenes hS hn (fun s hs e2 => ⟨fun _ => ?_, fun q => absurd q (by decide)⟩) (fun hno => ⟨fun q => absurd rfl q, fun _ => ?_⟩)⟩) (fun hno => ⟨fun _ => ?_, fun q => absurd rfl q⟩))
  · subst e e2
    have hs2 := lt1024 hn hs
    refine t5_next hS hK hC hs2 ?_
    have hx := lt1024 hn (nx_lt n c D N s)
    rw [nI_bit (by omega) (by omega), nx_bit hk]
    refine eX10_may (t_noScene hM hn (fun k' hk' e' => ⟨fun q => absurd rfl q, fun _ => t_noSet hM hn (fun s' hs' e2' => ⟨fun _ => t_mayCome hM hK hN hk hs2 (t_one ?_), fun q => absurd rfl q⟩) (fun q => absurd ⟨s, hs, rfl⟩ q)⟩) (fun q => absurd ⟨k, hk, rfl⟩ q))
    refine ⟨?_, rfl⟩
    by_cases hm : mayB n c D N k s = true <;> simp [hm]
  · subst e
    exact eX10_may (t_noScene hM hn (fun k' hk' e' => ⟨fun q => absurd rfl q, fun _ => t_noSet hM hn (fun s' hs' e2' => absurd ⟨s', hs', e2'⟩ hno) (fun _ => ⟨fun q => absurd q (by decide), fun _ => ⟨rfl, rfl⟩⟩)⟩) (fun q => absurd ⟨k, hk, rfl⟩ q))
  · exact eX10_may (t_noScene hM hn (fun k' hk' e' => absurd ⟨k', hk', e'⟩ hno) (fun _ => ⟨fun _ => ⟨rfl, rfl⟩, fun q => absurd q (by decide)⟩))
theorem pr_next (hS : SC n c D μ) (hM : SM n c D μ) (hK : SK n c D) (hC : NC N μ) (hN : NM N μ) (a1 : Int32) : qX9_next G l a1 μ (fun r1 μ1 => qX10_next G l a1 μ1 (fun r2 μ2 => r1 = r2 ∧ μ2 = μ)) := by
  have hn := hK.1
  refine eX9_next (t9_areScenes hS hn (fun s hs e => ⟨fun q => absurd q (by decide), fun _ => ?_⟩) (fun hno => ⟨fun _ => ?_, fun q => absurd rfl q⟩))
  · subst e
    exact t5_next hS hK hC (lt1024 hn hs) (t_nextM hM hK hN hs ⟨rfl, rfl⟩)
  · exact eX10_next (t_noSet hM hn (fun s' hs' e' => absurd ⟨s', hs', e'⟩ hno) (fun _ => ⟨fun q => absurd q (by decide), fun _ => ⟨rfl, rfl⟩⟩))
theorem pr_open (hS : SC n c D μ) (hM : SM n c D μ) (hK : SK n c D) (a1 : Int32) : qX9_open G l a1 μ (fun r1 μ1 => qX10_open G l a1 μ1 (fun r2 μ2 => r1 = r2 ∧ μ2 = μ)) := by
  have hn := hK.1
  refine eX9_open (t9_areScenes hS hn (fun s hs e => ⟨fun q => absurd q (by decide), fun _ => ?_⟩) (fun hno => ⟨fun _ => ?_, fun q => absurd rfl q⟩))
  · subst e
    have hs2 := lt1024 hn hs
    exact t7_open hS hn (by omega) (eX10_open (t_noSet hM hn (fun s' hs' e' => ⟨fun _ => t_open hM hn (by omega) ⟨rfl, rfl⟩, fun q => absurd rfl q⟩) (fun q => absurd ⟨s, hs, rfl⟩ q)))
  · exact eX10_open (t_noSet hM hn (fun s' hs' e' => absurd ⟨s', hs', e'⟩ hno) (fun _ => ⟨fun q => absurd q (by decide), fun _ => ⟨rfl, rfl⟩⟩))
theorem pr_fault (hF : gm_r μ 3 4 = gm_r μ 78 13) : qX9_fault G l μ (fun r1 μ1 => qX10_fault G l μ1 (fun r2 μ2 => r1 = r2 ∧ μ2 = μ)) := eX9_fault (eX10_fault ⟨hF, rfl⟩)
end PAIRS
