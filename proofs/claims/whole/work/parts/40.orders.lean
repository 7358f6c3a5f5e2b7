/-! orders, good, place, atOnce, along, shortest -/
theorem dI_toInt {x : Nat} (hx : x < 2 ^ 30) : (nI x - 1).toInt = (x : Int) - 1 := by
  rw [nI_one, pk_sub_toInt (by omega) (by omega)]
  rfl
theorem dI_m1 {x : Nat} (hx : x < 2 ^ 30) : nI x - 1 = (-1 : Int32) ↔ x = 0 := by
  rw [← Int32.toInt_inj, dI_toInt hx, show (-1 : Int32).toInt = -1 from rfl]
  omega
theorem dI_neg {x : Nat} (hx : x < 2 ^ 30) : nI x - 1 < 0 ↔ x = 0 := by
  rw [Int32.lt_iff_toInt_lt, dI_toInt hx, show (0 : Int32).toInt = 0 from rfl]
  omega
theorem dI_le {x p : Nat} (hx : x < 2 ^ 30) (hp : p < 2 ^ 31) : nI x - 1 ≤ nI p ↔ x ≤ p + 1 := by
  rw [Int32.le_iff_toInt_le, dI_toInt hx, nI_toInt hp]
  omega
theorem dI_ge {x p : Nat} (hx : x < 2 ^ 30) (hp : p < 2 ^ 31) : nI p ≤ nI x - 1 ↔ p + 1 ≤ x := by
  rw [Int32.le_iff_toInt_le, dI_toInt hx, nI_toInt hp]
  omega
theorem dI_lt {x p : Nat} (hx : x < 2 ^ 30) (hp : p < 2 ^ 31) : nI x - 1 < nI p ↔ x < p + 1 := by
  rw [Int32.lt_iff_toInt_lt, dI_toInt hx, nI_toInt hp]
  omega
def cg (A : Nat → Nat → Bool) (n : Nat) : Nat → Nat | 0 => 0 | S + 1 => cg A n S + (if 0 < wy A n S then 1 else 0)
def plB (A : Nat → Nat → Bool) (n k s : Nat) : Prop := 0 < wy A n s ∧ A s k = true ∧ 0 < en A n (2 ^ n - 1) (s ||| 2 ^ k)
def upM (b : Bool) (x v : Nat) : Nat := if b then v else x
section ORD
variable {G : gC} {l : Launch} {μ : Mem} {n : Nat} {c : Nat → Nat → Nat} {D N : Nat → Nat}
theorem pr_orders (hS : ST n c D μ) (hV : NV N μ) (hE : SE n c D N μ) (a1 : Int32) : qX9_orders G l a1 μ (fun r1 μ1 => qX10_orders G l a1 μ1 (fun r2 μ2 => r1 = r2 ∧ Fr [0, 8] μ μ2 ∧ SE n c D N μ2)) := by
  have hK := hS.2.2
  have hn := hK.1
  have hA := mA_no n c D N
  refine eX9_orders (t9_areScenes hS.1 hn (fun s hs e => ⟨fun q => absurd q (by decide), fun _ => ?_⟩) (fun hno => ⟨fun _ => ?_, fun q => absurd rfl q⟩))
  · subst e
    have hs2 := lt1024 hn hs
    refine t9_fresh hS hV hE (fun μ1 f1 v1 e1 => ⟨vp_in_nI (by omega) (by decide), ?_⟩)
    have hS1 := hS.fr f1 (by decide)
    have hV1 := hV.fr f1 (by decide)
    rw [nI_clamp (by omega), (v1.2.1 s hs).1, nI_J (by have := wy_le hn hA s; omega)]
    refine eX10_orders (t_noSet hS1.2.1 hn (fun s' hs' e' => ⟨fun _ => m_ways hS1 hV1 hs (fun μ2 f2 _ g2 => ⟨?_, (f1.mono (by decide)).trans (f2.mono (by decide)), e1.fr f2 (by decide) (by decide)⟩), fun q => absurd rfl q⟩) (fun q => absurd ⟨s, hs, rfl⟩ q))
    rw [g2 0 (Nat.zero_le s), en_zero]
  · exact eX10_orders (t_noSet hS.2.1 hn (fun s' hs' e' => absurd ⟨s', hs', e'⟩ hno) (fun _ => ⟨fun q => absurd q (by decide), fun _ => ⟨rfl, Fr.rfl, hE⟩⟩))
theorem pr_good (hS : ST n c D μ) (hV : NV N μ) (hE : SE n c D N μ) : qX9_good G l μ (fun r1 μ1 => qX10_good G l μ1 (fun r2 μ2 => r1 = r2 ∧ Fr [0, 8] μ μ2 ∧ SE n c D N μ2)) := by
  have hK := hS.2.2
  have hn := hK.1
  have hA := mA_no n c D N
  have hp : 2 ^ n ≤ 1024 := Nat.pow_le_pow_right (by decide) hn
  have h2 := Nat.two_pow_pos n
  refine eX9_good (t9_fresh hS hV hE (fun μ1 f1 v1 e1 => eX6_countGood ?_))
  have hS1 := hS.fr f1 (by decide)
  have hV1 := hV.fr f1 (by decide)
  refine down (H := fun j => hX6_countGood_4 G l _ (nI (cg (mA n c D N) n j)) (nI j) μ1) (n := 2 ^ n) ?_ ?_
  · refine eX6_countGood_4 ⟨fun _ => ?_, fun q => absurd (by rw [v1.1.1]; exact Int32.le_refl _) q⟩
    refine eX10_good (m_good hS1 hV1 (fun μ2 f2 _ c2 g2 => ?_))
    have hS2 := hS1.fr f2 (by decide)
    refine down (H := fun j => hX10_good_8 G l _ (nI (cg (mA n c D N) n j)) (nI j) μ2) (n := 2 ^ n) ?_ ?_
    · exact eX10_good_8 (t_all hS2.2.1 hn ⟨fun _ => ⟨rfl, (f1.mono (by decide)).trans (f2.mono (by decide)), e1.fr f2 (by decide) (by decide)⟩, fun q => absurd (nI_lt (by omega) (by omega)) q⟩)
    · intro j hj ih
      refine eX10_good_8 (t_all hS2.2.1 hn ⟨fun q => absurd q (nI_nlt (by omega) (by omega)), fun _ => ⟨vp_in_nI (by omega) (by decide), ?_⟩⟩)
      rw [nI_clamp (by omega), g2 j hj]
      refine t_one ?_
      have e : cg (mA n c D N) n (j + 1) = cg (mA n c D N) n j + (if 0 < wy (mA n c D N) n j then 1 else 0) := rfl
      rw [e] at ih
      by_cases h : 0 < wy (mA n c D N) n j
      · rw [if_pos h, if_neg (by decide), nI_1, nI_1]
        rw [if_pos h] at ih
        exact ih
      · rw [if_neg h, if_pos rfl, nI_1, Int32.add_zero]
        rw [if_neg h] at ih
        exact ih
  · intro j hj ih
    have hl := wy_le hn hA j
    refine eX6_countGood_4 ⟨fun q => absurd (by rw [v1.1.1] at q; exact q) (nI_ge hj (by omega)), fun _ => ⟨vp_in_nI (by omega) (by decide), ?_⟩⟩
    have e : cg (mA n c D N) n (j + 1) = cg (mA n c D N) n j + (if 0 < wy (mA n c D N) n j then 1 else 0) := rfl
    rw [e] at ih
    rw [nI_clamp (by omega), (v1.2.1 j hj).1, show (0 : Int32) = nI 0 from rfl, nI_leI (by omega) (by decide), nI_1, nI_1]
    refine ⟨fun q => ?_, fun q => ?_⟩
    · rw [if_neg (by omega)] at ih; exact ih
    · rw [if_pos (by omega)] at ih; exact ih
theorem pr_atOnce (hS : ST n c D μ) (hV : NV N μ) (hE : SE n c D N μ) (a1 : Int32) : qX9_atOnce G l a1 μ (fun r1 μ1 => qX10_atOnce G l a1 μ1 (fun r2 μ2 => r1 = r2 ∧ Fr [0, 8] μ μ2 ∧ SE n c D N μ2)) := by
  have hK := hS.2.2
  have hn := hK.1
  have hA := mA_no n c D N
  have hp : 2 ^ n ≤ 1024 := Nat.pow_le_pow_right (by decide) hn
  refine eX9_atOnce (t9_areScenes hS.1 hn (fun s hs e => ⟨fun q => absurd q (by decide), fun _ => ?_⟩) (fun hno => ⟨fun _ => ?_, fun q => absurd rfl q⟩))
  · subst e
    have hs2 := lt1024 hn hs
    refine t9_fresh hS hV hE (fun μ1 f1 v1 e1 => ⟨vp_in_nI (by omega) (by decide), ?_⟩)
    have hS1 := hS.fr f1 (by decide)
    have hV1 := hV.fr f1 (by decide)
    rw [nI_clamp (by omega), (v1.2.1 s hs).2]
    refine eX10_atOnce (t_noSet hS1.2.1 hn (fun s' hs' e' => ⟨fun _ => m_good hS1 hV1 (fun μ2 f2 _ c2 g2 => ?_), fun q => absurd rfl q⟩) (fun q => absurd ⟨s, hs, rfl⟩ q))
    have hS2 := hS1.fr f2 (by decide)
    have gf : ∀ μ', Only 91 μ2 μ' → (∀ t, t < 2 ^ n → gm_r μ' 89 t = if 0 < wy (mA n c D N) n t then 1 else 0) ∧ (∀ t, t < 2 ^ n → gm_r μ' 90 t = nI (nx n c D N t)) ∧ SM n c D μ' := fun μ' o => ⟨fun t ht => by rw [o.2.2 _ _ (by decide)]; exact g2 t ht, fun t ht => by rw [o.2.2 _ _ (by decide)]; exact c2 t ht, (hS2.fr (o.fr (by decide)) (by decide)).2.1⟩
    have hgf : ∀ t K, K ≤ n → fmn (fun k => if t.testBit k = true ∧ mA n c D N (cl t k) k = true ∧ 0 < wy (mA n c D N) n (cl t k) then hg (mA n c D N) n (mO n c) (cl t k) else 1000000) K ≤ 1000000 := fun t K _ => by
      induction K with
      | zero => exact Nat.le_refl _
      | succ K ih => unfold fmn; have := ih (by omega); omega
    have l37 : ∀ S, S ≤ s → (∀ μ', Only 91 μ2 μ' → (∀ t, t < S + 1 → gm_r μ' 91 t = nI (hg (mA n c D N) n (mO n c) t)) → hX10_atOnce_18 G l (fun r2 μ2 => (if 0 < wy (mA n c D N) n s then nI (hg (mA n c D N) n (mO n c) s) else -1) = r2 ∧ Fr [0, 8] μ μ2 ∧ SE n c D N μ2) (nI s) (nI (S + 1)) μ') → ∀ d K μ', K + d = n → Only 91 μ2 μ' → (∀ t, t < S → gm_r μ' 91 t = nI (hg (mA n c D N) n (mO n c) t)) → hX10_atOnce_37 G l (fun r2 μ2 => (if 0 < wy (mA n c D N) n s then nI (hg (mA n c D N) n (mO n c) s) else -1) = r2 ∧ Fr [0, 8] μ μ2 ∧ SE n c D N μ2) (nI s) (nI S) (nI (if S = 0 then 0 else fmn (fun k => if S.testBit k = true ∧ mA n c D N (cl S k) k = true ∧ 0 < wy (mA n c D N) n (cl S k) then hg (mA n c D N) n (mO n c) (cl S k) else 1000000) K)) (nI K) μ' := by
      intro S hSs hnext d
      have hS1024 : S < 1024 := by omega
      induction d with
      | zero =>
        intro K μ' hK' k1 k2
        obtain ⟨q89, q90, s1⟩ := gf μ' k1
        have hop := opN_lt hK S
        have hO := mO_le n c S
        have fb := hgf S K (by omega)
        refine eX10_atOnce_37 ⟨fun _ => t_open s1 hn (by omega) (t_ones (by unfold opN at hop; omega) ?_), fun q => absurd (by rw [s1.1, show K = n by omega]; exact Int32.le_refl _) q⟩
        have eO : pc (sd (un c 4 S n) (un c 5 S n)) = mO n c S := rfl
        rw [eO, nI_clamp (by omega), nI_1, nI_leI (by split <;> omega) (by omega)]
        have fin : ∀ v : Nat, v = hg (mA n c D N) n (mO n c) S → vp_in (nI S) 1024 ∧ hX10_atOnce_18 G l (fun r2 μ2 => (if 0 < wy (mA n c D N) n s then nI (hg (mA n c D N) n (mO n c) s) else -1) = r2 ∧ Fr [0, 8] μ μ2 ∧ SE n c D N μ2) (nI s) (nI (S + 1)) (gm_w μ' 91 S (nI v)) := fun v hv => by
          refine ⟨vp_in_nI (by omega) (by decide), hnext _ k1.w (fun t ht => ?_)⟩
          rw [gm_rw]
          by_cases e : t = S
          · rw [if_pos ⟨rfl, e⟩, hv, e]
          · rw [if_neg (fun z => e z.2)]; exact k2 t (by omega)
        by_cases h0 : S = 0
        · subst h0
          rw [if_pos rfl]
          exact ⟨fun _ => fin _ rfl, fun q => absurd (Nat.zero_le _) q⟩
        · rw [if_neg h0]
          have hr := hg_rec (A := mA n c D N) (O := mO n c) hn hS1024 h0
          rw [show K = n by omega] at fb ⊢
          exact ⟨fun q => fin _ (by rw [hr, Nat.max_eq_right q]), fun q => fin _ (by rw [hr, Nat.max_eq_left (by omega)])⟩
      | succ d ih =>
        intro K μ' hK' k1 k2
        obtain ⟨q89, q90, s1⟩ := gf μ' k1
        have fb := hgf S K (by omega)
        have hcl : cl S K < 2 ^ n := Nat.lt_of_le_of_lt (sd_le _ _) (by omega)
        have hnx := lt1024 hn (nx_lt n c D N (cl S K))
        refine eX10_atOnce_37 ⟨fun q => absurd (by rw [s1.1] at q; exact q) (nI_ge (by omega) (by omega)), fun _ v18 e18 => ?_⟩
        rw [nI_bit1 (by omega), nI_sd] at e18
        have e18' : v18 = nI (cl S K) := e18
        subst e18'
        rw [nI_clamp (by omega)]
        -- what the next least is
        have no : ¬ (S.testBit K = true ∧ mA n c D N (cl S K) K = true ∧ 0 < wy (mA n c D N) n (cl S K)) → hX10_atOnce_95 G l (fun r2 μ2 => (if 0 < wy (mA n c D N) n s then nI (hg (mA n c D N) n (mO n c) s) else -1) = r2 ∧ Fr [0, 8] μ μ2 ∧ SE n c D N μ2) (nI s) (nI S) (nI (if S = 0 then 0 else fmn (fun k => if S.testBit k = true ∧ mA n c D N (cl S k) k = true ∧ 0 < wy (mA n c D N) n (cl S k) then hg (mA n c D N) n (mO n c) (cl S k) else 1000000) K)) (nI K) (nI (cl S K)) 0 μ' := fun hno => by
          refine eX10_atOnce_95 ⟨fun _ => ?_, fun q => absurd rfl q⟩
          have := ih (K + 1) μ' (by omega) k1 k2
          have e : fmn (fun k => if S.testBit k = true ∧ mA n c D N (cl S k) k = true ∧ 0 < wy (mA n c D N) n (cl S k) then hg (mA n c D N) n (mO n c) (cl S k) else 1000000) (K + 1) = fmn (fun k => if S.testBit k = true ∧ mA n c D N (cl S k) k = true ∧ 0 < wy (mA n c D N) n (cl S k) then hg (mA n c D N) n (mO n c) (cl S k) else 1000000) K := by
            rw [show fmn (fun k => if S.testBit k = true ∧ mA n c D N (cl S k) k = true ∧ 0 < wy (mA n c D N) n (cl S k) then hg (mA n c D N) n (mO n c) (cl S k) else 1000000) (K + 1) = min (fmn (fun k => if S.testBit k = true ∧ mA n c D N (cl S k) k = true ∧ 0 < wy (mA n c D N) n (cl S k) then hg (mA n c D N) n (mO n c) (cl S k) else 1000000) K) (if S.testBit K = true ∧ mA n c D N (cl S K) K = true ∧ 0 < wy (mA n c D N) n (cl S K) then hg (mA n c D N) n (mO n c) (cl S K) else 1000000) from rfl, if_neg hno, Nat.min_eq_left fb]
          rw [e] at this
          rw [nI_1]
          exact this
        refine t_has (by omega) (by omega) ⟨fun q => ?_, fun q => ⟨vp_in_nI (by omega) (by decide), ?_⟩⟩
        · rw [(if_has rfl).1] at q
          exact no (fun z => absurd (z.1.symm.trans q) (by decide))
        · rw [(if_has rfl).2] at q
          have hlt := cl_lt hS1024 q
          have hS0 : S ≠ 0 := by omega
          rw [q89 (cl S K) hcl, q90 (cl S K) hcl]
          refine ⟨fun q2 => no (fun z => by rw [if_pos z.2.2] at q2; exact absurd q2 (by decide)), fun q2 => t_has (by omega) (by omega) ⟨fun q3 => ?_, fun q3 => ?_⟩⟩
          · rw [(if_has rfl).1, nx_bit (by omega)] at q3
            exact no (fun z => absurd (z.2.1.symm.trans q3) (by decide))
          · rw [(if_has rfl).2, nx_bit (by omega)] at q3
            have hw : 0 < wy (mA n c D N) n (cl S K) := by
              apply Decidable.byContradiction
              intro y
              rw [if_neg y] at q2
              exact q2 rfl
            have hgl := hg_le hn hA (mO_le n c) _ (cl S K) (by omega) rfl hw
            refine eX10_atOnce_95 ⟨fun z => absurd z (by decide), fun _ => ⟨vp_in_nI (by omega) (by decide), ?_⟩⟩
            have := ih (K + 1) μ' (by omega) k1 k2
            rw [show fmn (fun k => if S.testBit k = true ∧ mA n c D N (cl S k) k = true ∧ 0 < wy (mA n c D N) n (cl S k) then hg (mA n c D N) n (mO n c) (cl S k) else 1000000) (K + 1) = min (fmn (fun k => if S.testBit k = true ∧ mA n c D N (cl S k) k = true ∧ 0 < wy (mA n c D N) n (cl S k) then hg (mA n c D N) n (mO n c) (cl S k) else 1000000) K) (if S.testBit K = true ∧ mA n c D N (cl S K) K = true ∧ 0 < wy (mA n c D N) n (cl S K) then hg (mA n c D N) n (mO n c) (cl S K) else 1000000) from rfl, if_pos (show S.testBit K = true ∧ mA n c D N (cl S K) K = true ∧ 0 < wy (mA n c D N) n (cl S K) from ⟨q, q3, hw⟩), if_neg hS0] at this
            rw [nI_clamp (by omega), k2 (cl S K) hlt, if_neg hS0, nI_leI (by omega) (by omega), nI_1]
            refine ⟨fun z => ?_, fun z => ?_⟩
            · rw [Nat.min_eq_left z] at this; exact this
            · rw [Nat.min_eq_right (by omega)] at this; exact this
    have l18 : ∀ d S μ', S + d = s + 1 → Only 91 μ2 μ' → (∀ t, t < S → gm_r μ' 91 t = nI (hg (mA n c D N) n (mO n c) t)) → hX10_atOnce_18 G l (fun r2 μ2 => (if 0 < wy (mA n c D N) n s then nI (hg (mA n c D N) n (mO n c) s) else -1) = r2 ∧ Fr [0, 8] μ μ2 ∧ SE n c D N μ2) (nI s) (nI S) μ' := by
      intro d
      induction d with
      | zero =>
        intro S μ' hSd k1 k2
        obtain ⟨q89, q90, s1⟩ := gf μ' k1
        have f3 : Fr [0] μ1 μ' := f2.trans (k1.fr (by decide))
        refine eX10_atOnce_18 ⟨fun _ => ⟨vp_in_nI (by omega) (by decide), ?_⟩, fun q => absurd (nI_lt (by omega) (by omega)) q⟩
        rw [nI_clamp (by omega), q89 s hs, k2 s (by omega)]
        have tail : Fr [0, 8] μ μ' ∧ SE n c D N μ' := ⟨(f1.mono (by decide)).trans (f3.mono (by decide)), e1.fr f3 (by decide) (by decide)⟩
        by_cases h : 0 < wy (mA n c D N) n s
        · rw [if_pos h, if_pos h]
          exact ⟨fun q => absurd q (by decide), fun _ => ⟨rfl, tail⟩⟩
        · rw [if_neg h, if_neg h]
          exact ⟨fun _ => ⟨rfl, tail⟩, fun q => absurd rfl q⟩
      | succ d ih =>
        intro S μ' hSd k1 k2
        refine eX10_atOnce_18 ⟨fun q => absurd q (nI_nlt (by omega) (by omega)), fun _ => ⟨fun q => ?_, fun q => ?_⟩⟩
        · rw [nI_z (by omega)] at q
          have := l37 S (by omega) (fun μ3 o3 c3 => ih (S + 1) μ3 (by omega) o3 c3) n 0 μ' (by omega) k1 k2
          rw [if_neg q] at this
          exact this
        · rw [nI_z (by omega)] at q
          have := l37 S (by omega) (fun μ3 o3 c3 => ih (S + 1) μ3 (by omega) o3 c3) n 0 μ' (by omega) k1 k2
          rw [if_pos q] at this
          exact this
    exact l18 (s + 1) 0 μ2 (by omega) Only.rfl (fun t ht => absurd ht (Nat.not_lt_zero t))
  · exact eX10_atOnce (t_noSet hS.2.1 hn (fun s' hs' e' => absurd ⟨s', hs', e'⟩ hno) (fun _ => ⟨fun q => absurd q (by decide), fun _ => ⟨rfl, Fr.rfl, hE⟩⟩))
/-- the SCENES of all GOOD SETS below S that have not k -/
def alo (A : Nat → Nat → Bool) (n k : Nat) : Nat → Nat | 0 => 0 | S + 1 => if 0 < wy A n S ∧ S.testBit k = false then alo A n k S ||| S else alo A n k S
theorem pr_along (hS : ST n c D μ) (hV : NV N μ) (hE : SE n c D N μ) (a1 : Int32) : qX9_along G l a1 μ (fun r1 μ1 => qX10_along G l a1 μ1 (fun r2 μ2 => r1 = r2 ∧ Fr [0, 8] μ μ2 ∧ SE n c D N μ2)) := by
  have hK := hS.2.2
  have hn := hK.1
  have hA := mA_no n c D N
  have hp : 2 ^ n ≤ 1024 := Nat.pow_le_pow_right (by decide) hn
  have h2 := Nat.two_pow_pos n
  refine eX9_along (t9_isScene hS.1 hn (fun k hk e => ⟨fun q => absurd q (by decide), fun _ => ?_⟩) (fun hno => ⟨fun _ => ?_, fun q => absurd rfl q⟩))
  · subst e
    refine t9_fresh hS hV hE (fun μ1 f1 v1 e1 => eX6_takenAlong ?_)
    have hS1 := hS.fr f1 (by decide)
    have hV1 := hV.fr f1 (by decide)
    refine down (H := fun j => hX6_takenAlong_4 G l _ (nI k) (nI (alo (mA n c D N) n k j)) (nI j) μ1) (n := 2 ^ n) ?_ ?_
    · refine eX6_takenAlong_4 ⟨fun _ => t7_all hS1.1 hn ?_, fun q => absurd (by rw [v1.1.1]; exact Int32.le_refl _) q⟩
      refine eX10_along (t_noScene hS1.2.1 hn (fun k' hk' e' => ⟨fun _ => m_good hS1 hV1 (fun μ2 f2 _ c2 g2 => ?_), fun q => absurd rfl q⟩) (fun q => absurd ⟨k, hk, rfl⟩ q))
      have hS2 := hS1.fr f2 (by decide)
      refine down (H := fun j => hX10_along_20 G l _ (nI k) (nI (alo (mA n c D N) n k j)) (nI j) μ2) (n := 2 ^ n) ?_ ?_
      · exact eX10_along_20 (t_all hS2.2.1 hn ⟨fun _ => t_all hS2.2.1 hn ⟨rfl, (f1.mono (by decide)).trans (f2.mono (by decide)), e1.fr f2 (by decide) (by decide)⟩, fun q => absurd (nI_lt (by omega) (by omega)) q⟩)
      · intro j hj ih
        have e : alo (mA n c D N) n k (j + 1) = if 0 < wy (mA n c D N) n j ∧ j.testBit k = false then alo (mA n c D N) n k j ||| j else alo (mA n c D N) n k j := rfl
        rw [e] at ih
        refine eX10_along_20 (t_all hS2.2.1 hn ⟨fun q => absurd q (nI_nlt (by omega) (by omega)), fun _ => ⟨vp_in_nI (by omega) (by decide), ?_⟩⟩)
        rw [nI_clamp (by omega), g2 j hj, Int32.or_zero, nI_1, nI_or]
        by_cases h : 0 < wy (mA n c D N) n j
        · rw [if_pos h]
          refine ⟨fun q => absurd q (by decide), fun _ => t_has (by omega) (by omega) ⟨fun q => ?_, fun q => ?_⟩⟩
          · rw [(if_has rfl).2] at q
            rw [if_neg (fun z => absurd (z.2.symm.trans q) (by decide))] at ih
            exact ih
          · rw [(if_has rfl).1] at q
            rw [if_pos ⟨h, q⟩] at ih
            exact ih
        · rw [if_neg h]
          rw [if_neg (fun z => h z.1)] at ih
          exact ⟨fun _ => ih, fun q => absurd rfl q⟩
    · intro j hj ih
      have hl := wy_le hn hA j
      have e : alo (mA n c D N) n k (j + 1) = if 0 < wy (mA n c D N) n j ∧ j.testBit k = false then alo (mA n c D N) n k j ||| j else alo (mA n c D N) n k j := rfl
      rw [e] at ih
      refine eX6_takenAlong_4 ⟨fun q => absurd (by rw [v1.1.1] at q; exact q) (nI_ge hj (by omega)), fun _ => ⟨vp_in_nI (by omega) (by decide), ?_⟩⟩
      rw [nI_clamp (by omega), (v1.2.1 j hj).1, nI_has0 (by omega) (by omega), nI_or, nI_1, show nI (wy (mA n c D N) n j) ≤ 0 ↔ wy (mA n c D N) n j ≤ 0 from nI_leI (b := 0) (by omega) (by decide)]
      refine ⟨fun q => ?_, fun q => ⟨fun q2 => ?_, fun q2 => ?_⟩⟩
      · rw [if_neg (by omega)] at ih; exact ih
      · rw [if_neg (fun z => q2 z.2)] at ih; exact ih
      · rw [if_pos ⟨by omega, q2⟩] at ih; exact ih
  · exact eX10_along (t_noScene hS.2.1 hn (fun k' hk' e' => absurd ⟨k', hk', e'⟩ hno) (fun _ => ⟨fun q => absurd q (by decide), fun _ => ⟨rfl, Fr.rfl, hE⟩⟩))
end ORD
