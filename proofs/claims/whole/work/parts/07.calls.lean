/-- what the tables say of the method Z, n its parameters -/
def gMc (Z : gM) (n : Nat) : Prop := Cond.code Z.y Z.cc Z.nL Z.ret ∈ g_tbl ∧ Cond.initialized Z.y.cls ∈ g_tbl ∧ (Z.y.cls ≠ "java/lang/invoke/MethodHandle" ∧ Z.y.cls ≠ "java/lang/invoke/VarHandle" ∧ (parseMethodDescriptor Z.y.desc).map (fun d => d.parameters.length) = some n)
def gLV (own : String) (idx : Nat) (Z : gM) : Prop := Cond.methodLink own idx Z.y ∈ g_tbl ∧ Cond.instanceMethod Z.y ∈ g_tbl ∧ Cond.selects Z.y.cls Z.y Z.y ∈ g_tbl
def gLS (own : String) (idx : Nat) (Z : gM) : Prop := Cond.methodLink own idx Z.y ∈ g_tbl ∧ Cond.static Z.y ∈ g_tbl
def gI (P : Int32 → Mem → Prop) : Option Value → Mem → Prop := fun r μ => ∃ x, r = some (.int x) ∧ P x μ
def gL (P : Int64 → Mem → Prop) : Option Value → Mem → Prop := fun r μ => ∃ x, r = some (.long x) ∧ P x μ
def gV (P : Mem → Prop) : Option Value → Mem → Prop := fun r μ => r = none ∧ P μ
def gR (G : gC) (o : Nat) (P : Mem → Prop) : Option Value → Mem → Prop := fun r μ => r = some (.ref (ga G o)) ∧ P μ
section GOC
variable {G : gC} {l : Launch} {M : gM} {R : Room} {Q : List Frame → Array Value → State → State → Prop} {k1 k2 pc : Nat} {μ : Mem} {lv : List (Nat × Value)} {st : List Value}
theorem g_blind (av : List Value) : FrameBlind (g_P G av μ) := fun a U g mk q => ⟨q.1, q.2.1, va_K.moved (u := U) (U := U.calling g mk a) (Vm.Alike.refl U.vm) q.2.2.1, gz_move (s := U) (U := U.calling g mk a) q.2.2.2 (State.WarmedH.refl U) (fun _ _ _ => rfl)⟩
theorem g_pre {s : State} {H : Heap} {locs : List Loc} {av : List Value} (hP : gw G μ H) (hK : va_K G.1 vwCl (gt G) s) (hZ : gz G s s.heap) (hS : va_S (gA G) s.heap H locs) : ∀ U : State, U.heap = H → s.WarmedH U.vm → g_P G av μ av.toArray U := fun U hU hW => ⟨rfl, by rw [hU]; exact hP, va_K.moved hW.alike hK, gz_move hZ hW (fun a h1 h2 => by rw [hU]; exact hS.2.1 a h1 h2)⟩
theorem g_back {p : Program} {e : Env} {s : State} {m : MethodId} {args : Array Value} {below : List Frame} {meth : Method} {c : Code} {H : Heap} {locs : List Loc} {ls : Array Slot} {Z : gM} {av : List Value} {rest : List Value} {len : Nat} (cx : g_cx G M p s m args meth c) (hS : va_S (gA G) s.heap H locs) (hl : lv_has ls M.nL lv) {a0 : Array Value} {P' : Option Value → Mem → Prop} (hP' : ∀ r μ', P' r μ' → Gg G l M R Q (k1 + Z.mc) (k2 + Z.ms) (pc + 3) (gw G μ') lv (r.toList ++ rest))
    (hr : va_Run p l e R s m args below meth c H locs k1 k2 Z.mc Z.ms (F0 m pc ls st) rest (g_Q G P' a0) (gA G)) : W p l e R s m args below meth c H locs k1 k2 (Q below args s) (F0 m pc ls st) := by
  intro T hT X
  obtain ⟨v, st₀, t, T', L, h0, X', hL, e1, e2, ⟨⟨r, μ', hv, hPost, hw'⟩, hz, hkk⟩, stp⟩ := hr T hT X
  cases hv
  rw [h0] at hz hkk
  have hGo := hP' v μ' hPost p e s m args below meth c cx t.heap (locs ++ L) ls hw' ⟨Nat.le_trans hS.1 hz, fun q h1 h2 => by rw [hkk q (Nat.lt_of_lt_of_le h1 hS.1) h2]; exact hS.2.1 q h1 h2, fun q hq => by
      rcases List.mem_append.mp hq with h | h
      · exact hS.2.2 q h
      · exact hL q h⟩ hl
  obtain ⟨t2, a1, b1⟩ := hGo T' e1 X'
  exact ⟨t2, stp t2 a1, b1⟩
theorem go_callV {Z : gM} {idx n o ci : Nat} {As rest : List Value} {fs : List Value} {T : u_T} {N : Nat} (hd : decode M.cc pc = .ok (.invokevirtual idx, 3)) (hL : gLV M.y.cls idx Z) (hM : gMc Z n) (hn : As.length = n) (hr : Z.d + 1 ≤ R.frames ∧ 8 + (Z.nL + 11) + 40 * Z.d ≤ R.locals) (hw : (rest.map fun v => v.category).sum ≤ 8) (ho : 106 ≤ μ.1 → o < μ.1) (he : gs G o (μ.2.1 o) μ.2.2 = .inr (ci, fs)) (hc : vwCl[ci]? = some (Z.y.cls, T, N)) (hf : k1 + Z.mc ≤ R.cells ∧ k2 + Z.ms ≤ R.slots) (hst : As.reverse ++ .ref (ga G o) :: rest = st) {P' : Option Value → Mem → Prop} (hP' : ∀ r μ', P' r μ' → Gg G l M R Q (k1 + Z.mc) (k2 + Z.ms) (pc + 3) (gw G μ') lv (r.toList ++ rest)) (k : Sp G l Z (.ref (ga G o) :: As) μ P') : Gg G l M R Q k1 k2 pc (gw G μ) lv st := by
  subst hst
  intro p e s m args below meth c cx H locs ls hP hS hl
  have hts := cx.2.2.2.2.2.1
  have hK := cx.2.2.2.2.2.2.2.1
  have hp := gw_at hP (ho hP.1.1)
  rw [he] at hp
  refine g_back (av := .ref (ga G o) :: As) (len := 3) cx hS hl hP' (va_runV (C := Z.y.cls) (b := ga G o) (As := As) (rest := rest) ⟨cx.1, cx.2.1, cx.2.2.2.1, cx.2.2.2.2.1, hts⟩ k ⟨callB_of n hts (g_goodIn hM.1) rfl rfl rfl (hts _ hM.2.1) (hts _ hL.1) hM.2.2 hr, hts _ hL.2.1, hts _ hL.2.2⟩ ⟨g_blind _, va_recv hK hp hc (q0 := 0) rfl, g_pre hP hK cx.2.2.2.2.2.2.2.2.1 hS⟩ rfl hn hl.1 rfl (lv_room hw) hd hf)
theorem go_callVN {Z : gM} {idx n o ci : Nat} {As rest : List Value} {fs : List Value} {T : u_T} {N : Nat} {host : String} (hd : decode M.cc pc = .ok (.invokevirtual idx, 3)) (hL : ∀ s H, gz G s H → va_Nw (.methodLinkNest M.y.cls idx Z.y host) s) (hL2 : Cond.instanceMethod Z.y ∈ g_tbl ∧ Cond.selects Z.y.cls Z.y Z.y ∈ g_tbl) (hM : gMc Z n) (hn : As.length = n) (hr : Z.d + 1 ≤ R.frames ∧ 8 + (Z.nL + 11) + 40 * Z.d ≤ R.locals) (hw : (rest.map fun v => v.category).sum ≤ 8) (ho : 106 ≤ μ.1 → o < μ.1) (he : gs G o (μ.2.1 o) μ.2.2 = .inr (ci, fs)) (hc : vwCl[ci]? = some (Z.y.cls, T, N)) (hf : k1 + Z.mc ≤ R.cells ∧ k2 + Z.ms ≤ R.slots) (hst : As.reverse ++ .ref (ga G o) :: rest = st) {P' : Option Value → Mem → Prop} (hP' : ∀ r μ', P' r μ' → Gg G l M R Q (k1 + Z.mc) (k2 + Z.ms) (pc + 3) (gw G μ') lv (r.toList ++ rest)) (k : Sp G l Z (.ref (ga G o) :: As) μ P') : Gg G l M R Q k1 k2 pc (gw G μ) lv st := by
  subst hst
  intro p e s m args below meth c cx H locs ls hP hS hl
  have hts := cx.2.2.2.2.2.1
  have hK := cx.2.2.2.2.2.2.2.1
  have hp := gw_at hP (ho hP.1.1)
  rw [he] at hp
  refine g_back (av := .ref (ga G o) :: As) (len := 3) cx hS hl hP' (va_runVN (C := Z.y.cls) (b := ga G o) (As := As) (rest := rest) ⟨cx.1, cx.2.1, cx.2.2.2.1, cx.2.2.2.2.1, hts⟩ k ⟨va_cnB n hts (g_goodIn hM.1) rfl rfl rfl (hL s _ cx.2.2.2.2.2.2.2.2.1) (hts _ hM.2.1) hM.2.2 hr, hts _ hL2.1, hts _ hL2.2⟩ ⟨g_blind _, va_recv hK hp hc (q0 := 0) rfl, g_pre hP hK cx.2.2.2.2.2.2.2.2.1 hS⟩ rfl hn hl.1 rfl (lv_room hw) hd hf)
theorem go_callS {Z : gM} {idx n : Nat} {As rest : List Value} (hd : decode M.cc pc = .ok (.invokestatic idx, 3)) (hL : gLS M.y.cls idx Z) (hM : gMc Z n) (hn : As.length = n) (hr : Z.d + 1 ≤ R.frames ∧ 8 + (Z.nL + 11) + 40 * Z.d ≤ R.locals) (hw : (rest.map fun v => v.category).sum ≤ 8) (hf : k1 + Z.mc ≤ R.cells ∧ k2 + Z.ms ≤ R.slots) (hst : As.reverse ++ rest = st) {P' : Option Value → Mem → Prop} (hP' : ∀ r μ', P' r μ' → Gg G l M R Q (k1 + Z.mc) (k2 + Z.ms) (pc + 3) (gw G μ') lv (r.toList ++ rest)) (k : Sp G l Z As μ P') : Gg G l M R Q k1 k2 pc (gw G μ) lv st := by
  subst hst
  intro p e s m args below meth c cx H locs ls hP hS hl
  have hts := cx.2.2.2.2.2.1
  have hK := cx.2.2.2.2.2.2.2.1
  refine g_back (av := As) (len := 3) cx hS hl hP' (va_runS (As := As) (rest := rest) ⟨cx.1, cx.2.1, cx.2.2.2.1, cx.2.2.2.2.1, hts⟩ k ⟨callB_of n hts (g_goodIn hM.1) rfl rfl rfl (hts _ hM.2.1) (hts _ hL.1) hM.2.2 hr, hts _ hL.2⟩ ⟨g_blind _, g_pre hP hK cx.2.2.2.2.2.2.2.2.1 hS⟩ rfl hn hl.1 rfl (lv_room hw) hd hf)
theorem go_gets {idx : Nat} {C n d : String} {v : Value} (hd : decode M.cc pc = .ok (.getstatic idx, 3)) (hZ : ∀ s, gz G s s.heap → va_Z C n d v (gA G) s s.heap) (hlink : Cond.fieldLink M.y.cls idx C n d ∈ g_tbl) (kk : Gg G l M R Q k1 k2 (pc + 3) (gw G μ) lv (v :: st)) : Gg G l M R Q k1 k2 pc (gw G μ) lv st := by
  intro p e s m args below meth c cx H locs ls hP hS hl
  exact va_gets cx.1 cx.2.1 (hZ s cx.2.2.2.2.2.2.2.2.1) hS cx.2.2.2.2.1 (cx.2.2.2.2.2.1 _ hlink) (fun x hx => hx) hd (kk p e s m args below meth c cx H locs ls hP hS hl)
theorem go_tald {t N : Nat} {f : Nat → Int32} {i : Int32} (hd : decode M.cc pc = .ok (.iaload, 1)) (hT : ∀ s, gz G s s.heap → va_T .int t N (fun j => .int (f j)) (gA G) s s.heap) (hin : vp_in i N) (kk : Gg G l M R Q k1 k2 (pc + 1) (gw G μ) lv (.int (f i.toNatClampNeg) :: st)) : Gg G l M R Q k1 k2 pc (gw G μ) lv (.int i :: .ref t :: st) := by
  intro p e s m args below meth c cx H locs ls hP hS hl
  obtain ⟨cell, h1, h2, h3, h4, h5, h6, h7⟩ := hT s cx.2.2.2.2.2.2.2.2.1
  have hlt : i.toNatClampNeg < N := Nat.not_le.mp fun q => hin (Or.inr q)
  exact W.iald (v := .int (f i.toNatClampNeg)) cx.1 cx.2.1 (by rw [hS.2.1 t (Array.getElem?_eq_some_iff.mp h1).1 h7]; exact h1) h2 h3 (fun q => hin (q.elim Or.inl (fun q => Or.inr (Nat.le_trans h4 q)))) (h6 _ hlt) rfl rfl hd (kk p e s m args below meth c cx H locs ls hP hS hl)
theorem go_copy {idx a o n0 n1 : Nat} {n : Int32} {nn : Nat} (hd : decode M.cc pc = .ok (.invokestatic idx, 3)) (hlink : Cond.methodLink M.y.cls idx arraycopyName ∈ g_tbl) (hnat : Cond.native arraycopyName ∈ g_tbl) (hstat : Cond.static arraycopyName ∈ g_tbl) (hini : Cond.initialized "java/lang/System" ∈ g_tbl) (ho : 106 ≤ μ.1 → a < μ.1 ∧ o < μ.1) (ha : ∀ r q, gs G a r q = .inl (G.2.2.1 0, n0, .inl r)) (he : ∀ r q, gs G o r q = .inl (G.2.2.1 0, n1, .inl r)) (hne : a ≠ o) (hn : n.toNatClampNeg = nn) (hn0 : ¬ n < 0) (h4 : nn ≤ n0) (h5 : nn ≤ n1) (hfr : 1 ≤ R.frames) (hlc : 40 ≤ R.locals) (kk : Gg G l M R Q k1 k2 (pc + 3) (gw G (gm_row μ o (va_cpy (μ.2.1 a) (μ.2.1 o) 0 0 nn))) lv []) : Gg G l M R Q k1 k2 pc (gw G μ) lv [.int n, .int 0, .ref (ga G o), .int 0, .ref (ga G a)] := by
  intro p e s m args below meth c cx H locs ls hP hS hl
  subst hn
  have hts := cx.2.2.2.2.2.1
  have hK := cx.2.2.2.2.2.2.2.1
  intro T hT X
  have hc0 := hP.2 a (ho hP.1.1).1
  have hc1 := hP.2 o (ho hP.1.1).2
  rw [ha] at hc0
  rw [he] at hc1
  have hc0 : H[ga G a]? = some (vp_cell (G.2.2.1 0) (n0, .inl (μ.2.1 a))) := hc0
  have hc1 : H[ga G o]? = some (vp_cell (G.2.2.1 0) (n1, .inl (μ.2.1 o))) := hc1
  have hz0 : (0 : Int32).toNatClampNeg = 0 := rfl
  have hz1 : (0 : Int32).toInt = 0 := rfl
  have hnn : n.toInt = (n.toNatClampNeg : Int) := by
    have hz0 : (0 : Int) ≤ n.toInt := by
      have := Int32.not_lt.mp hn0
      simpa using Int32.le_iff_toInt_le.mp this
    show n.toInt = ((n.toInt.toNat : Nat) : Int)
    omega
  have hroom : 2 * 0 + (([] : List Value).map fun v => v.category).sum + (nativeFrameWords "java/lang/System" "arraycopy" 5 + 11) ≤ R.locals := by
    have h1 : nativeFrameWords "java/lang/System" "arraycopy" 5 + 11 ≤ 40 := by decide +kernel
    have h0 : ((([] : List Value).map fun v => v.category).sum) = 0 := rfl
    omega
  obtain ⟨-, q0, hk0, cm0, hkk0⟩ := (hK.2 0 _ rfl).1 n0 (fun j => .int (μ.2.1 a j))
  obtain ⟨-, q1, hk1, cm1, hkk1⟩ := (hK.2 0 _ rfl).1 n1 (fun j => .int (μ.2.1 o j))
  obtain ⟨vm', X', step⟩ := X.arraycopy cx.1 cx.2.2.2.2.1 (hts _ hlink) (hts _ hnat) (hts _ hstat) (hts _ hini) (src := ga G a) (dst := ga G o) (cs := vp_cell (G.2.2.1 0) (n0, .inl (μ.2.1 a))) (cd := vp_cell (G.2.2.1 0) (n1, .inl (μ.2.1 o))) (srcPos := 0) (destPos := 0) (n := n) (by rw [hT]; exact hc0) (by rw [hT]; exact hc1)
    (fun _ h => by cases h) (fun _ h => by cases h) (fun h => by cases h) (fun h => by cases h) hk0 hk1 hkk0 hkk1 (by simp [refKind]) (by decide) (by decide) hn0
    (by rw [hz1, hnn]; show ¬ _ > ((arrV _ n0 (fun j => .int (μ.2.1 a j))).slots.size : Int); rw [arrV_size]; omega)
    (by rw [hz1, hnn]; show ¬ _ > ((arrV _ n1 (fun j => .int (μ.2.1 o j))).slots.size : Int); rw [arrV_size]; omega)
    (fun vm₁ _ i hi => by
      have e : (vp_cell (G.2.2.1 0) (n0, .inl (μ.2.1 a))).slots.getD ((0 : Int32).toNatClampNeg + i) .null = .int (μ.2.1 a ((0 : Int32).toNatClampNeg + i)) := by
        show (arrV _ n0 (fun j => .int (μ.2.1 a j))).slots.getD _ _ = _
        rw [Array.getD_eq_getD_getElem?, arrV_read _ _ (by rw [hz0]; omega)]
        rfl
      refine ⟨?_, ?_⟩
      · rw [e]
        rfl
      · rw [e]
        exact trivial)
    (g := F0 m pc ls [.int n, .int 0, .ref (ga G o), .int 0, .ref (ga G a)]) rfl (by rw [cx.2.2.2.1]; exact hl.1) (rest := []) rfl (by rw [cx.2.1]; exact hd) hfr hroom
  have e1 : copied (vp_cell (G.2.2.1 0) (n0, .inl (μ.2.1 a))) (vp_cell (G.2.2.1 0) (n1, .inl (μ.2.1 o))) 0 0 n = vp_cell (G.2.2.1 0) (n1, .inl (va_cpy (μ.2.1 a) (μ.2.1 o) 0 0 n.toNatClampNeg)) := va_copied (fun z => .int z) (G.2.2.1 0) (G.2.2.1 0) (μ.2.1 a) (μ.2.1 o) (by rw [hz0]; omega)
  rw [e1] at X' step
  have hlt : ga G o < H.size := (Array.getElem?_eq_some_iff.mp hc1).1
  have hheap : ((T.setVm vm').setCell (ga G o) (vp_cell (G.2.2.1 0) (n1, .inl (va_cpy (μ.2.1 a) (μ.2.1 o) 0 0 n.toNatClampNeg)))).heap = H.setIfInBounds (ga G o) (vp_cell (G.2.2.1 0) (n1, .inl (va_cpy (μ.2.1 a) (μ.2.1 o) 0 0 n.toNatClampNeg))) := by rw [← hT]; rfl
  have oq : ∀ q : Nat, q ≠ ga G o → (H.setIfInBounds (ga G o) (vp_cell (G.2.2.1 0) (n1, .inl (va_cpy (μ.2.1 a) (μ.2.1 o) 0 0 n.toNatClampNeg))))[q]? = H[q]? := fun q hq => by simp [Array.getElem?_setIfInBounds, Ne.symm hq]
  have hw : gw G (gm_row μ o (va_cpy (μ.2.1 a) (μ.2.1 o) 0 0 n.toNatClampNeg)) (H.setIfInBounds (ga G o) (vp_cell (G.2.2.1 0) (n1, .inl (va_cpy (μ.2.1 a) (μ.2.1 o) 0 0 n.toNatClampNeg)))) := by
    refine gw_row hP (by simp) oq ?_
    rw [he]
    show (H.setIfInBounds (ga G o) _)[ga G o]? = some _
    simp [Array.getElem?_setIfInBounds, hlt]
  obtain ⟨t, a1, b1⟩ := kk p e s m args below meth c cx _ _ ls hw ⟨by simp; exact hS.1, fun q g1 g2 => by
      rw [oq q (fun e => g2 (by rw [e]; exact Nat.le_add_right _ _))]
      exact hS.2.1 q g1 g2, fun q hq => by
      rcases List.mem_append.mp hq with h | h
      · exact hS.2.2 q h
      · obtain ⟨z, -, hz⟩ := List.mem_map.mp h
        rw [← hz]
        exact Nat.le_add_right _ _⟩ hl _ hheap X'
  exact ⟨t, step t a1, b1⟩
end GOC
section GOX
variable {G : gC} {l : Launch} {M : gM} {R : Room} {Q : List Frame → Array Value → State → State → Prop} {k1 k2 pc : Nat} {μ : Mem} {lv : List (Nat × Value)} {st rest : List Value}
theorem gI_go {P0 : Int32 → Mem → Prop} (h : ∀ x μ', P0 x μ' → Gg G l M R Q k1 k2 pc (gw G μ') lv (.int x :: rest)) : ∀ r μ', gI P0 r μ' → Gg G l M R Q k1 k2 pc (gw G μ') lv (r.toList ++ rest) := by rintro r μ' ⟨x, rfl, hx⟩; exact h x μ' hx
theorem gL_go {P0 : Int64 → Mem → Prop} (h : ∀ x μ', P0 x μ' → Gg G l M R Q k1 k2 pc (gw G μ') lv (.long x :: rest)) : ∀ r μ', gL P0 r μ' → Gg G l M R Q k1 k2 pc (gw G μ') lv (r.toList ++ rest) := by rintro r μ' ⟨x, rfl, hx⟩; exact h x μ' hx
theorem gV_go {P0 : Mem → Prop} (h : ∀ μ', P0 μ' → Gg G l M R Q k1 k2 pc (gw G μ') lv rest) : ∀ r μ', gV P0 r μ' → Gg G l M R Q k1 k2 pc (gw G μ') lv (r.toList ++ rest) := by rintro r μ' ⟨rfl, hx⟩; exact h μ' hx
theorem gR_go {P0 : Mem → Prop} {o : Nat} (h : ∀ μ', P0 μ' → Gg G l M R Q k1 k2 pc (gw G μ') lv (.ref (ga G o) :: rest)) : ∀ r μ', gR G o P0 r μ' → Gg G l M R Q k1 k2 pc (gw G μ') lv (r.toList ++ rest) := by rintro r μ' ⟨rfl, hx⟩; exact h μ' hx
theorem go_topi {x : Int32} (k : ∀ y : Int32, y = x → Gg G l M R Q k1 k2 pc (gw G μ) lv (.int y :: st)) : Gg G l M R Q k1 k2 pc (gw G μ) lv (.int x :: st) := k x rfl
theorem go_topl {x : Int64} (k : ∀ y : Int64, y = x → Gg G l M R Q k1 k2 pc (gw G μ) lv (.long y :: st)) : Gg G l M R Q k1 k2 pc (gw G μ) lv (.long x :: st) := k x rfl
theorem go_nn {f : Int32} {a : Nat} (h : ¬ f = 0) (k : Gg G l M R Q k1 k2 pc (gw G μ) lv (.ref a :: st)) : Gg G l M R Q k1 k2 pc (gw G μ) lv ((if f = 0 then .null else .ref a) :: st) := by rw [if_neg h]; exact k
theorem go_ifnullN {f : Int32} {a : Nat} {off : Int} (tgt : Nat) (hd : decode M.cc pc = .ok (.ifnull off, 3)) (ht : (pc : Int) + off = (tgt : Int)) (kz : f = 0 → Gg G l M R Q k1 k2 tgt (gw G μ) lv st) (kn : ¬ f = 0 → Gg G l M R Q k1 k2 (pc + 3) (gw G μ) lv st) : Gg G l M R Q k1 k2 pc (gw G μ) lv ((if f = 0 then .null else .ref a) :: st) := by
  intro p e s m args below meth c cx H locs ls hP hS hl
  by_cases h : f = 0
  · rw [if_pos h]
    exact lv_ifnullN cx.1 cx.2.1 hd ht (kz h p e s m args below meth c cx H locs ls hP hS hl)
  · rw [if_neg h]
    exact lv_ifnull cx.1 cx.2.1 hd (kn h p e s m args below meth c cx H locs ls hP hS hl)
theorem go_ifnonnullN {f : Int32} {a : Nat} {off : Int} (tgt : Nat) (hd : decode M.cc pc = .ok (.ifnonnull off, 3)) (ht : (pc : Int) + off = (tgt : Int)) (kz : f = 0 → Gg G l M R Q k1 k2 (pc + 3) (gw G μ) lv st) (kn : ¬ f = 0 → Gg G l M R Q k1 k2 tgt (gw G μ) lv st) : Gg G l M R Q k1 k2 pc (gw G μ) lv ((if f = 0 then .null else .ref a) :: st) := by
  intro p e s m args below meth c cx H locs ls hP hS hl
  by_cases h : f = 0
  · rw [if_pos h]
    exact lv_ifnonnullN cx.1 cx.2.1 hd (kz h p e s m args below meth c cx H locs ls hP hS hl)
  · rw [if_neg h]
    exact lv_ifnonnull cx.1 cx.2.1 hd ht (kn h p e s m args below meth c cx H locs ls hP hS hl)
theorem go_ialdv {o n : Nat} {i : Int32} (v : Int32) (hd : decode M.cc pc = .ok (.iaload, 1)) (ho : 106 ≤ μ.1 → o < μ.1) (he : ∀ r q, gs G o r q = .inl (G.2.2.1 0, n, .inl r)) (hin : vp_in i n) (hv : gm_r μ o i.toNatClampNeg = v) (kk : Gg G l M R Q k1 k2 (pc + 1) (gw G μ) lv (.int v :: st)) : Gg G l M R Q k1 k2 pc (gw G μ) lv (.int i :: .ref (ga G o) :: st) := go_iald hd ho he hin (by rw [hv]; exact kk)
theorem go_zaldv {o n : Nat} {i : Int32} (v : Int32) (hd : decode M.cc pc = .ok (.baload, 1)) (ho : 106 ≤ μ.1 → o < μ.1) (he : ∀ r q, gs G o r q = .inl (G.2.2.1 1, n, .inl r)) (hin : vp_in i n) (hv : gm_r μ o i.toNatClampNeg = v) (kk : Gg G l M R Q k1 k2 (pc + 1) (gw G μ) lv (.int v :: st)) : Gg G l M R Q k1 k2 pc (gw G μ) lv (.int i :: .ref (ga G o) :: st) := go_zald hd ho he hin (by rw [hv]; exact kk)
theorem go_aaldL {o n j : Nat} {i : Int32} (hd : decode M.cc pc = .ok (.aaload, 1)) (ho : 106 ≤ μ.1 → o < μ.1) (he : ∀ r q, gs G o r q = .inl (G.2.2.1 4, n, .inr (.inr (.inr (.inr (fun j => if j < n then some (ga G (o + 1 + j)) else none)))))) (hin : vp_in i n) (hj : i.toNatClampNeg = j) {o2 : Nat} (h2 : o + 1 + j = o2) (kk : Gg G l M R Q k1 k2 (pc + 1) (gw G μ) lv (.ref (ga G o2) :: st)) : Gg G l M R Q k1 k2 pc (gw G μ) lv (.int i :: .ref (ga G o) :: st) := go_aald hd ho he hin (by rw [hj, h2]; exact kk)
end GOX
