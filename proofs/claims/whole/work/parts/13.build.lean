theorem at_tl {pre tl : List va_E} {n0 i : Nat} {e : va_E} (hp : pre.length = n0) (h : tl[i]? = some e) : (pre ++ tl)[n0 + i]? = some e := by
  subst hp
  rw [List.getElem?_append_right (Nat.le_add_right _ _), Nat.add_sub_cancel_left]
  exact h
theorem set_tl {pre tl tl' : List va_E} {n0 i : Nat} {e : va_E} (hp : pre.length = n0) (h : tl.set i e = tl') : (pre ++ tl).set (n0 + i) e = pre ++ tl' := by
  subst hp
  subst h
  rw [List.set_append_right _ _ (Nat.le_add_right _ _), Nat.add_sub_cancel_left]
theorem len_tl {pre tl : List va_E} {n0 n : Nat} (hp : pre.length = n0) (h : n0 + tl.length = n) : (pre ++ tl).length = n := by
  rw [List.length_append, hp, h]
theorem app_tl {pre tl x tl' : List va_E} (h : tl ++ x = tl') : (pre ++ tl) ++ x = pre ++ tl' := by rw [List.append_assoc, h]
def g_QL (G : gC) (P : List va_E → Prop) : Array Value → State → Outcome → State → Prop := fun _ st oc t => (oc = .returned none ∧ ∃ es : List va_E, P es ∧ gwl G es t.heap) ∧ va_F (gA G) st t
def g_PL (G : gC) (av : List Value) (es : List va_E) : Array Value → State → Prop := va_Pc av (fun U => gwl G es U.heap ∧ va_K G.1 vwCl (gt G) U ∧ gz G U U.heap)
/-- a constructor -/
def SpL (G : gC) (l : Launch) (M : gM) (av : List Value) (es : List va_E) (P : List va_E → Prop) : Prop := Met l M.y (g_ws M) (g_rm M.d M.mc M.ms) (g_PL G av es) (g_QL G P) M.mc M.ms (gA G)
abbrev g_MQL (G : gC) (M : gM) (P : List va_E → Prop) : List Frame → Array Value → State → State → Prop := fun below args s => MQ below (g_QL G P) args s M.mc M.ms (gA G)
theorem SpL.of {G : gC} {l : Launch} {M : gM} {av : List Value} {es : List va_E} {P : List va_E → Prop} (hy : plainName M.y.cls = true) (hn : (lg_sl av).length ≤ M.nL) {lv : List (Nat × Value)} (hlv : lv_args 0 av = lv) (h : Gg G l M (g_rm M.d M.mc M.ms) (g_MQL G M P) 0 0 0 (gwl G es) lv []) : SpL G l M av es P := by
  refine Met.ofW (cc := M.cc) (maxL := M.nL) (ret := M.ret) hy rfl ?_
  intro p e s m args below meth c s₁ B hml hv
  obtain ⟨rfl, hP, hK, hZ⟩ := hv
  rw [lg_entry_eq]
  have hl := lv_entry av (n := M.nL) hn
  rw [hlv] at hl
  exact h p e s m _ below meth c ⟨B.exec, B.bytes, B.returns, hml, findClass_of_methodNamed B.named, fun w hw => atoms_spec (ws := g_ws M) B.pre w (List.mem_cons_of_mem _ hw), B.notSynchronized, hK, hZ, (name_of_methodNamed B.named B.method).1, by rw [hP.1]; exact Nat.le_add_right _ _⟩ s.heap [] _ hP va_S.rf hl
section GL2
variable {G : gC} {l : Launch} {M : gM} {R : Room} {Q : List Frame → Array Value → State → State → Prop} {k1 k2 pc : Nat} {es : List va_E} {wd : Heap → Prop} {lv : List (Nat × Value)} {st : List Value}
theorem gl_ret {P : List va_E → Prop} (hd : decode M.cc pc = .ok (.return_, 1)) (hr : M.ret = none) (h1 : k1 ≤ M.mc) (h2 : k2 ≤ M.ms) (k : P es) : Gg G l M (g_rm M.d M.mc M.ms) (g_MQL G M P) k1 k2 pc (gwl G es) lv [] := fun p e s m args below meth c cx H locs ls hP hS hl => W.widen h1 h2 (W.vret cx.1 cx.2.1 (cx.2.2.1.trans hr) (fun t ht _ => ⟨⟨rfl, es, k, by rw [ht]; exact hP⟩, hS.F ht⟩) hS.2.2 hd (hlocks := cx.2.2.2.2.2.2.1))
theorem gl_blind (av : List Value) : FrameBlind (g_PL G av es) := fun a U g mk q => ⟨q.1, q.2.1, va_K.moved (u := U) (U := U.calling g mk a) (Vm.Alike.refl U.vm) q.2.2.1, gz_move (s := U) (U := U.calling g mk a) q.2.2.2 (State.WarmedH.refl U) (fun _ _ _ => rfl)⟩
theorem gl_pre {s : State} {H : Heap} {locs : List Loc} {av : List Value} (hP : gwl G es H) (hK : va_K G.1 vwCl (gt G) s) (hZ : gz G s s.heap) (hS : va_S (gA G) s.heap H locs) : ∀ U : State, U.heap = H → s.WarmedH U.vm → g_PL G av es av.toArray U := fun U hU hW => ⟨rfl, by rw [hU]; exact hP, va_K.moved hW.alike hK, gz_move hZ hW (fun a h1 h2 => by rw [hU]; exact hS.2.1 a h1 h2)⟩
theorem gl_back {p : Program} {e : Env} {s : State} {m : MethodId} {args : Array Value} {below : List Frame} {meth : Method} {c : Code} {H : Heap} {locs : List Loc} {ls : Array Slot} {Z : gM} {rest : List Value} (cx : g_cx G M p s m args meth c) (hS : va_S (gA G) s.heap H locs) (hl : lv_has ls M.nL lv) {a0 : Array Value} {P' : List va_E → Prop} (hP' : ∀ es', P' es' → Gg G l M R Q (k1 + Z.mc) (k2 + Z.ms) (pc + 3) (gwl G es') lv rest)
    (hr : va_Run p l e R s m args below meth c H locs k1 k2 Z.mc Z.ms (F0 m pc ls st) rest (g_QL G P' a0) (gA G)) : W p l e R s m args below meth c H locs k1 k2 (Q below args s) (F0 m pc ls st) := by
  intro T hT X
  obtain ⟨v, st₀, t, T', L, h0, X', hL, e1, e2, ⟨⟨hv, es', hPost, hw'⟩, hz, hkk⟩, stp⟩ := hr T hT X
  cases hv
  rw [h0] at hz hkk
  have hGo := hP' es' hPost p e s m args below meth c cx t.heap (locs ++ L) ls hw' ⟨Nat.le_trans hS.1 hz, fun q h1 h2 => by rw [hkk q (Nat.lt_of_lt_of_le h1 hS.1) h2]; exact hS.2.1 q h1 h2, fun q hq => by
      rcases List.mem_append.mp hq with h | h
      · exact hS.2.2 q h
      · exact hL q h⟩ hl
  obtain ⟨t2, a1, b1⟩ := hGo T' e1 X'
  exact ⟨t2, stp t2 a1, b1⟩
theorem gl_callI {Z : gM} {idx n a : Nat} {As rest : List Value} (hd : decode M.cc pc = .ok (.invokespecial idx, 3)) (hL : Cond.methodLink M.y.cls idx Z.y ∈ g_tbl) (hI : Cond.instanceMethod Z.y ∈ g_tbl) (hnm : Z.y.name = "<init>") (hret : Z.ret = none) (hM : gMc Z n) (hn : As.length = n) (hr : Z.d + 1 ≤ R.frames ∧ 8 + (Z.nL + 11) + 40 * Z.d ≤ R.locals) (hw : (rest.map fun v => v.category).sum ≤ 8) (hf : k1 + Z.mc ≤ R.cells ∧ k2 + Z.ms ≤ R.slots) (hst : As.reverse ++ .ref a :: rest = st) {P' : List va_E → Prop} (hP' : ∀ es', P' es' → Gg G l M R Q (k1 + Z.mc) (k2 + Z.ms) (pc + 3) (gwl G es') lv rest) (k : SpL G l Z (.ref a :: As) es P') : Gg G l M R Q k1 k2 pc (gwl G es) lv st := by
  subst hst
  intro p e s m args below meth c cx H locs ls hP hS hl
  have hts := cx.2.2.2.2.2.1
  have hK := cx.2.2.2.2.2.2.2.1
  have hM1 := hM.1
  rw [hret] at hM1
  refine gl_back cx hS hl hP' (va_runI (b := a) (As := As) (rest := rest) ⟨cx.1, cx.2.1, cx.2.2.2.1, cx.2.2.2.2.1, hts⟩ k ⟨callB_of n hts (g_goodIn hM.1) (show g_ws Z = Cond.code Z.y Z.cc Z.nL none :: g_tbl by show Cond.code Z.y Z.cc Z.nL Z.ret :: g_tbl = _; rw [hret]) rfl rfl (hts _ hM.2.1) (hts _ hL) hM.2.2 hr, hnm, hts _ hI⟩ ⟨gl_blind _, gl_pre hP hK cx.2.2.2.2.2.2.2.2.1 hS⟩ rfl hn hl.1 rfl (lv_room hw) hd hf)
theorem gl_callIN {Z : gM} {idx n a : Nat} {As rest : List Value} (hd : decode M.cc pc = .ok (.invokespecial idx, 3)) (hL : ∀ s H, gz G s H → va_Nw (.methodLinkNest M.y.cls idx Z.y "StoryNumbers") s) (hI : Cond.instanceMethod Z.y ∈ g_tbl) (hnm : Z.y.name = "<init>") (hret : Z.ret = none) (hM : gMc Z n) (hn : As.length = n) (hr : Z.d + 1 ≤ R.frames ∧ 8 + (Z.nL + 11) + 40 * Z.d ≤ R.locals) (hw : (rest.map fun v => v.category).sum ≤ 8) (hf : k1 + Z.mc ≤ R.cells ∧ k2 + Z.ms ≤ R.slots) (hst : As.reverse ++ .ref a :: rest = st) {P' : List va_E → Prop} (hP' : ∀ es', P' es' → Gg G l M R Q (k1 + Z.mc) (k2 + Z.ms) (pc + 3) (gwl G es') lv rest) (k : SpL G l Z (.ref a :: As) es P') : Gg G l M R Q k1 k2 pc (gwl G es) lv st := by
  subst hst
  intro p e s m args below meth c cx H locs ls hP hS hl
  have hts := cx.2.2.2.2.2.1
  have hK := cx.2.2.2.2.2.2.2.1
  refine gl_back cx hS hl hP' (va_runIN (b := a) (As := As) (rest := rest) ⟨cx.1, cx.2.1, cx.2.2.2.1, cx.2.2.2.2.1, hts⟩ k ⟨va_cnB n hts (g_goodIn hM.1) (show g_ws Z = Cond.code Z.y Z.cc Z.nL none :: g_tbl by show Cond.code Z.y Z.cc Z.nL Z.ret :: g_tbl = _; rw [hret]) rfl rfl (hL s _ cx.2.2.2.2.2.2.2.2.1) (hts _ hM.2.1) hM.2.2 hr, hnm, hts _ hI⟩ ⟨gl_blind _, gl_pre hP hK cx.2.2.2.2.2.2.2.2.1 hS⟩ rfl hn hl.1 rfl (lv_room hw) hd hf)
theorem gl_outer (c : ClassId) (N h0 : Nat) : ∀ i : Nat, Jvm.Free.Multi.outerC c N h0 i = arrV c N (fun j => va_rf (if j < i then some (h0 + 1 + j) else none))
  | 0 => by
    show ({ cls := c, slots := Array.replicate N .null, vm := .none } : Cell) = _
    rw [arrV_new]
    refine congrArg (arrV c N) (funext fun j => ?_)
    simp [va_rf]
  | i + 1 => by
    show (Jvm.Free.Multi.outerC c N h0 i).setSlot i (.ref (h0 + 1 + i)) = _
    rw [gl_outer c N h0 i, arrV_store]
    refine congrArg (arrV c N) (funext fun j => ?_)
    by_cases e : j = i
    · subst e
      simp [updV, va_rf]
    · by_cases h : j < i
      · simp [updV, e, h, Nat.lt_succ_of_lt h]
      · simp [updV, e, h, show ¬ j < i + 1 by omega]
theorem gl_mna {idx m0 N' K' : Nat} {n k : Int32} (hd : decode M.cc pc = .ok (.multianewarray idx 2, 4)) (hcl : Cond.classLink M.y.cls idx "[[I" ∈ g_tbl) (harr : Cond.arrayClass .int ∈ g_tbl) (hn : ¬ n < 0) (hk : ¬ k < 0) (hN : n.toNatClampNeg = N') (hM : k.toNatClampNeg = K') (hb1 : N' * 4 ≤ 536870912) (hb2 : K' * 4 ≤ 536870912) (hm : es.length = m0) (hcells : k1 + (1 + N') ≤ R.cells) (hslots : k2 + (N' + N' * K') ≤ R.slots) {es' : List va_E} (hs : es ++ (.inl (G.2.2.1 4, N', .inr (.inr (.inr (.inr (fun j => if j < N' then some (ga G (m0 + 1 + j)) else none))))) :: List.replicate N' (.inl (G.2.2.1 0, K', .inl (fun _ => 0)))) = es') (kk : Gg G l M R Q (k1 + 1 + N') (k2 + N' + N' * K') (pc + 4) (gwl G es') lv (.ref (ga G m0) :: st)) : Gg G l M R Q k1 k2 pc (gwl G es) lv (.int k :: .int n :: st) := by
  subst hs
  subst hm
  subst hN
  subst hM
  intro p e s m args below meth c cx H locs ls hP hS hl
  have hts := cx.2.2.2.2.2.1
  have hK := cx.2.2.2.2.2.2.2.1
  intro T hT Xs
  have hcb : componentBytes .int = 4 := rfl
  obtain ⟨vm₁, cA, comp, -, fA, fC, hO, -, X', step⟩ := Xs.multianewarray2F cx.1 (own := M.y.cls) (index := idx) (ty := .int) cx.2.2.2.2.1 (hts _ hcl) (cx.2.2.2.2.2.2.2.2.1).2.2.2.2.1.2.2.2.2.2.2.1 (hts _ harr) (g := F0 m pc ls (.int k :: .int n :: st)) rfl (by rw [cx.2.1]; exact hd) rfl hn hk hb1 (by rw [hcb]; exact hb2) (by omega) rfl rfl hcells hslots
  have ec : G.2.2.1 0 = comp := Option.some.inj ((show s.vm.findClass "[I" = some (G.2.2.1 0) from (hK.2 0 _ rfl).2).symm.trans fC)
  have ea : G.2.2.1 4 = cA := Option.some.inj ((show s.vm.findClass "[[I" = some (G.2.2.1 4) from (hK.2 4 _ rfl).2).symm.trans fA)
  subst ec
  subst ea
  generalize hF : Jvm.Free.Multi.fill (T.setVm vm₁) (G.2.2.1 4) (G.2.2.1 0) n.toNatClampNeg k.toNatClampNeg (defaultValue .int) n.toNatClampNeg = F at X' step
  have hTh : (T.setVm vm₁).heap = H := hT
  obtain ⟨f1, f2, -, -⟩ := Jvm.Free.Multi.fill_facts (T.setVm vm₁) (G.2.2.1 4) (G.2.2.1 0) n.toNatClampNeg k.toNatClampNeg (defaultValue .int) n.toNatClampNeg
  rw [hF, hTh] at f1 f2
  have hold : ∀ x : Nat, x < H.size → F.heap[x]? = H[x]? := fun x hx => by
    have := Jvm.Free.Multi.fill_old (T.setVm vm₁) (G.2.2.1 4) (G.2.2.1 0) n.toNatClampNeg k.toNatClampNeg (defaultValue .int) (a := x) (by rw [hTh]; exact hx) n.toNatClampNeg
    rw [hF, hTh] at this
    exact this
  have hrow : ∀ j : Nat, j < n.toNatClampNeg → F.heap[H.size + 1 + j]? = some (vp_cell (G.2.2.1 0) (k.toNatClampNeg, .inl (fun _ => 0))) := fun j hj => by
    have := Jvm.Free.Multi.fill_inner (T.setVm vm₁) (G.2.2.1 4) (G.2.2.1 0) n.toNatClampNeg k.toNatClampNeg (defaultValue .int) n.toNatClampNeg j hj
    rw [hF, hTh] at this
    rw [this]
    show some ({ cls := G.2.2.1 0, slots := Array.replicate k.toNatClampNeg (defaultValue .int), vm := .none } : Cell) = _
    rw [arrV_new]
    rfl
  rw [gl_outer] at f2
  have hsz : H.size = ga G es.length := hP.1
  have hw : gwl G (es ++ (.inl (G.2.2.1 4, n.toNatClampNeg, .inr (.inr (.inr (.inr (fun j => if j < n.toNatClampNeg then some (ga G (es.length + 1 + j)) else none))))) :: List.replicate n.toNatClampNeg (.inl (G.2.2.1 0, k.toNatClampNeg, .inl (fun _ => 0))))) F.heap := by
    refine gwl_app hP (by rw [f1, List.length_cons, List.length_replicate]; omega) hold (fun i x hi => ?_)
    match i, hi with
    | 0, hi =>
      cases hi
      show F.heap[ga G es.length]? = some (vp_cell _ _)
      rw [← hsz, f2, vp_cell_q]
      refine congrArg some (congrArg (arrV _ _) (funext fun j => ?_))
      rw [hsz]
      have : ga G es.length + 1 + j = ga G (es.length + 1 + j) := by unfold ga; omega
      rw [this]
    | i + 1, hi =>
      have hi : (List.replicate n.toNatClampNeg (Sum.inl (G.2.2.1 0, k.toNatClampNeg, Sum.inl (fun _ => (0 : Int32))) : va_E))[i]? = some x := hi
      have hlt : i < n.toNatClampNeg := by
        have := (List.getElem?_eq_some_iff.mp hi).1
        simpa using this
      rw [List.getElem?_replicate, if_pos hlt] at hi
      cases hi
      show F.heap[ga G (es.length + (i + 1))]? = some (vp_cell _ _)
      have : ga G (es.length + (i + 1)) = H.size + 1 + i := by rw [hsz]; unfold ga; omega
      rw [this]
      exact hrow i hlt
  obtain ⟨t, a1, b1⟩ := kk p e s m args below meth c cx F.heap locs ls hw (hS.grow (by omega) hold) hl F rfl X'
  refine ⟨t, step t ?_, b1⟩
  rw [hT, hsz]
  exact a1
theorem gl_clone {idx m0 : Nat} (hd : decode M.cc pc = .ok (.invokevirtual idx, 3)) (hlink : Cond.methodLink M.y.cls idx ⟨"[I", "clone", "()Ljava/lang/Object;"⟩ ∈ g_tbl) (hsame : Cond.sameMethod "[I" "java/lang/Object" "clone" "()Ljava/lang/Object;" ∈ g_tbl) (hnat : Cond.native ⟨"java/lang/Object", "clone", "()Ljava/lang/Object;"⟩ ∈ g_tbl) (hinst : Cond.instanceMethod ⟨"java/lang/Object", "clone", "()Ljava/lang/Object;"⟩ ∈ g_tbl) (hsel : Cond.selects "[I" ⟨"[I", "clone", "()Ljava/lang/Object;"⟩ ⟨"java/lang/Object", "clone", "()Ljava/lang/Object;"⟩ ∈ g_tbl) (hm : es.length = m0) (hfr : 1 ≤ R.frames) (hlc : (st.map fun v => v.category).sum + 14 ≤ R.locals) (hcells : k1 + 1 ≤ R.cells) (hslots : k2 + 8 ≤ R.slots) {es' : List va_E} (hs : es ++ [.inl (G.2.2.1 0, 8, .inl (fun j => gz_atFirst.getD j 0))] = es') (kk : Gg G l M R Q (k1 + 1) (k2 + 8) (pc + 3) (gwl G es') lv (.ref (ga G m0) :: st)) : Gg G l M R Q k1 k2 pc (gwl G es) lv (.ref (G.2.2.2 0) :: st) := by
  subst hs
  subst hm
  intro p e s m args below meth c cx H locs ls hP hS hl
  have hts := cx.2.2.2.2.2.1
  have hK := cx.2.2.2.2.2.2.2.1
  obtain ⟨cell, h1, h2, h3, h4, h5, h6, h7⟩ := (cx.2.2.2.2.2.2.2.2.1).1.2.1
  have hcI : s.vm.findClass "[I" = some (G.2.2.1 0) := (hK.2 0 _ rfl).2
  have hcc : cell.cls = G.2.2.1 0 := Option.some.inj (h2.symm.trans hcI)
  have hH : H[G.2.2.2 0]? = some cell := by rw [hS.2.1 _ (Array.getElem?_eq_some_iff.mp h1).1 h7]; exact h1
  obtain ⟨c0, t0', f1, f2, f3⟩ := Cond.castable_spec (va_Nw.use (A := args) rfl (cx.2.2.2.2.2.2.2.2.1).2.2.2.2.1.2.2.2.2.2.1)
  cases hcI.symm.trans f1
  have hce : ({ cls := cell.cls, slots := cell.slots } : Cell) = vp_cell (G.2.2.1 0) (8, .inl (fun j => gz_atFirst.getD j 0)) := by
    rw [hcc, vp_cell_i]
    have he : cell.slots = (arrV (G.2.2.1 0) 8 (fun j => .int (gz_atFirst.getD j 0))).slots := by
      apply Array.ext
      · rw [h5, arrV_size]
      · intro i hi1 hi2
        have a1 := h6 i (by rw [h5] at hi1; exact hi1)
        have a2 := arrV_read (G.2.2.1 0) (fun j => .int (gz_atFirst.getD j 0)) (show i < 8 by rw [h5] at hi1; exact hi1)
        have b1 := (Array.getElem?_eq_some_iff.mp a1).2
        have b2 := (Array.getElem?_eq_some_iff.mp a2).2
        rw [b1, b2]
    rw [he]
    rfl
  intro T hT X
  obtain ⟨-, kA, hkA, compA, hkind⟩ := State.isArrayOf_alike X.warmed.alike ((hK.2 0 _ rfl).1 0 (fun _ => .null))
  obtain ⟨-, kS, hkS, compS, hkindS⟩ := (hK.2 0 _ rfl).1 0 (fun _ => .null)
  obtain ⟨vm', X', stp⟩ := X.cloneArray cx.1 cx.2.2.2.2.1 (hts _ hlink) (hts _ hsame) (hts _ hnat) (hts _ hinst) (hts _ hsel) (a := G.2.2.2 0) (cell := cell) (by rw [hT]; exact hH) (fun k h => by rw [h] at h3; cases h3) h4 h2 f2 (by rw [hcc]; exact f3)
    (fun i v hv => by
      have hi : i < 8 := by
        have := (Array.getElem?_eq_some_iff.mp hv).1
        rw [h5] at this
        exact this
      cases (h6 i hi).symm.trans hv
      rw [hcc]
      have hk' : T.vm.classes[G.2.2.1 0]? = some kA := hkA
      simp [State.fitsSlot, State.slotType?, hk', hkind, fits])
    (g := F0 m pc ls (.ref (G.2.2.2 0) :: st)) rfl (by rw [cx.2.2.2.1]; exact hl.1) rfl (by rw [cx.2.1]; exact hd) hfr (by show 2 * 0 + _ + 14 ≤ _; omega) hcells (by rw [h5]; exact hslots) (hloader := by rw [hcc]; exact Vm.clonesLoader_of_array hkS hkindS)
  rw [hce, h5] at X'
  rw [hce] at stp
  generalize hH1 : H.push (vp_cell (G.2.2.1 0) (8, .inl (fun j => gz_atFirst.getD j 0))) = H1
  have hsz : H.size = ga G es.length := hP.1
  have z1 : H1.size = H.size + 1 := by rw [← hH1, Array.size_push]
  have e1 : H1[H.size]? = some (vp_cell (G.2.2.1 0) (8, .inl (fun j => gz_atFirst.getD j 0))) := by rw [← hH1, Array.getElem?_push_size]
  have o1 : ∀ q : Nat, q < H.size → H1[q]? = H[q]? := fun q hq => by rw [← hH1, Array.getElem?_push, if_neg (Nat.ne_of_lt hq)]
  have hw : gwl G (es ++ [.inl (G.2.2.1 0, 8, .inl (fun j => gz_atFirst.getD j 0))]) H1 := by
    refine gwl_app hP z1 o1 (fun i x hi => ?_)
    have h0 : i < 1 := (List.getElem?_eq_some_iff.mp hi).1
    rw [show i = 0 by omega] at hi ⊢
    cases hi
    show H1[ga G es.length]? = some (vp_cell _ _)
    rw [← hsz]
    exact e1
  obtain ⟨t, b1, b2⟩ := kk p e s m args below meth c cx H1 locs ls hw (hS.grow (by omega) o1) hl ((T.setVm vm').pushCell (vp_cell (G.2.2.1 0) (8, .inl (fun j => gz_atFirst.getD j 0)))) (by rw [← hH1, ← hT]; rfl) X'
  refine ⟨t, stp t ?_, b2⟩
  rw [hT, hsz]
  exact b1
theorem gl_cast {idx o : Nat} {a0 : vp_A} (hd : decode M.cc pc = .ok (.checkcast idx, 3)) (hcl : Cond.classLink M.y.cls idx "[I" ∈ g_tbl) (he : es[o]? = some (.inl (G.2.2.1 0, a0))) (kk : Gg G l M R Q k1 k2 (pc + 3) (gwl G es) lv (.ref (ga G o) :: st)) : Gg G l M R Q k1 k2 pc (gwl G es) lv (.ref (ga G o) :: st) := by
  intro p e s m args below meth c cx H locs ls hP hS hl
  have hK := cx.2.2.2.2.2.2.2.1
  exact va_castA cx.1 cx.2.1 cx.2.2.2.2.1 (cx.2.2.2.2.2.1 _ hcl) (gwl_one hP he) 0 rfl (show s.vm.findClass "[I" = some (G.2.2.1 0) from (hK.2 0 _ rfl).2) hd (kk p e s m args below meth c cx H locs ls hP hS hl)
end GL2
