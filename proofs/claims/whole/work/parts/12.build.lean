/-! THE MAKING: a world as a list of cells, the i-th at b0 + i -/
def gwl (G : gC) (es : List va_E) (H : Heap) : Prop := H.size = G.2.1 + es.length ∧ ∀ (i : Nat) (e : va_E), es[i]? = some e → va_at G.1 vwCl (ga G i, e) H
theorem gwl_app {G : gC} {es fs : List va_E} {H H1 : Heap} (h : gwl G es H) (hz : H1.size = H.size + fs.length) (ho : ∀ q : Nat, q < H.size → H1[q]? = H[q]?) (hn : ∀ (i : Nat) (e : va_E), fs[i]? = some e → va_at G.1 vwCl (ga G (es.length + i), e) H1) : gwl G (es ++ fs) H1 := by
  refine ⟨by rw [hz, h.1, List.length_append]; omega, fun i e hi => ?_⟩
  by_cases hl : i < es.length
  · rw [List.getElem?_append_left hl] at hi
    have h1 := h.2 i e hi
    exact h1.kept (ho _ h1.lt)
  · rw [List.getElem?_append_right (by omega)] at hi
    have := hn _ e hi
    rwa [show es.length + (i - es.length) = i by omega] at this
theorem gwl_set {G : gC} {es : List va_E} {H H1 : Heap} {o : Nat} {e : va_E} (h : gwl G es H) (hz : H1.size = H.size) (ho : ∀ q : Nat, q ≠ ga G o → H1[q]? = H[q]?) (hc : va_at G.1 vwCl (ga G o, e) H1) : gwl G (es.set o e) H1 := by
  refine ⟨by rw [hz, h.1, List.length_set], fun i x hi => ?_⟩
  by_cases he : i = o
  · subst he
    have hl : i < es.length := by
      have := (List.getElem?_eq_some_iff.mp hi).1
      simpa using this
    rw [List.getElem?_set_self hl] at hi
    cases hi
    exact hc
  · rw [List.getElem?_set_ne (fun q => he q.symm)] at hi
    exact (h.2 i x hi).kept (ho _ (fun q => he (ga_inj q)))
theorem gwl_one {G : gC} {es : List va_E} {H : Heap} {i : Nat} {e : va_E} (h : gwl G es H) (hi : es[i]? = some e) : va_P G.1 vwCl [(ga G i, e)] H := by
  intro k q hq
  match k, hq with
  | 0, hq => cases hq; exact h.2 i e hi
  | k + 1, hq => simp at hq
theorem va_S.grow {A : Nat → Prop} {H0 H H1 : Heap} {locs : List Loc} (h : va_S A H0 H locs) (hz : H.size ≤ H1.size) (ho : ∀ q : Nat, q < H.size → H1[q]? = H[q]?) : va_S A H0 H1 locs := ⟨Nat.le_trans h.1 hz, fun x h1 h2 => (ho x (Nat.lt_of_lt_of_le h1 h.1)).trans (h.2.1 x h1 h2), h.2.2⟩
section GL
variable {G : gC} {l : Launch} {M : gM} {R : Room} {Q : List Frame → Array Value → State → State → Prop} {k1 k2 pc : Nat} {es : List va_E} {wd : Heap → Prop} {lv : List (Nat × Value)} {st : List Value}
theorem gl_objInit {idx a : Nat} (hd : decode M.cc pc = .ok (.invokespecial idx, 3)) (hlink : Cond.methodLink M.y.cls idx Lib.objectInit ∈ g_tbl) (hinst : Cond.instanceMethod Lib.objectInit ∈ g_tbl) (hcode : Cond.code Lib.objectInit ⟨#[0xb1]⟩ 1 none ∈ g_tbl) (hfr : 1 ≤ R.frames) (hlc : (st.map fun v => v.category).sum + 12 ≤ R.locals) (k : Gg G l M R Q k1 k2 (pc + 3) wd lv st) : Gg G l M R Q k1 k2 pc wd lv (.ref a :: st) := by
  intro p e s m args below meth c cx H locs ls hP hS hl
  have hts := cx.2.2.2.2.2.1
  exact W.objInit cx.1 cx.2.1 cx.2.2.2.2.1 (hts _ hlink) (hts _ hinst) (hts _ hcode) rfl (by rw [cx.2.2.2.1]; exact hl.1) rfl hd hfr (by show 2 * 0 + _ + 12 ≤ _; omega) (k p e s m args below meth c cx H locs ls hP hS hl)
theorem gl_new {idx ci N : Nat} {C : String} {T : u_T} {fs : List Value} {n : Nat} (ty : Nat → FieldType) (hd : decode M.cc pc = .ok (.new idx, 3)) (hcl : Cond.classLink M.y.cls idx C ∈ g_tbl) (hinst : Cond.instantiable C N ∈ g_tbl) (hini : Cond.initialized C ∈ g_tbl) (hc : vwCl[ci]? = some (C, T, N)) (hin : ∀ w ∈ u_ws C T N, w ∈ g_tbl) (hty : ∀ k, k < N → parseFieldDescriptor (T k).2.2.1 = some (ty k)) (hfs : ∀ j, j < N → defaultValue (ty j) = vp_V fs j) (hn : es.length = n) (hcells : k1 + 1 ≤ R.cells) (hslots : k2 + N ≤ R.slots) {es' : List va_E} (hs : es ++ [.inr (ci, fs)] = es') (kk : Gg G l M R Q (k1 + 1) (k2 + N) (pc + 3) (gwl G es') lv (.ref (ga G n) :: st)) : Gg G l M R Q k1 k2 pc (gwl G es) lv st := by
  subst hn
  subst hs
  intro p e s m args below meth c cx H locs ls hP hS hl
  have hts := cx.2.2.2.2.2.1
  have hK := cx.2.2.2.2.2.2.2.1
  have hKn := hK.1 ci _ hc
  refine W.newcK cx.1 cx.2.1 cx.2.2.2.2.1 (hts _ hcl) (hts _ hinst) (hts _ hini) rfl hd hcells hslots hKn.2.1 (h := ga G es.length) hP.1 fun H1 kC hkC e1 z1 o1 => ?_
  have hz : H1.size = H.size + 1 := by rw [z1, hP.1]; rfl
  have ho : ∀ q : Nat, q < H.size → H1[q]? = H[q]? := fun q hq => o1 q (by rw [hP.1] at hq; exact hq)
  refine kk p e s m args below meth c cx H1 locs ls (gwl_app hP hz ho (fun i x hi => ?_)) (hS.grow (by omega) ho) hl
  have h0 : i < 1 := (List.getElem?_eq_some_iff.mp hi).1
  rw [show i = 0 by omega] at hi ⊢
  cases hi
  exact ⟨_, hc, (u_born ty hts hin hKn hkC e1 hty).to hfs⟩
theorem gl_newa {atype : ArrayType} {ty : FieldType} {t : Nat} {n : Int32} {N' m0 : Nat} {a0 : vp_A} (hd : decode M.cc pc = .ok (.newarray atype, 2)) (harr : Cond.arrayClass ty ∈ g_tbl) (hty : newarray.typeOf atype = ty) (ht : (gt G)[t]? = some (G.2.2.1 t, ty)) (hnm : ∀ U, va_RA U (G.2.2.1 t) ty → U.vm.findClass ("[" ++ ty.toString) = some (G.2.2.1 t)) (ha : ∀ cA : ClassId, vp_cell cA a0 = arrV cA N' (fun _ => defaultValue ty)) (hn : ¬ n < 0) (hN : n.toNatClampNeg = N') (hm : es.length = m0) (hbytes : N' * componentBytes ty ≤ 536870912) (hcells : k1 + 1 ≤ R.cells) (hslots : k2 + N' ≤ R.slots) {es' : List va_E} (hs : es ++ [.inl (G.2.2.1 t, a0)] = es') (kk : Gg G l M R Q (k1 + 1) (k2 + N') (pc + 2) (gwl G es') lv (.ref (ga G m0) :: st)) : Gg G l M R Q k1 k2 pc (gwl G es) lv (.int n :: st) := by
  subst hm
  subst hs
  subst hty
  intro p e s m args below meth c cx H locs ls hP hS hl
  have hts := cx.2.2.2.2.2.1
  have hK := cx.2.2.2.2.2.2.2.1
  refine va_newaK cx.1 cx.2.1 (hts _ harr) rfl hd rfl hn hN hbytes hcells hslots (h := ga G es.length) hP.1 fun H1 cA e1 z1 o1 hAr hNm => ?_
  have hc : cA = G.2.2.1 t := Option.some.inj (hNm.symm.trans (hnm s (hK.2 t _ ht).2))
  subst hc
  have hz : H1.size = H.size + 1 := by rw [z1, hP.1]; rfl
  have ho : ∀ q : Nat, q < H.size → H1[q]? = H[q]? := fun q hq => o1 q (by rw [hP.1] at hq; exact hq)
  refine kk p e s m args below meth c cx H1 locs ls (gwl_app hP hz ho (fun i x hi => ?_)) (hS.grow (by omega) ho) hl
  have h0 : i < 1 := (List.getElem?_eq_some_iff.mp hi).1
  rw [show i = 0 by omega] at hi ⊢
  cases hi
  show H1[ga G es.length]? = some (vp_cell _ _)
  rw [ha]
  exact e1
theorem gl_put {o idx ci k : Nat} {fs : List Value} {v : Value} {ty : FieldType} (hd : decode M.cc pc = .ok (.putfield idx, 3)) (hF : gFp M.y.cls idx ci k ty) (hn : narrow ty v = v) (hfit : fits ty v = true) (he : es[o]? = some (.inr (ci, fs))) (hl : k < fs.length) {es' : List va_E} (hs : es.set o (.inr (ci, fs.set k v)) = es') (kk : Gg G l M R Q k1 k2 (pc + 3) (gwl G es') lv st) : Gg G l M R Q k1 k2 pc (gwl G es) lv (v :: .ref (ga G o) :: st) := by
  subst hs
  intro p e s m args below meth c cx H locs ls hP hS hlv
  obtain ⟨C, T, N, t0, h1, h2, h3, h4, h5, h6, h7, h8, h9⟩ := hF
  have hts := cx.2.2.2.2.2.1
  have hK := cx.2.2.2.2.2.2.2.1
  have hap := va_apart (own := M.y.cls) hts h3 t0 h8 h9 hK h1
  obtain ⟨r, g1, cell, q1, q2, q3, q4⟩ := hP.2 o _ he
  have hr : r = (C, T, N) := Option.some.inj (g1.symm.trans h1)
  subst hr
  obtain ⟨hSl, hfc, kC, hkC, hkind⟩ := hK.1 ci _ h1
  obtain ⟨cf, kf, fi, f, hi, hsl⟩ := hSl k h2
  have hlay := hts _ (h3 _ (u_in_lay h2))
  unfold u_lay at hlay
  rw [if_neg (by rw [h6]; decide)] at hlay
  have hst := (u_facts hfc hkC (u_lays hts h3 h2) hi).1
  have hsto := u_store hfc hkC hkind hlay hi (by rw [h8 k h2, h7]) hn hfit
  refine W.putK cx.1 cx.2.1 (f := f) ⟨cx.2.2.2.2.1, hts _ h4, ⟨_, _, _, by rw [h5] at hi; exact hi⟩, hst⟩ (by rw [q2]; exact hsto) q1 q3 (by rw [hsl]; exact k2_hasslot (q4 k h2)) rfl rfl hd fun H' e1 e2 e3 => ?_
  exact kk p e s m args below meth c cx H' _ ls (gwl_set hP e2 e3 (gs_put (s := s) (H := H) hap h1 h2 hl q2 q3 q4 hsl e1)) (hS.put e2 e3 (Nat.le_add_right _ _)) hlv
/-- a final field, in its own constructor -/
def gFf (own : String) (idx ci k : Nat) (ty : FieldType) : Prop := ∃ (C : String) (T : u_T) (N : Nat) (t0 : Nat → FieldType), vwCl[ci]? = some (C, T, N) ∧ k < N ∧ (∀ w ∈ u_ws C T N, w ∈ g_tbl) ∧ Cond.fieldLink own idx C (T k).2.1 (T k).2.2.1 ∈ g_tbl ∧ (T k).1 = C ∧ (T k).2.2.2 = true ∧ t0 k = ty ∧ (∀ k, k < N → parseFieldDescriptor (T k).2.2.1 = some (t0 k)) ∧ (∀ a, a < N → ∀ b, b < N → a ≠ b → (T a).2.1 ≠ (T b).2.1) ∧ C = own
theorem gl_putF {o idx ci k : Nat} {fs : List Value} {v : Value} {ty : FieldType} (hd : decode M.cc pc = .ok (.putfield idx, 3)) (hnm : M.y.name = "<init>") (hF : gFf M.y.cls idx ci k ty) (hn : narrow ty v = v) (hfit : fits ty v = true) (he : es[o]? = some (.inr (ci, fs))) (hl : k < fs.length) {es' : List va_E} (hs : es.set o (.inr (ci, fs.set k v)) = es') (kk : Gg G l M R Q k1 k2 (pc + 3) (gwl G es') lv st) : Gg G l M R Q k1 k2 pc (gwl G es) lv (v :: .ref (ga G o) :: st) := by
  subst hs
  intro p e s m args below meth c cx H locs ls hP hS hlv
  obtain ⟨C, T, N, t0, h1, h2, h3, h4, h5, h6, h7, h8, h9, h10⟩ := hF
  have hts := cx.2.2.2.2.2.1
  have hK := cx.2.2.2.2.2.2.2.1
  have hap := va_apart (own := M.y.cls) hts h3 t0 h8 h9 hK h1
  obtain ⟨r, g1, cell, q1, q2, q3, q4⟩ := hP.2 o _ he
  have hr : r = (C, T, N) := Option.some.inj (g1.symm.trans h1)
  subst hr
  obtain ⟨hSl, hfc, kC, hkC, hkind⟩ := hK.1 ci _ h1
  obtain ⟨cf, kf, fi, f, hi, hsl⟩ := hSl k h2
  have hlay := hts _ (h3 _ (u_in_lay h2))
  unfold u_lay at hlay
  rw [if_pos h6] at hlay
  have hst := (u_facts hfc hkC (u_lays hts h3 h2) hi).1
  have hown := cx.2.2.2.2.1
  have hcf : m.cls = cf := by
    obtain ⟨_, _, c', _, _, _, -, -, hf', -, -, -, hown2, -⟩ := Cond.laysFinal_spec hlay
    have e1 : c' = cf := by have := hi.symm.trans hf'; simp at this; exact this.1.symm
    rw [h5, h10] at hown2
    rw [← e1]; exact Option.some.inj (hown.symm.trans hown2)
  have hsto := u_fits hfc hkC hkind (Or.inr hlay) hi (by rw [h8 k h2, h7]) hn hfit
  refine W.putFinK cx.1 cx.2.1 hown (hts _ h4) (by rw [h5] at hi; exact hi) hst hcf (cx.2.2.2.2.2.2.2.2.2.1.trans hnm) (by rw [q2]; exact hsto) q1 q3 (by rw [hsl]; exact k2_hasslot (q4 k h2)) rfl rfl hd fun H' e1 e2 e3 => ?_
  exact kk p e s m args below meth c cx H' _ ls (gwl_set hP e2 e3 (gs_put (s := s) (H := H) hap h1 h2 hl q2 q3 q4 hsl e1)) (hS.put e2 e3 (Nat.le_add_right _ _)) hlv
theorem gl_get {o idx ci k : Nat} {fs : List Value} {v : Value} (hd : decode M.cc pc = .ok (.getfield idx, 3)) (hF : gF M.y.cls idx ci k) (he : es[o]? = some (.inr (ci, fs))) (hv : fs[k]? = some v) (kk : Gg G l M R Q k1 k2 (pc + 3) (gwl G es) lv (v :: st)) : Gg G l M R Q k1 k2 pc (gwl G es) lv (.ref (ga G o) :: st) := by
  intro p e s m args below meth c cx H locs ls hP hS hl
  obtain ⟨C, T, N, h1, h2, h3, h4, h5⟩ := hF
  exact va_get cx.1 cx.2.1 (Ts := g_tbl) cx.2.2.2.2.2.1 h3 cx.2.2.2.2.1 cx.2.2.2.2.2.2.2.1 (gwl_one hP he) 0 rfl h1 k h2 (cx.2.2.2.2.2.1 _ h4) (fun x hx => by rw [h5] at hx; exact hx) hv hd (kk p e s m args below meth c cx H locs ls hP hS hl)
theorem gl_iast {o n : Nat} {i x : Int32} {f : Nat → Int32} (hd : decode M.cc pc = .ok (.iastore, 1)) (he : es[o]? = some (.inl (G.2.2.1 0, n, .inl f))) (hin : vp_in i n) {es' : List va_E} (hs : es.set o (.inl (G.2.2.1 0, n, .inl (upd f i.toNatClampNeg x))) = es') (kk : Gg G l M R Q k1 k2 (pc + 1) (gwl G es') lv st) : Gg G l M R Q k1 k2 pc (gwl G es) lv (.int x :: .int i :: .ref (ga G o) :: st) := by
  subst hs
  intro p e s m args below meth c cx H locs ls hP hS hl
  have hp : H[ga G o]? = some (vp_cell (G.2.2.1 0) (n, .inl f)) := hP.2 o _ he
  have hT := (cx.2.2.2.2.2.2.2.1).2 0 _ rfl
  refine W.iast cx.1 cx.2.1 hp (hT.1 n (fun j => .int (f j))) (fun q => by cases q) (by show ¬ (i < 0 ∨ (arrV _ _ _).slots.size ≤ _); rw [arrV_size]; exact hin) rfl rfl hd fun H1 e1 z oq => ?_
  refine kk p e s m args below meth c cx H1 _ ls (gwl_set hP z oq ?_) (hS.put z oq (Nat.le_add_right _ _)) hl
  show H1[ga G o]? = some (vp_cell _ _)
  rw [e1, vp_cell_i, vp_cell_i, arrV_store]
  congr 2
  funext q
  by_cases hq : q = i.toNatClampNeg
  · subst hq
    simp [updV, upd]
  · simp [updV, upd, hq]
theorem gl_anew {idx m0 : Nat} (hd : decode M.cc pc = .ok (.anewarray idx, 3)) (hcl : Cond.classLink M.y.cls idx "StoryNumbers$Book" ∈ g_tbl) (hm : es.length = m0) (hcells : k1 + 1 ≤ R.cells) (hslots : k2 + 2 ≤ R.slots) {es' : List va_E} (hs : es ++ [.inl (G.2.2.1 3, 2, .inr (.inr (.inr (.inr (fun _ => none)))))] = es') (kk : Gg G l M R Q (k1 + 1) (k2 + 2) (pc + 3) (gwl G es') lv (.ref (ga G m0) :: st)) : Gg G l M R Q k1 k2 pc (gwl G es) lv (.int 2 :: st) := by
  subst hm
  subst hs
  intro p e s m args below meth c cx H locs ls hP hS hl
  have hts := cx.2.2.2.2.2.1
  have hK := cx.2.2.2.2.2.2.2.1
  refine W.anew cx.1 cx.2.1 cx.2.2.2.2.1 (hts _ hcl) (va_AO.use (cx.2.2.2.2.2.2.2.2.1).2.2.2.2.1.2.2.2.2.2.2.2) rfl hd rfl (by decide) (by decide) hcells hslots fun cA kA comp f1 f2 f3 f4 => ?_
  obtain ⟨kA', comp', k1', k2', k3', k4'⟩ := (hK.2 3 _ rfl).2
  have hc : cA = G.2.2.1 3 := Option.some.inj (f1.symm.trans k4')
  subst hc
  rw [show H.size = ga G es.length from hP.1]
  generalize hH1 : H.push ({ cls := G.2.2.1 3, slots := Array.replicate (2 : Int32).toNatClampNeg .null, vm := .none } : Cell) = H1
  have hz : H1.size = H.size + 1 := by rw [← hH1, Array.size_push]
  have e1 : H1[H.size]? = some (arrV (G.2.2.1 3) 2 (fun _ => .null)) := by rw [← hH1, Array.getElem?_push_size, ← arrV_new]; rfl
  have ho : ∀ q : Nat, q < H.size → H1[q]? = H[q]? := fun q hq => by rw [← hH1, Array.getElem?_push, if_neg (Nat.ne_of_lt hq)]
  refine kk p e s m args below meth c cx H1 locs ls (gwl_app hP hz ho (fun i x hi => ?_)) (hS.grow (by omega) ho) hl
  have h0 : i < 1 := (List.getElem?_eq_some_iff.mp hi).1
  rw [show i = 0 by omega] at hi ⊢
  cases hi
  show H1[ga G es.length]? = some (vp_cell _ _)
  rw [← show H.size = ga G es.length from hP.1]
  exact e1
theorem gl_aast {o v : Nat} {i : Int32} {f : Nat → Option Nat} {vs : List Value} (hd : decode M.cc pc = .ok (.aastore, 1)) (he : es[o]? = some (.inl (G.2.2.1 3, 2, .inr (.inr (.inr (.inr f)))))) (hv : es[v]? = some (.inr (0, vs))) (hin : vp_in i 2) {es' : List va_E} (hs : es.set o (.inl (G.2.2.1 3, 2, .inr (.inr (.inr (.inr (va_up f i.toNatClampNeg (some (ga G v)))))))) = es') (kk : Gg G l M R Q k1 k2 (pc + 1) (gwl G es') lv st) : Gg G l M R Q k1 k2 pc (gwl G es) lv (.ref (ga G v) :: .int i :: .ref (ga G o) :: st) := by
  subst hs
  intro p e s m args below meth c cx H locs ls hP hS hl
  have hK := cx.2.2.2.2.2.2.2.1
  have hlt : i.toNatClampNeg < 2 := Nat.not_le.mp fun q => hin (Or.inr q)
  have h0 : ¬ i < 0 := fun q => hin (Or.inl q)
  obtain ⟨r', hr', cellV, g1, g2, g3, -⟩ := hP.2 v _ hv
  have hcls := (hK.1 0 _ rfl).2
  obtain ⟨kA, comp, k1', k2', k3, -⟩ := (hK.2 3 _ rfl).2
  have hcomp : comp = G.1.1 0 := Option.some.inj (k3.symm.trans hcls.1)
  subst hcomp
  obtain ⟨kC, hkC, -⟩ := hcls.2
  have hp : H[ga G o]? = some (vp_cell (G.2.2.1 3) (2, .inr (.inr (.inr (.inr f))))) := hP.2 o _ he
  refine W.aast cx.1 cx.2.1 hp (fun q h => by cases h) (fun h => by cases h) k1' k2' rfl hkC ⟨h0, by show _ < (arrV _ _ _).slots.size; rw [arrV_size]; exact hlt⟩ g1 (fun q h => by rw [g3] at h; cases h) (by rw [g2]; exact hkC) (by rw [g2]; exact va_assign hcls) rfl rfl hd fun H1 e1 z oq => ?_
  refine kk p e s m args below meth c cx H1 _ ls (gwl_set hP z oq ?_) (hS.put z oq (Nat.le_add_right _ _)) hl
  show H1[ga G o]? = some (vp_cell _ _)
  rw [e1, vp_cell_q, vp_cell_q, arrV_store]
  congr 2
  funext q
  by_cases hq : q = i.toNatClampNeg
  · subst hq
    simp [updV, va_up, va_rf]
  · simp [updV, va_up, hq]
end GL
