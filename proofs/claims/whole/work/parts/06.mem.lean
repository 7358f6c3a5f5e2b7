theorem g_goodIn {y : MethodName} {cc : ByteArray} {n : Nat} {ret : Option FieldType} (h : Cond.code y cc n ret ∈ g_tbl) : GoodIn g_tbl (Cond.code y cc n ret :: g_tbl) := by
  intro w hw
  have hm : w ∈ g_tbl := by
    rcases List.mem_cons.mp hw with rfl | h1
    · exact h
    · exact h1
  exact ⟨hm, good_of_word (g_good hm)⟩
/-- a field of ours, read or written by the entry idx of own -/
def gF (own : String) (idx ci k : Nat) : Prop := ∃ (C : String) (T : u_T) (N : Nat), vwCl[ci]? = some (C, T, N) ∧ k < N ∧ (∀ w ∈ u_ws C T N, w ∈ g_tbl) ∧ Cond.fieldLink own idx C (T k).2.1 (T k).2.2.1 ∈ g_tbl ∧ (T k).1 = C
def gFp (own : String) (idx ci k : Nat) (ty : FieldType) : Prop := ∃ (C : String) (T : u_T) (N : Nat) (t0 : Nat → FieldType), vwCl[ci]? = some (C, T, N) ∧ k < N ∧ (∀ w ∈ u_ws C T N, w ∈ g_tbl) ∧ Cond.fieldLink own idx C (T k).2.1 (T k).2.2.1 ∈ g_tbl ∧ (T k).1 = C ∧ (T k).2.2.2 = false ∧ t0 k = ty ∧ (∀ k, k < N → parseFieldDescriptor (T k).2.2.1 = some (t0 k)) ∧ ∀ a, a < N → ∀ b, b < N → a ≠ b → (T a).2.1 ≠ (T b).2.1
section GOM
variable {G : gC} {l : Launch} {M : gM} {R : Room} {Q : List Frame → Array Value → State → State → Prop} {k1 k2 pc : Nat} {μ : Mem} {lv : List (Nat × Value)} {st : List Value}
theorem go_get {o idx ci k : Nat} {fs : List Value} (v : Value) (hd : decode M.cc pc = .ok (.getfield idx, 3)) (hF : gF M.y.cls idx ci k) (ho : 106 ≤ μ.1 → o < μ.1) (he : gs G o (μ.2.1 o) μ.2.2 = .inr (ci, fs)) (hv : fs[k]? = some v) (kk : Gg G l M R Q k1 k2 (pc + 3) (gw G μ) lv (v :: st)) : Gg G l M R Q k1 k2 pc (gw G μ) lv (.ref (ga G o) :: st) := by
  intro p e s m args below meth c cx H locs ls hP hS hl
  obtain ⟨C, T, N, h1, h2, h3, h4, h5⟩ := hF
  have hp := gw_at hP (ho hP.1.1)
  rw [he] at hp
  exact va_get cx.1 cx.2.1 (Ts := g_tbl) cx.2.2.2.2.2.1 h3 cx.2.2.2.2.1 cx.2.2.2.2.2.2.2.1 hp 0 rfl h1 k h2 (cx.2.2.2.2.2.1 _ h4) (fun x hx => by rw [h5] at hx; exact hx) hv hd (kk p e s m args below meth c cx H locs ls hP hS hl)
theorem gs_put {G : gC} {s : State} {H H' : Heap} {o ci k : Nat} {fs : List Value} {v : Value} {C : String} {T : u_T} {N : Nat} {slot : Nat} {cell : Cell} (hap : ∀ x y, x < N → y < N → x ≠ y → (G.1.2 ci) x ≠ (G.1.2 ci) y) (hc : vwCl[ci]? = some (C, T, N)) (hk : k < N) (hl : k < fs.length) (q2 : cell.cls = G.1.1 ci) (q3 : cell.vm = .none) (q4 : ∀ j, j < N → cell.slots[G.1.2 ci j]? = some (vp_V fs j)) (hsl : slot = G.1.2 ci k) (e1 : H'[ga G o]? = some (cell.setSlot slot v)) : va_at G.1 vwCl (ga G o, .inr (ci, fs.set k v)) H' := by
  subst hsl
  exact ⟨_, hc, t_OB.to (V := updV (vp_V fs) k v) ⟨_, e1, q2, q3, t_set q4 hap hk v⟩ (fun j _ => vp_updV_set hl v j)⟩
theorem go_putv {o idx ci k : Nat} {fs : List Value} {v : Value} {ty : FieldType} (x : Int32) (hd : decode M.cc pc = .ok (.putfield idx, 3)) (hF : gFp M.y.cls idx ci k ty) (hn : narrow ty v = v) (hfit : fits ty v = true) (ho : 106 ≤ μ.1 → o < μ.1) (he : gs G o (μ.2.1 o) μ.2.2 = .inr (ci, fs)) (hl : k < fs.length) (hs : gs G o (upd (μ.2.1 o) k x) μ.2.2 = .inr (ci, fs.set k v)) (kk : Gg G l M R Q k1 k2 (pc + 3) (gw G (gm_w μ o k x)) lv st) : Gg G l M R Q k1 k2 pc (gw G μ) lv (v :: .ref (ga G o) :: st) := by
  intro p e s m args below meth c cx H locs ls hP hS hlv
  obtain ⟨C, T, N, t0, h1, h2, h3, h4, h5, h6, h7, h8, h9⟩ := hF
  have hts := cx.2.2.2.2.2.1
  have hK := cx.2.2.2.2.2.2.2.1
  have hap := va_apart (own := M.y.cls) hts h3 t0 h8 h9 hK h1
  have hp := hP.2 o (ho hP.1.1)
  rw [he] at hp
  obtain ⟨r, g1, cell, q1, q2, q3, q4⟩ := hp
  have hr : r = (C, T, N) := Option.some.inj (g1.symm.trans h1)
  subst hr
  obtain ⟨hSl, hfc, kC, hkC, hkind⟩ := hK.1 ci _ h1
  obtain ⟨cf, kf, fi, f, hi, hsl⟩ := hSl k h2
  have hlay := hts _ (h3 _ (u_in_lay h2))
  unfold u_lay at hlay
  rw [if_neg (by rw [h6]; decide)] at hlay
  have hst := (u_facts hfc hkC (u_lays hts h3 h2) hi).1
  have hsto := u_store hfc hkC hkind hlay hi (by rw [h8 k h2, h7]) hn hfit
  refine W.putK cx.1 cx.2.1 (f := f) ⟨cx.2.2.2.2.1, hts _ h4, ⟨_, _, _, by rw [h5] at hi; exact hi⟩, hst⟩ (by rw [q2]; exact hsto) q1 q3 (by rw [hsl]; exact k2_hasslot (q4 k h2)) rfl rfl hd fun H' e1 e2 e3 => ?_
  refine kk p e s m args below meth c cx H' _ ls (gw_row hP e2 e3 ?_) (hS.put e2 e3 ?_) hlv
  · rw [hs]
    exact gs_put (s := s) (H := H) hap h1 h2 hl q2 q3 q4 hsl e1
  · exact Nat.le_add_right _ _
theorem go_puti {o idx ci k : Nat} {fs : List Value} {x : Int32} (hd : decode M.cc pc = .ok (.putfield idx, 3)) (hF : gFp M.y.cls idx ci k .int) (ho : 106 ≤ μ.1 → o < μ.1) (he : gs G o (μ.2.1 o) μ.2.2 = .inr (ci, fs)) (hl : k < fs.length) (hs : gs G o (upd (μ.2.1 o) k x) μ.2.2 = .inr (ci, fs.set k (.int x))) (kk : Gg G l M R Q k1 k2 (pc + 3) (gw G (gm_w μ o k x)) lv st) : Gg G l M R Q k1 k2 pc (gw G μ) lv (.int x :: .ref (ga G o) :: st) := go_putv x hd hF rfl rfl ho he hl hs kk
theorem go_iald {o n : Nat} {i : Int32} (hd : decode M.cc pc = .ok (.iaload, 1)) (ho : 106 ≤ μ.1 → o < μ.1) (he : ∀ r q, gs G o r q = .inl (G.2.2.1 0, n, .inl r)) (hin : vp_in i n) (kk : Gg G l M R Q k1 k2 (pc + 1) (gw G μ) lv (.int (gm_r μ o i.toNatClampNeg) :: st)) : Gg G l M R Q k1 k2 pc (gw G μ) lv (.int i :: .ref (ga G o) :: st) := by
  intro p e s m args below meth c cx H locs ls hP hS hl
  have hp := gw_at hP (ho hP.1.1)
  rw [he] at hp
  exact va_iald cx.1 cx.2.1 cx.2.2.2.2.2.2.2.1 hp 0 0 rfl rfl hin hd (kk p e s m args below meth c cx H locs ls hP hS hl)
theorem go_zald {o n : Nat} {i : Int32} (hd : decode M.cc pc = .ok (.baload, 1)) (ho : 106 ≤ μ.1 → o < μ.1) (he : ∀ r q, gs G o r q = .inl (G.2.2.1 1, n, .inl r)) (hin : vp_in i n) (kk : Gg G l M R Q k1 k2 (pc + 1) (gw G μ) lv (.int (gm_r μ o i.toNatClampNeg) :: st)) : Gg G l M R Q k1 k2 pc (gw G μ) lv (.int i :: .ref (ga G o) :: st) := by
  intro p e s m args below meth c cx H locs ls hP hS hl
  have hp := gw_at hP (ho hP.1.1)
  rw [he] at hp
  exact va_zald cx.1 cx.2.1 cx.2.2.2.2.2.2.2.1 hp 0 1 rfl rfl hin hd (kk p e s m args below meth c cx H locs ls hP hS hl)
set_option maxRecDepth 100000 in
theorem go_lald {i : Int32} (hd : decode M.cc pc = .ok (.laload, 1)) (hin : vp_in i 1024) (kk : Gg G l M R Q k1 k2 (pc + 1) (gw G μ) lv (.long (gm_l μ i.toNatClampNeg) :: st)) : Gg G l M R Q k1 k2 pc (gw G μ) lv (.int i :: .ref (ga G 88) :: st) := by
  intro p e s m args below meth c cx H locs ls hP hS hl
  have hp := gw_at hP (i := 88) (by have := hP.1.1; omega)
  exact va_lald cx.1 cx.2.1 cx.2.2.2.2.2.2.2.1 hp 0 2 (n := 1024) (f := μ.2.2) rfl rfl hin hd (kk p e s m args below meth c cx H locs ls hP hS hl)
theorem gw_arr {G : gC} {μ : Mem} {H H1 : Heap} {o n i : Nat} {x : Int32} {c : Nat} (h : gw G μ H) (he : ∀ r q, gs G o r q = .inl (G.2.2.1 c, n, .inl r)) (z : H1.size = H.size) (oq : ∀ q : Nat, q ≠ ga G o → H1[q]? = H[q]?) (e : H1[ga G o]? = some ((vp_cell (G.2.2.1 c) (n, .inl (μ.2.1 o))).setSlot i (.int x))) : gw G (gm_w μ o i x) H1 := by
  refine gw_row h z oq ?_
  · rw [he]
    show H1[ga G o]? = some (vp_cell _ _)
    rw [e, vp_cell_i, vp_cell_i, arrV_store]
    congr 2
    funext q
    by_cases hq : q = i
    · subst hq
      simp [updV, upd]
    · simp [updV, upd, hq]
theorem go_iast {o n : Nat} {i x : Int32} (hd : decode M.cc pc = .ok (.iastore, 1)) (ho : 106 ≤ μ.1 → o < μ.1) (he : ∀ r q, gs G o r q = .inl (G.2.2.1 0, n, .inl r)) (hin : vp_in i n) (kk : Gg G l M R Q k1 k2 (pc + 1) (gw G (gm_w μ o i.toNatClampNeg x)) lv st) : Gg G l M R Q k1 k2 pc (gw G μ) lv (.int x :: .int i :: .ref (ga G o) :: st) := by
  intro p e s m args below meth c cx H locs ls hP hS hl
  have hp := hP.2 o (ho hP.1.1)
  rw [he] at hp
  have hT := (cx.2.2.2.2.2.2.2.1).2 0 _ rfl
  refine W.iast cx.1 cx.2.1 hp (hT.1 n (fun j => .int (μ.2.1 o j))) (fun q => by cases q) (by show ¬ (i < 0 ∨ (arrV _ _ _).slots.size ≤ _); rw [arrV_size]; exact hin) rfl rfl hd fun H1 e1 z oq => ?_
  exact kk p e s m args below meth c cx H1 _ ls (gw_arr hP he z oq e1) (hS.put z oq (Nat.le_add_right _ _)) hl
theorem go_zast {o n : Nat} {i x : Int32} (hd : decode M.cc pc = .ok (.bastore, 1)) (ho : 106 ≤ μ.1 → o < μ.1) (he : ∀ r q, gs G o r q = .inl (G.2.2.1 1, n, .inl r)) (hin : vp_in i n) (kk : Gg G l M R Q k1 k2 (pc + 1) (gw G (gm_w μ o i.toNatClampNeg (vp_nar .boolean x))) lv st) : Gg G l M R Q k1 k2 pc (gw G μ) lv (.int x :: .int i :: .ref (ga G o) :: st) := by
  intro p e s m args below meth c cx H locs ls hP hS hl
  have hp := hP.2 o (ho hP.1.1)
  rw [he] at hp
  have hT := (cx.2.2.2.2.2.2.2.1).2 1 _ rfl
  refine W.zast cx.1 cx.2.1 hp (hT.1 n (fun j => .int (μ.2.1 o j))) (fun q => by cases q) (by show ¬ (i < 0 ∨ (arrV _ _ _).slots.size ≤ _); rw [arrV_size]; exact hin) rfl rfl hd fun H1 e1 z oq => ?_
  exact kk p e s m args below meth c cx H1 _ ls (gw_arr hP he z oq e1) (hS.put z oq (Nat.le_add_right _ _)) hl
theorem gk_one13 : ∀ i : Nat, i ≠ 88 → gk_k i ≠ 13 := by
  intro i hi h
  have h1 : ∀ j : Nat, j < 144 → j ≠ 88 → gk_k j ≠ 13 := by decide +kernel
  by_cases hl : i < 144
  · exact h1 i hl hi h
  · have : gk_k i = 99 := by
      unfold gk_k
      rw [List.getD_eq_getElem?_getD, List.getElem?_eq_none (by show 144 ≤ i; omega)]
      rfl
    rw [this] at h
    cases h
theorem gs_88 (G : gC) (r : Nat → Int32) (q : Nat → Int64) : gs G 88 r q = .inl (G.2.2.1 2, 1024, .inr (.inl q)) := rfl
theorem go_last {i : Int32} {x : Int64} (hd : decode M.cc pc = .ok (.lastore, 1)) (hin : vp_in i 1024) (kk : Gg G l M R Q k1 k2 (pc + 1) (gw G (gm_wl μ i.toNatClampNeg x)) lv st) : Gg G l M R Q k1 k2 pc (gw G μ) lv (.long x :: .int i :: .ref (ga G 88) :: st) := by
  intro p e s m args below meth c cx H locs ls hP hS hl
  have hp0 := hP.2 88 (by have := hP.1.1; omega)
  have he : ∃ n : Nat, n = 1024 := ⟨1024, rfl⟩
  obtain ⟨n, hn⟩ := he
  have hg : ∀ r q, gs G 88 r q = .inl (G.2.2.1 2, n, .inr (.inl q)) := fun r q => by rw [hn]; exact gs_88 G r q
  rw [hg] at hp0
  rw [← hn] at hin
  have hp : H[ga G 88]? = some (vp_cell (G.2.2.1 2) (n, .inr (.inl μ.2.2))) := hp0
  have hT := (cx.2.2.2.2.2.2.2.1).2 2 _ rfl
  refine W.last cx.1 cx.2.1 hp (hT.1 n (fun j => .long (μ.2.2 j))) (fun q => by cases q) (by show ¬ (i < 0 ∨ (arrV _ _ _).slots.size ≤ _); rw [arrV_size]; exact hin) rfl rfl hd fun H1 e1 z oq => ?_
  refine kk p e s m args below meth c cx H1 _ ls (gw_long hP z oq ?_ (fun j _ hj => gk_one13 j hj)) (hS.put z oq (Nat.le_add_right _ _)) hl
  rw [hg]
  show H1[ga G 88]? = some (vp_cell _ _)
  rw [e1, vp_cell_l, vp_cell_l, arrV_store]
  congr 2
  funext q
  by_cases hq : q = i.toNatClampNeg
  · subst hq
    simp [updV, vp_updL]
  · simp [updV, vp_updL, hq]
theorem go_aald {o n : Nat} {i : Int32} (hd : decode M.cc pc = .ok (.aaload, 1)) (ho : 106 ≤ μ.1 → o < μ.1) (he : ∀ r q, gs G o r q = .inl (G.2.2.1 4, n, .inr (.inr (.inr (.inr (fun j => if j < n then some (ga G (o + 1 + j)) else none)))))) (hin : vp_in i n) (kk : Gg G l M R Q k1 k2 (pc + 1) (gw G μ) lv (.ref (ga G (o + 1 + i.toNatClampNeg)) :: st)) : Gg G l M R Q k1 k2 pc (gw G μ) lv (.int i :: .ref (ga G o) :: st) := by
  intro p e s m args below meth c cx H locs ls hP hS hl
  have hp := hP.2 o (ho hP.1.1)
  rw [he] at hp
  have hT := (cx.2.2.2.2.2.2.2.1).2 4 _ rfl
  have hlt : i.toNatClampNeg < n := Nat.not_le.mp fun q => hin (Or.inr q)
  refine W.aald (v := .ref (ga G (o + 1 + i.toNatClampNeg))) (ty := .array .int) cx.1 cx.2.1 hp (hT.1 n (fun j => va_rf (if j < n then some (ga G (o + 1 + j)) else none))) rfl (fun q => by cases q) (by show ¬ (i < 0 ∨ (arrV _ _ _).slots.size ≤ _); rw [arrV_size]; exact hin) ?_ rfl rfl hd (kk p e s m args below meth c cx H locs ls hP hS hl)
  show (arrV _ _ _).slots[_]? = _
  rw [arrV_read _ _ hlt]
  simp [hlt, va_rf]
theorem go_aaldB {i : Int32} (hd : decode M.cc pc = .ok (.aaload, 1)) (hin : vp_in i 2) (kk0 : i.toNatClampNeg = 0 → Gg G l M R Q k1 k2 (pc + 1) (gw G μ) lv (.ref (ga G 69) :: st)) (kk1 : i.toNatClampNeg = 1 → Gg G l M R Q k1 k2 (pc + 1) (gw G μ) lv (.ref (ga G 73) :: st)) : Gg G l M R Q k1 k2 pc (gw G μ) lv (.int i :: .ref (ga G 68) :: st) := by
  intro p e s m args below meth c cx H locs ls hP hS hl
  have hp := gw_at hP (i := 68) (by have := hP.1.1; omega)
  have hlt : i.toNatClampNeg < 2 := Nat.not_le.mp fun q => hin (Or.inr q)
  refine va_aldq cx.1 cx.2.1 cx.2.2.2.2.2.2.2.1 hp 0 3 (n := 2) (f := fun j => if j = 0 then some (ga G 69) else if j = 1 then some (ga G 73) else none) rfl rfl hin hd ?_
  by_cases h0 : i.toNatClampNeg = 0
  · rw [if_pos h0]
    exact kk0 h0 p e s m args below meth c cx H locs ls hP hS hl
  · have h1 : i.toNatClampNeg = 1 := by omega
    rw [if_neg h0, if_pos h1]
    exact kk1 h1 p e s m args below meth c cx H locs ls hP hS hl
end GOM
