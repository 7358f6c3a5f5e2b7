/-! MY OWN JUDGEMENT over the kit's rows: one room of cells at the addresses b0, b0 + 1 .. (ids 0, 1 ..), what they hold as a function; Sp: a call; Go: a place in a body -/
abbrev gC : Type := va_G × Nat × (Nat → ClassId) × (Nat → Nat)
abbrev Mem : Type := Nat × (Nat → Nat → Int32) × (Nat → Int64)
def gm_r (μ : Mem) (o k : Nat) : Int32 := μ.2.1 o k
def gm_l (μ : Mem) (k : Nat) : Int64 := μ.2.2 k
def gm_row (μ : Mem) (o : Nat) (r : Nat → Int32) : Mem := (μ.1, va_up μ.2.1 o r, μ.2.2)
def gm_w (μ : Mem) (o k : Nat) (x : Int32) : Mem := gm_row μ o (upd (μ.2.1 o) k x)
def gm_wl (μ : Mem) (k : Nat) (x : Int64) : Mem := (μ.1, μ.2.1, vp_updL μ.2.2 k x)
def ga (G : gC) (j : Nat) : Nat := G.2.1 + j
theorem ga_inj {G : gC} {i j : Nat} (h : ga G i = ga G j) : i = j := by unfold ga at h; omega
def gk_kd : List Nat := [9, 8, 11, 4, 7, 14, 11, 11, 11, 11, 11, 11, 11, 11, 11, 11, 7, 14, 11, 11, 11, 11, 11, 11, 11, 11, 11, 11, 5, 11, 6, 11, 11, 11, 11, 11, 11, 11, 11, 11, 11, 11, 0, 11, 11, 11, 3, 1, 14, 11, 11, 11, 11, 11, 11, 11, 11, 11, 14, 11, 11, 11, 11, 11, 11, 11, 11, 11, 15, 0, 11, 11, 11, 0, 11, 11, 11, 12,
  10, 11, 11, 11, 11, 11, 11, 11, 11, 11, 13, 12, 11, 11, 11, 11, 11, 12, 11, 11, 11, 11, 11, 11, 11, 11, 11, 12,
  2, 11, 14, 11, 11, 11, 11, 11, 11, 11, 11, 11, 11, 11, 14, 11, 11, 11, 11, 11, 11, 11, 11, 11, 11, 11, 14, 11, 11, 11, 11, 11, 11, 11, 11, 11, 11, 11]
def gk_ln : List Nat := [0, 0, 400, 0, 0, 10, 9, 9, 9, 9, 9, 9, 9, 9, 9, 9, 0, 10, 9, 9, 9, 9, 9, 9, 9, 9, 9, 9, 0, 8, 0, 1024, 1024, 1024, 1024, 1024, 1024, 1024, 1024, 1024, 1024, 1024, 0, 10, 12, 8, 0, 0, 9, 11, 11, 11, 11, 11, 11, 11, 11, 11, 9, 11, 11, 11, 11, 11, 11, 11, 11, 11, 2, 0, 10, 12, 8, 0, 10, 12, 8, 2,
  0, 10, 10, 80, 8, 8, 400, 10, 10, 80, 1024, 1024, 1024, 1024, 12, 72, 6, 1024, 1024, 13312, 13312, 13312, 10, 99, 99, 220, 2, 2,
  0, 1024, 11, 1024, 1024, 1024, 1024, 1024, 1024, 1024, 1024, 1024, 1024, 1024, 11, 1024, 1024, 1024, 1024, 1024, 1024, 1024, 1024, 1024, 1024, 1024, 11, 1024, 1024, 1024, 1024, 1024, 1024, 1024, 1024, 1024, 1024, 1024]
def gk_k (i : Nat) : Nat := gk_kd.getD i 99
def gk_n (i : Nat) : Nat := gk_ln.getD i 0
/-- what the cell i is, its variable numbers being r (q: those of the one row of longs) -/
def gs (G : gC) (i : Nat) (r : Nat → Int32) (q : Nat → Int64) : va_E := match gk_k i with
  | 0 => .inr (0, [.ref (ga G (i + 1)), .int (r 1), .ref (ga G (i + 2)), .int (r 3), .ref (ga G (i + 3))])
  | 1 => .inr (1, [.ref (ga G 4), .ref (ga G 42), .ref (ga G 48), .ref (ga G 58)])
  | 2 => .inr (2, [.ref (ga G 4), .ref (ga G 30), .ref (ga G 42), .int (r 3), .ref (ga G 107), .ref (ga G 108), .ref (ga G 120), .int (r 7), .ref (ga G 132), .int (r 9)])
  | 3 => .inr (3, [.ref (ga G 4), .ref (ga G 42)])
  | 4 => .inr (4, [.ref (ga G 1), if r 1 = 0 then .null else .ref (ga G 16), .int (r 2), .int (r 3), .int (r 4), .int (r 5), .int (r 6), .int (r 7)])
  | 5 => .inr (5, [.ref (ga G 4), .ref (ga G 29), .int (r 2)])
  | 6 => .inr (6, [.ref (ga G 4), .ref (ga G 28), .int (r 2), .int (r 3), .ref (ga G 31), .ref (ga G 32), .ref (ga G 33), .ref (ga G 34), .ref (ga G 35), .ref (ga G 36), .ref (ga G 37), .ref (ga G 38), .ref (ga G 39), .ref (ga G 40), .ref (ga G 41), .int (r 15)])
  | 7 => .inr (7, [.ref (ga G (i + 1)), .int (r 1)])
  | 8 => .inr (8, [.ref (ga G 2), .int (r 1)])
  | 9 => .inr (9, [.ref (ga G 1), .ref (ga G 3), .ref (ga G 4), .ref (ga G 16), .ref (ga G 28), .ref (ga G 30), .ref (ga G 42), .ref (ga G 46), .ref (ga G 47), .ref (ga G 68), .ref (ga G 77), if r 11 = 0 then .null else .ref (ga G 106)])
  | 10 => .inr (10, [.int (r 0), .int (r 1), .ref (ga G 79), .ref (ga G 80), .ref (ga G 81), .ref (ga G 82), .ref (ga G 83), .ref (ga G 84), .int (r 8), .int (r 9), .int (r 10), .int (r 11), .int (r 12), .int (r 13), .int (r 14), .ref (ga G 85), .ref (ga G 86), .ref (ga G 87), .ref (ga G 88), .ref (ga G 89), .ref (ga G 90), .ref (ga G 91), .int (r 22), .int (r 23), .ref (ga G 92), .ref (ga G 93), .int (r 26), .int (r 27), .ref (ga G 94), .ref (ga G 95), .ref (ga G 96), .ref (ga G 97), .ref (ga G 98), .ref (ga G 99), .ref (ga G 100), .ref (ga G 101), .ref (ga G 102), .ref (ga G 103), .ref (ga G 104), .ref (ga G 105)])
  | 11 => .inl (G.2.2.1 0, gk_n i, .inl r)
  | 12 => .inl (G.2.2.1 1, gk_n i, .inl r)
  | 13 => .inl (G.2.2.1 2, gk_n i, .inr (.inl q))
  | 14 => .inl (G.2.2.1 4, gk_n i, .inr (.inr (.inr (.inr (fun j => if j < gk_n i then some (ga G (i + 1 + j)) else none)))))
  | _ => .inl (G.2.2.1 3, gk_n i, .inr (.inr (.inr (.inr (fun j => if j = 0 then some (ga G 69) else if j = 1 then some (ga G 73) else none)))))
def gw (G : gC) (μ : Mem) (H : Heap) : Prop := (106 ≤ μ.1 ∧ H.size = G.2.1 + μ.1) ∧ ∀ i, i < μ.1 → va_at G.1 vwCl (ga G i, gs G i (μ.2.1 i) μ.2.2) H
def gA (G : gC) : Nat → Prop := fun q => G.2.1 ≤ q
def gt (G : gC) : List (ClassId × FieldType) := [(G.2.2.1 0, .int), (G.2.2.1 1, .boolean), (G.2.2.1 2, .long), (G.2.2.1 3, .object "StoryNumbers$Book"), (G.2.2.1 4, .array .int)]
def gz_atFirst : List Int32 := [1, 60, 2, 3, 4, 2, 1, 8]
def gz_lowest : List Int32 := [1, 1, 1, 0, 0, 0, 0, 0]
def gz_highest : List Int32 := [99, 200, 9, 20, 20, 20, 20, 99]
def gz_greatest : List Int32 := [99, 9, 7, 9, 7, 7, 7, 7, 7]
def gz_words : List Int32 := [115, 99, 101, 110, 101, 106, 111, 121, 32, 32, 119, 105, 116, 104, 32, 97, 102, 116, 101, 114, 111, 112, 101, 110, 115, 115, 104, 117, 116, 115, 116, 101, 108, 108, 115, 110, 101, 101, 100, 115, 100, 105, 101, 115, 32]
/-- the row AT_FIRST, which is cloned: whole -/
def g_AF (t : Nat) (A : Nat → Prop) (U : State) (H : Heap) : Prop := ∃ cell : Cell, H[t]? = some cell ∧ U.vm.findClass "[I" = some cell.cls ∧ cell.vm.isStatics = false ∧ cell.vm ≠ .unknown ∧ cell.slots.size = 8 ∧ (∀ j : Nat, j < 8 → cell.slots[j]? = some (.int (gz_atFirst.getD j 0))) ∧ ¬ A t
theorem g_AF.move {t : Nat} {A : Nat → Prop} {u U : State} {H H1 : Heap} (hvm : u.vm.Alike U.vm) (h : g_AF t A u H) (hq : ∀ a : Nat, a < H.size → ¬ A a → H1[a]? = H[a]?) : g_AF t A U H1 := by
  obtain ⟨cell, h1, h2, h3, h4, h5, h6, h7⟩ := h
  exact ⟨cell, by rw [hq t (Array.getElem?_eq_some_iff.mp h1).1 h7]; exact h1, by rw [hvm.findClass]; exact h2, h3, h4, h5, h6, h7⟩
def g_AOA (U : State) : Prop := (Cond.arrayOver (.array .int)).before #[] U = true
theorem g_AOA.moved {u U : State} (hvm : u.vm.Alike U.vm) (h : g_AOA u) : g_AOA U := by
  unfold g_AOA Cond.before Cond.holds at h ⊢
  simp only [Cond.value, beq_iff_eq] at h ⊢
  cases hc : u.vm.findClass (FieldType.array .int).toString with
  | none => simp [hc] at h
  | some comp =>
    simp only [hc, Option.bind_some, Option.bind_eq_some_iff, Option.map_eq_some_iff] at h
    obtain ⟨c, hi, k, hk, hb⟩ := h
    obtain ⟨k', hk', he⟩ := hvm.2.2 _ _ hk
    have hc2 : U.vm.findClass (FieldType.array .int).toString = some comp := by rw [hvm.findClass]; exact hc
    have hi2 : (U.vm.classes.findIdx? fun (x : Class) => match x.kind with | .array component _ => component == comp | _ => false) = some c := by
      have e1 := va_idx_bare U.vm comp
      have e2 := va_idx_bare u.vm comp
      have e3 : U.vm.bare = u.vm.bare := by first | exact hvm.bare_eq | exact hvm.bare_eq.symm
      rw [e3] at e1
      exact (e1.symm.trans e2).trans hi
    simp only [hc2, Option.bind_some, Option.bind_eq_some_iff, Option.map_eq_some_iff]
    refine ⟨c, hi2, k', hk', ?_⟩
    have hkd : k'.kind = k.kind := by rw [he]
    rw [hkd, hvm.findClass]
    exact hb
def g_mn (a b c : String) : MethodName := ⟨a, b, c⟩
/-- what the tables say and a making needs -/
def gzx (U : State) : Prop := va_Nw (.methodLinkNest "StoryNumbers" 11 (g_mn "StoryNumbers$Text" "<init>" "()V") "StoryNumbers") U ∧ va_Nw (.methodLinkNest "StoryNumbers" 27 (g_mn "StoryNumbers$Story" "<init>" "()V") "StoryNumbers") U ∧ va_Nw (.methodLinkNest "StoryNumbers" 55 (g_mn "StoryNumbers$Book" "<init>" "()V") "StoryNumbers") U ∧ va_Nw (.castable "[I" "java/lang/Cloneable") U ∧ g_AOA U ∧ va_AO "StoryNumbers$Book" U
theorem gzx.warm {s U : State} (hW : s.WarmedH U.vm) (h : gzx s) : gzx U := ⟨h.1.warmM hW, h.2.1.warmM hW, h.2.2.1.warmM hW, h.2.2.2.1.warmC hW, h.2.2.2.2.1.moved hW.alike, h.2.2.2.2.2.moved hW.alike⟩
/-- the script: at G.2.2.2 10, of G.2.2.2 11 ints -/
def gsc (G : gC) (A : Nat → Prop) (U : State) (H : Heap) : Prop := ∃ scr : Cell, H[G.2.2.2 10]? = some scr ∧ U.isArrayOf scr .int ∧ scr.vm ≠ .unknown ∧ scr.slots.size = G.2.2.2 11 ∧ (∀ j : Nat, j < G.2.2.2 11 → scr.slots[j]? = some (.int (nI (G.2.2.2 (20 + j))))) ∧ ¬ A (G.2.2.2 10)
theorem gsc.move {G : gC} {A : Nat → Prop} {u U : State} {H H1 : Heap} (hvm : u.vm.Alike U.vm) (h : gsc G A u H) (hq : ∀ a : Nat, a < H.size → ¬ A a → H1[a]? = H[a]?) : gsc G A U H1 := by
  obtain ⟨cell, h1, h2, h3, h4, h5, h6⟩ := h
  exact ⟨cell, by rw [hq _ (Array.getElem?_eq_some_iff.mp h1).1 h6]; exact h1, State.isArrayOf_alike hvm h2, h3, h4, h5, h6⟩
/-- the statics that are read: nobody writes them -/
def gz (G : gC) (U : State) (H : Heap) : Prop :=
  (va_Z "StoryNumbers$Book" "AT_FIRST" "[I" (.ref (G.2.2.2 0)) (gA G) U H ∧ g_AF (G.2.2.2 0) (gA G) U H ∧ gsc G (gA G) U H)
  ∧ (va_Z "StoryNumbers$Book" "LOWEST" "[I" (.ref (G.2.2.2 1)) (gA G) U H ∧ va_T .int (G.2.2.2 1) 8 (fun j => .int (gz_lowest.getD j 0)) (gA G) U H)
  ∧ (va_Z "StoryNumbers$Book" "HIGHEST" "[I" (.ref (G.2.2.2 2)) (gA G) U H ∧ va_T .int (G.2.2.2 2) 8 (fun j => .int (gz_highest.getD j 0)) (gA G) U H)
  ∧ (va_Z "StoryNumbers$Reader" "GREATEST" "[I" (.ref (G.2.2.2 3)) (gA G) U H ∧ va_T .int (G.2.2.2 3) 9 (fun j => .int (gz_greatest.getD j 0)) (gA G) U H)
  ∧ (va_Z "java/lang/String" "COMPACT_STRINGS" "Z" (.int 1) (gA G) U H ∧ va_Zq "jdk/internal/util/Preconditions" "SIOOBE_FORMATTER" "Ljava/util/function/BiFunction;" (gA G) U H ∧ gzx U)
  ∧ (va_Nw (.methodLinkNest "StoryNumbers$Chapters" 37 ⟨"StoryNumbers$Book", "setFrom", "(II)I"⟩ "StoryNumbers") U ∧ vk_R "StoryNumbers$Reader" 89 "scenejoy  with afteropensshutstellsneedsdies " (G.2.2.2 4) U) ∧ vk_S 1 [45] [gz_words] (fun _ => G.2.2.2 4) (fun _ => G.2.2.2 5) (gA G) U H
theorem gz_move {G : gC} {s U : State} {H0 H : Heap} (h : gz G s H0) (hW : s.WarmedH U.vm) (hq : ∀ a : Nat, a < H0.size → ¬ gA G a → H[a]? = H0[a]?) : gz G U H := by
  obtain ⟨⟨a1, b1, s1⟩, ⟨a2, b2⟩, ⟨a3, b3⟩, ⟨a4, b4⟩, ⟨a5, b5, x5⟩, ⟨w6, a6⟩, b6⟩ := h
  have hv := hW.alike
  exact ⟨⟨(a1.moved hv).kept hq, b1.move hv hq, s1.move hv hq⟩, ⟨(a2.moved hv).kept hq, (b2.moved hv).kept hq⟩, ⟨(a3.moved hv).kept hq, (b3.moved hv).kept hq⟩, ⟨(a4.moved hv).kept hq, (b4.moved hv).kept hq⟩, ⟨(a5.moved hv).kept hq, (b5.moved hv).kept hq, x5.warm hW⟩, ⟨w6.warmM hW, a6.warm hW⟩, (b6.moved hv).kept hq⟩
theorem gw_at {G : gC} {μ : Mem} {H : Heap} (h : gw G μ H) {i : Nat} (hi : i < μ.1) : va_P G.1 vwCl [(ga G i, gs G i (μ.2.1 i) μ.2.2)] H := by
  intro k q hq
  match k, hq with
  | 0, hq => cases hq; exact h.2 i hi
  | k + 1, hq => simp at hq
theorem gw_row {G : gC} {μ : Mem} {H H1 : Heap} {o : Nat} {r : Nat → Int32} (h : gw G μ H) (hz : H1.size = H.size) (ho : ∀ q : Nat, q ≠ ga G o → H1[q]? = H[q]?) (hc : va_at G.1 vwCl (ga G o, gs G o r μ.2.2) H1) : gw G (gm_row μ o r) H1 := by
  refine ⟨⟨h.1.1, hz.trans h.1.2⟩, fun i hi => ?_⟩
  show va_at G.1 vwCl (ga G i, gs G i (va_up μ.2.1 o r i) μ.2.2) H1
  by_cases e : i = o
  · subst e
    simpa [va_up] using hc
  · have e1 : va_up μ.2.1 o r i = μ.2.1 i := by simp [va_up, e]
    rw [e1]
    exact (h.2 i hi).kept (ho _ (fun q => e (ga_inj q)))
theorem gw_long {G : gC} {μ : Mem} {H H1 : Heap} {f : Nat → Int64} (h : gw G μ H) (hz : H1.size = H.size) (ho : ∀ q : Nat, q ≠ ga G 88 → H1[q]? = H[q]?) (hc : va_at G.1 vwCl (ga G 88, gs G 88 (μ.2.1 88) f) H1) (hk : ∀ i, i < μ.1 → i ≠ 88 → gk_k i ≠ 13) : gw G (μ.1, μ.2.1, f) H1 := by
  refine ⟨⟨h.1.1, hz.trans h.1.2⟩, fun i hi => ?_⟩
  show va_at G.1 vwCl (ga G i, gs G i (μ.2.1 i) f) H1
  by_cases e : i = 88
  · subst e
    exact hc
  · have h1 := (h.2 i hi).kept (ho (ga G i) (fun q => e (ga_inj q)))
    have e2 : gs G i (μ.2.1 i) f = gs G i (μ.2.1 i) μ.2.2 := by
      have := hk i hi e
      unfold gs
      split <;> first | rfl | (rename_i h13; exact absurd h13 this)
    rw [e2]
    exact h1
abbrev gM : Type := MethodName × ByteArray × Nat × Option FieldType × Nat × Nat × Nat
abbrev gM.y (M : gM) : MethodName := M.1
abbrev gM.cc (M : gM) : ByteArray := M.2.1
abbrev gM.nL (M : gM) : Nat := M.2.2.1
abbrev gM.ret (M : gM) : Option FieldType := M.2.2.2.1
abbrev gM.d (M : gM) : Nat := M.2.2.2.2.1
abbrev gM.mc (M : gM) : Nat := M.2.2.2.2.2.1
abbrev gM.ms (M : gM) : Nat := M.2.2.2.2.2.2
def g_rm (d mc ms : Nat) : Room := { frames := d, cells := mc, slots := ms, locals := 40 * d }
def g_tbl : List Cond := lw_tbl.filter goodWord
theorem g_in {w : Cond} (i : Nat) (h : lw_tbl[i]? = some w) (hg : goodWord w = true) : w ∈ g_tbl := List.mem_filter.mpr ⟨List.mem_of_getElem? h, hg⟩
theorem g_good {w : Cond} (h : w ∈ g_tbl) : goodWord w = true := (List.mem_filter.mp h).2
abbrev g_ws (M : gM) : List Cond := Cond.code M.y M.cc M.nL M.ret :: g_tbl
def g_Q (G : gC) (P : Option Value → Mem → Prop) : Array Value → State → Outcome → State → Prop := fun _ st oc t => (∃ (r : Option Value) (μ : Mem), oc = .returned r ∧ P r μ ∧ gw G μ t.heap) ∧ va_F (gA G) st t
def g_P (G : gC) (av : List Value) (μ : Mem) : Array Value → State → Prop := va_Pc av (fun U => gw G μ U.heap ∧ va_K G.1 vwCl (gt G) U ∧ gz G U U.heap)
/-- the call of M with av in the memory μ returns, and what comes of it has P -/
def Sp (G : gC) (l : Launch) (M : gM) (av : List Value) (μ : Mem) (P : Option Value → Mem → Prop) : Prop := Met l M.y (g_ws M) (g_rm M.d M.mc M.ms) (g_P G av μ) (g_Q G P) M.mc M.ms (gA G)
def g_cx (G : gC) (M : gM) (p : Program) (s : State) (m : MethodId) (args : Array Value) (meth : Method) (c : Code) : Prop :=
  p.tables.exec = Jvm.exec ∧ c.code = M.cc ∧ meth.sig.returnType = M.ret ∧ c.maxLocals = M.nL ∧ s.vm.findClass M.y.cls = some m.cls ∧ (∀ w ∈ g_tbl, w.before args s = true) ∧ meth.locks = false ∧ va_K G.1 vwCl (gt G) s ∧ gz G s s.heap ∧ meth.name = M.y.name ∧ G.2.1 ≤ s.heap.size
/-- at pc of a body, in the room R, k1 cells and k2 slots being new, the heap as wd says: it comes to Q -/
def Gg (G : gC) (l : Launch) (M : gM) (R : Room) (Q : List Frame → Array Value → State → State → Prop) (k1 k2 pc : Nat) (wd : Heap → Prop) (lv : List (Nat × Value)) (st : List Value) : Prop :=
  ∀ (p : Program) (e : Env) (s : State) (m : MethodId) (args : Array Value) (below : List Frame) (meth : Method) (c : Code), g_cx G M p s m args meth c → ∀ (H : Heap) (locs : List Loc) (ls : Array Slot), wd H → va_S (gA G) s.heap H locs → lv_has ls M.nL lv →
    W p l e R s m args below meth c H locs k1 k2 (Q below args s) (F0 m pc ls st)
abbrev g_MQ (G : gC) (M : gM) (P : Option Value → Mem → Prop) : List Frame → Array Value → State → State → Prop := fun below args s => MQ below (g_Q G P) args s M.mc M.ms (gA G)
abbrev Go (G : gC) (l : Launch) (M : gM) (P : Option Value → Mem → Prop) (k1 k2 pc : Nat) (μ : Mem) (lv : List (Nat × Value)) (st : List Value) : Prop := Gg G l M (g_rm M.d M.mc M.ms) (g_MQ G M P) k1 k2 pc (gw G μ) lv st
theorem Sp.mono {G : gC} {l : Launch} {M : gM} {av : List Value} {μ : Mem} {P P' : Option Value → Mem → Prop} (h : Sp G l M av μ P) (hP : ∀ r μ', P r μ' → P' r μ') : Sp G l M av μ P' := by
  intro p e ha hc hk s m args below hf happ hp
  intro hK
  obtain ⟨k, o, h1, h2, h3, ⟨⟨r, μ', e1, e2, e3⟩, e4⟩, e5⟩ := h p e ha hc hk s m args below hf happ hp hK
  exact ⟨k, o, h1, h2, h3, ⟨⟨r, μ', e1, hP _ _ e2, e3⟩, e4⟩, e5⟩
theorem Sp.of {G : gC} {l : Launch} {M : gM} {av : List Value} {μ : Mem} {P : Option Value → Mem → Prop} (hy : plainName M.y.cls = true) (hn : (lg_sl av).length ≤ M.nL) {lv : List (Nat × Value)} (hlv : lv_args 0 av = lv) (h : Go G l M P 0 0 0 μ lv []) : Sp G l M av μ P := by
  refine Met.ofW (cc := M.cc) (maxL := M.nL) (ret := M.ret) hy rfl ?_
  intro p e s m args below meth c s₁ B hml hv
  obtain ⟨rfl, hP, hK, hZ⟩ := hv
  rw [lg_entry_eq]
  have hl := lv_entry av (n := M.nL) hn
  rw [hlv] at hl
  exact h p e s m _ below meth c ⟨B.exec, B.bytes, B.returns, hml, findClass_of_methodNamed B.named, fun w hw => atoms_spec (ws := g_ws M) B.pre w (List.mem_cons_of_mem _ hw), B.notSynchronized, hK, hZ, (name_of_methodNamed B.named B.method).1, by rw [hP.1.2]; exact Nat.le_add_right _ _⟩ s.heap [] _ hP va_S.rf hl
