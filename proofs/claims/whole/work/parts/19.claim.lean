theorem gt_at {s : State} {G : gC} (h0 : ArrOfT s (G.2.2.1 0) .int ∧ va_RA s (G.2.2.1 0) .int) (h1 : ArrOfT s (G.2.2.1 1) .boolean ∧ va_RA s (G.2.2.1 1) .boolean) (h2 : ArrOfT s (G.2.2.1 2) .long ∧ va_RA s (G.2.2.1 2) .long) (h3 : ArrOfT s (G.2.2.1 3) (.object "StoryNumbers$Book") ∧ va_RA s (G.2.2.1 3) (.object "StoryNumbers$Book")) (h4 : ArrOfT s (G.2.2.1 4) (.array .int) ∧ va_RA s (G.2.2.1 4) (.array .int)) : ∀ (k : Nat) (q : ClassId × FieldType), (gt G)[k]? = some q → ArrOfT s q.1 q.2 ∧ va_RA s q.1 q.2 := by
  intro k q hq
  match k, hq with
  | 0, hq => cases hq; exact h0
  | 1, hq => cases hq; exact h1
  | 2, hq => cases hq; exact h2
  | 3, hq => cases hq; exact h3
  | 4, hq => cases hq; exact h4
  | k + 5, hq => simp [gt] at hq
theorem nI_self (x : Int32) : nI x.toBitVec.toNat = x := by
  unfold nI
  apply Int32.toBitVec_inj.mp
  simp
theorem st_len {args : Array Value} {s : State} {tm : Term} {N : Nat} (hN : N < 2 ^ 31) (h : (Term.length tm).eval args s none [] s = some (.int (Int32.ofNat N))) {a : Nat} {cell : Cell} (ht : tm.eval args s none [] s = some (.ref a)) (hc : s.heap[a]? = some cell) : cell.slots.size = N ∧ cell.vm ≠ .unknown := by
  obtain ⟨a', cell', h1, h2, -⟩ := Term.length_spec h
  cases ht.symm.trans h1
  obtain ⟨g1, g2, -, -⟩ := State.arrayAt?_spec h2
  cases hc.symm.trans g1
  refine ⟨?_, g2⟩
  simp only [Term.eval, ht, h2, Option.bind_eq_bind, Option.bind_some] at h
  by_cases hlt : cell.slots.size < 2147483648
  · simp [hlt] at h
    have e1 := congrArg Int32.toNatClampNeg h
    have e2 : (Int32.ofNat N).toNatClampNeg = N := Int32.toNatClampNeg_ofNat_of_lt hN
    have e3 : (Int32.ofNat cell.slots.size).toNatClampNeg = cell.slots.size := Int32.toNatClampNeg_ofNat_of_lt hlt
    have e4 : cell.slots.size.toInt32 = Int32.ofNat cell.slots.size := rfl
    rw [e4] at e1
    rw [e2, e3] at e1
    exact e1
  · simp [hlt] at h
abbrev nwAll : List Cond := flatC (Jvm.Cond.and given_1 narrow_1)
theorem nw_first : ∀ j : Nat, j < 8 → Cond.eq (.elem (.static "StoryNumbers$Book" "AT_FIRST" "[I") (.int (Int32.ofNat j))) (.int (gz_atFirst.getD j 0)) ∈ nwAll := by decide +kernel
theorem nw_low : ∀ j : Nat, j < 8 → Cond.eq (.elem (.static "StoryNumbers$Book" "LOWEST" "[I") (.int (Int32.ofNat j))) (.int (gz_lowest.getD j 0)) ∈ nwAll := by decide +kernel
theorem nw_high : ∀ j : Nat, j < 8 → Cond.eq (.elem (.static "StoryNumbers$Book" "HIGHEST" "[I") (.int (Int32.ofNat j))) (.int (gz_highest.getD j 0)) ∈ nwAll := by decide +kernel
theorem nw_great : ∀ j : Nat, j < 9 → Cond.eq (.elem (.static "StoryNumbers$Reader" "GREATEST" "[I") (.int (Int32.ofNat j))) (.int (gz_greatest.getD j 0)) ∈ nwAll := by decide +kernel
theorem nw_words : ∀ j : Nat, j < 45 → Cond.eq (.elem (.field (.string "StoryNumbers$Reader" 89) "java/lang/String" "value" "[B") (.int (Int32.ofNat j))) (.int (gz_words.getD j 0)) ∈ nwAll := by decide +kernel
theorem gz_tab {args : Array Value} {s : State} {A : Nat → Prop} (hA : ∀ a : Nat, a < s.heap.size → ¬ A a) {C n : String} {N : Nat} {f : List Int32} (hN : N < 2 ^ 31) (hl : (Cond.laysStatic C n "[I").before args s = true) (hini : (Cond.initialized C).before args s = true) (harr : (Cond.arrayOf (.static C n "[I") .int).before args s = true) (hlen : (Cond.eq (.length (.static C n "[I")) (.int (Int32.ofNat N))).before args s = true) (hel : ∀ j : Nat, j < N → (Cond.eq (.elem (.static C n "[I") (.int (Int32.ofNat j))) (.int (f.getD j 0))).before args s = true) : ∃ t : Nat, va_Z C n "[I" (.ref t) A s s.heap ∧ va_T .int t N (fun j => .int (f.getD j 0)) A s s.heap := by
  obtain ⟨t, ht, hT⟩ := va_Tof (f := fun j => .int (f.getD j 0)) (A := A) hN harr (va_eqt hlen) (fun j hj => va_eqt (hel j hj)) hA
  exact ⟨t, va_Zof hl hini ht hA, hT⟩
set_option maxRecDepth 100000 in
set_option maxHeartbeats 4000000 in
theorem whole_from {Rel : Nat → Mem → Prop} (hst : ∀ (G : gC) (l : Launch), st_all G l Rel) (h0 : Rel 0 gm0) {p : Program} {e : Env} {s : State} {m : MethodId} {below : List Frame} {meth : Method} {c : Code} (l : Launch) {b L : Nat} {xs : Nat → Int32} (hL : L ≤ 320) (C0 : lw_At p s m meth c b L xs) : W p l e room_1 s m #[Value.ref b] below meth c s.heap [] 0 0 (lw_Z below #[Value.ref b] s) (entryFrame m ([Value.ref b] : List Value).toArray 4) := by
  obtain ⟨hx, hb, hr, hml, hown, hts, hX, hbl, hlocks, hgv⟩ := C0
  have hA : ∀ a : Nat, a < s.heap.size → ¬ (fun q : Nat => s.heap.size ≤ q) a := fun a h => Nat.not_le.mpr h
  have hs := flat_of_before _ hgv
  have htg : ∀ w ∈ g_tbl, w.before #[Value.ref b] s = true := fun w h => hts w (List.mem_filter.mp h).1
  have hw : ∀ (i : Nat) (w : Cond), lw_tbl[i]? = some w → w.before #[Value.ref b] s = true := fun i w h => hts w (List.mem_of_getElem? h)
  obtain ⟨c0, i0, hKn0⟩ := u_known (C := RX0) (T := TX0) (N := 5) (n := 5) htg inX0 (hw 241 (.instantiable RX0 5) (by decide +kernel))
  obtain ⟨c1, i1, hKn1⟩ := u_known (C := RX1) (T := TX1) (N := 4) (n := 4) htg inX1 (hw 290 (.instantiable RX1 4) (by decide +kernel))
  obtain ⟨c2, i2, hKn2⟩ := u_known (C := RX2) (T := TX2) (N := 10) (n := 10) htg inX2 (hw 806 (.instantiable RX2 10) (by decide +kernel))
  obtain ⟨c3, i3, hKn3⟩ := u_known (C := RX3) (T := TX3) (N := 2) (n := 2) htg inX3 (hw 277 (.instantiable RX3 2) (by decide +kernel))
  obtain ⟨c4, i4, hKn4⟩ := u_known (C := RX4) (T := TX4) (N := 8) (n := 8) htg inX4 (hw 108 (.instantiable RX4 8) (by decide +kernel))
  obtain ⟨c5, i5, hKn5⟩ := u_known (C := RX5) (T := TX5) (N := 3) (n := 3) htg inX5 (hw 162 (.instantiable RX5 3) (by decide +kernel))
  obtain ⟨c6, i6, hKn6⟩ := u_known (C := RX6) (T := TX6) (N := 16) (n := 16) htg inX6 (hw 179 (.instantiable RX6 16) (by decide +kernel))
  obtain ⟨c7, i7, hKn7⟩ := u_known (C := RX7) (T := TX7) (N := 2) (n := 2) htg inX7 (hw 140 (.instantiable RX7 2) (by decide +kernel))
  obtain ⟨c8, i8, hKn8⟩ := u_known (C := RX8) (T := TX8) (N := 2) (n := 2) htg inX8 (hw 92 (.instantiable RX8 2) (by decide +kernel))
  obtain ⟨c9, i9, hKn9⟩ := u_known (C := RX9) (T := TX9) (N := 12) (n := 12) htg inX9 (hw 84 (.instantiable RX9 12) (by decide +kernel))
  obtain ⟨c10, i10, hKn10⟩ := u_known (C := RX10) (T := TX10) (N := 40) (n := 40) htg inX10 (hw 947 (.instantiable RX10 40) (by decide +kernel))
  obtain ⟨dC, dI, hKc⟩ : ∃ (dC : Nat → ClassId) (dI : Nat → Nat → Nat), ∀ (k : Nat) (q : vw_C), vwCl[k]? = some q → u_Kn s q.1 q.2.1 q.2.2 (dC k) (dI k) := by
    refine ⟨fun k => [c0, c1, c2, c3, c4, c5, c6, c7, c8, c9, c10].getD k c0, fun k => [i0, i1, i2, i3, i4, i5, i6, i7, i8, i9, i10].getD k i0, ?_⟩
    intro k q hq
    match k, hq with
    | 0, hq => cases hq; exact hKn0
    | 1, hq => cases hq; exact hKn1
    | 2, hq => cases hq; exact hKn2
    | 3, hq => cases hq; exact hKn3
    | 4, hq => cases hq; exact hKn4
    | 5, hq => cases hq; exact hKn5
    | 6, hq => cases hq; exact hKn6
    | 7, hq => cases hq; exact hKn7
    | 8, hq => cases hq; exact hKn8
    | 9, hq => cases hq; exact hKn9
    | 10, hq => cases hq; exact hKn10
    | k + 11, hq => simp [vwCl] at hq
  obtain ⟨cI, kI, oI, fI, gI', hI'⟩ := Cond.arrayClass_spec (hw 106 (.arrayClass .int) (by decide +kernel))
  obtain ⟨cZ, kZ, oZ, fZ, gZ', hZ'⟩ := Cond.arrayClass_spec (hw 347 (.arrayClass .boolean) (by decide +kernel))
  obtain ⟨cJ, kJ, oJ, fJ, gJ', hJ'⟩ := Cond.arrayClass_spec (hw 1073 (.arrayClass .long) (by decide +kernel))
  obtain ⟨oB, cB, kB, fB1, -, gB', hB', fB⟩ := Cond.arrayOver_spec (hw 309 (.arrayOver (.object "StoryNumbers$Book")) (by decide +kernel))
  obtain ⟨oA, cA, kA, fA1, gA', hA', fA⟩ := Cond.arrayOver_specA (hw 146 (.arrayOver (.array .int)) (by decide +kernel))
  obtain ⟨t0, cl, cell0, k0, q1, q2, q3, -, q5, q6, -⟩ := Cond.exactly_spec (hs (Cond.exactly (.static "StoryNumbers$Book" "AT_FIRST" "[I") "[I") (by decide +kernel))
  have qlen := va_eqt (hs (Cond.eq (.length (.static "StoryNumbers$Book" "AT_FIRST" "[I")) (.int 8)) (by decide +kernel))
  obtain ⟨qsz, qun⟩ := st_len (N := 8) (by decide) qlen q1 q3
  have qel : ∀ j : Nat, j < 8 → cell0.slots[j]? = some (.int (gz_atFirst.getD j 0)) := fun j hj => by
    obtain ⟨a, i, cell2, e1, e2, e3, e4, e5⟩ := Term.elem_spec (va_eqt (hs _ (nw_first j hj)))
    cases q1.symm.trans e1
    obtain ⟨g1, -, -, -⟩ := State.arrayAt?_spec e3
    cases q3.symm.trans g1
    have hi : i = Int32.ofNat j := by
      have e : (Term.int (Int32.ofNat j)).eval #[Value.ref b] s none [] s = some (.int (Int32.ofNat j)) := rfl
      cases e2.symm.trans e
      rfl
    have hc : i.toNatClampNeg = j := by rw [hi]; exact Int32.toNatClampNeg_ofNat_of_lt (by omega)
    rw [hc] at e5
    exact e5
  obtain ⟨t1, z1, tb1⟩ := gz_tab hA (C := "StoryNumbers$Book") (n := "LOWEST") (N := 8) (f := gz_lowest) (by decide) (hw 706 (.laysStatic "StoryNumbers$Book" "LOWEST" "[I") (by decide +kernel)) (hw 71 (.initialized "StoryNumbers$Book") (by decide +kernel)) (hs _ (by decide +kernel)) (hs (Cond.eq (.length (.static "StoryNumbers$Book" "LOWEST" "[I")) (.int 8)) (by decide +kernel)) (fun j hj => hs _ (nw_low j hj))
  obtain ⟨t2, z2, tb2⟩ := gz_tab hA (C := "StoryNumbers$Book") (n := "HIGHEST") (N := 8) (f := gz_highest) (by decide) (hw 708 (.laysStatic "StoryNumbers$Book" "HIGHEST" "[I") (by decide +kernel)) (hw 71 (.initialized "StoryNumbers$Book") (by decide +kernel)) (hs _ (by decide +kernel)) (hs (Cond.eq (.length (.static "StoryNumbers$Book" "HIGHEST" "[I")) (.int 8)) (by decide +kernel)) (fun j hj => hs _ (nw_high j hj))
  obtain ⟨t3, z3, tb3⟩ := gz_tab hA (C := "StoryNumbers$Reader") (n := "GREATEST") (N := 9) (f := gz_greatest) (by decide) (hw 446 (.laysStatic "StoryNumbers$Reader" "GREATEST" "[I") (by decide +kernel)) (hw 67 (.initialized "StoryNumbers$Reader") (by decide +kernel)) (hs _ (by decide +kernel)) (hs (Cond.eq (.length (.static "StoryNumbers$Reader" "GREATEST" "[I")) (.int 9)) (by decide +kernel)) (fun j hj => hs _ (nw_great j hj))
  have z0 : va_Z "StoryNumbers$Book" "AT_FIRST" "[I" (.ref t0) (fun q : Nat => s.heap.size ≤ q) s s.heap := va_Zof (hw 247 (.laysStatic "StoryNumbers$Book" "AT_FIRST" "[I") (by decide +kernel)) (hw 71 (.initialized "StoryNumbers$Book") (by decide +kernel)) q1 hA
  have z4 : va_Z "java/lang/String" "COMPACT_STRINGS" "Z" (.int 1) (fun q : Nat => s.heap.size ≤ q) s s.heap := va_Zof (hw 394 (.laysStatic "java/lang/String" "COMPACT_STRINGS" "Z") (by decide +kernel)) (hw 75 (.initialized "java/lang/String") (by decide +kernel)) (va_eqt (hs (Cond.eq (.static "java/lang/String" "COMPACT_STRINGS" "Z") (.int 1)) (by decide +kernel))) hA
  have z5 : va_Zq "jdk/internal/util/Preconditions" "SIOOBE_FORMATTER" "Ljava/util/function/BiFunction;" (fun q : Nat => s.heap.size ≤ q) s s.heap := by
    obtain ⟨v, hv, hv2⟩ := Cond.isRef_spec (hs (Cond.isRef (.static "jdk/internal/util/Preconditions" "SIOOBE_FORMATTER" "Ljava/util/function/BiFunction;")) (by decide +kernel))
    have hz := va_Zof (hw 402 (.laysStatic "jdk/internal/util/Preconditions" "SIOOBE_FORMATTER" "Ljava/util/function/BiFunction;") (by decide +kernel)) (hw 77 (.initialized "jdk/internal/util/Preconditions") (by decide +kernel)) hv hA
    cases v with
    | ref t => exact Or.inr ⟨t, hz⟩
    | null => exact Or.inl hz
    | _ => simp [Value.isRef] at hv2
  obtain ⟨adK, adV, hvS, hvK⟩ := vk_Sof (N := 1) (tm := fun _ => .string "StoryNumbers$Reader" 89) (len := [45]) (byt := [gz_words]) (A := fun q : Nat => s.heap.size ≤ q) (args := #[Value.ref b]) (s := s)
    (fun i hi => by rw [show i = 0 by omega]; decide) (fun i _ => hs (Cond.exactly (.string "StoryNumbers$Reader" 89) "java/lang/String") (by decide +kernel)) (fun i _ => hs (Cond.eq (.field (.string "StoryNumbers$Reader" 89) "java/lang/String" "coder" "B") (.int 0)) (by decide +kernel))
    (fun i _ => hs (Cond.arrayOf (.field (.string "StoryNumbers$Reader" 89) "java/lang/String" "value" "[B") .byte) (by decide +kernel)) (fun i hi => by rw [show i = 0 by omega]; exact hs (Cond.eq (.length (.field (.string "StoryNumbers$Reader" 89) "java/lang/String" "value" "[B")) (.int 45)) (by decide +kernel))
    (fun i hi j hj => by rw [show i = 0 by omega] at hj ⊢; exact hs _ (nw_words j hj)) (fun i j hi hj hij => by omega) hA
  have hR : vk_R "StoryNumbers$Reader" 89 "scenejoy  with afteropensshutstellsneedsdies " (adK 0) s := vk_R.of (hw 384 (.stringRef "StoryNumbers$Reader" 89 "scenejoy  with afteropensshutstellsneedsdies ") (by decide +kernel)) (hvK 0 (by decide))
  obtain ⟨scr, x1, x2, x3, x4, x5⟩ := hX
  let G : gC := ((dC, dI), s.heap.size, fun k => [cI, cZ, cJ, cB, cA].getD k cI, fun k => if k = 0 then t0 else if k = 1 then t1 else if k = 2 then t2 else if k = 3 then t3 else if k = 4 then adK 0 else if k = 5 then adV 0 else if k = 10 then b else if k = 11 then L else (xs (k - 20)).toBitVec.toNat)
  have hK : va_K G.1 vwCl (gt G) s := ⟨hKc, gt_at (G := G) ⟨fun N z => ⟨(fun k h => by cases h), kI, gI', oI, hI'⟩, fI⟩ ⟨fun N z => ⟨(fun k h => by cases h), kZ, gZ', oZ, hZ'⟩, fZ⟩ ⟨fun N z => ⟨(fun k h => by cases h), kJ, gJ', oJ, hJ'⟩, fJ⟩ ⟨fun N z => ⟨(fun k h => by cases h), kB, gB', oB, hB'⟩, kB, oB, gB', hB', fB1, fB⟩ ⟨fun N z => ⟨(fun k h => by cases h), kA, gA', oA, hA'⟩, fA⟩⟩
  have hx5 : ∀ j : Nat, j < L → scr.slots[j]? = some (.int (nI ((xs j).toBitVec.toNat))) := fun j hj => by rw [nI_self]; exact x5 j hj
  have hZ : gz G s s.heap := ⟨⟨z0, ⟨cell0, q3, by rw [q6]; exact q2, q5, qun, qsz, qel, hA _ (Array.getElem?_eq_some_iff.mp q3).1⟩, ⟨scr, x1, x2, x3, x4, fun j hj => by
      have e1 : G.2.2.2 (20 + j) = (xs j).toBitVec.toNat := by
        show (if 20 + j = 0 then _ else _) = _
        rw [if_neg (by omega), if_neg (by omega), if_neg (by omega), if_neg (by omega), if_neg (by omega), if_neg (by omega), if_neg (by omega), if_neg (by omega), Nat.add_sub_cancel_left]
      rw [e1]
      exact hx5 j hj, hA b hbl⟩⟩, ⟨z1, tb1⟩, ⟨z2, tb2⟩, ⟨z3, tb3⟩, ⟨z4, z5, ⟨va_Nw.of rfl (hw 93 (.methodLinkNest "StoryNumbers" 11 (g_mn "StoryNumbers$Text" "<init>" "()V") "StoryNumbers") (by decide +kernel)), va_Nw.of rfl (hw 141 (.methodLinkNest "StoryNumbers" 27 (g_mn "StoryNumbers$Story" "<init>" "()V") "StoryNumbers") (by decide +kernel)), va_Nw.of rfl (hw 242 (.methodLinkNest "StoryNumbers" 55 (g_mn "StoryNumbers$Book" "<init>" "()V") "StoryNumbers") (by decide +kernel)), va_Nw.of rfl (hw 253 (.castable "[I" "java/lang/Cloneable") (by decide +kernel)), hw 146 (.arrayOver (.array .int)) (by decide +kernel), va_AO.of (hw 309 (.arrayOver (.object "StoryNumbers$Book")) (by decide +kernel))⟩⟩, ⟨va_Nw.of rfl (hw 923 (.methodLinkNest "StoryNumbers$Chapters" 37 ⟨"StoryNumbers$Book", "setFrom", "(II)I"⟩ "StoryNumbers") (by decide +kernel)), hR⟩, ⟨fun i hi => by rw [show i = 0 by omega]; exact hvS.1 0 (by decide), fun i j hi hj _ => by omega⟩⟩
  have hl := lv_entry ([.ref b]) (n := 4) (Nat.le_of_ble_eq_true rfl)
  rw [lg_entry_eq]
  have hgo := law_start (G := G) (l := l) (nm := meth.name) (Rel := Rel) hL (hst G l) h0 p e s m #[Value.ref b] below meth c ⟨hx, hb, hr, hml, hown, htg, hlocks, hK, hZ, rfl, Nat.le_refl _⟩ s.heap [] _ ⟨rfl, fun i e hi => by simp at hi⟩ va_S.rf hl
  intro T hT X
  obtain ⟨t, a1, b1⟩ := hgo T hT X
  exact ⟨t, a1, b1 ⟨rfl, rfl⟩⟩
