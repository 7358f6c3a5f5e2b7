theorem g_lt {n o : Nat} (h : Nat.blt o 106 = true) : 106 ≤ n → o < n := fun hn => Nat.lt_of_lt_of_le (Nat.le_of_ble_eq_true h) hn
theorem g_lt2 {n m o : Nat} (hn : 144 ≤ n) (h : Nat.blt o 144 = true) : m ≤ n → o < n := fun _ => Nat.lt_of_lt_of_le (Nat.le_of_ble_eq_true h) hn
theorem gs_0 (G : gC) (r : Nat → Int32) (q : Nat → Int64) : gs G 0 r q = .inr (9, [.ref (ga G 1), .ref (ga G 3), .ref (ga G 4), .ref (ga G 16), .ref (ga G 28), .ref (ga G 30), .ref (ga G 42), .ref (ga G 46), .ref (ga G 47), .ref (ga G 68), .ref (ga G 77), if r 11 = 0 then .null else .ref (ga G 106)]) := rfl
theorem gs_1 (G : gC) (r : Nat → Int32) (q : Nat → Int64) : gs G 1 r q = .inr (8, [.ref (ga G 2), .int (r 1)]) := rfl
theorem gs_3 (G : gC) (r : Nat → Int32) (q : Nat → Int64) : gs G 3 r q = .inr (4, [.ref (ga G 1), if r 1 = 0 then .null else .ref (ga G 16), .int (r 2), .int (r 3), .int (r 4), .int (r 5), .int (r 6), .int (r 7)]) := rfl
theorem gs_4 (G : gC) (r : Nat → Int32) (q : Nat → Int64) : gs G 4 r q = .inr (7, [.ref (ga G 5), .int (r 1)]) := rfl
theorem gs_16 (G : gC) (r : Nat → Int32) (q : Nat → Int64) : gs G 16 r q = .inr (7, [.ref (ga G 17), .int (r 1)]) := rfl
theorem gs_28 (G : gC) (r : Nat → Int32) (q : Nat → Int64) : gs G 28 r q = .inr (5, [.ref (ga G 4), .ref (ga G 29), .int (r 2)]) := rfl
theorem gs_30 (G : gC) (r : Nat → Int32) (q : Nat → Int64) : gs G 30 r q = .inr (6, [.ref (ga G 4), .ref (ga G 28), .int (r 2), .int (r 3), .ref (ga G 31), .ref (ga G 32), .ref (ga G 33), .ref (ga G 34), .ref (ga G 35), .ref (ga G 36), .ref (ga G 37), .ref (ga G 38), .ref (ga G 39), .ref (ga G 40), .ref (ga G 41), .int (r 15)]) := rfl
theorem gs_42 (G : gC) (r : Nat → Int32) (q : Nat → Int64) : gs G 42 r q = .inr (0, [.ref (ga G 43), .int (r 1), .ref (ga G 44), .int (r 3), .ref (ga G 45)]) := rfl
theorem gs_46 (G : gC) (r : Nat → Int32) (q : Nat → Int64) : gs G 46 r q = .inr (3, [.ref (ga G 4), .ref (ga G 42)]) := rfl
theorem gs_47 (G : gC) (r : Nat → Int32) (q : Nat → Int64) : gs G 47 r q = .inr (1, [.ref (ga G 4), .ref (ga G 42), .ref (ga G 48), .ref (ga G 58)]) := rfl
theorem gs_69 (G : gC) (r : Nat → Int32) (q : Nat → Int64) : gs G 69 r q = .inr (0, [.ref (ga G 70), .int (r 1), .ref (ga G 71), .int (r 3), .ref (ga G 72)]) := rfl
theorem gs_73 (G : gC) (r : Nat → Int32) (q : Nat → Int64) : gs G 73 r q = .inr (0, [.ref (ga G 74), .int (r 1), .ref (ga G 75), .int (r 3), .ref (ga G 76)]) := rfl
theorem gs_78 (G : gC) (r : Nat → Int32) (q : Nat → Int64) : gs G 78 r q = .inr (10, [.int (r 0), .int (r 1), .ref (ga G 79), .ref (ga G 80), .ref (ga G 81), .ref (ga G 82), .ref (ga G 83), .ref (ga G 84), .int (r 8), .int (r 9), .int (r 10), .int (r 11), .int (r 12), .int (r 13), .int (r 14), .ref (ga G 85), .ref (ga G 86), .ref (ga G 87), .ref (ga G 88), .ref (ga G 89), .ref (ga G 90), .ref (ga G 91), .int (r 22), .int (r 23), .ref (ga G 92), .ref (ga G 93), .int (r 26), .int (r 27), .ref (ga G 94), .ref (ga G 95), .ref (ga G 96), .ref (ga G 97), .ref (ga G 98), .ref (ga G 99), .ref (ga G 100), .ref (ga G 101), .ref (ga G 102), .ref (ga G 103), .ref (ga G 104), .ref (ga G 105)]) := rfl
theorem gs_106 (G : gC) (r : Nat → Int32) (q : Nat → Int64) : gs G 106 r q = .inr (2, [.ref (ga G 4), .ref (ga G 30), .ref (ga G 42), .int (r 3), .ref (ga G 107), .ref (ga G 108), .ref (ga G 120), .int (r 7), .ref (ga G 132), .int (r 9)]) := rfl
theorem gs_2 (G : gC) : ∀ (r : Nat → Int32) (q : Nat → Int64), gs G 2 r q = .inl (G.2.2.1 0, 400, .inl r) := fun _ _ => rfl
theorem gs_5 (G : gC) : ∀ (r : Nat → Int32) (q : Nat → Int64), gs G 5 r q = .inl (G.2.2.1 4, 10, .inr (.inr (.inr (.inr (fun j => if j < 10 then some (ga G (5 + 1 + j)) else none))))) := fun _ _ => rfl
theorem gk_5 : ∀ j : Nat, j < 10 → gk_k (5 + 1 + j) = 11 ∧ gk_n (5 + 1 + j) = 9 := by decide +kernel
theorem gn_5 (G : gC) {j : Nat} (hj : j < 10) : ∀ (r : Nat → Int32) (q : Nat → Int64), gs G (5 + 1 + j) r q = .inl (G.2.2.1 0, 9, .inl r) := fun r q => by unfold gs; rw [(gk_5 j hj).1, (gk_5 j hj).2]; rfl
theorem gl_5 {n j : Nat} (hj : j < 10) : 106 ≤ n → 5 + 1 + j < n := fun hn => by omega
theorem gs_17 (G : gC) : ∀ (r : Nat → Int32) (q : Nat → Int64), gs G 17 r q = .inl (G.2.2.1 4, 10, .inr (.inr (.inr (.inr (fun j => if j < 10 then some (ga G (17 + 1 + j)) else none))))) := fun _ _ => rfl
theorem gk_17 : ∀ j : Nat, j < 10 → gk_k (17 + 1 + j) = 11 ∧ gk_n (17 + 1 + j) = 9 := by decide +kernel
theorem gn_17 (G : gC) {j : Nat} (hj : j < 10) : ∀ (r : Nat → Int32) (q : Nat → Int64), gs G (17 + 1 + j) r q = .inl (G.2.2.1 0, 9, .inl r) := fun r q => by unfold gs; rw [(gk_17 j hj).1, (gk_17 j hj).2]; rfl
theorem gl_17 {n j : Nat} (hj : j < 10) : 106 ≤ n → 17 + 1 + j < n := fun hn => by omega
theorem gs_29 (G : gC) : ∀ (r : Nat → Int32) (q : Nat → Int64), gs G 29 r q = .inl (G.2.2.1 0, 8, .inl r) := fun _ _ => rfl
theorem gs_31 (G : gC) : ∀ (r : Nat → Int32) (q : Nat → Int64), gs G 31 r q = .inl (G.2.2.1 0, 1024, .inl r) := fun _ _ => rfl
theorem gs_32 (G : gC) : ∀ (r : Nat → Int32) (q : Nat → Int64), gs G 32 r q = .inl (G.2.2.1 0, 1024, .inl r) := fun _ _ => rfl
theorem gs_33 (G : gC) : ∀ (r : Nat → Int32) (q : Nat → Int64), gs G 33 r q = .inl (G.2.2.1 0, 1024, .inl r) := fun _ _ => rfl
theorem gs_34 (G : gC) : ∀ (r : Nat → Int32) (q : Nat → Int64), gs G 34 r q = .inl (G.2.2.1 0, 1024, .inl r) := fun _ _ => rfl
theorem gs_35 (G : gC) : ∀ (r : Nat → Int32) (q : Nat → Int64), gs G 35 r q = .inl (G.2.2.1 0, 1024, .inl r) := fun _ _ => rfl
theorem gs_36 (G : gC) : ∀ (r : Nat → Int32) (q : Nat → Int64), gs G 36 r q = .inl (G.2.2.1 0, 1024, .inl r) := fun _ _ => rfl
theorem gs_37 (G : gC) : ∀ (r : Nat → Int32) (q : Nat → Int64), gs G 37 r q = .inl (G.2.2.1 0, 1024, .inl r) := fun _ _ => rfl
theorem gs_38 (G : gC) : ∀ (r : Nat → Int32) (q : Nat → Int64), gs G 38 r q = .inl (G.2.2.1 0, 1024, .inl r) := fun _ _ => rfl
theorem gs_39 (G : gC) : ∀ (r : Nat → Int32) (q : Nat → Int64), gs G 39 r q = .inl (G.2.2.1 0, 1024, .inl r) := fun _ _ => rfl
theorem gs_40 (G : gC) : ∀ (r : Nat → Int32) (q : Nat → Int64), gs G 40 r q = .inl (G.2.2.1 0, 1024, .inl r) := fun _ _ => rfl
theorem gs_41 (G : gC) : ∀ (r : Nat → Int32) (q : Nat → Int64), gs G 41 r q = .inl (G.2.2.1 0, 1024, .inl r) := fun _ _ => rfl
theorem gs_43 (G : gC) : ∀ (r : Nat → Int32) (q : Nat → Int64), gs G 43 r q = .inl (G.2.2.1 0, 10, .inl r) := fun _ _ => rfl
theorem gs_44 (G : gC) : ∀ (r : Nat → Int32) (q : Nat → Int64), gs G 44 r q = .inl (G.2.2.1 0, 12, .inl r) := fun _ _ => rfl
theorem gs_45 (G : gC) : ∀ (r : Nat → Int32) (q : Nat → Int64), gs G 45 r q = .inl (G.2.2.1 0, 8, .inl r) := fun _ _ => rfl
theorem gs_70 (G : gC) : ∀ (r : Nat → Int32) (q : Nat → Int64), gs G 70 r q = .inl (G.2.2.1 0, 10, .inl r) := fun _ _ => rfl
theorem gs_71 (G : gC) : ∀ (r : Nat → Int32) (q : Nat → Int64), gs G 71 r q = .inl (G.2.2.1 0, 12, .inl r) := fun _ _ => rfl
theorem gs_72 (G : gC) : ∀ (r : Nat → Int32) (q : Nat → Int64), gs G 72 r q = .inl (G.2.2.1 0, 8, .inl r) := fun _ _ => rfl
theorem gs_74 (G : gC) : ∀ (r : Nat → Int32) (q : Nat → Int64), gs G 74 r q = .inl (G.2.2.1 0, 10, .inl r) := fun _ _ => rfl
theorem gs_75 (G : gC) : ∀ (r : Nat → Int32) (q : Nat → Int64), gs G 75 r q = .inl (G.2.2.1 0, 12, .inl r) := fun _ _ => rfl
theorem gs_76 (G : gC) : ∀ (r : Nat → Int32) (q : Nat → Int64), gs G 76 r q = .inl (G.2.2.1 0, 8, .inl r) := fun _ _ => rfl
theorem gs_48 (G : gC) : ∀ (r : Nat → Int32) (q : Nat → Int64), gs G 48 r q = .inl (G.2.2.1 4, 9, .inr (.inr (.inr (.inr (fun j => if j < 9 then some (ga G (48 + 1 + j)) else none))))) := fun _ _ => rfl
theorem gk_48 : ∀ j : Nat, j < 9 → gk_k (48 + 1 + j) = 11 ∧ gk_n (48 + 1 + j) = 11 := by decide +kernel
theorem gn_48 (G : gC) {j : Nat} (hj : j < 9) : ∀ (r : Nat → Int32) (q : Nat → Int64), gs G (48 + 1 + j) r q = .inl (G.2.2.1 0, 11, .inl r) := fun r q => by unfold gs; rw [(gk_48 j hj).1, (gk_48 j hj).2]; rfl
theorem gl_48 {n j : Nat} (hj : j < 9) : 106 ≤ n → 48 + 1 + j < n := fun hn => by omega
theorem gs_58 (G : gC) : ∀ (r : Nat → Int32) (q : Nat → Int64), gs G 58 r q = .inl (G.2.2.1 4, 9, .inr (.inr (.inr (.inr (fun j => if j < 9 then some (ga G (58 + 1 + j)) else none))))) := fun _ _ => rfl
theorem gk_58 : ∀ j : Nat, j < 9 → gk_k (58 + 1 + j) = 11 ∧ gk_n (58 + 1 + j) = 11 := by decide +kernel
theorem gn_58 (G : gC) {j : Nat} (hj : j < 9) : ∀ (r : Nat → Int32) (q : Nat → Int64), gs G (58 + 1 + j) r q = .inl (G.2.2.1 0, 11, .inl r) := fun r q => by unfold gs; rw [(gk_58 j hj).1, (gk_58 j hj).2]; rfl
theorem gl_58 {n j : Nat} (hj : j < 9) : 106 ≤ n → 58 + 1 + j < n := fun hn => by omega
theorem gs_77 (G : gC) : ∀ (r : Nat → Int32) (q : Nat → Int64), gs G 77 r q = .inl (G.2.2.1 1, 2, .inl r) := fun _ _ => rfl
theorem gs_79 (G : gC) : ∀ (r : Nat → Int32) (q : Nat → Int64), gs G 79 r q = .inl (G.2.2.1 0, 10, .inl r) := fun _ _ => rfl
theorem gs_80 (G : gC) : ∀ (r : Nat → Int32) (q : Nat → Int64), gs G 80 r q = .inl (G.2.2.1 0, 10, .inl r) := fun _ _ => rfl
theorem gs_81 (G : gC) : ∀ (r : Nat → Int32) (q : Nat → Int64), gs G 81 r q = .inl (G.2.2.1 0, 80, .inl r) := fun _ _ => rfl
theorem gs_82 (G : gC) : ∀ (r : Nat → Int32) (q : Nat → Int64), gs G 82 r q = .inl (G.2.2.1 0, 8, .inl r) := fun _ _ => rfl
theorem gs_83 (G : gC) : ∀ (r : Nat → Int32) (q : Nat → Int64), gs G 83 r q = .inl (G.2.2.1 0, 8, .inl r) := fun _ _ => rfl
theorem gs_84 (G : gC) : ∀ (r : Nat → Int32) (q : Nat → Int64), gs G 84 r q = .inl (G.2.2.1 0, 400, .inl r) := fun _ _ => rfl
theorem gs_85 (G : gC) : ∀ (r : Nat → Int32) (q : Nat → Int64), gs G 85 r q = .inl (G.2.2.1 0, 10, .inl r) := fun _ _ => rfl
theorem gs_86 (G : gC) : ∀ (r : Nat → Int32) (q : Nat → Int64), gs G 86 r q = .inl (G.2.2.1 0, 10, .inl r) := fun _ _ => rfl
theorem gs_87 (G : gC) : ∀ (r : Nat → Int32) (q : Nat → Int64), gs G 87 r q = .inl (G.2.2.1 0, 80, .inl r) := fun _ _ => rfl
theorem gs_89 (G : gC) : ∀ (r : Nat → Int32) (q : Nat → Int64), gs G 89 r q = .inl (G.2.2.1 1, 1024, .inl r) := fun _ _ => rfl
theorem gs_90 (G : gC) : ∀ (r : Nat → Int32) (q : Nat → Int64), gs G 90 r q = .inl (G.2.2.1 0, 1024, .inl r) := fun _ _ => rfl
theorem gs_91 (G : gC) : ∀ (r : Nat → Int32) (q : Nat → Int64), gs G 91 r q = .inl (G.2.2.1 0, 1024, .inl r) := fun _ _ => rfl
theorem gs_92 (G : gC) : ∀ (r : Nat → Int32) (q : Nat → Int64), gs G 92 r q = .inl (G.2.2.1 0, 12, .inl r) := fun _ _ => rfl
theorem gs_93 (G : gC) : ∀ (r : Nat → Int32) (q : Nat → Int64), gs G 93 r q = .inl (G.2.2.1 0, 72, .inl r) := fun _ _ => rfl
theorem gs_94 (G : gC) : ∀ (r : Nat → Int32) (q : Nat → Int64), gs G 94 r q = .inl (G.2.2.1 0, 6, .inl r) := fun _ _ => rfl
theorem gs_95 (G : gC) : ∀ (r : Nat → Int32) (q : Nat → Int64), gs G 95 r q = .inl (G.2.2.1 1, 1024, .inl r) := fun _ _ => rfl
theorem gs_96 (G : gC) : ∀ (r : Nat → Int32) (q : Nat → Int64), gs G 96 r q = .inl (G.2.2.1 0, 1024, .inl r) := fun _ _ => rfl
theorem gs_97 (G : gC) : ∀ (r : Nat → Int32) (q : Nat → Int64), gs G 97 r q = .inl (G.2.2.1 0, 13312, .inl r) := fun _ _ => rfl
theorem gs_98 (G : gC) : ∀ (r : Nat → Int32) (q : Nat → Int64), gs G 98 r q = .inl (G.2.2.1 0, 13312, .inl r) := fun _ _ => rfl
theorem gs_99 (G : gC) : ∀ (r : Nat → Int32) (q : Nat → Int64), gs G 99 r q = .inl (G.2.2.1 0, 13312, .inl r) := fun _ _ => rfl
theorem gs_100 (G : gC) : ∀ (r : Nat → Int32) (q : Nat → Int64), gs G 100 r q = .inl (G.2.2.1 0, 10, .inl r) := fun _ _ => rfl
theorem gs_101 (G : gC) : ∀ (r : Nat → Int32) (q : Nat → Int64), gs G 101 r q = .inl (G.2.2.1 0, 99, .inl r) := fun _ _ => rfl
theorem gs_102 (G : gC) : ∀ (r : Nat → Int32) (q : Nat → Int64), gs G 102 r q = .inl (G.2.2.1 0, 99, .inl r) := fun _ _ => rfl
theorem gs_103 (G : gC) : ∀ (r : Nat → Int32) (q : Nat → Int64), gs G 103 r q = .inl (G.2.2.1 0, 220, .inl r) := fun _ _ => rfl
theorem gs_104 (G : gC) : ∀ (r : Nat → Int32) (q : Nat → Int64), gs G 104 r q = .inl (G.2.2.1 0, 2, .inl r) := fun _ _ => rfl
theorem gs_105 (G : gC) : ∀ (r : Nat → Int32) (q : Nat → Int64), gs G 105 r q = .inl (G.2.2.1 1, 2, .inl r) := fun _ _ => rfl
theorem gs_107 (G : gC) : ∀ (r : Nat → Int32) (q : Nat → Int64), gs G 107 r q = .inl (G.2.2.1 0, 1024, .inl r) := fun _ _ => rfl
theorem gs_108 (G : gC) : ∀ (r : Nat → Int32) (q : Nat → Int64), gs G 108 r q = .inl (G.2.2.1 4, 11, .inr (.inr (.inr (.inr (fun j => if j < 11 then some (ga G (108 + 1 + j)) else none))))) := fun _ _ => rfl
theorem gk_108 : ∀ j : Nat, j < 11 → gk_k (108 + 1 + j) = 11 ∧ gk_n (108 + 1 + j) = 1024 := by decide +kernel
theorem gn_108 (G : gC) {j : Nat} (hj : j < 11) : ∀ (r : Nat → Int32) (q : Nat → Int64), gs G (108 + 1 + j) r q = .inl (G.2.2.1 0, 1024, .inl r) := fun r q => by unfold gs; rw [(gk_108 j hj).1, (gk_108 j hj).2]; rfl
theorem gl_108 {n j : Nat} (hn : 144 ≤ n) (hj : j < 11) : 106 ≤ n → 108 + 1 + j < n := fun _ => by omega
theorem gs_120 (G : gC) : ∀ (r : Nat → Int32) (q : Nat → Int64), gs G 120 r q = .inl (G.2.2.1 4, 11, .inr (.inr (.inr (.inr (fun j => if j < 11 then some (ga G (120 + 1 + j)) else none))))) := fun _ _ => rfl
theorem gk_120 : ∀ j : Nat, j < 11 → gk_k (120 + 1 + j) = 11 ∧ gk_n (120 + 1 + j) = 1024 := by decide +kernel
theorem gn_120 (G : gC) {j : Nat} (hj : j < 11) : ∀ (r : Nat → Int32) (q : Nat → Int64), gs G (120 + 1 + j) r q = .inl (G.2.2.1 0, 1024, .inl r) := fun r q => by unfold gs; rw [(gk_120 j hj).1, (gk_120 j hj).2]; rfl
theorem gl_120 {n j : Nat} (hn : 144 ≤ n) (hj : j < 11) : 106 ≤ n → 120 + 1 + j < n := fun _ => by omega
theorem gs_132 (G : gC) : ∀ (r : Nat → Int32) (q : Nat → Int64), gs G 132 r q = .inl (G.2.2.1 4, 11, .inr (.inr (.inr (.inr (fun j => if j < 11 then some (ga G (132 + 1 + j)) else none))))) := fun _ _ => rfl
theorem gk_132 : ∀ j : Nat, j < 11 → gk_k (132 + 1 + j) = 11 ∧ gk_n (132 + 1 + j) = 1024 := by decide +kernel
theorem gn_132 (G : gC) {j : Nat} (hj : j < 11) : ∀ (r : Nat → Int32) (q : Nat → Int64), gs G (132 + 1 + j) r q = .inl (G.2.2.1 0, 1024, .inl r) := fun r q => by unfold gs; rw [(gk_132 j hj).1, (gk_132 j hj).2]; rfl
theorem gl_132 {n j : Nat} (hn : 144 ≤ n) (hj : j < 11) : 106 ≤ n → 132 + 1 + j < n := fun _ => by omega
theorem vp_lt {i : Int32} {n : Nat} (h : vp_in i n) : i.toNatClampNeg < n := Nat.not_le.mp fun q => h (Or.inr q)
theorem sw_eq {x : Int32} {n : Int} (c : Int32) (hc : c.toInt = n) (h : x.toInt = n) : x = c := Int32.toInt_inj.mp (h.trans hc.symm)
set_option maxRecDepth 100000 in
theorem inX0 : ∀ w ∈ u_ws RX0 TX0 5, w ∈ g_tbl := by decide +kernel
set_option maxRecDepth 100000 in
theorem inX1 : ∀ w ∈ u_ws RX1 TX1 4, w ∈ g_tbl := by decide +kernel
set_option maxRecDepth 100000 in
theorem inX2 : ∀ w ∈ u_ws RX2 TX2 10, w ∈ g_tbl := by decide +kernel
set_option maxRecDepth 100000 in
theorem inX3 : ∀ w ∈ u_ws RX3 TX3 2, w ∈ g_tbl := by decide +kernel
set_option maxRecDepth 100000 in
theorem inX4 : ∀ w ∈ u_ws RX4 TX4 8, w ∈ g_tbl := by decide +kernel
set_option maxRecDepth 100000 in
theorem inX5 : ∀ w ∈ u_ws RX5 TX5 3, w ∈ g_tbl := by decide +kernel
set_option maxRecDepth 100000 in
theorem inX6 : ∀ w ∈ u_ws RX6 TX6 16, w ∈ g_tbl := by decide +kernel
set_option maxRecDepth 100000 in
theorem inX7 : ∀ w ∈ u_ws RX7 TX7 2, w ∈ g_tbl := by decide +kernel
set_option maxRecDepth 100000 in
theorem inX8 : ∀ w ∈ u_ws RX8 TX8 2, w ∈ g_tbl := by decide +kernel
set_option maxRecDepth 100000 in
theorem inX9 : ∀ w ∈ u_ws RX9 TX9 12, w ∈ g_tbl := by decide +kernel
set_option maxRecDepth 100000 in
theorem inX10 : ∀ w ∈ u_ws RX10 TX10 40, w ∈ g_tbl := by decide +kernel
theorem fX8_9 : gF RX8 9 8 0 := ⟨RX8, TX8, 2, rfl, by decide, inX8, g_in 97 (by decide +kernel) rfl, rfl⟩
theorem fX8_15 : gF RX8 15 8 1 := ⟨RX8, TX8, 2, rfl, by decide, inX8, g_in 98 (by decide +kernel) rfl, rfl⟩
theorem pX8_15 : gFp RX8 15 8 1 (.int) := ⟨RX8, TX8, 2, tyX8, rfl, by decide, inX8, g_in 98 (by decide +kernel) rfl, rfl, rfl, rfl, tyX8_ok, nmX8⟩
theorem fX9_84 : gF RX9 84 8 1 := ⟨RX8, TX8, 2, rfl, by decide, inX8, g_in 99 (by decide +kernel) rfl, rfl⟩
theorem pX9_84 : gFp RX9 84 8 1 (.int) := ⟨RX8, TX8, 2, tyX8, rfl, by decide, inX8, g_in 99 (by decide +kernel) rfl, rfl, rfl, rfl, tyX8_ok, nmX8⟩
theorem fX4_46 : gF RX4 46 8 1 := ⟨RX8, TX8, 2, rfl, by decide, inX8, g_in 100 (by decide +kernel) rfl, rfl⟩
theorem pX4_46 : gFp RX4 46 8 1 (.int) := ⟨RX8, TX8, 2, tyX8, rfl, by decide, inX8, g_in 100 (by decide +kernel) rfl, rfl, rfl, rfl, tyX8_ok, nmX8⟩
theorem fX4_15 : gF RX4 15 4 0 := ⟨RX4, TX4, 8, rfl, by decide, inX4, g_in 113 (by decide +kernel) rfl, rfl⟩
theorem fX4_19 : gF RX4 19 4 1 := ⟨RX4, TX4, 8, rfl, by decide, inX4, g_in 114 (by decide +kernel) rfl, rfl⟩
theorem pX4_19 : gFp RX4 19 4 1 (.object "StoryNumbers$Story") := ⟨RX4, TX4, 8, tyX4, rfl, by decide, inX4, g_in 114 (by decide +kernel) rfl, rfl, rfl, rfl, tyX4_ok, nmX4⟩
theorem fX4_28 : gF RX4 28 4 2 := ⟨RX4, TX4, 8, rfl, by decide, inX4, g_in 115 (by decide +kernel) rfl, rfl⟩
theorem pX4_28 : gFp RX4 28 4 2 (.int) := ⟨RX4, TX4, 8, tyX4, rfl, by decide, inX4, g_in 115 (by decide +kernel) rfl, rfl, rfl, rfl, tyX4_ok, nmX4⟩
theorem fX4_31 : gF RX4 31 4 3 := ⟨RX4, TX4, 8, rfl, by decide, inX4, g_in 116 (by decide +kernel) rfl, rfl⟩
theorem pX4_31 : gFp RX4 31 4 3 (.int) := ⟨RX4, TX4, 8, tyX4, rfl, by decide, inX4, g_in 116 (by decide +kernel) rfl, rfl, rfl, rfl, tyX4_ok, nmX4⟩
theorem fX4_9 : gF RX4 9 4 4 := ⟨RX4, TX4, 8, rfl, by decide, inX4, g_in 117 (by decide +kernel) rfl, rfl⟩
theorem pX4_9 : gFp RX4 9 4 4 (.int) := ⟨RX4, TX4, 8, tyX4, rfl, by decide, inX4, g_in 117 (by decide +kernel) rfl, rfl, rfl, rfl, tyX4_ok, nmX4⟩
theorem fX9_112 : gF RX9 112 4 4 := ⟨RX4, TX4, 8, rfl, by decide, inX4, g_in 118 (by decide +kernel) rfl, rfl⟩
theorem pX9_112 : gFp RX9 112 4 4 (.int) := ⟨RX4, TX4, 8, tyX4, rfl, by decide, inX4, g_in 118 (by decide +kernel) rfl, rfl, rfl, rfl, tyX4_ok, nmX4⟩
theorem fX4_34 : gF RX4 34 4 5 := ⟨RX4, TX4, 8, rfl, by decide, inX4, g_in 119 (by decide +kernel) rfl, rfl⟩
theorem pX4_34 : gFp RX4 34 4 5 (.int) := ⟨RX4, TX4, 8, tyX4, rfl, by decide, inX4, g_in 119 (by decide +kernel) rfl, rfl, rfl, rfl, tyX4_ok, nmX4⟩
theorem fX4_37 : gF RX4 37 4 6 := ⟨RX4, TX4, 8, rfl, by decide, inX4, g_in 120 (by decide +kernel) rfl, rfl⟩
theorem pX4_37 : gFp RX4 37 4 6 (.int) := ⟨RX4, TX4, 8, tyX4, rfl, by decide, inX4, g_in 120 (by decide +kernel) rfl, rfl, rfl, rfl, tyX4_ok, nmX4⟩
theorem fX4_40 : gF RX4 40 4 7 := ⟨RX4, TX4, 8, rfl, by decide, inX4, g_in 121 (by decide +kernel) rfl, rfl⟩
theorem pX4_40 : gFp RX4 40 4 7 (.int) := ⟨RX4, TX4, 8, tyX4, rfl, by decide, inX4, g_in 121 (by decide +kernel) rfl, rfl, rfl, rfl, tyX4_ok, nmX4⟩
theorem fX7_13 : gF RX7 13 7 0 := ⟨RX7, TX7, 2, rfl, by decide, inX7, g_in 147 (by decide +kernel) rfl, rfl⟩
theorem fX6_95 : gF RX6 95 7 0 := ⟨RX7, TX7, 2, rfl, by decide, inX7, g_in 148 (by decide +kernel) rfl, rfl⟩
theorem fX5_44 : gF RX5 44 7 0 := ⟨RX7, TX7, 2, rfl, by decide, inX7, g_in 149 (by decide +kernel) rfl, rfl⟩
theorem fX7_16 : gF RX7 16 7 1 := ⟨RX7, TX7, 2, rfl, by decide, inX7, g_in 150 (by decide +kernel) rfl, rfl⟩
theorem pX7_16 : gFp RX7 16 7 1 (.int) := ⟨RX7, TX7, 2, tyX7, rfl, by decide, inX7, g_in 150 (by decide +kernel) rfl, rfl, rfl, rfl, tyX7_ok, nmX7⟩
theorem fX6_57 : gF RX6 57 7 1 := ⟨RX7, TX7, 2, rfl, by decide, inX7, g_in 151 (by decide +kernel) rfl, rfl⟩
theorem pX6_57 : gFp RX6 57 7 1 (.int) := ⟨RX7, TX7, 2, tyX7, rfl, by decide, inX7, g_in 151 (by decide +kernel) rfl, rfl, rfl, rfl, tyX7_ok, nmX7⟩
theorem fX4_23 : gF RX4 23 7 1 := ⟨RX7, TX7, 2, rfl, by decide, inX7, g_in 152 (by decide +kernel) rfl, rfl⟩
theorem pX4_23 : gFp RX4 23 7 1 (.int) := ⟨RX7, TX7, 2, tyX7, rfl, by decide, inX7, g_in 152 (by decide +kernel) rfl, rfl, rfl, rfl, tyX7_ok, nmX7⟩
theorem fX9_109 : gF RX9 109 7 1 := ⟨RX7, TX7, 2, rfl, by decide, inX7, g_in 153 (by decide +kernel) rfl, rfl⟩
theorem pX9_109 : gFp RX9 109 7 1 (.int) := ⟨RX7, TX7, 2, tyX7, rfl, by decide, inX7, g_in 153 (by decide +kernel) rfl, rfl, rfl, rfl, tyX7_ok, nmX7⟩
theorem fX5_41 : gF RX5 41 7 1 := ⟨RX7, TX7, 2, rfl, by decide, inX7, g_in 154 (by decide +kernel) rfl, rfl⟩
theorem pX5_41 : gFp RX5 41 7 1 (.int) := ⟨RX7, TX7, 2, tyX7, rfl, by decide, inX7, g_in 154 (by decide +kernel) rfl, rfl, rfl, rfl, tyX7_ok, nmX7⟩
theorem fX2_107 : gF RX2 107 7 1 := ⟨RX7, TX7, 2, rfl, by decide, inX7, g_in 155 (by decide +kernel) rfl, rfl⟩
theorem pX2_107 : gFp RX2 107 7 1 (.int) := ⟨RX7, TX7, 2, tyX7, rfl, by decide, inX7, g_in 155 (by decide +kernel) rfl, rfl, rfl, rfl, tyX7_ok, nmX7⟩
theorem fX5_19 : gF RX5 19 5 0 := ⟨RX5, TX5, 3, rfl, by decide, inX5, g_in 167 (by decide +kernel) rfl, rfl⟩
theorem fX5_9 : gF RX5 9 5 1 := ⟨RX5, TX5, 3, rfl, by decide, inX5, g_in 168 (by decide +kernel) rfl, rfl⟩
theorem fX5_15 : gF RX5 15 5 2 := ⟨RX5, TX5, 3, rfl, by decide, inX5, g_in 169 (by decide +kernel) rfl, rfl⟩
theorem pX5_15 : gFp RX5 15 5 2 (.int) := ⟨RX5, TX5, 3, tyX5, rfl, by decide, inX5, g_in 169 (by decide +kernel) rfl, rfl, rfl, rfl, tyX5_ok, nmX5⟩
theorem fX9_151 : gF RX9 151 5 2 := ⟨RX5, TX5, 3, rfl, by decide, inX5, g_in 170 (by decide +kernel) rfl, rfl⟩
theorem pX9_151 : gFp RX9 151 5 2 (.int) := ⟨RX5, TX5, 3, tyX5, rfl, by decide, inX5, g_in 170 (by decide +kernel) rfl, rfl, rfl, rfl, tyX5_ok, nmX5⟩
theorem fX6_49 : gF RX6 49 6 0 := ⟨RX6, TX6, 16, rfl, by decide, inX6, g_in 184 (by decide +kernel) rfl, rfl⟩
theorem fX6_53 : gF RX6 53 6 1 := ⟨RX6, TX6, 16, rfl, by decide, inX6, g_in 185 (by decide +kernel) rfl, rfl⟩
theorem fX6_9 : gF RX6 9 6 2 := ⟨RX6, TX6, 16, rfl, by decide, inX6, g_in 186 (by decide +kernel) rfl, rfl⟩
theorem pX6_9 : gFp RX6 9 6 2 (.boolean) := ⟨RX6, TX6, 16, tyX6, rfl, by decide, inX6, g_in 186 (by decide +kernel) rfl, rfl, rfl, rfl, tyX6_ok, nmX6⟩
theorem fX9_102 : gF RX9 102 6 2 := ⟨RX6, TX6, 16, rfl, by decide, inX6, g_in 187 (by decide +kernel) rfl, rfl⟩
theorem pX9_102 : gFp RX9 102 6 2 (.boolean) := ⟨RX6, TX6, 16, tyX6, rfl, by decide, inX6, g_in 187 (by decide +kernel) rfl, rfl, rfl, rfl, tyX6_ok, nmX6⟩
theorem fX6_63 : gF RX6 63 6 3 := ⟨RX6, TX6, 16, rfl, by decide, inX6, g_in 188 (by decide +kernel) rfl, rfl⟩
theorem pX6_63 : gFp RX6 63 6 3 (.int) := ⟨RX6, TX6, 16, tyX6, rfl, by decide, inX6, g_in 188 (by decide +kernel) rfl, rfl, rfl, rfl, tyX6_ok, nmX6⟩
theorem fX6_15 : gF RX6 15 6 4 := ⟨RX6, TX6, 16, rfl, by decide, inX6, g_in 189 (by decide +kernel) rfl, rfl⟩
theorem fX2_92 : gF RX2 92 6 4 := ⟨RX6, TX6, 16, rfl, by decide, inX6, g_in 190 (by decide +kernel) rfl, rfl⟩
theorem fX6_19 : gF RX6 19 6 5 := ⟨RX6, TX6, 16, rfl, by decide, inX6, g_in 191 (by decide +kernel) rfl, rfl⟩
theorem fX2_118 : gF RX2 118 6 5 := ⟨RX6, TX6, 16, rfl, by decide, inX6, g_in 192 (by decide +kernel) rfl, rfl⟩
theorem fX6_22 : gF RX6 22 6 6 := ⟨RX6, TX6, 16, rfl, by decide, inX6, g_in 193 (by decide +kernel) rfl, rfl⟩
theorem fX6_25 : gF RX6 25 6 7 := ⟨RX6, TX6, 16, rfl, by decide, inX6, g_in 194 (by decide +kernel) rfl, rfl⟩
theorem fX6_28 : gF RX6 28 6 8 := ⟨RX6, TX6, 16, rfl, by decide, inX6, g_in 195 (by decide +kernel) rfl, rfl⟩
theorem fX6_31 : gF RX6 31 6 9 := ⟨RX6, TX6, 16, rfl, by decide, inX6, g_in 196 (by decide +kernel) rfl, rfl⟩
theorem fX6_34 : gF RX6 34 6 10 := ⟨RX6, TX6, 16, rfl, by decide, inX6, g_in 197 (by decide +kernel) rfl, rfl⟩
theorem fX2_115 : gF RX2 115 6 10 := ⟨RX6, TX6, 16, rfl, by decide, inX6, g_in 198 (by decide +kernel) rfl, rfl⟩
theorem fX6_37 : gF RX6 37 6 11 := ⟨RX6, TX6, 16, rfl, by decide, inX6, g_in 199 (by decide +kernel) rfl, rfl⟩
theorem fX2_100 : gF RX2 100 6 11 := ⟨RX6, TX6, 16, rfl, by decide, inX6, g_in 200 (by decide +kernel) rfl, rfl⟩
theorem fX6_40 : gF RX6 40 6 12 := ⟨RX6, TX6, 16, rfl, by decide, inX6, g_in 201 (by decide +kernel) rfl, rfl⟩
theorem fX9_172 : gF RX9 172 6 12 := ⟨RX6, TX6, 16, rfl, by decide, inX6, g_in 202 (by decide +kernel) rfl, rfl⟩
theorem fX6_43 : gF RX6 43 6 13 := ⟨RX6, TX6, 16, rfl, by decide, inX6, g_in 203 (by decide +kernel) rfl, rfl⟩
theorem fX9_194 : gF RX9 194 6 13 := ⟨RX6, TX6, 16, rfl, by decide, inX6, g_in 204 (by decide +kernel) rfl, rfl⟩
theorem fX6_46 : gF RX6 46 6 14 := ⟨RX6, TX6, 16, rfl, by decide, inX6, g_in 205 (by decide +kernel) rfl, rfl⟩
theorem fX6_92 : gF RX6 92 6 15 := ⟨RX6, TX6, 16, rfl, by decide, inX6, g_in 206 (by decide +kernel) rfl, rfl⟩
theorem pX6_92 : gFp RX6 92 6 15 (.int) := ⟨RX6, TX6, 16, tyX6, rfl, by decide, inX6, g_in 206 (by decide +kernel) rfl, rfl, rfl, rfl, tyX6_ok, nmX6⟩
theorem fX0_9 : gF RX0 9 0 0 := ⟨RX0, TX0, 5, rfl, by decide, inX0, g_in 255 (by decide +kernel) rfl, rfl⟩
theorem fX0_15 : gF RX0 15 0 1 := ⟨RX0, TX0, 5, rfl, by decide, inX0, g_in 256 (by decide +kernel) rfl, rfl⟩
theorem pX0_15 : gFp RX0 15 0 1 (.int) := ⟨RX0, TX0, 5, tyX0, rfl, by decide, inX0, g_in 256 (by decide +kernel) rfl, rfl, rfl, rfl, tyX0_ok, nmX0⟩
theorem fX9_209 : gF RX9 209 0 1 := ⟨RX0, TX0, 5, rfl, by decide, inX0, g_in 257 (by decide +kernel) rfl, rfl⟩
theorem pX9_209 : gFp RX9 209 0 1 (.int) := ⟨RX0, TX0, 5, tyX0, rfl, by decide, inX0, g_in 257 (by decide +kernel) rfl, rfl, rfl, rfl, tyX0_ok, nmX0⟩
theorem fX0_19 : gF RX0 19 0 2 := ⟨RX0, TX0, 5, rfl, by decide, inX0, g_in 258 (by decide +kernel) rfl, rfl⟩
theorem fX0_22 : gF RX0 22 0 3 := ⟨RX0, TX0, 5, rfl, by decide, inX0, g_in 259 (by decide +kernel) rfl, rfl⟩
theorem pX0_22 : gFp RX0 22 0 3 (.int) := ⟨RX0, TX0, 5, tyX0, rfl, by decide, inX0, g_in 259 (by decide +kernel) rfl, rfl, rfl, rfl, tyX0_ok, nmX0⟩
theorem fX9_139 : gF RX9 139 0 3 := ⟨RX0, TX0, 5, rfl, by decide, inX0, g_in 260 (by decide +kernel) rfl, rfl⟩
theorem pX9_139 : gFp RX9 139 0 3 (.int) := ⟨RX0, TX0, 5, tyX0, rfl, by decide, inX0, g_in 260 (by decide +kernel) rfl, rfl, rfl, rfl, tyX0_ok, nmX0⟩
theorem fX0_33 : gF RX0 33 0 4 := ⟨RX0, TX0, 5, rfl, by decide, inX0, g_in 261 (by decide +kernel) rfl, rfl⟩
theorem fX3_19 : gF RX3 19 0 4 := ⟨RX0, TX0, 5, rfl, by decide, inX0, g_in 262 (by decide +kernel) rfl, rfl⟩
theorem fX2_97 : gF RX2 97 0 4 := ⟨RX0, TX0, 5, rfl, by decide, inX0, g_in 263 (by decide +kernel) rfl, rfl⟩
theorem fX9_206 : gF RX9 206 0 4 := ⟨RX0, TX0, 5, rfl, by decide, inX0, g_in 264 (by decide +kernel) rfl, rfl⟩
theorem fX3_9 : gF RX3 9 3 0 := ⟨RX3, TX3, 2, rfl, by decide, inX3, g_in 282 (by decide +kernel) rfl, rfl⟩
theorem fX3_15 : gF RX3 15 3 1 := ⟨RX3, TX3, 2, rfl, by decide, inX3, g_in 283 (by decide +kernel) rfl, rfl⟩
theorem fX1_19 : gF RX1 19 1 0 := ⟨RX1, TX1, 4, rfl, by decide, inX1, g_in 296 (by decide +kernel) rfl, rfl⟩
theorem fX1_23 : gF RX1 23 1 1 := ⟨RX1, TX1, 4, rfl, by decide, inX1, g_in 297 (by decide +kernel) rfl, rfl⟩
theorem fX1_11 : gF RX1 11 1 2 := ⟨RX1, TX1, 4, rfl, by decide, inX1, g_in 298 (by decide +kernel) rfl, rfl⟩
theorem fX1_16 : gF RX1 16 1 3 := ⟨RX1, TX1, 4, rfl, by decide, inX1, g_in 299 (by decide +kernel) rfl, rfl⟩
theorem fX9_12 : gF RX9 12 9 0 := ⟨RX9, TX9, 12, rfl, by decide, inX9, g_in 310 (by decide +kernel) rfl, rfl⟩
theorem fX9_21 : gF RX9 21 9 1 := ⟨RX9, TX9, 12, rfl, by decide, inX9, g_in 311 (by decide +kernel) rfl, rfl⟩
theorem fX9_28 : gF RX9 28 9 2 := ⟨RX9, TX9, 12, rfl, by decide, inX9, g_in 312 (by decide +kernel) rfl, rfl⟩
theorem fX9_32 : gF RX9 32 9 3 := ⟨RX9, TX9, 12, rfl, by decide, inX9, g_in 313 (by decide +kernel) rfl, rfl⟩
theorem fX9_40 : gF RX9 40 9 4 := ⟨RX9, TX9, 12, rfl, by decide, inX9, g_in 314 (by decide +kernel) rfl, rfl⟩
theorem fX9_49 : gF RX9 49 9 5 := ⟨RX9, TX9, 12, rfl, by decide, inX9, g_in 315 (by decide +kernel) rfl, rfl⟩
theorem fX9_56 : gF RX9 56 9 6 := ⟨RX9, TX9, 12, rfl, by decide, inX9, g_in 316 (by decide +kernel) rfl, rfl⟩
theorem fX9_65 : gF RX9 65 9 7 := ⟨RX9, TX9, 12, rfl, by decide, inX9, g_in 317 (by decide +kernel) rfl, rfl⟩
theorem fX9_72 : gF RX9 72 9 8 := ⟨RX9, TX9, 12, rfl, by decide, inX9, g_in 318 (by decide +kernel) rfl, rfl⟩
theorem fX9_76 : gF RX9 76 9 9 := ⟨RX9, TX9, 12, rfl, by decide, inX9, g_in 319 (by decide +kernel) rfl, rfl⟩
theorem fX9_80 : gF RX9 80 9 10 := ⟨RX9, TX9, 12, rfl, by decide, inX9, g_in 320 (by decide +kernel) rfl, rfl⟩
theorem fX9_288 : gF RX9 288 9 11 := ⟨RX9, TX9, 12, rfl, by decide, inX9, g_in 321 (by decide +kernel) rfl, rfl⟩
theorem pX9_288 : gFp RX9 288 9 11 (.object "StoryNumbers$Plans") := ⟨RX9, TX9, 12, tyX9, rfl, by decide, inX9, g_in 321 (by decide +kernel) rfl, rfl, rfl, rfl, tyX9_ok, nmX9⟩
theorem fX2_33 : gF RX2 33 2 0 := ⟨RX2, TX2, 10, rfl, by decide, inX2, g_in 812 (by decide +kernel) rfl, rfl⟩
theorem fX2_37 : gF RX2 37 2 1 := ⟨RX2, TX2, 10, rfl, by decide, inX2, g_in 813 (by decide +kernel) rfl, rfl⟩
theorem fX2_41 : gF RX2 41 2 2 := ⟨RX2, TX2, 10, rfl, by decide, inX2, g_in 814 (by decide +kernel) rfl, rfl⟩
theorem fX2_67 : gF RX2 67 2 3 := ⟨RX2, TX2, 10, rfl, by decide, inX2, g_in 815 (by decide +kernel) rfl, rfl⟩
theorem pX2_67 : gFp RX2 67 2 3 (.int) := ⟨RX2, TX2, 10, tyX2, rfl, by decide, inX2, g_in 815 (by decide +kernel) rfl, rfl, rfl, rfl, tyX2_ok, nmX2⟩
theorem fX2_9 : gF RX2 9 2 4 := ⟨RX2, TX2, 10, rfl, by decide, inX2, g_in 816 (by decide +kernel) rfl, rfl⟩
theorem fX2_17 : gF RX2 17 2 5 := ⟨RX2, TX2, 10, rfl, by decide, inX2, g_in 817 (by decide +kernel) rfl, rfl⟩
theorem fX2_20 : gF RX2 20 2 6 := ⟨RX2, TX2, 10, rfl, by decide, inX2, g_in 818 (by decide +kernel) rfl, rfl⟩
theorem fX2_23 : gF RX2 23 2 7 := ⟨RX2, TX2, 10, rfl, by decide, inX2, g_in 819 (by decide +kernel) rfl, rfl⟩
theorem pX2_23 : gFp RX2 23 2 7 (.int) := ⟨RX2, TX2, 10, tyX2, rfl, by decide, inX2, g_in 819 (by decide +kernel) rfl, rfl, rfl, rfl, tyX2_ok, nmX2⟩
theorem fX2_27 : gF RX2 27 2 8 := ⟨RX2, TX2, 10, rfl, by decide, inX2, g_in 820 (by decide +kernel) rfl, rfl⟩
theorem fX2_30 : gF RX2 30 2 9 := ⟨RX2, TX2, 10, rfl, by decide, inX2, g_in 821 (by decide +kernel) rfl, rfl⟩
theorem pX2_30 : gFp RX2 30 2 9 (.int) := ⟨RX2, TX2, 10, tyX2, rfl, by decide, inX2, g_in 821 (by decide +kernel) rfl, rfl, rfl, rfl, tyX2_ok, nmX2⟩
theorem fX10_174 : gF RX10 174 10 0 := ⟨RX10, TX10, 40, rfl, by decide, inX10, g_in 952 (by decide +kernel) rfl, rfl⟩
theorem pX10_174 : gFp RX10 174 10 0 (.int) := ⟨RX10, TX10, 40, tyX10, rfl, by decide, inX10, g_in 952 (by decide +kernel) rfl, rfl, rfl, rfl, tyX10_ok, nmX10⟩
theorem fX10_189 : gF RX10 189 10 1 := ⟨RX10, TX10, 40, rfl, by decide, inX10, g_in 953 (by decide +kernel) rfl, rfl⟩
theorem pX10_189 : gFp RX10 189 10 1 (.int) := ⟨RX10, TX10, 40, tyX10, rfl, by decide, inX10, g_in 953 (by decide +kernel) rfl, rfl, rfl, rfl, tyX10_ok, nmX10⟩
theorem fX10_7 : gF RX10 7 10 2 := ⟨RX10, TX10, 40, rfl, by decide, inX10, g_in 954 (by decide +kernel) rfl, rfl⟩
theorem fX10_13 : gF RX10 13 10 3 := ⟨RX10, TX10, 40, rfl, by decide, inX10, g_in 955 (by decide +kernel) rfl, rfl⟩
theorem fX10_16 : gF RX10 16 10 4 := ⟨RX10, TX10, 40, rfl, by decide, inX10, g_in 956 (by decide +kernel) rfl, rfl⟩
theorem fX10_19 : gF RX10 19 10 5 := ⟨RX10, TX10, 40, rfl, by decide, inX10, g_in 957 (by decide +kernel) rfl, rfl⟩
theorem fX10_22 : gF RX10 22 10 6 := ⟨RX10, TX10, 40, rfl, by decide, inX10, g_in 958 (by decide +kernel) rfl, rfl⟩
theorem fX10_25 : gF RX10 25 10 7 := ⟨RX10, TX10, 40, rfl, by decide, inX10, g_in 959 (by decide +kernel) rfl, rfl⟩
theorem fX10_103 : gF RX10 103 10 8 := ⟨RX10, TX10, 40, rfl, by decide, inX10, g_in 960 (by decide +kernel) rfl, rfl⟩
theorem pX10_103 : gFp RX10 103 10 8 (.int) := ⟨RX10, TX10, 40, tyX10, rfl, by decide, inX10, g_in 960 (by decide +kernel) rfl, rfl, rfl, rfl, tyX10_ok, nmX10⟩
theorem fX10_108 : gF RX10 108 10 9 := ⟨RX10, TX10, 40, rfl, by decide, inX10, g_in 961 (by decide +kernel) rfl, rfl⟩
theorem pX10_108 : gFp RX10 108 10 9 (.int) := ⟨RX10, TX10, 40, tyX10, rfl, by decide, inX10, g_in 961 (by decide +kernel) rfl, rfl, rfl, rfl, tyX10_ok, nmX10⟩
theorem fX10_118 : gF RX10 118 10 10 := ⟨RX10, TX10, 40, rfl, by decide, inX10, g_in 962 (by decide +kernel) rfl, rfl⟩
theorem pX10_118 : gFp RX10 118 10 10 (.int) := ⟨RX10, TX10, 40, tyX10, rfl, by decide, inX10, g_in 962 (by decide +kernel) rfl, rfl, rfl, rfl, tyX10_ok, nmX10⟩
theorem fX10_125 : gF RX10 125 10 11 := ⟨RX10, TX10, 40, rfl, by decide, inX10, g_in 963 (by decide +kernel) rfl, rfl⟩
theorem pX10_125 : gFp RX10 125 10 11 (.int) := ⟨RX10, TX10, 40, tyX10, rfl, by decide, inX10, g_in 963 (by decide +kernel) rfl, rfl, rfl, rfl, tyX10_ok, nmX10⟩
theorem fX10_111 : gF RX10 111 10 12 := ⟨RX10, TX10, 40, rfl, by decide, inX10, g_in 964 (by decide +kernel) rfl, rfl⟩
theorem pX10_111 : gFp RX10 111 10 12 (.int) := ⟨RX10, TX10, 40, tyX10, rfl, by decide, inX10, g_in 964 (by decide +kernel) rfl, rfl, rfl, rfl, tyX10_ok, nmX10⟩
theorem fX10_28 : gF RX10 28 10 13 := ⟨RX10, TX10, 40, rfl, by decide, inX10, g_in 965 (by decide +kernel) rfl, rfl⟩
theorem pX10_28 : gFp RX10 28 10 13 (.int) := ⟨RX10, TX10, 40, tyX10, rfl, by decide, inX10, g_in 965 (by decide +kernel) rfl, rfl, rfl, rfl, tyX10_ok, nmX10⟩
theorem fX10_140 : gF RX10 140 10 14 := ⟨RX10, TX10, 40, rfl, by decide, inX10, g_in 966 (by decide +kernel) rfl, rfl⟩
theorem pX10_140 : gFp RX10 140 10 14 (.int) := ⟨RX10, TX10, 40, tyX10, rfl, by decide, inX10, g_in 966 (by decide +kernel) rfl, rfl, rfl, rfl, tyX10_ok, nmX10⟩
theorem fX10_32 : gF RX10 32 10 15 := ⟨RX10, TX10, 40, rfl, by decide, inX10, g_in 967 (by decide +kernel) rfl, rfl⟩
theorem fX10_35 : gF RX10 35 10 16 := ⟨RX10, TX10, 40, rfl, by decide, inX10, g_in 968 (by decide +kernel) rfl, rfl⟩
theorem fX10_38 : gF RX10 38 10 17 := ⟨RX10, TX10, 40, rfl, by decide, inX10, g_in 969 (by decide +kernel) rfl, rfl⟩
theorem fX10_41 : gF RX10 41 10 18 := ⟨RX10, TX10, 40, rfl, by decide, inX10, g_in 970 (by decide +kernel) rfl, rfl⟩
theorem fX10_45 : gF RX10 45 10 19 := ⟨RX10, TX10, 40, rfl, by decide, inX10, g_in 971 (by decide +kernel) rfl, rfl⟩
theorem fX10_49 : gF RX10 49 10 20 := ⟨RX10, TX10, 40, rfl, by decide, inX10, g_in 972 (by decide +kernel) rfl, rfl⟩
theorem fX10_52 : gF RX10 52 10 21 := ⟨RX10, TX10, 40, rfl, by decide, inX10, g_in 973 (by decide +kernel) rfl, rfl⟩
theorem fX10_177 : gF RX10 177 10 22 := ⟨RX10, TX10, 40, rfl, by decide, inX10, g_in 974 (by decide +kernel) rfl, rfl⟩
theorem pX10_177 : gFp RX10 177 10 22 (.int) := ⟨RX10, TX10, 40, tyX10, rfl, by decide, inX10, g_in 974 (by decide +kernel) rfl, rfl, rfl, rfl, tyX10_ok, nmX10⟩
theorem fX10_180 : gF RX10 180 10 23 := ⟨RX10, TX10, 40, rfl, by decide, inX10, g_in 975 (by decide +kernel) rfl, rfl⟩
theorem pX10_180 : gFp RX10 180 10 23 (.int) := ⟨RX10, TX10, 40, tyX10, rfl, by decide, inX10, g_in 975 (by decide +kernel) rfl, rfl, rfl, rfl, tyX10_ok, nmX10⟩
theorem fX10_55 : gF RX10 55 10 24 := ⟨RX10, TX10, 40, rfl, by decide, inX10, g_in 976 (by decide +kernel) rfl, rfl⟩
theorem fX10_58 : gF RX10 58 10 25 := ⟨RX10, TX10, 40, rfl, by decide, inX10, g_in 977 (by decide +kernel) rfl, rfl⟩
theorem fX10_183 : gF RX10 183 10 26 := ⟨RX10, TX10, 40, rfl, by decide, inX10, g_in 978 (by decide +kernel) rfl, rfl⟩
theorem pX10_183 : gFp RX10 183 10 26 (.int) := ⟨RX10, TX10, 40, tyX10, rfl, by decide, inX10, g_in 978 (by decide +kernel) rfl, rfl, rfl, rfl, tyX10_ok, nmX10⟩
theorem fX10_186 : gF RX10 186 10 27 := ⟨RX10, TX10, 40, rfl, by decide, inX10, g_in 979 (by decide +kernel) rfl, rfl⟩
theorem pX10_186 : gFp RX10 186 10 27 (.int) := ⟨RX10, TX10, 40, tyX10, rfl, by decide, inX10, g_in 979 (by decide +kernel) rfl, rfl, rfl, rfl, tyX10_ok, nmX10⟩
theorem fX10_61 : gF RX10 61 10 28 := ⟨RX10, TX10, 40, rfl, by decide, inX10, g_in 980 (by decide +kernel) rfl, rfl⟩
theorem fX10_64 : gF RX10 64 10 29 := ⟨RX10, TX10, 40, rfl, by decide, inX10, g_in 981 (by decide +kernel) rfl, rfl⟩
theorem fX10_67 : gF RX10 67 10 30 := ⟨RX10, TX10, 40, rfl, by decide, inX10, g_in 982 (by decide +kernel) rfl, rfl⟩
theorem fX10_70 : gF RX10 70 10 31 := ⟨RX10, TX10, 40, rfl, by decide, inX10, g_in 983 (by decide +kernel) rfl, rfl⟩
theorem fX10_73 : gF RX10 73 10 32 := ⟨RX10, TX10, 40, rfl, by decide, inX10, g_in 984 (by decide +kernel) rfl, rfl⟩
theorem fX10_76 : gF RX10 76 10 33 := ⟨RX10, TX10, 40, rfl, by decide, inX10, g_in 985 (by decide +kernel) rfl, rfl⟩
theorem fX10_79 : gF RX10 79 10 34 := ⟨RX10, TX10, 40, rfl, by decide, inX10, g_in 986 (by decide +kernel) rfl, rfl⟩
theorem fX10_82 : gF RX10 82 10 35 := ⟨RX10, TX10, 40, rfl, by decide, inX10, g_in 987 (by decide +kernel) rfl, rfl⟩
theorem fX10_85 : gF RX10 85 10 36 := ⟨RX10, TX10, 40, rfl, by decide, inX10, g_in 988 (by decide +kernel) rfl, rfl⟩
theorem fX10_88 : gF RX10 88 10 37 := ⟨RX10, TX10, 40, rfl, by decide, inX10, g_in 989 (by decide +kernel) rfl, rfl⟩
theorem fX10_91 : gF RX10 91 10 38 := ⟨RX10, TX10, 40, rfl, by decide, inX10, g_in 990 (by decide +kernel) rfl, rfl⟩
theorem fX10_94 : gF RX10 94 10 39 := ⟨RX10, TX10, 40, rfl, by decide, inX10, g_in 991 (by decide +kernel) rfl, rfl⟩
