/-! CLAIM: the law from its entry; behind it the skeleton's own rows -/
set_option maxHeartbeats 4000000 in
set_option maxRecDepth 100000 in
/-- THE LAW, from its entry -/
theorem whole_start {p : Program} {e : Env} {s : State} {m : MethodId} {below : List Frame} {meth : Method} {c : Code} (l : Launch) (hflags : l.flags = flags0) {b L : Nat} {xs : Nat → Int32} (hL : L ≤ 1537) (C0 : lw_At p s m meth c b L xs) : W p l e room_1 s m #[Value.ref b] below meth c s.heap [] 0 0 (lw_Z below #[Value.ref b] s) (entryFrame m ([Value.ref b] : List Value).toArray 4) := by
  obtain ⟨Ls, hLe⟩ : ∃ z, z = L := ⟨_, rfl⟩
  subst hLe
  have hLs : Ls ≤ 1537 := hL
  obtain ⟨hx, hb, hr, hml, hown0, hts0, hX, hbl, hlocks, hgv⟩ := id C0
  have hts : ∀ w ∈ wsL_law, w.before #[Value.ref b] s = true := fun w h => hts0 w (wsL_law_in w h)
  have hown : s.vm.findClass RL = some m.cls := hown0
  have hb : c.code = cL_law := hb
  have S0 : CallFix p m c cL_law 4 s #[Value.ref b] wsL_law RL := ⟨hx, hb, hml, hown, hts⟩
  have hA : ∀ q : Nat, s.heap.size ≤ q → (fun q : Nat => s.heap.size ≤ q) q := fun _ h => h
  have hbA : ¬ (fun q : Nat => s.heap.size ≤ q) b := Nat.not_le.mpr hbl
  obtain ⟨c0, iS0, hKn0⟩ := u_known (C := RX0) (T := TX0) (N := 4) (n := 4) hts inlX0 (hts (.instantiable RX0 4) (by decide +kernel))
  obtain ⟨c1, iS1, hKn1⟩ := u_known (C := RX1) (T := TX1) (N := 6) (n := 6) hts inlX1 (hts (.instantiable RX1 6) (by decide +kernel))
  obtain ⟨c2, iS2, hKn2⟩ := u_known (C := RX2) (T := TX2) (N := 12) (n := 12) hts inlX2 (hts (.instantiable RX2 12) (by decide +kernel))
  obtain ⟨cI, hI1, hI2⟩ := r_known (hts (.arrayClass .int) (by decide +kernel))
  obtain ⟨dC, dI, hKc⟩ : ∃ (dC : Nat → ClassId) (dI : Nat → Nat → Nat), ∀ (k : Nat) (q : vw_C), vwCl[k]? = some q → u_Kn s q.1 q.2.1 q.2.2 (dC k) (dI k) := by
    refine ⟨fun k => if k = 0 then c0 else if k = 1 then c1 else c2, fun k => if k = 0 then iS0 else if k = 1 then iS1 else iS2, ?_⟩
    intro k q hq
    match k, hq with
    | 0, hq => cases hq; exact hKn0
    | 1, hq => cases hq; exact hKn1
    | 2, hq => cases hq; exact hKn2
    | k + 3, hq => simp [vwCl] at hq
  have hK : va_K (dC, dI) vwCl [(cI, .int)] s := ⟨hKc, fun k q h => by
    match k, h with
    | 0, h => cases h; exact ⟨hI1, hI2⟩
    | k + 1, h => simp at h⟩
  have hS : va_S (fun q : Nat => s.heap.size ≤ q) s.heap s.heap [] := va_S.rf
  have hP : va_P (dC, dI) vwCl [] s.heap := fun k q h => by simp at h
  have hD : va_D (fun q : Nat => s.heap.size ≤ q) [] := ⟨fun i j p q h => by simp at h, fun k q h => by simp at h⟩
  have hl := lv_entry ([.ref b]) (n := 4) (Nat.le_of_ble_eq_true rfl)
  rw [lg_entry_eq]
  generalize (lg_sl ([.ref b]) ++ List.replicate (4 - (lg_sl ([.ref b])).length) Slot.unset).toArray = ls at hl ⊢
  have hl : lv_has ls 4 [(0, .ref b)] := hl
  refine va_new (ci := 1) (fs := [.int 0, .null, .null, .int 0, .int 0, .int 0]) (C := RX1) (T := TX1) (N := 6) hx hb hts inlX1 tyX1 tyX1_ok hown (hts (.classLink RL 7 RX1) (by decide +kernel)) (hts (.instantiable RX1 6) (by decide +kernel)) (hts (.initialized RX1) (by decide +kernel)) hK hP hD hS hA rfl (fun j hj => by rcases (show j = 0 ∨ j = 1 ∨ j = 2 ∨ j = 3 ∨ j = 4 ∨ j = 5 by omega) with rfl | rfl | rfl | rfl | rfl | rfl <;> rfl) (Nat.le_of_ble_eq_true rfl) (Nat.le_of_ble_eq_true rfl) dL_law_0 (fun q0 H hP hD hS => ?_)
  have hP : va_P (dC, dI) vwCl [(q0, .inr (1, [.int 0, .null, .null, .int 0, .int 0, .int 0]))] H := hP
  have hD : va_D (fun q : Nat => s.heap.size ≤ q) [(q0, .inr (1, [.int 0, .null, .null, .int 0, .int 0, .int 0]))] := hD
  refine lv_dup hx hb dL_law_3 rfl ?_
  refine lv_aload_n hx hb dL_law_4 rfl (lv_at hl 0 rfl) ?_
  refine lv_iconst (v := 0) hx hb dL_law_5 (by decide) ?_
  have hXH : va_X b Ls xs s H := hX.kept (hS.2.1 b hbl hbA)
  have hbH : b < H.size := Nat.lt_of_lt_of_le hbl hS.1
  refine r_csi (va_runS (As := [.ref b, .int (nI 0)]) (rest := [.ref q0, .ref q0]) S0 (c_L_cell l b Ls xs hLs) (va_cwS 2 hts gL_law_L_cell rfl rfl rfl (by decide +kernel) ⟨Nat.le_of_ble_eq_true rfl, Nat.le_of_ble_eq_true rfl⟩) ⟨r_blindX, fun U hU hW => ⟨rfl, by rw [hU]; exact hXH.moved hW.alike, by rw [hU]; exact hbH⟩⟩ rfl rfl hl.1 rfl (lv_room (Nat.le_of_ble_eq_true rfl)) dL_law_6 ⟨Nat.le_of_ble_eq_true rfl, Nat.le_of_ble_eq_true rfl⟩) ?_
  refine r_inV (wr := []) (rest := [.ref q0]) S0 (c_X1_init l dC dI cI q0 (q_c0 Ls xs) H.size) (cwI 1 hts gL_law_X1_init rfl rfl rfl (hts (.initialized RX1) (by decide +kernel)) (hts (.methodLink RL 15 yX1_init) (by decide +kernel)) (hts (.instanceMethod yX1_init) (by decide +kernel)) rfl (by decide +kernel) ⟨Nat.le_of_ble_eq_true rfl, Nat.le_of_ble_eq_true rfl⟩) hK hP hD hS hA [0] [] rfl rfl (by decide) (by decide) (by decide) rfl hl.1 rfl (Nat.le_of_ble_eq_true rfl) dL_law_9 ⟨Nat.le_of_ble_eq_true rfl, Nat.le_of_ble_eq_true rfl⟩ (fun u9 H locs hu hP hD hS => ?_)
  have hP : va_P (dC, dI) vwCl [(q0, .inr (1, [.int (nI ((q_half (q_c0 Ls xs)))), .ref u9.1, .ref u9.2.2.2.2.1, .int (q_nx (q_s0 (q_half (q_c0 Ls xs))).2.2.1), .int (nI (q_s0 (q_half (q_c0 Ls xs))).2.2.2.1), .int (nI (q_s0 (q_half (q_c0 Ls xs))).2.2.2.2)])), (u9.1, .inr (0, [.ref u9.2.1, .ref u9.2.2.1, .ref u9.2.2.2.1, .int (nI ((q_s0 (q_half (q_c0 Ls xs))).1.1))])), (u9.2.1, .inl (cI, ((q_half (q_c0 Ls xs))), .inl ((q_s0 (q_half (q_c0 Ls xs))).1.2.1))), (u9.2.2.1, .inl (cI, ((q_half (q_c0 Ls xs))), .inl ((q_s0 (q_half (q_c0 Ls xs))).1.2.2.1))), (u9.2.2.2.1, .inl (cI, ((q_half (q_c0 Ls xs))), .inl ((q_s0 (q_half (q_c0 Ls xs))).1.2.2.2))), (u9.2.2.2.2.1, .inr (0, [.ref u9.2.2.2.2.2.1, .ref u9.2.2.2.2.2.2.1, .ref u9.2.2.2.2.2.2.2, .int (nI ((q_s0 (q_half (q_c0 Ls xs))).2.1.1))])), (u9.2.2.2.2.2.1, .inl (cI, ((q_half (q_c0 Ls xs))), .inl ((q_s0 (q_half (q_c0 Ls xs))).2.1.2.1))), (u9.2.2.2.2.2.2.1, .inl (cI, ((q_half (q_c0 Ls xs))), .inl ((q_s0 (q_half (q_c0 Ls xs))).2.1.2.2.1))), (u9.2.2.2.2.2.2.2, .inl (cI, ((q_half (q_c0 Ls xs))), .inl ((q_s0 (q_half (q_c0 Ls xs))).2.1.2.2.2)))] H := hP
  have hD : va_D (fun q : Nat => s.heap.size ≤ q) [(q0, .inr (1, [.int (nI ((q_half (q_c0 Ls xs)))), .ref u9.1, .ref u9.2.2.2.2.1, .int (q_nx (q_s0 (q_half (q_c0 Ls xs))).2.2.1), .int (nI (q_s0 (q_half (q_c0 Ls xs))).2.2.2.1), .int (nI (q_s0 (q_half (q_c0 Ls xs))).2.2.2.2)])), (u9.1, .inr (0, [.ref u9.2.1, .ref u9.2.2.1, .ref u9.2.2.2.1, .int (nI ((q_s0 (q_half (q_c0 Ls xs))).1.1))])), (u9.2.1, .inl (cI, ((q_half (q_c0 Ls xs))), .inl ((q_s0 (q_half (q_c0 Ls xs))).1.2.1))), (u9.2.2.1, .inl (cI, ((q_half (q_c0 Ls xs))), .inl ((q_s0 (q_half (q_c0 Ls xs))).1.2.2.1))), (u9.2.2.2.1, .inl (cI, ((q_half (q_c0 Ls xs))), .inl ((q_s0 (q_half (q_c0 Ls xs))).1.2.2.2))), (u9.2.2.2.2.1, .inr (0, [.ref u9.2.2.2.2.2.1, .ref u9.2.2.2.2.2.2.1, .ref u9.2.2.2.2.2.2.2, .int (nI ((q_s0 (q_half (q_c0 Ls xs))).2.1.1))])), (u9.2.2.2.2.2.1, .inl (cI, ((q_half (q_c0 Ls xs))), .inl ((q_s0 (q_half (q_c0 Ls xs))).2.1.2.1))), (u9.2.2.2.2.2.2.1, .inl (cI, ((q_half (q_c0 Ls xs))), .inl ((q_s0 (q_half (q_c0 Ls xs))).2.1.2.2.1))), (u9.2.2.2.2.2.2.2, .inl (cI, ((q_half (q_c0 Ls xs))), .inl ((q_s0 (q_half (q_c0 Ls xs))).2.1.2.2.2)))] := hD
  refine lv_astore_n (lv' := [(1, .ref q0), (0, .ref b)]) hx hb dL_law_12 rfl hl (by decide) rfl (fun ls hl => ?_)
  refine va_new (ci := 2) (fs := [.int 0, .int 0, .null, .null, .null, .null, .int 0, .int 0, .int 0, .int 0, .int 0, .int 0]) (C := RX2) (T := TX2) (N := 12) hx hb hts inlX2 tyX2 tyX2_ok hown (hts (.classLink RL 18 RX2) (by decide +kernel)) (hts (.instantiable RX2 12) (by decide +kernel)) (hts (.initialized RX2) (by decide +kernel)) hK hP hD hS hA rfl (fun j hj => by rcases (show j = 0 ∨ j = 1 ∨ j = 2 ∨ j = 3 ∨ j = 4 ∨ j = 5 ∨ j = 6 ∨ j = 7 ∨ j = 8 ∨ j = 9 ∨ j = 10 ∨ j = 11 by omega) with rfl | rfl | rfl | rfl | rfl | rfl | rfl | rfl | rfl | rfl | rfl | rfl <;> rfl) (Nat.le_of_ble_eq_true rfl) (Nat.le_of_ble_eq_true rfl) dL_law_13 (fun q13 H hP hD hS => ?_)
  have hP : va_P (dC, dI) vwCl [(q0, .inr (1, [.int (nI ((q_half (q_c0 Ls xs)))), .ref u9.1, .ref u9.2.2.2.2.1, .int (q_nx (q_s0 (q_half (q_c0 Ls xs))).2.2.1), .int (nI (q_s0 (q_half (q_c0 Ls xs))).2.2.2.1), .int (nI (q_s0 (q_half (q_c0 Ls xs))).2.2.2.2)])), (u9.1, .inr (0, [.ref u9.2.1, .ref u9.2.2.1, .ref u9.2.2.2.1, .int (nI ((q_s0 (q_half (q_c0 Ls xs))).1.1))])), (u9.2.1, .inl (cI, ((q_half (q_c0 Ls xs))), .inl ((q_s0 (q_half (q_c0 Ls xs))).1.2.1))), (u9.2.2.1, .inl (cI, ((q_half (q_c0 Ls xs))), .inl ((q_s0 (q_half (q_c0 Ls xs))).1.2.2.1))), (u9.2.2.2.1, .inl (cI, ((q_half (q_c0 Ls xs))), .inl ((q_s0 (q_half (q_c0 Ls xs))).1.2.2.2))), (u9.2.2.2.2.1, .inr (0, [.ref u9.2.2.2.2.2.1, .ref u9.2.2.2.2.2.2.1, .ref u9.2.2.2.2.2.2.2, .int (nI ((q_s0 (q_half (q_c0 Ls xs))).2.1.1))])), (u9.2.2.2.2.2.1, .inl (cI, ((q_half (q_c0 Ls xs))), .inl ((q_s0 (q_half (q_c0 Ls xs))).2.1.2.1))), (u9.2.2.2.2.2.2.1, .inl (cI, ((q_half (q_c0 Ls xs))), .inl ((q_s0 (q_half (q_c0 Ls xs))).2.1.2.2.1))), (u9.2.2.2.2.2.2.2, .inl (cI, ((q_half (q_c0 Ls xs))), .inl ((q_s0 (q_half (q_c0 Ls xs))).2.1.2.2.2))), (q13, .inr (2, [.int 0, .int 0, .null, .null, .null, .null, .int 0, .int 0, .int 0, .int 0, .int 0, .int 0]))] H := hP
  have hD : va_D (fun q : Nat => s.heap.size ≤ q) [(q0, .inr (1, [.int (nI ((q_half (q_c0 Ls xs)))), .ref u9.1, .ref u9.2.2.2.2.1, .int (q_nx (q_s0 (q_half (q_c0 Ls xs))).2.2.1), .int (nI (q_s0 (q_half (q_c0 Ls xs))).2.2.2.1), .int (nI (q_s0 (q_half (q_c0 Ls xs))).2.2.2.2)])), (u9.1, .inr (0, [.ref u9.2.1, .ref u9.2.2.1, .ref u9.2.2.2.1, .int (nI ((q_s0 (q_half (q_c0 Ls xs))).1.1))])), (u9.2.1, .inl (cI, ((q_half (q_c0 Ls xs))), .inl ((q_s0 (q_half (q_c0 Ls xs))).1.2.1))), (u9.2.2.1, .inl (cI, ((q_half (q_c0 Ls xs))), .inl ((q_s0 (q_half (q_c0 Ls xs))).1.2.2.1))), (u9.2.2.2.1, .inl (cI, ((q_half (q_c0 Ls xs))), .inl ((q_s0 (q_half (q_c0 Ls xs))).1.2.2.2))), (u9.2.2.2.2.1, .inr (0, [.ref u9.2.2.2.2.2.1, .ref u9.2.2.2.2.2.2.1, .ref u9.2.2.2.2.2.2.2, .int (nI ((q_s0 (q_half (q_c0 Ls xs))).2.1.1))])), (u9.2.2.2.2.2.1, .inl (cI, ((q_half (q_c0 Ls xs))), .inl ((q_s0 (q_half (q_c0 Ls xs))).2.1.2.1))), (u9.2.2.2.2.2.2.1, .inl (cI, ((q_half (q_c0 Ls xs))), .inl ((q_s0 (q_half (q_c0 Ls xs))).2.1.2.2.1))), (u9.2.2.2.2.2.2.2, .inl (cI, ((q_half (q_c0 Ls xs))), .inl ((q_s0 (q_half (q_c0 Ls xs))).2.1.2.2.2))), (q13, .inr (2, [.int 0, .int 0, .null, .null, .null, .null, .int 0, .int 0, .int 0, .int 0, .int 0, .int 0]))] := hD
  refine lv_dup hx hb dL_law_16 rfl ?_
  refine lv_aload_n hx hb dL_law_17 rfl (lv_at hl 1 rfl) ?_
  refine lv_iconst (v := 0) hx hb dL_law_18 (by decide) ?_
  have hXH : va_X b Ls xs s H := hX.kept (hS.2.1 b hbl hbA)
  have hbH : b < H.size := Nat.lt_of_lt_of_le hbl hS.1
  refine r_csi (va_runS (As := [.ref b, .int (nI 0)]) (rest := [.ref q13, .ref q13]) S0 (c_L_cell l b Ls xs hLs) (va_cwS 2 hts gL_law_L_cell rfl rfl rfl (by decide +kernel) ⟨Nat.le_of_ble_eq_true rfl, Nat.le_of_ble_eq_true rfl⟩) ⟨r_blindX, fun U hU hW => ⟨rfl, by rw [hU]; exact hXH.moved hW.alike, by rw [hU]; exact hbH⟩⟩ rfl rfl hl.1 rfl (lv_room (Nat.le_of_ble_eq_true rfl)) dL_law_19 ⟨Nat.le_of_ble_eq_true rfl, Nat.le_of_ble_eq_true rfl⟩) ?_
  refine r_inV (wr := [(q0, .inr (1, [.int (nI ((q_half (q_c0 Ls xs)))), .ref u9.1, .ref u9.2.2.2.2.1, .int (q_nx (q_s0 (q_half (q_c0 Ls xs))).2.2.1), .int (nI (q_s0 (q_half (q_c0 Ls xs))).2.2.2.1), .int (nI (q_s0 (q_half (q_c0 Ls xs))).2.2.2.2)])), (u9.1, .inr (0, [.ref u9.2.1, .ref u9.2.2.1, .ref u9.2.2.2.1, .int (nI ((q_s0 (q_half (q_c0 Ls xs))).1.1))])), (u9.2.1, .inl (cI, ((q_half (q_c0 Ls xs))), .inl ((q_s0 (q_half (q_c0 Ls xs))).1.2.1))), (u9.2.2.1, .inl (cI, ((q_half (q_c0 Ls xs))), .inl ((q_s0 (q_half (q_c0 Ls xs))).1.2.2.1))), (u9.2.2.2.1, .inl (cI, ((q_half (q_c0 Ls xs))), .inl ((q_s0 (q_half (q_c0 Ls xs))).1.2.2.2))), (u9.2.2.2.2.1, .inr (0, [.ref u9.2.2.2.2.2.1, .ref u9.2.2.2.2.2.2.1, .ref u9.2.2.2.2.2.2.2, .int (nI ((q_s0 (q_half (q_c0 Ls xs))).2.1.1))])), (u9.2.2.2.2.2.1, .inl (cI, ((q_half (q_c0 Ls xs))), .inl ((q_s0 (q_half (q_c0 Ls xs))).2.1.2.1))), (u9.2.2.2.2.2.2.1, .inl (cI, ((q_half (q_c0 Ls xs))), .inl ((q_s0 (q_half (q_c0 Ls xs))).2.1.2.2.1))), (u9.2.2.2.2.2.2.2, .inl (cI, ((q_half (q_c0 Ls xs))), .inl ((q_s0 (q_half (q_c0 Ls xs))).2.1.2.2.2)))]) (rest := [.ref q13]) S0 (c_X2_init l dC dI cI q13 (q_c0 Ls xs) H.size) (cwI 1 hts gL_law_X2_init rfl rfl rfl (hts (.initialized RX2) (by decide +kernel)) (hts (.methodLink RL 20 yX2_init) (by decide +kernel)) (hts (.instanceMethod yX2_init) (by decide +kernel)) rfl (by decide +kernel) ⟨Nat.le_of_ble_eq_true rfl, Nat.le_of_ble_eq_true rfl⟩) hK hP hD hS hA [9] [0, 1, 2, 3, 4, 5, 6, 7, 8] rfl rfl (by decide) (by decide) (by decide) rfl hl.1 rfl (Nat.le_of_ble_eq_true rfl) dL_law_22 ⟨Nat.le_of_ble_eq_true rfl, Nat.le_of_ble_eq_true rfl⟩ (fun u22 H locs hu hP hD hS => ?_)
  have hP : va_P (dC, dI) vwCl [(q0, .inr (1, [.int (nI ((q_half (q_c0 Ls xs)))), .ref u9.1, .ref u9.2.2.2.2.1, .int (q_nx (q_s0 (q_half (q_c0 Ls xs))).2.2.1), .int (nI (q_s0 (q_half (q_c0 Ls xs))).2.2.2.1), .int (nI (q_s0 (q_half (q_c0 Ls xs))).2.2.2.2)])), (u9.1, .inr (0, [.ref u9.2.1, .ref u9.2.2.1, .ref u9.2.2.2.1, .int (nI ((q_s0 (q_half (q_c0 Ls xs))).1.1))])), (u9.2.1, .inl (cI, ((q_half (q_c0 Ls xs))), .inl ((q_s0 (q_half (q_c0 Ls xs))).1.2.1))), (u9.2.2.1, .inl (cI, ((q_half (q_c0 Ls xs))), .inl ((q_s0 (q_half (q_c0 Ls xs))).1.2.2.1))), (u9.2.2.2.1, .inl (cI, ((q_half (q_c0 Ls xs))), .inl ((q_s0 (q_half (q_c0 Ls xs))).1.2.2.2))), (u9.2.2.2.2.1, .inr (0, [.ref u9.2.2.2.2.2.1, .ref u9.2.2.2.2.2.2.1, .ref u9.2.2.2.2.2.2.2, .int (nI ((q_s0 (q_half (q_c0 Ls xs))).2.1.1))])), (u9.2.2.2.2.2.1, .inl (cI, ((q_half (q_c0 Ls xs))), .inl ((q_s0 (q_half (q_c0 Ls xs))).2.1.2.1))), (u9.2.2.2.2.2.2.1, .inl (cI, ((q_half (q_c0 Ls xs))), .inl ((q_s0 (q_half (q_c0 Ls xs))).2.1.2.2.1))), (u9.2.2.2.2.2.2.2, .inl (cI, ((q_half (q_c0 Ls xs))), .inl ((q_s0 (q_half (q_c0 Ls xs))).2.1.2.2.2))), (q13, .inr (2, [.int 0, .int (nI ((q_half (q_c0 Ls xs)))), .ref u22.1, .ref u22.2.1, .ref u22.2.2.1, .ref u22.2.2.2, .int (nI q_u0.1), .int q_u0.2.2.2.1, .int q_u0.2.2.2.2.1, .int (nI (q_s0 (q_half (q_c0 Ls xs))).2.2.2.1), .int (nI q_u0.2.2.2.2.2), .int (nI (q_s0 (q_half (q_c0 Ls xs))).2.2.2.2)])), (u22.1, .inl (cI, 2048, .inl q_u0.2.1.1)), (u22.2.1, .inl (cI, 2048, .inl q_u0.2.1.2.1)), (u22.2.2.1, .inl (cI, 2048, .inl q_u0.2.1.2.2)), (u22.2.2.2, .inl (cI, 2, .inl q_u0.2.2.1))] H := hP
  have hD : va_D (fun q : Nat => s.heap.size ≤ q) [(q0, .inr (1, [.int (nI ((q_half (q_c0 Ls xs)))), .ref u9.1, .ref u9.2.2.2.2.1, .int (q_nx (q_s0 (q_half (q_c0 Ls xs))).2.2.1), .int (nI (q_s0 (q_half (q_c0 Ls xs))).2.2.2.1), .int (nI (q_s0 (q_half (q_c0 Ls xs))).2.2.2.2)])), (u9.1, .inr (0, [.ref u9.2.1, .ref u9.2.2.1, .ref u9.2.2.2.1, .int (nI ((q_s0 (q_half (q_c0 Ls xs))).1.1))])), (u9.2.1, .inl (cI, ((q_half (q_c0 Ls xs))), .inl ((q_s0 (q_half (q_c0 Ls xs))).1.2.1))), (u9.2.2.1, .inl (cI, ((q_half (q_c0 Ls xs))), .inl ((q_s0 (q_half (q_c0 Ls xs))).1.2.2.1))), (u9.2.2.2.1, .inl (cI, ((q_half (q_c0 Ls xs))), .inl ((q_s0 (q_half (q_c0 Ls xs))).1.2.2.2))), (u9.2.2.2.2.1, .inr (0, [.ref u9.2.2.2.2.2.1, .ref u9.2.2.2.2.2.2.1, .ref u9.2.2.2.2.2.2.2, .int (nI ((q_s0 (q_half (q_c0 Ls xs))).2.1.1))])), (u9.2.2.2.2.2.1, .inl (cI, ((q_half (q_c0 Ls xs))), .inl ((q_s0 (q_half (q_c0 Ls xs))).2.1.2.1))), (u9.2.2.2.2.2.2.1, .inl (cI, ((q_half (q_c0 Ls xs))), .inl ((q_s0 (q_half (q_c0 Ls xs))).2.1.2.2.1))), (u9.2.2.2.2.2.2.2, .inl (cI, ((q_half (q_c0 Ls xs))), .inl ((q_s0 (q_half (q_c0 Ls xs))).2.1.2.2.2))), (q13, .inr (2, [.int 0, .int (nI ((q_half (q_c0 Ls xs)))), .ref u22.1, .ref u22.2.1, .ref u22.2.2.1, .ref u22.2.2.2, .int (nI q_u0.1), .int q_u0.2.2.2.1, .int q_u0.2.2.2.2.1, .int (nI (q_s0 (q_half (q_c0 Ls xs))).2.2.2.1), .int (nI q_u0.2.2.2.2.2), .int (nI (q_s0 (q_half (q_c0 Ls xs))).2.2.2.2)])), (u22.1, .inl (cI, 2048, .inl q_u0.2.1.1)), (u22.2.1, .inl (cI, 2048, .inl q_u0.2.1.2.1)), (u22.2.2.1, .inl (cI, 2048, .inl q_u0.2.1.2.2)), (u22.2.2.2, .inl (cI, 2, .inl q_u0.2.2.1))] := hD
  refine lv_astore_n (lv' := [(2, .ref q13), (1, .ref q0), (0, .ref b)]) hx hb dL_law_25 rfl hl (by decide) rfl (fun ls hl => ?_)
  refine lv_iconst (v := 1) hx hb dL_law_26 (by decide) ?_
  refine lv_istore_n (lv' := [(3, .int 1), (2, .ref q13), (1, .ref q0), (0, .ref b)]) hx hb dL_law_27 rfl hl (by decide) rfl (fun ls hl => ?_)
  refine W.widen (k := 14) (n := 12316) (Nat.le_of_ble_eq_true rfl) (Nat.le_of_ble_eq_true rfl) ?_
  exact law_loop hLs C0 hK q0 q13 u22.1 u22.2.1 u22.2.2.1 u22.2.2.2 (q_half (q_c0 Ls xs)) Ls 1 (by omega) (by omega) (q_s0 (q_half (q_c0 Ls xs))) u9 q_u0 (q_s0_iv (q_half_pw _)) (q_s0_rl _) H locs hP hD hS ls (lv_sub hl [3, 2, 1, 0] rfl)
set_option maxHeartbeats 4000000 in
theorem lw_walk (l : Launch) (hflags : l.flags = flags0) (b : Addr) (xs : List Int32) : MetFree l x (headSpec (Jvm.Cond.code x code maxLocals ret :: tables_1) room_1) (lw_P b xs) (fun _ _ _ _ _ => True) lw_Q := by
  refine MetFree.of_bodyS (code := code) (maxLocals := maxLocals) (ret := ret) (by decide) ?_ ?_
  · intro args s m h hn
    obtain ⟨meth, c, h1, h2, h3, h4, h5, h6, -, -⟩ := Cond.code_spec hn (atoms_spec (ws := Jvm.Cond.code x code maxLocals ret :: tables_1) h _ List.mem_cons_self)
    exact ⟨meth, c, h1, h2, h3, h4, h5, h6⟩
  · intro p e s m args below meth c s₁ B hml0 hP _
    obtain ⟨rfl, hx, hbd, hgv⟩ := hP
    obtain ⟨scr, harrAt, hlist, hof, hsmall⟩ := hx
    obtain ⟨hcb, hkn, -, -⟩ := State.arrayAt?_spec harrAt
    have hown : s.vm.findClass R_law = some m.cls := findClass_of_methodNamed B.named
    have hts0 : ∀ c ∈ (Jvm.Cond.code x code maxLocals ret :: tables_1), c.before #[Value.ref b] s = true := atoms_spec (ws := Jvm.Cond.code x code maxLocals ret :: tables_1) B.pre
    have hts : ∀ w ∈ lw_tbl, w.before #[Value.ref b] s = true := k2_hts_sels lw_privs (fun w hw => hts0 w (List.mem_cons_of_mem _ hw)) lw_privs_ok
    have hml : c.maxLocals = 4 := B.maxLocals_eq (hts0 _ List.mem_cons_self)
    have X₀ : Stand p l e room_1 s m #[Value.ref b] below meth c s₁ [] 0 0 := Stand.of_body B
    have hh0 : s₁.heap = s.heap := by rw [B.state]; rfl
    have hsz : scr.slots.size = xs.length := by rw [← Array.length_toList, hlist, List.length_map]
    have hval : ∀ j : Nat, j < xs.length → scr.slots[j]? = some (.int (xs.getD j 0)) := fun j hj => by
      rw [← Array.getElem?_toList, hlist]
      simp [hj]
    have hbl : b < s.heap.size := (Array.getElem?_eq_some_iff.mp hcb).1
    have hX : va_X b xs.length (fun j => xs.getD j 0) s s.heap := ⟨scr, hcb, hof, hkn, hsz, hval⟩
    have K : W p l e room_1 s m #[Value.ref b] below meth c s₁.heap [] 0 0 (lw_Z below #[Value.ref b] s) (entryFrame m ([Value.ref b] : List Value).toArray 4) := by
      rw [hh0]
      exact whole_start l hflags hbd ⟨B.exec, B.bytes, B.returns, hml, hown, hts, hX, hbl, B.notSynchronized, hgv⟩
    obtain ⟨t, a1, o, b1, b2, b3⟩ := K s₁ rfl X₀
    exact ⟨t, o, a1, b1, b2, b3⟩
theorem lw_pre_spec {args : Array Value} {s : State} (h : (Jvm.Cond.and given_1 narrow_1).before args s = true) (hr : rest_1_c.before args s = true) : ∃ (b : Addr) (xs : List Int32), lw_P b xs args s := by
  have hs := flat_of_before _ h
  have hq := flat_of_before _ hr
  have hc : (Cond.count 1).before args s = true := hs _ (by decide +kernel)
  have harr : (Cond.arrayOf (.arg 0) .int).before args s = true := hs _ (by decide +kernel)
  have hle : (Cond.le (.length (.arg 0)) (.int 1537)).before args s = true := hs _ (by decide +kernel)
  have hlen : (Cond.isInt (.length (.arg 0))).before args s = true := hq _ (by decide +kernel)
  have hall : (Cond.all (.arg 0) (.isInt (.elem (.arg 0) (.index 0)))).before args s = true := hq _ (by decide +kernel)
  obtain ⟨b, xs, hb, hx⟩ := State.ints_of_pre rfl harr hlen hall
  have hsm : xs.length < 2 ^ 31 := hx.choose_spec.2.2.2
  have hev : (Term.length (.arg 0)).eval args s none [] s = some (.int xs.length.toInt32) := hx.length_eval hb
  have hv := Cond.le_ints hev (show (Term.int 1537).eval args s none [] s = some (.int 1537) from rfl)
  have hd : xs.length.toInt32 ≤ 1537 := by
    simpa [Cond.before, Cond.holds, hv] using hle
  have hN : xs.length ≤ 1537 := (Int32.ofNat_le_ofNat hsm (by decide)).mp (show Int32.ofNat xs.length ≤ Int32.ofNat 1537 from hd)
  exact ⟨b, xs, Cond.one_arg hc (show args[0]? = some (.ref b) from hb), hx, hN, h⟩
theorem lw_comes (l : Launch) (hflags : l.flags = flags0) : Comes l x (Jvm.Cond.code x code maxLocals ret :: tables_1) room_1 (fun tb e args s => Calls_1 tb e args s ∧ rest_1 tb e args s ∧ Pre_1 tb e args s)
    (fun _ _ args s o t => lw_Q args s o t) := by
  intro p e ha hc hk s m args below hf hfit hheap happ hpre
  obtain ⟨b, xs, hP⟩ := lw_pre_spec hpre.2.2 hpre.2.1
  obtain ⟨k, o, h1, h2, h3, hQ⟩ := lw_walk l hflags b xs p e ha hc hk s m args below hf ((Spec.applies_iff_loose hf).mp happ).1 hP trivial
  exact ⟨k, o, h1, h2, h3, hQ⟩
theorem lw_frame {s t : State} {o : Outcome} {args : Array Value} (h : Framed s o t [] 600000 7302250) :
    Framed s o t (fieldLocs frame_1_writes args s ++ arrayLocs frame_1_arrays args s ++ staticLocs frame_1_statics s) 600000 7302250 := h
theorem lw_limb (L : Cond) (hL : ∀ (args : Array Value) (s t : State), L.after args s (.returned (some (.int 1))) t = true) :
    ArmFor flags0 classFile x code maxLocals ret World_1 tables_1 room_1 Calls_1 rest_1 Pre_1
      (fun tb e a s o t => postC L tb e a s o t ∧ Framed s o t (fieldLocs frame_1_writes a s ++ arrayLocs frame_1_arrays a s ++ staticLocs frame_1_statics s) 600000 7302250) := by
  intro l hflags _ _ p e ha hc hk s m args below hf hfit hheap happ hpre
  obtain ⟨k, o, h1, h2, h3, rfl, hF⟩ := lw_comes l hflags p e ha hc hk s m args below hf hfit hheap happ hpre
  exact ⟨k, _, h1, h2, h3, hL args s _, lw_frame hF⟩
theorem i_vc : Claimed_1_1 ∧ Claimed_1_2 := ⟨lw_limb limb_1_1 (fun args s t => by simp [limb_1_1, Cond.after, Cond.holds, Cond.value]), lw_limb limb_1_2 (fun args s t => Cond.after_iff.mpr (by
  first | (rw [show limb_1_2 = Cond.eq .result (.int 1) from rfl, Cond.eq_ints (x := 1) (y := 1) rfl rfl]; simp; done) | (simp [limb_1_2, Cond.value, Term.eval]; done)))⟩
