/-! MAP: moving, freeing (laid by gen_move.py) -/
theorem hin_X1_moveToNew_X1 : ∀ w ∈ wsX10, w ∈ wsX1_moveToNew := by decide +kernel
theorem hin_X1_moveToNew_X0 : ∀ w ∈ wsX00, w ∈ wsX1_moveToNew := by decide +kernel
theorem hin_X1_moveNextSlots_X1 : ∀ w ∈ wsX10, w ∈ wsX1_moveNextSlots := by decide +kernel
theorem hin_X1_moveNextSlots_X0 : ∀ w ∈ wsX00, w ∈ wsX1_moveNextSlots := by decide +kernel
theorem hin_X1_startMigration_X1 : ∀ w ∈ wsX10, w ∈ wsX1_startMigration := by decide +kernel
theorem hin_X1_startMigration_X0 : ∀ w ∈ wsX00, w ∈ wsX1_startMigration := by decide +kernel
theorem hin_X1_freeInNew_X1 : ∀ w ∈ wsX10, w ∈ wsX1_freeInNew := by decide +kernel
theorem hin_X1_freeInNew_X0 : ∀ w ∈ wsX00, w ∈ wsX1_freeInNew := by decide +kernel
theorem hin_X1_moveOn_X1 : ∀ w ∈ wsX10, w ∈ wsX1_moveOn := by decide +kernel
theorem hin_X1_moveOn_X0 : ∀ w ∈ wsX00, w ∈ wsX1_moveOn := by decide +kernel
theorem hin_X1_put_X1 : ∀ w ∈ wsX10, w ∈ wsX1_put := by decide +kernel
theorem hin_X1_put_X0 : ∀ w ∈ wsX00, w ∈ wsX1_put := by decide +kernel
theorem hin_X1_get_X1 : ∀ w ∈ wsX10, w ∈ wsX1_get := by decide +kernel
theorem hin_X1_get_X0 : ∀ w ∈ wsX00, w ∈ wsX1_get := by decide +kernel
theorem hin_X1_remove_X1 : ∀ w ∈ wsX10, w ∈ wsX1_remove := by decide +kernel
theorem hin_X1_remove_X0 : ∀ w ∈ wsX00, w ∈ wsX1_remove := by decide +kernel
theorem hin_X1_slot_X1 : ∀ w ∈ wsX10, w ∈ wsX1_slot := by decide +kernel
theorem hin_X1_slot_X0 : ∀ w ∈ wsX00, w ∈ wsX1_slot := by decide +kernel
theorem hin_X1_has_X1 : ∀ w ∈ wsX10, w ∈ wsX1_has := by decide +kernel
theorem hin_X1_has_X0 : ∀ w ∈ wsX00, w ∈ wsX1_has := by decide +kernel
set_option maxHeartbeats 4000000 in
set_option maxRecDepth 100000 in
theorem c_X1_moveToNew (l : Launch) (dC : Nat → ClassId) (dI : Nat → Nat → Nat) (cI : ClassId) (h0 t1 m1 k1 v1 t2 m2 k2 v2 L : Nat) (X Y : q_TB) (x3 x4 : Int32) (w i : Nat) (sz : Nat) (hX : q_pw X.1) (hXL : X.1 ≤ L) (hY : q_pw Y.1) (hYL : Y.1 ≤ L) (hL : L ≤ 1024) (hi : i < Y.1) : Met l yX1_moveToNew wsX1_moveToNew ({ frames := 3, cells := 0, slots := 0, locals := 68 }) (r_Mc (dC, dI) vwCl [(cI, .int)] [(h0, .inr (1, [.int (nI L), .ref t1, .ref t2, .int x3, .int x4, .int (nI w)])), (t1, .inr (0, [.ref m1, .ref k1, .ref v1, .int (nI X.1)])), (m1, .inl (cI, L, .inl X.2.1)), (k1, .inl (cI, L, .inl X.2.2.1)), (v1, .inl (cI, L, .inl X.2.2.2)), (t2, .inr (0, [.ref m2, .ref k2, .ref v2, .int (nI Y.1)])), (m2, .inl (cI, L, .inl Y.2.1)), (k2, .inl (cI, L, .inl Y.2.2.1)), (v2, .inl (cI, L, .inl Y.2.2.2))] sz [.ref h0, .int (nI i)]) (va_Qv (fun (_ : Unit) => True) (fun u t => r_B (dC, dI) vwCl [(cI, .int)] (va_A [(h0, .inr (1, [.int (nI L), .ref t1, .ref t2, .int x3, .int x4, .int (nI w)])), (t1, .inr (0, [.ref m1, .ref k1, .ref v1, .int (nI X.1)])), (m1, .inl (cI, L, .inl X.2.1)), (k1, .inl (cI, L, .inl X.2.2.1)), (v1, .inl (cI, L, .inl X.2.2.2)), (t2, .inr (0, [.ref m2, .ref k2, .ref v2, .int (nI Y.1)])), (m2, .inl (cI, L, .inl Y.2.1)), (k2, .inl (cI, L, .inl Y.2.2.1)), (v2, .inl (cI, L, .inl Y.2.2.2))] sz) ((fun _ => [(h0, .inr (1, [.int (nI L), .ref t1, .ref t2, .int x3, .int x4, .int (nI (w + (q_lkD X (Y.2.2.1 i) + 1)))])), (t1, .inr (0, [.ref m1, .ref k1, .ref v1, .int (nI X.1)])), (m1, .inl (cI, L, .inl (upd X.2.1 (q_lkE X (Y.2.2.1 i)) 2))), (k1, .inl (cI, L, .inl (upd X.2.2.1 (q_lkE X (Y.2.2.1 i)) (Y.2.2.1 i)))), (v1, .inl (cI, L, .inl (upd X.2.2.2 (q_lkE X (Y.2.2.1 i)) (Y.2.2.2 i)))), (t2, .inr (0, [.ref m2, .ref k2, .ref v2, .int (nI Y.1)])), (m2, .inl (cI, L, .inl (upd Y.2.1 i 1))), (k2, .inl (cI, L, .inl Y.2.2.1)), (v2, .inl (cI, L, .inl Y.2.2.2))]) u) t) (va_A [(h0, .inr (1, [.int (nI L), .ref t1, .ref t2, .int x3, .int x4, .int (nI w)])), (t1, .inr (0, [.ref m1, .ref k1, .ref v1, .int (nI X.1)])), (m1, .inl (cI, L, .inl X.2.1)), (k1, .inl (cI, L, .inl X.2.2.1)), (v1, .inl (cI, L, .inl X.2.2.2)), (t2, .inr (0, [.ref m2, .ref k2, .ref v2, .int (nI Y.1)])), (m2, .inl (cI, L, .inl Y.2.1)), (k2, .inl (cI, L, .inl Y.2.2.1)), (v2, .inl (cI, L, .inl Y.2.2.2))] sz)) 0 0 (va_A [(h0, .inr (1, [.int (nI L), .ref t1, .ref t2, .int x3, .int x4, .int (nI w)])), (t1, .inr (0, [.ref m1, .ref k1, .ref v1, .int (nI X.1)])), (m1, .inl (cI, L, .inl X.2.1)), (k1, .inl (cI, L, .inl X.2.2.1)), (v1, .inl (cI, L, .inl X.2.2.2)), (t2, .inr (0, [.ref m2, .ref k2, .ref v2, .int (nI Y.1)])), (m2, .inl (cI, L, .inl Y.2.1)), (k2, .inl (cI, L, .inl Y.2.2.1)), (v2, .inl (cI, L, .inl Y.2.2.2))] sz) := by
  refine Met.ofW (cc := cX1_moveToNew) (maxL := 3) (ret := none) (by decide) rfl ?_
  intro p e s m args below meth c s₁ Bd hml hv
  obtain ⟨rfl, hsz, hP, hK, hD0⟩ := hv
  have hx := Bd.exec
  have hb := Bd.bytes
  have hr := Bd.returns
  have hts := atoms_spec (ws := wsX1_moveToNew) Bd.pre
  have hown : s.vm.findClass RX1 = some m.cls := findClass_of_methodNamed Bd.named
  have hlocks := Bd.notSynchronized
  have S0 : CallFix p m c cX1_moveToNew 3 s _ wsX1_moveToNew RX1 := ⟨hx, hb, hml, hown, hts⟩
  subst hsz
  have hD := hD0.self (sz := s.heap.size)
  generalize hAe : va_A [(h0, .inr (1, [.int (nI L), .ref t1, .ref t2, .int x3, .int x4, .int (nI w)])), (t1, .inr (0, [.ref m1, .ref k1, .ref v1, .int (nI X.1)])), (m1, .inl (cI, L, .inl X.2.1)), (k1, .inl (cI, L, .inl X.2.2.1)), (v1, .inl (cI, L, .inl X.2.2.2)), (t2, .inr (0, [.ref m2, .ref k2, .ref v2, .int (nI Y.1)])), (m2, .inl (cI, L, .inl Y.2.1)), (k2, .inl (cI, L, .inl Y.2.2.1)), (v2, .inl (cI, L, .inl Y.2.2.2))] s.heap.size = Aq at hD ⊢
  have hA : ∀ q : Nat, s.heap.size ≤ q → Aq q := fun q h => by rw [← hAe]; exact Or.inr h
  have hS : va_S Aq s.heap s.heap [] := va_S.rf
  have hD : va_D Aq [(h0, .inr (1, [.int (nI L), .ref t1, .ref t2, .int x3, .int x4, .int (nI w)])), (t1, .inr (0, [.ref m1, .ref k1, .ref v1, .int (nI X.1)])), (m1, .inl (cI, L, .inl X.2.1)), (k1, .inl (cI, L, .inl X.2.2.1)), (v1, .inl (cI, L, .inl X.2.2.2)), (t2, .inr (0, [.ref m2, .ref k2, .ref v2, .int (nI Y.1)])), (m2, .inl (cI, L, .inl Y.2.1)), (k2, .inl (cI, L, .inl Y.2.2.1)), (v2, .inl (cI, L, .inl Y.2.2.2))] := hD
  have hP : va_P (dC, dI) vwCl [(h0, .inr (1, [.int (nI L), .ref t1, .ref t2, .int x3, .int x4, .int (nI w)])), (t1, .inr (0, [.ref m1, .ref k1, .ref v1, .int (nI X.1)])), (m1, .inl (cI, L, .inl X.2.1)), (k1, .inl (cI, L, .inl X.2.2.1)), (v1, .inl (cI, L, .inl X.2.2.2)), (t2, .inr (0, [.ref m2, .ref k2, .ref v2, .int (nI Y.1)])), (m2, .inl (cI, L, .inl Y.2.1)), (k2, .inl (cI, L, .inl Y.2.2.1)), (v2, .inl (cI, L, .inl Y.2.2.2))] s.heap := hP
  have hl := lv_entry ([.ref h0, .int (nI i)]) (n := 3) (Nat.le_of_ble_eq_true rfl)
  rw [lg_entry_eq]
  generalize (lg_sl ([.ref h0, .int (nI i)]) ++ List.replicate (3 - (lg_sl ([.ref h0, .int (nI i)])).length) Slot.unset).toArray = ls at hl ⊢
  have hl : lv_has ls 3 [(0, .ref h0), (1, .int (nI i))] := hl
  have hX8 := q_pw_8 hX
  have hY8 := q_pw_8 hY
  refine lv_aload_n hx hb dX1_moveToNew_0 rfl (lv_at hl 0 rfl) ?_
  refine va_get (D := (dC, dI)) (ci := 1) (v := .ref t2) (C := RX1) (T := TX1) (N := 6) hx hb hts hin_X1_moveToNew_X1 hown hK hP 0 rfl rfl 2 (by decide) (hts (.fieldLink RX1 26 "StepMap" "oldTable" "LStepMap$Table;") (by decide +kernel)) (fun _ h9 => h9) rfl dX1_moveToNew_1 ?_
  refine va_get (D := (dC, dI)) (ci := 0) (v := .ref k2) (C := RX0) (T := TX0) (N := 4) hx hb hts hin_X1_moveToNew_X0 hown hK hP 5 rfl rfl 1 (by decide) (hts (.fieldLink RX1 121 "StepMap$Table" "keys" "[I") (by decide +kernel)) (fun _ h9 => h9) rfl dX1_moveToNew_4 ?_
  refine lv_iload_n hx hb dX1_moveToNew_7 rfl (lv_at hl 1 rfl) ?_
  refine r_ld (i := i) hx hb hK hP 7 0 rfl rfl (by omega) (by omega) dX1_moveToNew_8 ?_
  refine lv_istore_n (lv' := [(2, .int (Y.2.2.1 i)), (0, .ref h0), (1, .int (nI i))]) hx hb dX1_moveToNew_9 rfl hl (by decide) rfl (fun ls hl => ?_)
  refine lv_aload_n hx hb dX1_moveToNew_10 rfl (lv_at hl 1 rfl) ?_
  refine va_get (D := (dC, dI)) (ci := 1) (v := .ref t1) (C := RX1) (T := TX1) (N := 6) hx hb hts hin_X1_moveToNew_X1 hown hK hP 0 rfl rfl 1 (by decide) (hts (.fieldLink RX1 22 "StepMap" "newTable" "LStepMap$Table;") (by decide +kernel)) (fun _ h9 => h9) rfl dX1_moveToNew_11 ?_
  refine lv_aload_n hx hb dX1_moveToNew_14 rfl (lv_at hl 1 rfl) ?_
  refine lv_aload_n hx hb dX1_moveToNew_15 rfl (lv_at hl 1 rfl) ?_
  refine va_get (D := (dC, dI)) (ci := 1) (v := .ref t1) (C := RX1) (T := TX1) (N := 6) hx hb hts hin_X1_moveToNew_X1 hown hK hP 0 rfl rfl 1 (by decide) (hts (.fieldLink RX1 22 "StepMap" "newTable" "LStepMap$Table;") (by decide +kernel)) (fun _ h9 => h9) rfl dX1_moveToNew_16 ?_
  refine lv_iload_n hx hb dX1_moveToNew_19 rfl (lv_at hl 0 rfl) ?_
  refine r_muI (wr := [(t2, .inr (0, [.ref m2, .ref k2, .ref v2, .int (nI Y.1)])), (m2, .inl (cI, L, .inl Y.2.1)), (k2, .inl (cI, L, .inl Y.2.2.1)), (v2, .inl (cI, L, .inl Y.2.2.2))]) (rest := [.ref t1]) S0 (c_X1_lookFor l dC dI cI h0 t1 t2 t1 m1 k1 v1 L (nI L) x3 x4 w X (Y.2.2.1 i) s.heap.size (by assumption) (by omega) (by omega)) (cwV 2 hts gX1_moveToNew_X1_lookFor rfl rfl rfl (by decide +kernel) ⟨Nat.le_of_ble_eq_true rfl, Nat.le_of_ble_eq_true rfl⟩) hK hP hD hS hA [0, 1, 2, 3, 4] [5, 6, 7, 8] rfl rfl (by decide) (by decide) (by decide) (ci := 1) (q0 := 0) rfl rfl rfl rfl hl.1 rfl (Nat.le_of_ble_eq_true rfl) dX1_moveToNew_20 ⟨Nat.zero_le _, Nat.zero_le _⟩ (fun r_20 _ H locs hu hP hD hS => ?_)
  have hP : va_P (dC, dI) vwCl [(h0, .inr (1, [.int (nI L), .ref t1, .ref t2, .int x3, .int x4, .int (nI (w + (q_lkD X (Y.2.2.1 i) + 1)))])), (t1, .inr (0, [.ref m1, .ref k1, .ref v1, .int (nI X.1)])), (m1, .inl (cI, L, .inl X.2.1)), (k1, .inl (cI, L, .inl X.2.2.1)), (v1, .inl (cI, L, .inl X.2.2.2)), (t2, .inr (0, [.ref m2, .ref k2, .ref v2, .int (nI Y.1)])), (m2, .inl (cI, L, .inl Y.2.1)), (k2, .inl (cI, L, .inl Y.2.2.1)), (v2, .inl (cI, L, .inl Y.2.2.2))] H := hP.sub [4, 5, 6, 7, 8, 0, 1, 2, 3] rfl
  have hD : va_D Aq [(h0, .inr (1, [.int (nI L), .ref t1, .ref t2, .int x3, .int x4, .int (nI (w + (q_lkD X (Y.2.2.1 i) + 1)))])), (t1, .inr (0, [.ref m1, .ref k1, .ref v1, .int (nI X.1)])), (m1, .inl (cI, L, .inl X.2.1)), (k1, .inl (cI, L, .inl X.2.2.1)), (v1, .inl (cI, L, .inl X.2.2.2)), (t2, .inr (0, [.ref m2, .ref k2, .ref v2, .int (nI Y.1)])), (m2, .inl (cI, L, .inl Y.2.1)), (k2, .inl (cI, L, .inl Y.2.2.1)), (v2, .inl (cI, L, .inl Y.2.2.2))] := hD.sub [4, 5, 6, 7, 8, 0, 1, 2, 3] (by decide) rfl
  have hu : r_20 = nI (q_lkE X (Y.2.2.1 i)) := hu
  subst hu
  have he := q_lkE_lt (t := X) (Y.2.2.1 i) (by omega)
  refine lv_iload_n hx hb dX1_moveToNew_23 rfl (lv_at hl 0 rfl) ?_
  refine lv_aload_n hx hb dX1_moveToNew_24 rfl (lv_at hl 1 rfl) ?_
  refine va_get (D := (dC, dI)) (ci := 1) (v := .ref t2) (C := RX1) (T := TX1) (N := 6) hx hb hts hin_X1_moveToNew_X1 hown hK hP 0 rfl rfl 2 (by decide) (hts (.fieldLink RX1 26 "StepMap" "oldTable" "LStepMap$Table;") (by decide +kernel)) (fun _ h9 => h9) rfl dX1_moveToNew_25 ?_
  refine va_get (D := (dC, dI)) (ci := 0) (v := .ref v2) (C := RX0) (T := TX0) (N := 4) hx hb hts hin_X1_moveToNew_X0 hown hK hP 5 rfl rfl 2 (by decide) (hts (.fieldLink RX1 41 "StepMap$Table" "values" "[I") (by decide +kernel)) (fun _ h9 => h9) rfl dX1_moveToNew_28 ?_
  refine lv_iload_n hx hb dX1_moveToNew_31 rfl (lv_at hl 2 rfl) ?_
  refine r_ld (i := i) hx hb hK hP 8 0 rfl rfl (by omega) (by omega) dX1_moveToNew_32 ?_
  refine r_muV (wr := [(h0, .inr (1, [.int (nI L), .ref t1, .ref t2, .int x3, .int x4, .int (nI (w + (q_lkD X (Y.2.2.1 i) + 1)))])), (t2, .inr (0, [.ref m2, .ref k2, .ref v2, .int (nI Y.1)])), (m2, .inl (cI, L, .inl Y.2.1)), (k2, .inl (cI, L, .inl Y.2.2.1)), (v2, .inl (cI, L, .inl Y.2.2.2))]) (rest := []) S0 (c_X0_fill l dC dI cI t1 m1 k1 v1 L X.1 X.2.1 X.2.2.1 X.2.2.2 (q_lkE X (Y.2.2.1 i)) (Y.2.2.1 i) (Y.2.2.2 i) H.size (by assumption) (by omega) (by omega) (by omega)) (cwV 3 hts gX1_moveToNew_X0_fill rfl rfl rfl (by decide +kernel) ⟨Nat.le_of_ble_eq_true rfl, Nat.le_of_ble_eq_true rfl⟩) hK hP hD hS hA [1, 2, 3, 4] [0, 5, 6, 7, 8] rfl rfl (by decide) (by decide) (by decide) (ci := 0) (q0 := 0) rfl rfl rfl rfl hl.1 rfl (Nat.le_of_ble_eq_true rfl) dX1_moveToNew_33 ⟨Nat.zero_le _, Nat.zero_le _⟩ (fun _ H locs hu hP hD hS => ?_)
  have hP : va_P (dC, dI) vwCl [(h0, .inr (1, [.int (nI L), .ref t1, .ref t2, .int x3, .int x4, .int (nI (w + (q_lkD X (Y.2.2.1 i) + 1)))])), (t1, .inr (0, [.ref m1, .ref k1, .ref v1, .int (nI X.1)])), (m1, .inl (cI, L, .inl (upd X.2.1 (q_lkE X (Y.2.2.1 i)) 2))), (k1, .inl (cI, L, .inl (upd X.2.2.1 (q_lkE X (Y.2.2.1 i)) (Y.2.2.1 i)))), (v1, .inl (cI, L, .inl (upd X.2.2.2 (q_lkE X (Y.2.2.1 i)) (Y.2.2.2 i)))), (t2, .inr (0, [.ref m2, .ref k2, .ref v2, .int (nI Y.1)])), (m2, .inl (cI, L, .inl Y.2.1)), (k2, .inl (cI, L, .inl Y.2.2.1)), (v2, .inl (cI, L, .inl Y.2.2.2))] H := hP.sub [0, 5, 6, 7, 8, 1, 2, 3, 4] rfl
  have hD : va_D Aq [(h0, .inr (1, [.int (nI L), .ref t1, .ref t2, .int x3, .int x4, .int (nI (w + (q_lkD X (Y.2.2.1 i) + 1)))])), (t1, .inr (0, [.ref m1, .ref k1, .ref v1, .int (nI X.1)])), (m1, .inl (cI, L, .inl (upd X.2.1 (q_lkE X (Y.2.2.1 i)) 2))), (k1, .inl (cI, L, .inl (upd X.2.2.1 (q_lkE X (Y.2.2.1 i)) (Y.2.2.1 i)))), (v1, .inl (cI, L, .inl (upd X.2.2.2 (q_lkE X (Y.2.2.1 i)) (Y.2.2.2 i)))), (t2, .inr (0, [.ref m2, .ref k2, .ref v2, .int (nI Y.1)])), (m2, .inl (cI, L, .inl Y.2.1)), (k2, .inl (cI, L, .inl Y.2.2.1)), (v2, .inl (cI, L, .inl Y.2.2.2))] := hD.sub [0, 5, 6, 7, 8, 1, 2, 3, 4] (by decide) rfl
  refine lv_aload_n hx hb dX1_moveToNew_36 rfl (lv_at hl 1 rfl) ?_
  refine va_get (D := (dC, dI)) (ci := 1) (v := .ref t2) (C := RX1) (T := TX1) (N := 6) hx hb hts hin_X1_moveToNew_X1 hown hK hP 0 rfl rfl 2 (by decide) (hts (.fieldLink RX1 26 "StepMap" "oldTable" "LStepMap$Table;") (by decide +kernel)) (fun _ h9 => h9) rfl dX1_moveToNew_37 ?_
  refine va_get (D := (dC, dI)) (ci := 0) (v := .ref m2) (C := RX0) (T := TX0) (N := 4) hx hb hts hin_X1_moveToNew_X0 hown hK hP 5 rfl rfl 0 (by decide) (hts (.fieldLink RX1 63 "StepMap$Table" "marks" "[I") (by decide +kernel)) (fun _ h9 => h9) rfl dX1_moveToNew_40 ?_
  refine lv_iload_n hx hb dX1_moveToNew_43 rfl (lv_at hl 2 rfl) ?_
  refine lv_iconst (v := 1) hx hb dX1_moveToNew_44 (by decide) ?_
  refine r_st (i := i) hx hb hK hP hD hS 6 0 rfl rfl (by omega) (by omega) dX1_moveToNew_45 (fun H locs hP hD hS => ?_)
  have hP : va_P (dC, dI) vwCl [(h0, .inr (1, [.int (nI L), .ref t1, .ref t2, .int x3, .int x4, .int (nI (w + (q_lkD X (Y.2.2.1 i) + 1)))])), (t1, .inr (0, [.ref m1, .ref k1, .ref v1, .int (nI X.1)])), (m1, .inl (cI, L, .inl (upd X.2.1 (q_lkE X (Y.2.2.1 i)) 2))), (k1, .inl (cI, L, .inl (upd X.2.2.1 (q_lkE X (Y.2.2.1 i)) (Y.2.2.1 i)))), (v1, .inl (cI, L, .inl (upd X.2.2.2 (q_lkE X (Y.2.2.1 i)) (Y.2.2.2 i)))), (t2, .inr (0, [.ref m2, .ref k2, .ref v2, .int (nI Y.1)])), (m2, .inl (cI, L, .inl (upd Y.2.1 i 1))), (k2, .inl (cI, L, .inl Y.2.2.1)), (v2, .inl (cI, L, .inl Y.2.2.2))] H := hP
  have hD : va_D Aq [(h0, .inr (1, [.int (nI L), .ref t1, .ref t2, .int x3, .int x4, .int (nI (w + (q_lkD X (Y.2.2.1 i) + 1)))])), (t1, .inr (0, [.ref m1, .ref k1, .ref v1, .int (nI X.1)])), (m1, .inl (cI, L, .inl (upd X.2.1 (q_lkE X (Y.2.2.1 i)) 2))), (k1, .inl (cI, L, .inl (upd X.2.2.1 (q_lkE X (Y.2.2.1 i)) (Y.2.2.1 i)))), (v1, .inl (cI, L, .inl (upd X.2.2.2 (q_lkE X (Y.2.2.1 i)) (Y.2.2.2 i)))), (t2, .inr (0, [.ref m2, .ref k2, .ref v2, .int (nI Y.1)])), (m2, .inl (cI, L, .inl (upd Y.2.1 i 1))), (k2, .inl (cI, L, .inl Y.2.2.1)), (v2, .inl (cI, L, .inl Y.2.2.2))] := hD
  exact W.vret hx hb hr (fun t ht hW => ⟨⟨(), rfl, trivial, by rw [ht]; exact hP, va_K.moved hW.alike hK, hD⟩, hS.F ht⟩) hS.2.2 dX1_moveToNew_46
set_option maxHeartbeats 4000000 in
set_option maxRecDepth 100000 in
theorem lp_X1_moveNextSlots {p : Program} {l : Launch} {e : Env} {s : State} {m : MethodId} {args : Array Value} {below : List Frame} {meth : Method} {c : Code} {Q : State → Prop} {dC : Nat → ClassId} {dI : Nat → Nat → Nat} {cI : ClassId} {Aq : Nat → Prop} {H0 : Heap} (S0 : CallFix p m c cX1_moveNextSlots 3 s args wsX1_moveNextSlots RX1) (hK : va_K (dC, dI) vwCl [(cI, .int)] s) (hA : ∀ q : Nat, H0.size ≤ q → Aq q) (h0 t1 m1 k1 v1 t2 m2 k2 v2 L e9 : Nat) (x3 x4 : Int32) (RA RB : q_TB) (RW : Nat) (hL : L ≤ 1024)
    (kk : ∀ (H : Heap) (locs : List Loc) (ls : Array Slot), va_P (dC, dI) vwCl [(h0, .inr (1, [.int (nI L), .ref t1, .ref t2, .int x3, .int x4, .int (nI RW)])), (t1, .inr (0, [.ref m1, .ref k1, .ref v1, .int (nI RA.1)])), (m1, .inl (cI, L, .inl RA.2.1)), (k1, .inl (cI, L, .inl RA.2.2.1)), (v1, .inl (cI, L, .inl RA.2.2.2)), (t2, .inr (0, [.ref m2, .ref k2, .ref v2, .int (nI RB.1)])), (m2, .inl (cI, L, .inl RB.2.1)), (k2, .inl (cI, L, .inl RB.2.2.1)), (v2, .inl (cI, L, .inl RB.2.2.2))] H → va_D Aq [(h0, .inr (1, [.int (nI L), .ref t1, .ref t2, .int x3, .int x4, .int (nI RW)])), (t1, .inr (0, [.ref m1, .ref k1, .ref v1, .int (nI RA.1)])), (m1, .inl (cI, L, .inl RA.2.1)), (k1, .inl (cI, L, .inl RA.2.2.1)), (v1, .inl (cI, L, .inl RA.2.2.2)), (t2, .inr (0, [.ref m2, .ref k2, .ref v2, .int (nI RB.1)])), (m2, .inl (cI, L, .inl RB.2.1)), (k2, .inl (cI, L, .inl RB.2.2.1)), (v2, .inl (cI, L, .inl RB.2.2.2))] → va_S Aq H0 H locs → lv_has ls 3 [(0, .ref h0), (1, .int (nI e9))] → W p l e ({ frames := 4, cells := 0, slots := 0, locals := 90 }) s m args below meth c H locs 0 0 Q (F0 m 61 ls [])) :
    ∀ (f : Nat) (i w : Nat) (X Y : q_TB), i + f = e9 ∧ e9 ≤ Y.1 ∧ q_pw X.1 ∧ X.1 ≤ L ∧ q_pw Y.1 ∧ Y.1 ≤ L ∧ (q_mvs f X Y i).1 = RA ∧ (q_mvs f X Y i).2.1 = RB ∧ w + (q_mvs f X Y i).2.2 = RW → ∀ (H : Heap) (locs : List Loc) (ls : Array Slot), va_P (dC, dI) vwCl [(h0, .inr (1, [.int (nI L), .ref t1, .ref t2, .int x3, .int x4, .int (nI w)])), (t1, .inr (0, [.ref m1, .ref k1, .ref v1, .int (nI X.1)])), (m1, .inl (cI, L, .inl X.2.1)), (k1, .inl (cI, L, .inl X.2.2.1)), (v1, .inl (cI, L, .inl X.2.2.2)), (t2, .inr (0, [.ref m2, .ref k2, .ref v2, .int (nI Y.1)])), (m2, .inl (cI, L, .inl Y.2.1)), (k2, .inl (cI, L, .inl Y.2.2.1)), (v2, .inl (cI, L, .inl Y.2.2.2))] H → va_D Aq [(h0, .inr (1, [.int (nI L), .ref t1, .ref t2, .int x3, .int x4, .int (nI w)])), (t1, .inr (0, [.ref m1, .ref k1, .ref v1, .int (nI X.1)])), (m1, .inl (cI, L, .inl X.2.1)), (k1, .inl (cI, L, .inl X.2.2.1)), (v1, .inl (cI, L, .inl X.2.2.2)), (t2, .inr (0, [.ref m2, .ref k2, .ref v2, .int (nI Y.1)])), (m2, .inl (cI, L, .inl Y.2.1)), (k2, .inl (cI, L, .inl Y.2.2.1)), (v2, .inl (cI, L, .inl Y.2.2.2))] → va_S Aq H0 H locs → lv_has ls 3 [(0, .ref h0), (1, .int (nI e9)), (2, .int (nI i))] → W p l e ({ frames := 4, cells := 0, slots := 0, locals := 90 }) s m args below meth c H locs 0 0 Q (F0 m 22 ls []) := by
  obtain ⟨hx, hb, hml, hown, hts⟩ := id S0
  intro f
  induction f with
  | zero =>
    intro i w X Y hi H locs ls hP hD hS hl
    obtain ⟨h1, h2, h3, h4, h5, h6, h7, h8, h9⟩ := hi
    have hX8 := q_pw_8 h3
    have hY8 := q_pw_8 h5
    refine lv_iload_n hx hb dX1_moveNextSlots_22 rfl (lv_at hl 2 rfl) ?_
    refine lv_iload_n hx hb dX1_moveNextSlots_23 rfl (lv_at hl 1 rfl) ?_
    refine lv_icmp_ge (tgt := 61) hx hb dX1_moveNextSlots_24 (by decide) (fun c_24 => ?_) (fun c_24 => ?_)
    · have h_24 := q_le_t (a := e9) (b := i) (by omega) (by omega) c_24
      have e1 : X = RA := h7
      have e2 : Y = RB := h8
      have e3 : w = RW := h9
      subst e1
      subst e2
      subst e3
      exact kk H locs ls hP hD hS (lv_sub hl [0, 1] rfl)
    · have h_24 := q_le_f (a := e9) (b := i) (by omega) (by omega) c_24
      omega
  | succ f ih =>
    intro i w X Y hi H locs ls hP hD hS hl
    obtain ⟨h1, h2, h3, h4, h5, h6, h7, h8, h9⟩ := hi
    have hX8 := q_pw_8 h3
    have hY8 := q_pw_8 h5
    refine lv_iload_n hx hb dX1_moveNextSlots_22 rfl (lv_at hl 2 rfl) ?_
    refine lv_iload_n hx hb dX1_moveNextSlots_23 rfl (lv_at hl 1 rfl) ?_
    refine lv_icmp_ge (tgt := 61) hx hb dX1_moveNextSlots_24 (by decide) (fun c_24 => ?_) (fun c_24 => ?_)
    · have h_24 := q_le_t (a := e9) (b := i) (by omega) (by omega) c_24
      omega
    · have h_24 := q_le_f (a := e9) (b := i) (by omega) (by omega) c_24
      refine lv_aload_n hx hb dX1_moveNextSlots_27 rfl (lv_at hl 0 rfl) ?_
      refine lv_dup hx hb dX1_moveNextSlots_28 rfl ?_
      refine va_get (D := (dC, dI)) (ci := 1) (v := .int (nI w)) (C := RX1) (T := TX1) (N := 6) hx hb hts hin_X1_moveNextSlots_X1 hown hK hP 0 rfl rfl 5 (by decide) (hts (.fieldLink RX1 35 "StepMap" "work" "I") (by decide +kernel)) (fun _ h9 => h9) rfl dX1_moveNextSlots_29 ?_
      refine lv_iconst (v := 1) hx hb dX1_moveNextSlots_32 (by decide) ?_
      refine lv_iadd hx hb dX1_moveNextSlots_33 ?_
      refine r_eq (z := nI (w + 1)) (nI_add w 1) ?_
      refine va_put (D := (dC, dI)) (ci := 1) (v := .int (nI (w + 1))) (ty := .int) (C := RX1) (T := TX1) (N := 6) hx hb hts hin_X1_moveNextSlots_X1 tyX1 tyX1_ok nmX1 hown hK hP hD hS 0 rfl rfl 5 (by decide) (hts (.fieldLink RX1 35 "StepMap" "work" "I") (by decide +kernel)) (fun _ h9 => h9) rfl (by decide +kernel) (rfl) (rfl) (Nat.le_of_ble_eq_true rfl) dX1_moveNextSlots_34 (fun H locs hP hD hS => ?_)
      have hP : va_P (dC, dI) vwCl [(h0, .inr (1, [.int (nI L), .ref t1, .ref t2, .int x3, .int x4, .int (nI (w + 1))])), (t1, .inr (0, [.ref m1, .ref k1, .ref v1, .int (nI X.1)])), (m1, .inl (cI, L, .inl X.2.1)), (k1, .inl (cI, L, .inl X.2.2.1)), (v1, .inl (cI, L, .inl X.2.2.2)), (t2, .inr (0, [.ref m2, .ref k2, .ref v2, .int (nI Y.1)])), (m2, .inl (cI, L, .inl Y.2.1)), (k2, .inl (cI, L, .inl Y.2.2.1)), (v2, .inl (cI, L, .inl Y.2.2.2))] H := hP
      have hD : va_D Aq [(h0, .inr (1, [.int (nI L), .ref t1, .ref t2, .int x3, .int x4, .int (nI (w + 1))])), (t1, .inr (0, [.ref m1, .ref k1, .ref v1, .int (nI X.1)])), (m1, .inl (cI, L, .inl X.2.1)), (k1, .inl (cI, L, .inl X.2.2.1)), (v1, .inl (cI, L, .inl X.2.2.2)), (t2, .inr (0, [.ref m2, .ref k2, .ref v2, .int (nI Y.1)])), (m2, .inl (cI, L, .inl Y.2.1)), (k2, .inl (cI, L, .inl Y.2.2.1)), (v2, .inl (cI, L, .inl Y.2.2.2))] := hD
      refine lv_aload_n hx hb dX1_moveNextSlots_37 rfl (lv_at hl 0 rfl) ?_
      refine va_get (D := (dC, dI)) (ci := 1) (v := .ref t2) (C := RX1) (T := TX1) (N := 6) hx hb hts hin_X1_moveNextSlots_X1 hown hK hP 0 rfl rfl 2 (by decide) (hts (.fieldLink RX1 26 "StepMap" "oldTable" "LStepMap$Table;") (by decide +kernel)) (fun _ h9 => h9) rfl dX1_moveNextSlots_38 ?_
      refine va_get (D := (dC, dI)) (ci := 0) (v := .ref m2) (C := RX0) (T := TX0) (N := 4) hx hb hts hin_X1_moveNextSlots_X0 hown hK hP 5 rfl rfl 0 (by decide) (hts (.fieldLink RX1 63 "StepMap$Table" "marks" "[I") (by decide +kernel)) (fun _ h9 => h9) rfl dX1_moveNextSlots_41 ?_
      refine lv_iload_n hx hb dX1_moveNextSlots_44 rfl (lv_at hl 2 rfl) ?_
      refine r_ld (i := i) hx hb hK hP 6 0 rfl rfl (by omega) (by omega) dX1_moveNextSlots_45 ?_
      refine lv_iconst (v := 2) hx hb dX1_moveNextSlots_46 (by decide) ?_
      refine lv_icmp_ne (tgt := 55) hx hb dX1_moveNextSlots_47 (by decide) (fun c_47 => ?_) (fun c_47 => ?_)
      · refine lv_iinc (v := nI (i + 1)) (lv' := [(2, .int (nI (i + 1))), (0, .ref h0), (1, .int (nI e9))]) hx hb dX1_moveNextSlots_55 hl (k := 2) rfl (nI_1 _) (by decide) rfl (fun ls hl => ?_)
        refine lv_goto (tgt := 22) hx hb dX1_moveNextSlots_58 (by decide) ?_
        have h7 : (q_mvs f X Y (i + 1)).1 = RA := by rw [q_mvs_0 c_47] at h7; exact h7
        have h8 : (q_mvs f X Y (i + 1)).2.1 = RB := by rw [q_mvs_0 c_47] at h8; exact h8
        have h9 : w + (1 + (q_mvs f X Y (i + 1)).2.2) = RW := by rw [q_mvs_0 c_47] at h9; exact h9
        exact ih (i + 1) (w + 1) X Y ⟨by omega, h2, h3, h4, h5, h6, h7, h8, by omega⟩ H locs ls hP hD hS (lv_sub hl [1, 2, 0] rfl)
      · refine lv_aload_n hx hb dX1_moveNextSlots_50 rfl (lv_at hl 0 rfl) ?_
        refine lv_iload_n hx hb dX1_moveNextSlots_51 rfl (lv_at hl 2 rfl) ?_
        refine r_muV (wr := []) (rest := []) S0 (c_X1_moveToNew l dC dI cI h0 t1 m1 k1 v1 t2 m2 k2 v2 L X Y x3 x4 (w + 1) i H.size h3 h4 h5 h6 hL (by omega)) (cwV 1 hts gX1_moveNextSlots_X1_moveToNew rfl rfl rfl (by decide +kernel) ⟨Nat.le_of_ble_eq_true rfl, Nat.le_of_ble_eq_true rfl⟩) hK hP hD hS hA [0, 1, 2, 3, 4, 5, 6, 7, 8] [] rfl rfl (by decide) (by decide) (by decide) (ci := 1) (q0 := 0) rfl rfl rfl rfl hl.1 rfl (Nat.le_of_ble_eq_true rfl) dX1_moveNextSlots_52 ⟨Nat.zero_le _, Nat.zero_le _⟩ (fun _ H locs hu hP hD hS => ?_)
        have hP : va_P (dC, dI) vwCl [(h0, .inr (1, [.int (nI L), .ref t1, .ref t2, .int x3, .int x4, .int (nI (w + 1 + (q_lkD X (Y.2.2.1 i) + 1)))])), (t1, .inr (0, [.ref m1, .ref k1, .ref v1, .int (nI X.1)])), (m1, .inl (cI, L, .inl (upd X.2.1 (q_lkE X (Y.2.2.1 i)) 2))), (k1, .inl (cI, L, .inl (upd X.2.2.1 (q_lkE X (Y.2.2.1 i)) (Y.2.2.1 i)))), (v1, .inl (cI, L, .inl (upd X.2.2.2 (q_lkE X (Y.2.2.1 i)) (Y.2.2.2 i)))), (t2, .inr (0, [.ref m2, .ref k2, .ref v2, .int (nI Y.1)])), (m2, .inl (cI, L, .inl (upd Y.2.1 i 1))), (k2, .inl (cI, L, .inl Y.2.2.1)), (v2, .inl (cI, L, .inl Y.2.2.2))] H := hP.sub [0, 1, 2, 3, 4, 5, 6, 7, 8] rfl
        have hD : va_D Aq [(h0, .inr (1, [.int (nI L), .ref t1, .ref t2, .int x3, .int x4, .int (nI (w + 1 + (q_lkD X (Y.2.2.1 i) + 1)))])), (t1, .inr (0, [.ref m1, .ref k1, .ref v1, .int (nI X.1)])), (m1, .inl (cI, L, .inl (upd X.2.1 (q_lkE X (Y.2.2.1 i)) 2))), (k1, .inl (cI, L, .inl (upd X.2.2.1 (q_lkE X (Y.2.2.1 i)) (Y.2.2.1 i)))), (v1, .inl (cI, L, .inl (upd X.2.2.2 (q_lkE X (Y.2.2.1 i)) (Y.2.2.2 i)))), (t2, .inr (0, [.ref m2, .ref k2, .ref v2, .int (nI Y.1)])), (m2, .inl (cI, L, .inl (upd Y.2.1 i 1))), (k2, .inl (cI, L, .inl Y.2.2.1)), (v2, .inl (cI, L, .inl Y.2.2.2))] := hD.sub [0, 1, 2, 3, 4, 5, 6, 7, 8] (by decide) rfl
        refine lv_iinc (v := nI (i + 1)) (lv' := [(2, .int (nI (i + 1))), (0, .ref h0), (1, .int (nI e9))]) hx hb dX1_moveNextSlots_55 hl (k := 2) rfl (nI_1 _) (by decide) rfl (fun ls hl => ?_)
        refine lv_goto (tgt := 22) hx hb dX1_moveNextSlots_58 (by decide) ?_
        have h7 : (q_mvs f (q_fl X (q_lkE X (Y.2.2.1 i)) (Y.2.2.1 i) (Y.2.2.2 i)) (q_tk Y i) (i + 1)).1 = RA := by rw [q_mvs_1 c_47] at h7; exact h7
        have h8 : (q_mvs f (q_fl X (q_lkE X (Y.2.2.1 i)) (Y.2.2.1 i) (Y.2.2.2 i)) (q_tk Y i) (i + 1)).2.1 = RB := by rw [q_mvs_1 c_47] at h8; exact h8
        have h9 : w + (q_lkD X (Y.2.2.1 i) + 2 + (q_mvs f (q_fl X (q_lkE X (Y.2.2.1 i)) (Y.2.2.1 i) (Y.2.2.2 i)) (q_tk Y i) (i + 1)).2.2) = RW := by rw [q_mvs_1 c_47] at h9; exact h9
        exact ih (i + 1) (w + 1 + (q_lkD X (Y.2.2.1 i) + 1)) (q_fl X (q_lkE X (Y.2.2.1 i)) (Y.2.2.1 i) (Y.2.2.2 i)) (q_tk Y i) ⟨by omega, h2, h3, h4, h5, h6, h7, h8, by omega⟩ H locs ls hP hD hS (lv_sub hl [1, 2, 0] rfl)
set_option maxHeartbeats 4000000 in
set_option maxRecDepth 100000 in
theorem c_X1_moveNextSlots (l : Launch) (dC : Nat → ClassId) (dI : Nat → Nat → Nat) (cI : ClassId) (h0 t1 m1 k1 v1 t2 m2 k2 v2 L : Nat) (A B : q_TB) (x4 : Int32) (cu w : Nat) (sz : Nat) (hSZ : q_SZ L A B) (hc4 : cu + 4 ≤ B.1) : Met l yX1_moveNextSlots wsX1_moveNextSlots ({ frames := 4, cells := 0, slots := 0, locals := 90 }) (r_Mc (dC, dI) vwCl [(cI, .int)] [(h0, .inr (1, [.int (nI L), .ref t1, .ref t2, .int (nI cu), .int x4, .int (nI w)])), (t1, .inr (0, [.ref m1, .ref k1, .ref v1, .int (nI A.1)])), (m1, .inl (cI, L, .inl A.2.1)), (k1, .inl (cI, L, .inl A.2.2.1)), (v1, .inl (cI, L, .inl A.2.2.2)), (t2, .inr (0, [.ref m2, .ref k2, .ref v2, .int (nI B.1)])), (m2, .inl (cI, L, .inl B.2.1)), (k2, .inl (cI, L, .inl B.2.2.1)), (v2, .inl (cI, L, .inl B.2.2.2))] sz [.ref h0]) (va_Qv (fun (_ : Unit) => True) (fun u t => r_B (dC, dI) vwCl [(cI, .int)] (va_A [(h0, .inr (1, [.int (nI L), .ref t1, .ref t2, .int (nI cu), .int x4, .int (nI w)])), (t1, .inr (0, [.ref m1, .ref k1, .ref v1, .int (nI A.1)])), (m1, .inl (cI, L, .inl A.2.1)), (k1, .inl (cI, L, .inl A.2.2.1)), (v1, .inl (cI, L, .inl A.2.2.2)), (t2, .inr (0, [.ref m2, .ref k2, .ref v2, .int (nI B.1)])), (m2, .inl (cI, L, .inl B.2.1)), (k2, .inl (cI, L, .inl B.2.2.1)), (v2, .inl (cI, L, .inl B.2.2.2))] sz) ((fun _ => [(h0, .inr (1, [.int (nI L), .ref t1, .ref t2, .int (q_nx (if cu + 4 < B.1 then some (cu + 4) else none)), .int x4, .int (nI (w + (q_mvs 4 A B cu).2.2))])), (t1, .inr (0, [.ref m1, .ref k1, .ref v1, .int (nI ((q_mvs 4 A B cu).1.1))])), (m1, .inl (cI, L, .inl ((q_mvs 4 A B cu).1.2.1))), (k1, .inl (cI, L, .inl ((q_mvs 4 A B cu).1.2.2.1))), (v1, .inl (cI, L, .inl ((q_mvs 4 A B cu).1.2.2.2))), (t2, .inr (0, [.ref m2, .ref k2, .ref v2, .int (nI ((q_mvs 4 A B cu).2.1.1))])), (m2, .inl (cI, L, .inl ((q_mvs 4 A B cu).2.1.2.1))), (k2, .inl (cI, L, .inl ((q_mvs 4 A B cu).2.1.2.2.1))), (v2, .inl (cI, L, .inl ((q_mvs 4 A B cu).2.1.2.2.2)))]) u) t) (va_A [(h0, .inr (1, [.int (nI L), .ref t1, .ref t2, .int (nI cu), .int x4, .int (nI w)])), (t1, .inr (0, [.ref m1, .ref k1, .ref v1, .int (nI A.1)])), (m1, .inl (cI, L, .inl A.2.1)), (k1, .inl (cI, L, .inl A.2.2.1)), (v1, .inl (cI, L, .inl A.2.2.2)), (t2, .inr (0, [.ref m2, .ref k2, .ref v2, .int (nI B.1)])), (m2, .inl (cI, L, .inl B.2.1)), (k2, .inl (cI, L, .inl B.2.2.1)), (v2, .inl (cI, L, .inl B.2.2.2))] sz)) 0 0 (va_A [(h0, .inr (1, [.int (nI L), .ref t1, .ref t2, .int (nI cu), .int x4, .int (nI w)])), (t1, .inr (0, [.ref m1, .ref k1, .ref v1, .int (nI A.1)])), (m1, .inl (cI, L, .inl A.2.1)), (k1, .inl (cI, L, .inl A.2.2.1)), (v1, .inl (cI, L, .inl A.2.2.2)), (t2, .inr (0, [.ref m2, .ref k2, .ref v2, .int (nI B.1)])), (m2, .inl (cI, L, .inl B.2.1)), (k2, .inl (cI, L, .inl B.2.2.1)), (v2, .inl (cI, L, .inl B.2.2.2))] sz) := by
  refine Met.ofW (cc := cX1_moveNextSlots) (maxL := 3) (ret := none) (by decide) rfl ?_
  intro p e s m args below meth c s₁ Bd hml hv
  obtain ⟨rfl, hsz, hP, hK, hD0⟩ := hv
  have hx := Bd.exec
  have hb := Bd.bytes
  have hr := Bd.returns
  have hts := atoms_spec (ws := wsX1_moveNextSlots) Bd.pre
  have hown : s.vm.findClass RX1 = some m.cls := findClass_of_methodNamed Bd.named
  have hlocks := Bd.notSynchronized
  have S0 : CallFix p m c cX1_moveNextSlots 3 s _ wsX1_moveNextSlots RX1 := ⟨hx, hb, hml, hown, hts⟩
  subst hsz
  have hD := hD0.self (sz := s.heap.size)
  generalize hAe : va_A [(h0, .inr (1, [.int (nI L), .ref t1, .ref t2, .int (nI cu), .int x4, .int (nI w)])), (t1, .inr (0, [.ref m1, .ref k1, .ref v1, .int (nI A.1)])), (m1, .inl (cI, L, .inl A.2.1)), (k1, .inl (cI, L, .inl A.2.2.1)), (v1, .inl (cI, L, .inl A.2.2.2)), (t2, .inr (0, [.ref m2, .ref k2, .ref v2, .int (nI B.1)])), (m2, .inl (cI, L, .inl B.2.1)), (k2, .inl (cI, L, .inl B.2.2.1)), (v2, .inl (cI, L, .inl B.2.2.2))] s.heap.size = Aq at hD ⊢
  have hA : ∀ q : Nat, s.heap.size ≤ q → Aq q := fun q h => by rw [← hAe]; exact Or.inr h
  have hS : va_S Aq s.heap s.heap [] := va_S.rf
  have hD : va_D Aq [(h0, .inr (1, [.int (nI L), .ref t1, .ref t2, .int (nI cu), .int x4, .int (nI w)])), (t1, .inr (0, [.ref m1, .ref k1, .ref v1, .int (nI A.1)])), (m1, .inl (cI, L, .inl A.2.1)), (k1, .inl (cI, L, .inl A.2.2.1)), (v1, .inl (cI, L, .inl A.2.2.2)), (t2, .inr (0, [.ref m2, .ref k2, .ref v2, .int (nI B.1)])), (m2, .inl (cI, L, .inl B.2.1)), (k2, .inl (cI, L, .inl B.2.2.1)), (v2, .inl (cI, L, .inl B.2.2.2))] := hD
  have hP : va_P (dC, dI) vwCl [(h0, .inr (1, [.int (nI L), .ref t1, .ref t2, .int (nI cu), .int x4, .int (nI w)])), (t1, .inr (0, [.ref m1, .ref k1, .ref v1, .int (nI A.1)])), (m1, .inl (cI, L, .inl A.2.1)), (k1, .inl (cI, L, .inl A.2.2.1)), (v1, .inl (cI, L, .inl A.2.2.2)), (t2, .inr (0, [.ref m2, .ref k2, .ref v2, .int (nI B.1)])), (m2, .inl (cI, L, .inl B.2.1)), (k2, .inl (cI, L, .inl B.2.2.1)), (v2, .inl (cI, L, .inl B.2.2.2))] s.heap := hP
  have hl := lv_entry ([.ref h0]) (n := 3) (Nat.le_of_ble_eq_true rfl)
  rw [lg_entry_eq]
  generalize (lg_sl ([.ref h0]) ++ List.replicate (3 - (lg_sl ([.ref h0])).length) Slot.unset).toArray = ls at hl ⊢
  have hl : lv_has ls 3 [(0, .ref h0)] := hl
  obtain ⟨hLp, hpA, hAL, hpB, hBL⟩ := id hSZ
  have hL := (q_pw_8 hLp).2
  have hA8 := q_pw_8 hpA
  have hB8 := q_pw_8 hpB
  refine lv_aload_n hx hb dX1_moveNextSlots_0 rfl (lv_at hl 0 rfl) ?_
  refine va_get (D := (dC, dI)) (ci := 1) (v := .int (nI cu)) (C := RX1) (T := TX1) (N := 6) hx hb hts hin_X1_moveNextSlots_X1 hown hK hP 0 rfl rfl 3 (by decide) (hts (.fieldLink RX1 32 "StepMap" "nextToMove" "I") (by decide +kernel)) (fun _ h9 => h9) rfl dX1_moveNextSlots_1 ?_
  refine lv_iconst (v := 4) hx hb dX1_moveNextSlots_4 (by decide) ?_
  refine lv_iadd hx hb dX1_moveNextSlots_5 ?_
  refine r_eq (z := nI (cu + 4)) (nI_add cu 4) ?_
  refine lv_aload_n hx hb dX1_moveNextSlots_6 rfl (lv_at hl 0 rfl) ?_
  refine va_get (D := (dC, dI)) (ci := 1) (v := .ref t2) (C := RX1) (T := TX1) (N := 6) hx hb hts hin_X1_moveNextSlots_X1 hown hK hP 0 rfl rfl 2 (by decide) (hts (.fieldLink RX1 26 "StepMap" "oldTable" "LStepMap$Table;") (by decide +kernel)) (fun _ h9 => h9) rfl dX1_moveNextSlots_7 ?_
  refine va_get (D := (dC, dI)) (ci := 0) (v := .int (nI B.1)) (C := RX0) (T := TX0) (N := 4) hx hb hts hin_X1_moveNextSlots_X0 hown hK hP 5 rfl rfl 3 (by decide) (hts (.fieldLink RX1 69 "StepMap$Table" "slots" "I") (by decide +kernel)) (fun _ h9 => h9) rfl dX1_moveNextSlots_10 ?_
  refine va_mmin hx hb (by rw [hml]; exact hl.1.symm) hown (hts (.methodLink RX1 112 Lib.Math.min.name) (by decide +kernel)) (hts (.static Lib.Math.min.name) (by decide +kernel)) (hts (.initialized "java/lang/Math") (by decide +kernel)) (hts (.code Lib.Math.min.name Lib.Math.min.code 2 (some .int)) (by decide +kernel)) (Nat.le_of_ble_eq_true rfl) (Nat.le_of_ble_eq_true rfl) (Nat.zero_le _) (Nat.zero_le _) dX1_moveNextSlots_13 ?_
  refine r_eq (z := nI (cu + 4)) (if_neg (nI_nlt (by omega) (by omega))) ?_
  refine lv_istore_n (lv' := [(1, .int (nI (cu + 4))), (0, .ref h0)]) hx hb dX1_moveNextSlots_16 rfl hl (by decide) rfl (fun ls hl => ?_)
  refine lv_aload_n hx hb dX1_moveNextSlots_17 rfl (lv_at hl 1 rfl) ?_
  refine va_get (D := (dC, dI)) (ci := 1) (v := .int (nI cu)) (C := RX1) (T := TX1) (N := 6) hx hb hts hin_X1_moveNextSlots_X1 hown hK hP 0 rfl rfl 3 (by decide) (hts (.fieldLink RX1 32 "StepMap" "nextToMove" "I") (by decide +kernel)) (fun _ h9 => h9) rfl dX1_moveNextSlots_18 ?_
  refine lv_istore_n (lv' := [(2, .int (nI cu)), (1, .int (nI (cu + 4))), (0, .ref h0)]) hx hb dX1_moveNextSlots_21 rfl hl (by decide) rfl (fun ls hl => ?_)
  obtain ⟨RA, hRA⟩ : ∃ z, (q_mvs 4 A B cu).1 = z := ⟨_, rfl⟩
  obtain ⟨RB, hRB⟩ : ∃ z, (q_mvs 4 A B cu).2.1 = z := ⟨_, rfl⟩
  obtain ⟨RW, hRW⟩ : ∃ z, w + (q_mvs 4 A B cu).2.2 = z := ⟨_, rfl⟩
  have hRn : RB.1 = B.1 := by rw [← hRB]; exact (q_mvs_n 4 A B cu).2
  refine lp_X1_moveNextSlots S0 hK hA h0 t1 m1 k1 v1 t2 m2 k2 v2 L (cu + 4) (nI cu) x4 RA RB RW hL (fun H locs ls hP hD hS hl => ?_) 4 cu w A B ⟨rfl, hc4, hpA, hAL, hpB, hBL, hRA, hRB, hRW⟩ s.heap [] ls hP hD hS (lv_sub hl [2, 1, 0] rfl)
  refine lv_aload_n hx hb dX1_moveNextSlots_61 rfl (lv_at hl 0 rfl) ?_
  refine lv_iload_n hx hb dX1_moveNextSlots_62 rfl (lv_at hl 1 rfl) ?_
  refine lv_aload_n hx hb dX1_moveNextSlots_63 rfl (lv_at hl 0 rfl) ?_
  refine va_get (D := (dC, dI)) (ci := 1) (v := .ref t2) (C := RX1) (T := TX1) (N := 6) hx hb hts hin_X1_moveNextSlots_X1 hown hK hP 0 rfl rfl 2 (by decide) (hts (.fieldLink RX1 26 "StepMap" "oldTable" "LStepMap$Table;") (by decide +kernel)) (fun _ h9 => h9) rfl dX1_moveNextSlots_64 ?_
  refine va_get (D := (dC, dI)) (ci := 0) (v := .int (nI RB.1)) (C := RX0) (T := TX0) (N := 4) hx hb hts hin_X1_moveNextSlots_X0 hown hK hP 5 rfl rfl 3 (by decide) (hts (.fieldLink RX1 69 "StepMap$Table" "slots" "I") (by decide +kernel)) (fun _ h9 => h9) rfl dX1_moveNextSlots_67 ?_
  refine lv_icmp_ge (tgt := 77) hx hb dX1_moveNextSlots_70 (by decide) (fun c_70 => ?_) (fun c_70 => ?_)
  · have h_70 := q_le_t (a := RB.1) (b := cu + 4) (by omega) (by omega) c_70
    refine lv_iconst (v := -1) hx hb dX1_moveNextSlots_77 (by decide) ?_
    refine va_put (D := (dC, dI)) (ci := 1) (v := .int (-1)) (ty := .int) (C := RX1) (T := TX1) (N := 6) hx hb hts hin_X1_moveNextSlots_X1 tyX1 tyX1_ok nmX1 hown hK hP hD hS 0 rfl rfl 3 (by decide) (hts (.fieldLink RX1 32 "StepMap" "nextToMove" "I") (by decide +kernel)) (fun _ h9 => h9) rfl (by decide +kernel) (rfl) (rfl) (Nat.le_of_ble_eq_true rfl) dX1_moveNextSlots_78 (fun H locs hP hD hS => ?_)
    have hP : va_P (dC, dI) vwCl [(h0, .inr (1, [.int (nI L), .ref t1, .ref t2, .int (-1), .int x4, .int (nI RW)])), (t1, .inr (0, [.ref m1, .ref k1, .ref v1, .int (nI RA.1)])), (m1, .inl (cI, L, .inl RA.2.1)), (k1, .inl (cI, L, .inl RA.2.2.1)), (v1, .inl (cI, L, .inl RA.2.2.2)), (t2, .inr (0, [.ref m2, .ref k2, .ref v2, .int (nI RB.1)])), (m2, .inl (cI, L, .inl RB.2.1)), (k2, .inl (cI, L, .inl RB.2.2.1)), (v2, .inl (cI, L, .inl RB.2.2.2))] H := hP
    have hD : va_D Aq [(h0, .inr (1, [.int (nI L), .ref t1, .ref t2, .int (-1), .int x4, .int (nI RW)])), (t1, .inr (0, [.ref m1, .ref k1, .ref v1, .int (nI RA.1)])), (m1, .inl (cI, L, .inl RA.2.1)), (k1, .inl (cI, L, .inl RA.2.2.1)), (v1, .inl (cI, L, .inl RA.2.2.2)), (t2, .inr (0, [.ref m2, .ref k2, .ref v2, .int (nI RB.1)])), (m2, .inl (cI, L, .inl RB.2.1)), (k2, .inl (cI, L, .inl RB.2.2.1)), (v2, .inl (cI, L, .inl RB.2.2.2))] := hD
    have e_0_3 : -1 = q_nx (if cu + 4 < B.1 then some (cu + 4) else none) := by rw [if_neg (by omega)]; rfl
    have hP : va_P (dC, dI) vwCl [(h0, .inr (1, [.int (nI L), .ref t1, .ref t2, .int (q_nx (if cu + 4 < B.1 then some (cu + 4) else none)), .int x4, .int (nI RW)])), (t1, .inr (0, [.ref m1, .ref k1, .ref v1, .int (nI RA.1)])), (m1, .inl (cI, L, .inl RA.2.1)), (k1, .inl (cI, L, .inl RA.2.2.1)), (v1, .inl (cI, L, .inl RA.2.2.2)), (t2, .inr (0, [.ref m2, .ref k2, .ref v2, .int (nI RB.1)])), (m2, .inl (cI, L, .inl RB.2.1)), (k2, .inl (cI, L, .inl RB.2.2.1)), (v2, .inl (cI, L, .inl RB.2.2.2))] H := by rw [← e_0_3]; exact hP
    have hD : va_D Aq [(h0, .inr (1, [.int (nI L), .ref t1, .ref t2, .int (q_nx (if cu + 4 < B.1 then some (cu + 4) else none)), .int x4, .int (nI RW)])), (t1, .inr (0, [.ref m1, .ref k1, .ref v1, .int (nI RA.1)])), (m1, .inl (cI, L, .inl RA.2.1)), (k1, .inl (cI, L, .inl RA.2.2.1)), (v1, .inl (cI, L, .inl RA.2.2.2)), (t2, .inr (0, [.ref m2, .ref k2, .ref v2, .int (nI RB.1)])), (m2, .inl (cI, L, .inl RB.2.1)), (k2, .inl (cI, L, .inl RB.2.2.1)), (v2, .inl (cI, L, .inl RB.2.2.2))] := by rw [← e_0_3]; exact hD
    subst hRA
    subst hRB
    subst hRW
    exact W.vret hx hb hr (fun t ht hW => ⟨⟨(), rfl, trivial, by rw [ht]; exact hP, va_K.moved hW.alike hK, hD⟩, hS.F ht⟩) hS.2.2 dX1_moveNextSlots_81
  · have h_70 := q_le_f (a := RB.1) (b := cu + 4) (by omega) (by omega) c_70
    refine lv_iload_n hx hb dX1_moveNextSlots_73 rfl (lv_at hl 1 rfl) ?_
    refine lv_goto (tgt := 78) hx hb dX1_moveNextSlots_74 (by decide) ?_
    refine va_put (D := (dC, dI)) (ci := 1) (v := .int (nI (cu + 4))) (ty := .int) (C := RX1) (T := TX1) (N := 6) hx hb hts hin_X1_moveNextSlots_X1 tyX1 tyX1_ok nmX1 hown hK hP hD hS 0 rfl rfl 3 (by decide) (hts (.fieldLink RX1 32 "StepMap" "nextToMove" "I") (by decide +kernel)) (fun _ h9 => h9) rfl (by decide +kernel) (rfl) (rfl) (Nat.le_of_ble_eq_true rfl) dX1_moveNextSlots_78 (fun H locs hP hD hS => ?_)
    have hP : va_P (dC, dI) vwCl [(h0, .inr (1, [.int (nI L), .ref t1, .ref t2, .int (nI (cu + 4)), .int x4, .int (nI RW)])), (t1, .inr (0, [.ref m1, .ref k1, .ref v1, .int (nI RA.1)])), (m1, .inl (cI, L, .inl RA.2.1)), (k1, .inl (cI, L, .inl RA.2.2.1)), (v1, .inl (cI, L, .inl RA.2.2.2)), (t2, .inr (0, [.ref m2, .ref k2, .ref v2, .int (nI RB.1)])), (m2, .inl (cI, L, .inl RB.2.1)), (k2, .inl (cI, L, .inl RB.2.2.1)), (v2, .inl (cI, L, .inl RB.2.2.2))] H := hP
    have hD : va_D Aq [(h0, .inr (1, [.int (nI L), .ref t1, .ref t2, .int (nI (cu + 4)), .int x4, .int (nI RW)])), (t1, .inr (0, [.ref m1, .ref k1, .ref v1, .int (nI RA.1)])), (m1, .inl (cI, L, .inl RA.2.1)), (k1, .inl (cI, L, .inl RA.2.2.1)), (v1, .inl (cI, L, .inl RA.2.2.2)), (t2, .inr (0, [.ref m2, .ref k2, .ref v2, .int (nI RB.1)])), (m2, .inl (cI, L, .inl RB.2.1)), (k2, .inl (cI, L, .inl RB.2.2.1)), (v2, .inl (cI, L, .inl RB.2.2.2))] := hD
    have e_0_3 : nI (cu + 4) = q_nx (if cu + 4 < B.1 then some (cu + 4) else none) := by rw [if_pos (by omega)]; rfl
    have hP : va_P (dC, dI) vwCl [(h0, .inr (1, [.int (nI L), .ref t1, .ref t2, .int (q_nx (if cu + 4 < B.1 then some (cu + 4) else none)), .int x4, .int (nI RW)])), (t1, .inr (0, [.ref m1, .ref k1, .ref v1, .int (nI RA.1)])), (m1, .inl (cI, L, .inl RA.2.1)), (k1, .inl (cI, L, .inl RA.2.2.1)), (v1, .inl (cI, L, .inl RA.2.2.2)), (t2, .inr (0, [.ref m2, .ref k2, .ref v2, .int (nI RB.1)])), (m2, .inl (cI, L, .inl RB.2.1)), (k2, .inl (cI, L, .inl RB.2.2.1)), (v2, .inl (cI, L, .inl RB.2.2.2))] H := by rw [← e_0_3]; exact hP
    have hD : va_D Aq [(h0, .inr (1, [.int (nI L), .ref t1, .ref t2, .int (q_nx (if cu + 4 < B.1 then some (cu + 4) else none)), .int x4, .int (nI RW)])), (t1, .inr (0, [.ref m1, .ref k1, .ref v1, .int (nI RA.1)])), (m1, .inl (cI, L, .inl RA.2.1)), (k1, .inl (cI, L, .inl RA.2.2.1)), (v1, .inl (cI, L, .inl RA.2.2.2)), (t2, .inr (0, [.ref m2, .ref k2, .ref v2, .int (nI RB.1)])), (m2, .inl (cI, L, .inl RB.2.1)), (k2, .inl (cI, L, .inl RB.2.2.1)), (v2, .inl (cI, L, .inl RB.2.2.2))] := by rw [← e_0_3]; exact hD
    subst hRA
    subst hRB
    subst hRW
    exact W.vret hx hb hr (fun t ht hW => ⟨⟨(), rfl, trivial, by rw [ht]; exact hP, va_K.moved hW.alike hK, hD⟩, hS.F ht⟩) hS.2.2 dX1_moveNextSlots_81
set_option maxHeartbeats 4000000 in
set_option maxRecDepth 100000 in
theorem c_X1_startMigration (l : Launch) (dC : Nat → ClassId) (dI : Nat → Nat → Nat) (cI : ClassId) (h0 t1 m1 k1 v1 t2 m2 k2 v2 L : Nat) (A B : q_TB) (x3 x4 x5 : Int32) (q : Nat) (sz : Nat) (hpB : q_pw B.1) (hBL : B.1 ≤ L) (hL : L ≤ 1024) (hq : q ≤ L) : Met l yX1_startMigration wsX1_startMigration ({ frames := 2, cells := 0, slots := 0, locals := 43 }) (r_Mc (dC, dI) vwCl [(cI, .int)] [(h0, .inr (1, [.int (nI L), .ref t1, .ref t2, .int x3, .int x4, .int x5])), (t1, .inr (0, [.ref m1, .ref k1, .ref v1, .int (nI A.1)])), (m1, .inl (cI, L, .inl A.2.1)), (k1, .inl (cI, L, .inl A.2.2.1)), (v1, .inl (cI, L, .inl A.2.2.2)), (t2, .inr (0, [.ref m2, .ref k2, .ref v2, .int (nI B.1)])), (m2, .inl (cI, L, .inl B.2.1)), (k2, .inl (cI, L, .inl B.2.2.1)), (v2, .inl (cI, L, .inl B.2.2.2))] sz [.ref h0, .int (nI q)]) (va_Qv (fun (_ : Unit) => True) (fun u t => r_B (dC, dI) vwCl [(cI, .int)] (va_A [(h0, .inr (1, [.int (nI L), .ref t1, .ref t2, .int x3, .int x4, .int x5])), (t1, .inr (0, [.ref m1, .ref k1, .ref v1, .int (nI A.1)])), (m1, .inl (cI, L, .inl A.2.1)), (k1, .inl (cI, L, .inl A.2.2.1)), (v1, .inl (cI, L, .inl A.2.2.2)), (t2, .inr (0, [.ref m2, .ref k2, .ref v2, .int (nI B.1)])), (m2, .inl (cI, L, .inl B.2.1)), (k2, .inl (cI, L, .inl B.2.2.1)), (v2, .inl (cI, L, .inl B.2.2.2))] sz) ((fun _ => [(h0, .inr (1, [.int (nI L), .ref t2, .ref t1, .int (nI 0), .int x4, .int x5])), (t1, .inr (0, [.ref m1, .ref k1, .ref v1, .int (nI A.1)])), (m1, .inl (cI, L, .inl A.2.1)), (k1, .inl (cI, L, .inl A.2.2.1)), (v1, .inl (cI, L, .inl A.2.2.2)), (t2, .inr (0, [.ref m2, .ref k2, .ref v2, .int (nI q)])), (m2, .inl (cI, L, .inl (q_cl B.2.1 q))), (k2, .inl (cI, L, .inl B.2.2.1)), (v2, .inl (cI, L, .inl B.2.2.2))]) u) t) (va_A [(h0, .inr (1, [.int (nI L), .ref t1, .ref t2, .int x3, .int x4, .int x5])), (t1, .inr (0, [.ref m1, .ref k1, .ref v1, .int (nI A.1)])), (m1, .inl (cI, L, .inl A.2.1)), (k1, .inl (cI, L, .inl A.2.2.1)), (v1, .inl (cI, L, .inl A.2.2.2)), (t2, .inr (0, [.ref m2, .ref k2, .ref v2, .int (nI B.1)])), (m2, .inl (cI, L, .inl B.2.1)), (k2, .inl (cI, L, .inl B.2.2.1)), (v2, .inl (cI, L, .inl B.2.2.2))] sz)) 0 0 (va_A [(h0, .inr (1, [.int (nI L), .ref t1, .ref t2, .int x3, .int x4, .int x5])), (t1, .inr (0, [.ref m1, .ref k1, .ref v1, .int (nI A.1)])), (m1, .inl (cI, L, .inl A.2.1)), (k1, .inl (cI, L, .inl A.2.2.1)), (v1, .inl (cI, L, .inl A.2.2.2)), (t2, .inr (0, [.ref m2, .ref k2, .ref v2, .int (nI B.1)])), (m2, .inl (cI, L, .inl B.2.1)), (k2, .inl (cI, L, .inl B.2.2.1)), (v2, .inl (cI, L, .inl B.2.2.2))] sz) := by
  refine Met.ofW (cc := cX1_startMigration) (maxL := 3) (ret := none) (by decide) rfl ?_
  intro p e s m args below meth c s₁ Bd hml hv
  obtain ⟨rfl, hsz, hP, hK, hD0⟩ := hv
  have hx := Bd.exec
  have hb := Bd.bytes
  have hr := Bd.returns
  have hts := atoms_spec (ws := wsX1_startMigration) Bd.pre
  have hown : s.vm.findClass RX1 = some m.cls := findClass_of_methodNamed Bd.named
  have hlocks := Bd.notSynchronized
  have S0 : CallFix p m c cX1_startMigration 3 s _ wsX1_startMigration RX1 := ⟨hx, hb, hml, hown, hts⟩
  subst hsz
  have hD := hD0.self (sz := s.heap.size)
  generalize hAe : va_A [(h0, .inr (1, [.int (nI L), .ref t1, .ref t2, .int x3, .int x4, .int x5])), (t1, .inr (0, [.ref m1, .ref k1, .ref v1, .int (nI A.1)])), (m1, .inl (cI, L, .inl A.2.1)), (k1, .inl (cI, L, .inl A.2.2.1)), (v1, .inl (cI, L, .inl A.2.2.2)), (t2, .inr (0, [.ref m2, .ref k2, .ref v2, .int (nI B.1)])), (m2, .inl (cI, L, .inl B.2.1)), (k2, .inl (cI, L, .inl B.2.2.1)), (v2, .inl (cI, L, .inl B.2.2.2))] s.heap.size = Aq at hD ⊢
  have hA : ∀ q : Nat, s.heap.size ≤ q → Aq q := fun q h => by rw [← hAe]; exact Or.inr h
  have hS : va_S Aq s.heap s.heap [] := va_S.rf
  have hD : va_D Aq [(h0, .inr (1, [.int (nI L), .ref t1, .ref t2, .int x3, .int x4, .int x5])), (t1, .inr (0, [.ref m1, .ref k1, .ref v1, .int (nI A.1)])), (m1, .inl (cI, L, .inl A.2.1)), (k1, .inl (cI, L, .inl A.2.2.1)), (v1, .inl (cI, L, .inl A.2.2.2)), (t2, .inr (0, [.ref m2, .ref k2, .ref v2, .int (nI B.1)])), (m2, .inl (cI, L, .inl B.2.1)), (k2, .inl (cI, L, .inl B.2.2.1)), (v2, .inl (cI, L, .inl B.2.2.2))] := hD
  have hP : va_P (dC, dI) vwCl [(h0, .inr (1, [.int (nI L), .ref t1, .ref t2, .int x3, .int x4, .int x5])), (t1, .inr (0, [.ref m1, .ref k1, .ref v1, .int (nI A.1)])), (m1, .inl (cI, L, .inl A.2.1)), (k1, .inl (cI, L, .inl A.2.2.1)), (v1, .inl (cI, L, .inl A.2.2.2)), (t2, .inr (0, [.ref m2, .ref k2, .ref v2, .int (nI B.1)])), (m2, .inl (cI, L, .inl B.2.1)), (k2, .inl (cI, L, .inl B.2.2.1)), (v2, .inl (cI, L, .inl B.2.2.2))] s.heap := hP
  have hl := lv_entry ([.ref h0, .int (nI q)]) (n := 3) (Nat.le_of_ble_eq_true rfl)
  rw [lg_entry_eq]
  generalize (lg_sl ([.ref h0, .int (nI q)]) ++ List.replicate (3 - (lg_sl ([.ref h0, .int (nI q)])).length) Slot.unset).toArray = ls at hl ⊢
  have hl : lv_has ls 3 [(0, .ref h0), (1, .int (nI q))] := hl
  have hB8 := q_pw_8 hpB
  refine lv_aload_n hx hb dX1_startMigration_0 rfl (lv_at hl 0 rfl) ?_
  refine va_get (D := (dC, dI)) (ci := 1) (v := .ref t2) (C := RX1) (T := TX1) (N := 6) hx hb hts hin_X1_startMigration_X1 hown hK hP 0 rfl rfl 2 (by decide) (hts (.fieldLink RX1 26 "StepMap" "oldTable" "LStepMap$Table;") (by decide +kernel)) (fun _ h9 => h9) rfl dX1_startMigration_1 ?_
  refine lv_astore_n (lv' := [(2, .ref t2), (0, .ref h0), (1, .int (nI q))]) hx hb dX1_startMigration_4 rfl hl (by decide) rfl (fun ls hl => ?_)
  refine lv_aload_n hx hb dX1_startMigration_5 rfl (lv_at hl 1 rfl) ?_
  refine lv_aload_n hx hb dX1_startMigration_6 rfl (lv_at hl 1 rfl) ?_
  refine va_get (D := (dC, dI)) (ci := 1) (v := .ref t1) (C := RX1) (T := TX1) (N := 6) hx hb hts hin_X1_startMigration_X1 hown hK hP 0 rfl rfl 1 (by decide) (hts (.fieldLink RX1 22 "StepMap" "newTable" "LStepMap$Table;") (by decide +kernel)) (fun _ h9 => h9) rfl dX1_startMigration_7 ?_
  refine va_put (D := (dC, dI)) (ci := 1) (v := .ref t1) (ty := (.object "StepMap$Table")) (C := RX1) (T := TX1) (N := 6) hx hb hts hin_X1_startMigration_X1 tyX1 tyX1_ok nmX1 hown hK hP hD hS 0 rfl rfl 2 (by decide) (hts (.fieldLink RX1 26 "StepMap" "oldTable" "LStepMap$Table;") (by decide +kernel)) (fun _ h9 => h9) rfl (by decide +kernel) (rfl) (rfl) (Nat.le_of_ble_eq_true rfl) dX1_startMigration_10 (fun H locs hP hD hS => ?_)
  have hP : va_P (dC, dI) vwCl [(h0, .inr (1, [.int (nI L), .ref t1, .ref t1, .int x3, .int x4, .int x5])), (t1, .inr (0, [.ref m1, .ref k1, .ref v1, .int (nI A.1)])), (m1, .inl (cI, L, .inl A.2.1)), (k1, .inl (cI, L, .inl A.2.2.1)), (v1, .inl (cI, L, .inl A.2.2.2)), (t2, .inr (0, [.ref m2, .ref k2, .ref v2, .int (nI B.1)])), (m2, .inl (cI, L, .inl B.2.1)), (k2, .inl (cI, L, .inl B.2.2.1)), (v2, .inl (cI, L, .inl B.2.2.2))] H := hP
  have hD : va_D Aq [(h0, .inr (1, [.int (nI L), .ref t1, .ref t1, .int x3, .int x4, .int x5])), (t1, .inr (0, [.ref m1, .ref k1, .ref v1, .int (nI A.1)])), (m1, .inl (cI, L, .inl A.2.1)), (k1, .inl (cI, L, .inl A.2.2.1)), (v1, .inl (cI, L, .inl A.2.2.2)), (t2, .inr (0, [.ref m2, .ref k2, .ref v2, .int (nI B.1)])), (m2, .inl (cI, L, .inl B.2.1)), (k2, .inl (cI, L, .inl B.2.2.1)), (v2, .inl (cI, L, .inl B.2.2.2))] := hD
  refine lv_aload_n hx hb dX1_startMigration_13 rfl (lv_at hl 1 rfl) ?_
  refine lv_aload_n hx hb dX1_startMigration_14 rfl (lv_at hl 0 rfl) ?_
  refine va_put (D := (dC, dI)) (ci := 1) (v := .ref t2) (ty := (.object "StepMap$Table")) (C := RX1) (T := TX1) (N := 6) hx hb hts hin_X1_startMigration_X1 tyX1 tyX1_ok nmX1 hown hK hP hD hS 0 rfl rfl 1 (by decide) (hts (.fieldLink RX1 22 "StepMap" "newTable" "LStepMap$Table;") (by decide +kernel)) (fun _ h9 => h9) rfl (by decide +kernel) (rfl) (rfl) (Nat.le_of_ble_eq_true rfl) dX1_startMigration_15 (fun H locs hP hD hS => ?_)
  have hP : va_P (dC, dI) vwCl [(h0, .inr (1, [.int (nI L), .ref t2, .ref t1, .int x3, .int x4, .int x5])), (t1, .inr (0, [.ref m1, .ref k1, .ref v1, .int (nI A.1)])), (m1, .inl (cI, L, .inl A.2.1)), (k1, .inl (cI, L, .inl A.2.2.1)), (v1, .inl (cI, L, .inl A.2.2.2)), (t2, .inr (0, [.ref m2, .ref k2, .ref v2, .int (nI B.1)])), (m2, .inl (cI, L, .inl B.2.1)), (k2, .inl (cI, L, .inl B.2.2.1)), (v2, .inl (cI, L, .inl B.2.2.2))] H := hP
  have hD : va_D Aq [(h0, .inr (1, [.int (nI L), .ref t2, .ref t1, .int x3, .int x4, .int x5])), (t1, .inr (0, [.ref m1, .ref k1, .ref v1, .int (nI A.1)])), (m1, .inl (cI, L, .inl A.2.1)), (k1, .inl (cI, L, .inl A.2.2.1)), (v1, .inl (cI, L, .inl A.2.2.2)), (t2, .inr (0, [.ref m2, .ref k2, .ref v2, .int (nI B.1)])), (m2, .inl (cI, L, .inl B.2.1)), (k2, .inl (cI, L, .inl B.2.2.1)), (v2, .inl (cI, L, .inl B.2.2.2))] := hD
  refine lv_aload_n hx hb dX1_startMigration_18 rfl (lv_at hl 1 rfl) ?_
  refine va_get (D := (dC, dI)) (ci := 1) (v := .ref t2) (C := RX1) (T := TX1) (N := 6) hx hb hts hin_X1_startMigration_X1 hown hK hP 0 rfl rfl 1 (by decide) (hts (.fieldLink RX1 22 "StepMap" "newTable" "LStepMap$Table;") (by decide +kernel)) (fun _ h9 => h9) rfl dX1_startMigration_19 ?_
  refine lv_iload_n hx hb dX1_startMigration_22 rfl (lv_at hl 2 rfl) ?_
  refine r_muV (wr := [(h0, .inr (1, [.int (nI L), .ref t2, .ref t1, .int x3, .int x4, .int x5])), (t1, .inr (0, [.ref m1, .ref k1, .ref v1, .int (nI A.1)])), (m1, .inl (cI, L, .inl A.2.1)), (k1, .inl (cI, L, .inl A.2.2.1)), (v1, .inl (cI, L, .inl A.2.2.2))]) (rest := []) S0 (c_X0_clear l dC dI cI t2 m2 k2 v2 L B.1 B.2.1 B.2.2.1 B.2.2.2 q H.size (by assumption) (by omega) (by omega) (by omega)) (cwV 1 hts gX1_startMigration_X0_clear rfl rfl rfl (by decide +kernel) ⟨Nat.le_of_ble_eq_true rfl, Nat.le_of_ble_eq_true rfl⟩) hK hP hD hS hA [5, 6, 7, 8] [0, 1, 2, 3, 4] rfl rfl (by decide) (by decide) (by decide) (ci := 0) (q0 := 0) rfl rfl rfl rfl hl.1 rfl (Nat.le_of_ble_eq_true rfl) dX1_startMigration_23 ⟨Nat.zero_le _, Nat.zero_le _⟩ (fun _ H locs hu hP hD hS => ?_)
  have hP : va_P (dC, dI) vwCl [(h0, .inr (1, [.int (nI L), .ref t2, .ref t1, .int x3, .int x4, .int x5])), (t1, .inr (0, [.ref m1, .ref k1, .ref v1, .int (nI A.1)])), (m1, .inl (cI, L, .inl A.2.1)), (k1, .inl (cI, L, .inl A.2.2.1)), (v1, .inl (cI, L, .inl A.2.2.2)), (t2, .inr (0, [.ref m2, .ref k2, .ref v2, .int (nI q)])), (m2, .inl (cI, L, .inl (q_cl B.2.1 q))), (k2, .inl (cI, L, .inl B.2.2.1)), (v2, .inl (cI, L, .inl B.2.2.2))] H := hP.sub [0, 1, 2, 3, 4, 5, 6, 7, 8] rfl
  have hD : va_D Aq [(h0, .inr (1, [.int (nI L), .ref t2, .ref t1, .int x3, .int x4, .int x5])), (t1, .inr (0, [.ref m1, .ref k1, .ref v1, .int (nI A.1)])), (m1, .inl (cI, L, .inl A.2.1)), (k1, .inl (cI, L, .inl A.2.2.1)), (v1, .inl (cI, L, .inl A.2.2.2)), (t2, .inr (0, [.ref m2, .ref k2, .ref v2, .int (nI q)])), (m2, .inl (cI, L, .inl (q_cl B.2.1 q))), (k2, .inl (cI, L, .inl B.2.2.1)), (v2, .inl (cI, L, .inl B.2.2.2))] := hD.sub [0, 1, 2, 3, 4, 5, 6, 7, 8] (by decide) rfl
  refine lv_aload_n hx hb dX1_startMigration_26 rfl (lv_at hl 1 rfl) ?_
  refine lv_iconst (v := 0) hx hb dX1_startMigration_27 (by decide) ?_
  refine va_put (D := (dC, dI)) (ci := 1) (v := .int 0) (ty := .int) (C := RX1) (T := TX1) (N := 6) hx hb hts hin_X1_startMigration_X1 tyX1 tyX1_ok nmX1 hown hK hP hD hS 0 rfl rfl 3 (by decide) (hts (.fieldLink RX1 32 "StepMap" "nextToMove" "I") (by decide +kernel)) (fun _ h9 => h9) rfl (by decide +kernel) (rfl) (rfl) (Nat.le_of_ble_eq_true rfl) dX1_startMigration_28 (fun H locs hP hD hS => ?_)
  have hP : va_P (dC, dI) vwCl [(h0, .inr (1, [.int (nI L), .ref t2, .ref t1, .int 0, .int x4, .int x5])), (t1, .inr (0, [.ref m1, .ref k1, .ref v1, .int (nI A.1)])), (m1, .inl (cI, L, .inl A.2.1)), (k1, .inl (cI, L, .inl A.2.2.1)), (v1, .inl (cI, L, .inl A.2.2.2)), (t2, .inr (0, [.ref m2, .ref k2, .ref v2, .int (nI q)])), (m2, .inl (cI, L, .inl (q_cl B.2.1 q))), (k2, .inl (cI, L, .inl B.2.2.1)), (v2, .inl (cI, L, .inl B.2.2.2))] H := hP
  have hD : va_D Aq [(h0, .inr (1, [.int (nI L), .ref t2, .ref t1, .int 0, .int x4, .int x5])), (t1, .inr (0, [.ref m1, .ref k1, .ref v1, .int (nI A.1)])), (m1, .inl (cI, L, .inl A.2.1)), (k1, .inl (cI, L, .inl A.2.2.1)), (v1, .inl (cI, L, .inl A.2.2.2)), (t2, .inr (0, [.ref m2, .ref k2, .ref v2, .int (nI q)])), (m2, .inl (cI, L, .inl (q_cl B.2.1 q))), (k2, .inl (cI, L, .inl B.2.2.1)), (v2, .inl (cI, L, .inl B.2.2.2))] := hD
  have e_0_3 : 0 = nI 0 := nI_0.symm
  have hP : va_P (dC, dI) vwCl [(h0, .inr (1, [.int (nI L), .ref t2, .ref t1, .int (nI 0), .int x4, .int x5])), (t1, .inr (0, [.ref m1, .ref k1, .ref v1, .int (nI A.1)])), (m1, .inl (cI, L, .inl A.2.1)), (k1, .inl (cI, L, .inl A.2.2.1)), (v1, .inl (cI, L, .inl A.2.2.2)), (t2, .inr (0, [.ref m2, .ref k2, .ref v2, .int (nI q)])), (m2, .inl (cI, L, .inl (q_cl B.2.1 q))), (k2, .inl (cI, L, .inl B.2.2.1)), (v2, .inl (cI, L, .inl B.2.2.2))] H := by rw [← e_0_3]; exact hP
  have hD : va_D Aq [(h0, .inr (1, [.int (nI L), .ref t2, .ref t1, .int (nI 0), .int x4, .int x5])), (t1, .inr (0, [.ref m1, .ref k1, .ref v1, .int (nI A.1)])), (m1, .inl (cI, L, .inl A.2.1)), (k1, .inl (cI, L, .inl A.2.2.1)), (v1, .inl (cI, L, .inl A.2.2.2)), (t2, .inr (0, [.ref m2, .ref k2, .ref v2, .int (nI q)])), (m2, .inl (cI, L, .inl (q_cl B.2.1 q))), (k2, .inl (cI, L, .inl B.2.2.1)), (v2, .inl (cI, L, .inl B.2.2.2))] := by rw [← e_0_3]; exact hD
  exact W.vret hx hb hr (fun t ht hW => ⟨⟨(), rfl, trivial, by rw [ht]; exact hP, va_K.moved hW.alike hK, hD⟩, hS.F ht⟩) hS.2.2 dX1_startMigration_31
set_option maxHeartbeats 4000000 in
set_option maxRecDepth 100000 in
theorem lp_X1_freeInNew {p : Program} {l : Launch} {e : Env} {s : State} {m : MethodId} {args : Array Value} {below : List Frame} {meth : Method} {c : Code} {Q : State → Prop} {dC : Nat → ClassId} {dI : Nat → Nat → Nat} {cI : ClassId} {Aq : Nat → Prop} {H0 : Heap} (S0 : CallFix p m c cX1_freeInNew 5 s args wsX1_freeInNew RX1) (hK : va_K (dC, dI) vwCl [(cI, .int)] s) (hA : ∀ q : Nat, H0.size ≤ q → Aq q) (h0 t1 m1 k1 v1 t2 L : Nat) (x0 x3 x4 : Int32) (RT : q_TB) (RW : Nat) (hL : L ≤ 1024)
    (kk : ∀ (H : Heap) (locs : List Loc) (ls : Array Slot), va_P (dC, dI) vwCl [(h0, .inr (1, [.int x0, .ref t1, .ref t2, .int x3, .int x4, .int (nI RW)])), (t1, .inr (0, [.ref m1, .ref k1, .ref v1, .int (nI RT.1)])), (m1, .inl (cI, L, .inl RT.2.1)), (k1, .inl (cI, L, .inl RT.2.2.1)), (v1, .inl (cI, L, .inl RT.2.2.2))] H → va_D Aq [(h0, .inr (1, [.int x0, .ref t1, .ref t2, .int x3, .int x4, .int (nI RW)])), (t1, .inr (0, [.ref m1, .ref k1, .ref v1, .int (nI RT.1)])), (m1, .inl (cI, L, .inl RT.2.1)), (k1, .inl (cI, L, .inl RT.2.2.1)), (v1, .inl (cI, L, .inl RT.2.2.2))] → va_S Aq H0 H locs → lv_has ls 5 [(0, .ref h0)] → W p l e ({ frames := 2, cells := 0, slots := 0, locals := 45 }) s m args below meth c H locs 0 0 Q (F0 m 106 ls [])) :
    ∀ (f : Nat) (fr i s2 w : Nat) (X : q_TB), s2 + f = X.1 ∧ q_pw X.1 ∧ X.1 ≤ L ∧ fr < X.1 ∧ i < X.1 ∧ (q_fz f X fr i).1 = RT ∧ w + (q_fz f X fr i).2 = RW → ∀ (H : Heap) (locs : List Loc) (ls : Array Slot), va_P (dC, dI) vwCl [(h0, .inr (1, [.int x0, .ref t1, .ref t2, .int x3, .int x4, .int (nI w)])), (t1, .inr (0, [.ref m1, .ref k1, .ref v1, .int (nI X.1)])), (m1, .inl (cI, L, .inl X.2.1)), (k1, .inl (cI, L, .inl X.2.2.1)), (v1, .inl (cI, L, .inl X.2.2.2))] H → va_D Aq [(h0, .inr (1, [.int x0, .ref t1, .ref t2, .int x3, .int x4, .int (nI w)])), (t1, .inr (0, [.ref m1, .ref k1, .ref v1, .int (nI X.1)])), (m1, .inl (cI, L, .inl X.2.1)), (k1, .inl (cI, L, .inl X.2.2.1)), (v1, .inl (cI, L, .inl X.2.2.2))] → va_S Aq H0 H locs → lv_has ls 5 [(0, .ref h0), (2, .int (nI fr)), (3, .int (nI i)), (4, .int (nI s2))] → W p l e ({ frames := 2, cells := 0, slots := 0, locals := 45 }) s m args below meth c H locs 0 0 Q (F0 m 34 ls []) := by
  obtain ⟨hx, hb, hml, hown, hts⟩ := id S0
  intro f
  induction f with
  | zero =>
    intro fr i s2 w X hi H locs ls hP hD hS hl
    obtain ⟨h1, h2, h3, h4, h5, h6, h7⟩ := hi
    have hX8 := q_pw_8 h2
    refine lv_iload hx hb dX1_freeInNew_34 (lv_at hl 3 rfl) ?_
    refine lv_aload_n hx hb dX1_freeInNew_36 rfl (lv_at hl 0 rfl) ?_
    refine va_get (D := (dC, dI)) (ci := 1) (v := .ref t1) (C := RX1) (T := TX1) (N := 6) hx hb hts hin_X1_freeInNew_X1 hown hK hP 0 rfl rfl 1 (by decide) (hts (.fieldLink RX1 22 "StepMap" "newTable" "LStepMap$Table;") (by decide +kernel)) (fun _ h9 => h9) rfl dX1_freeInNew_37 ?_
    refine va_get (D := (dC, dI)) (ci := 0) (v := .int (nI X.1)) (C := RX0) (T := TX0) (N := 4) hx hb hts hin_X1_freeInNew_X0 hown hK hP 1 rfl rfl 3 (by decide) (hts (.fieldLink RX1 69 "StepMap$Table" "slots" "I") (by decide +kernel)) (fun _ h9 => h9) rfl dX1_freeInNew_40 ?_
    refine lv_icmp_ge (tgt := 106) hx hb dX1_freeInNew_43 (by decide) (fun c_43 => ?_) (fun c_43 => ?_)
    · have h_43 := q_le_t (a := X.1) (b := s2) (by omega) (by omega) c_43
      have e1 : X = RT := h6
      have e2 : w = RW := h7
      subst e1
      subst e2
      exact kk H locs ls hP hD hS (lv_sub hl [0] rfl)
    · have h_43 := q_le_f (a := X.1) (b := s2) (by omega) (by omega) c_43
      omega
  | succ f ih =>
    intro fr i s2 w X hi H locs ls hP hD hS hl
    obtain ⟨h1, h2, h3, h4, h5, h6, h7⟩ := hi
    have hX8 := q_pw_8 h2
    refine lv_iload hx hb dX1_freeInNew_34 (lv_at hl 3 rfl) ?_
    refine lv_aload_n hx hb dX1_freeInNew_36 rfl (lv_at hl 0 rfl) ?_
    refine va_get (D := (dC, dI)) (ci := 1) (v := .ref t1) (C := RX1) (T := TX1) (N := 6) hx hb hts hin_X1_freeInNew_X1 hown hK hP 0 rfl rfl 1 (by decide) (hts (.fieldLink RX1 22 "StepMap" "newTable" "LStepMap$Table;") (by decide +kernel)) (fun _ h9 => h9) rfl dX1_freeInNew_37 ?_
    refine va_get (D := (dC, dI)) (ci := 0) (v := .int (nI X.1)) (C := RX0) (T := TX0) (N := 4) hx hb hts hin_X1_freeInNew_X0 hown hK hP 1 rfl rfl 3 (by decide) (hts (.fieldLink RX1 69 "StepMap$Table" "slots" "I") (by decide +kernel)) (fun _ h9 => h9) rfl dX1_freeInNew_40 ?_
    refine lv_icmp_ge (tgt := 106) hx hb dX1_freeInNew_43 (by decide) (fun c_43 => ?_) (fun c_43 => ?_)
    · have h_43 := q_le_t (a := X.1) (b := s2) (by omega) (by omega) c_43
      omega
    · have h_43 := q_le_f (a := X.1) (b := s2) (by omega) (by omega) c_43
      refine lv_aload_n hx hb dX1_freeInNew_46 rfl (lv_at hl 0 rfl) ?_
      refine va_get (D := (dC, dI)) (ci := 1) (v := .ref t1) (C := RX1) (T := TX1) (N := 6) hx hb hts hin_X1_freeInNew_X1 hown hK hP 0 rfl rfl 1 (by decide) (hts (.fieldLink RX1 22 "StepMap" "newTable" "LStepMap$Table;") (by decide +kernel)) (fun _ h9 => h9) rfl dX1_freeInNew_47 ?_
      refine va_get (D := (dC, dI)) (ci := 0) (v := .ref m1) (C := RX0) (T := TX0) (N := 4) hx hb hts hin_X1_freeInNew_X0 hown hK hP 1 rfl rfl 0 (by decide) (hts (.fieldLink RX1 63 "StepMap$Table" "marks" "[I") (by decide +kernel)) (fun _ h9 => h9) rfl dX1_freeInNew_50 ?_
      refine lv_iload_n hx hb dX1_freeInNew_53 rfl (lv_at hl 2 rfl) ?_
      refine r_ld (i := i) hx hb hK hP 2 0 rfl rfl (by omega) (by omega) dX1_freeInNew_54 ?_
      refine lv_if_eq (tgt := 106) hx hb dX1_freeInNew_55 (by decide) (fun c_55 => ?_) (fun c_55 => ?_)
      · rw [q_fz_0 c_55] at h6 h7
        have e1 : X = RT := h6
        have e2 : w = RW := h7
        subst e1
        subst e2
        exact kk H locs ls hP hD hS (lv_sub hl [0] rfl)
      · refine lv_aload_n hx hb dX1_freeInNew_58 rfl (lv_at hl 0 rfl) ?_
        refine va_get (D := (dC, dI)) (ci := 1) (v := .ref t1) (C := RX1) (T := TX1) (N := 6) hx hb hts hin_X1_freeInNew_X1 hown hK hP 0 rfl rfl 1 (by decide) (hts (.fieldLink RX1 22 "StepMap" "newTable" "LStepMap$Table;") (by decide +kernel)) (fun _ h9 => h9) rfl dX1_freeInNew_59 ?_
        refine lv_iload_n hx hb dX1_freeInNew_62 rfl (lv_at hl 2 rfl) ?_
        refine lv_iload_n hx hb dX1_freeInNew_63 rfl (lv_at hl 1 rfl) ?_
        refine r_roV (rest := []) S0 (c_X0_reachesBack l dC dI cI t1 m1 k1 v1 L X.1 X.2.1 X.2.2.1 X.2.2.2 i fr (by assumption) (by omega) (by omega) (by omega) (by omega)) (cwV 2 hts gX1_freeInNew_X0_reachesBack rfl rfl rfl (by decide +kernel) ⟨Nat.le_of_ble_eq_true rfl, Nat.le_of_ble_eq_true rfl⟩) hK hP [1, 2, 3, 4] rfl (ci := 0) (q0 := 0) rfl rfl rfl rfl hl.1 rfl (Nat.le_of_ble_eq_true rfl) dX1_freeInNew_64 ⟨Nat.zero_le _, Nat.zero_le _⟩ ?_
        refine lv_if_eq (tgt := 81) hx hb dX1_freeInNew_67 (by decide) (fun c_67 => ?_) (fun c_67 => ?_)
        · have h_67 : ¬ (q_rd X.1 fr i ≤ q_rd X.1 (q_hm X.1 (X.2.2.1 i)) i) := q_b_0.mp c_67
          refine lv_aload_n hx hb dX1_freeInNew_81 rfl (lv_at hl 0 rfl) ?_
          refine va_get (D := (dC, dI)) (ci := 1) (v := .ref t1) (C := RX1) (T := TX1) (N := 6) hx hb hts hin_X1_freeInNew_X1 hown hK hP 0 rfl rfl 1 (by decide) (hts (.fieldLink RX1 22 "StepMap" "newTable" "LStepMap$Table;") (by decide +kernel)) (fun _ h9 => h9) rfl dX1_freeInNew_82 ?_
          refine lv_iload_n hx hb dX1_freeInNew_85 rfl (lv_at hl 2 rfl) ?_
          refine r_roV (rest := []) S0 (c_X0_next l dC dI cI t1 m1 k1 v1 L X.1 X.2.1 X.2.2.1 X.2.2.2 i (by assumption) (by omega) (by omega) (by omega)) (cwV 1 hts gX1_freeInNew_X0_next rfl rfl rfl (by decide +kernel) ⟨Nat.le_of_ble_eq_true rfl, Nat.le_of_ble_eq_true rfl⟩) hK hP [1, 2, 3, 4] rfl (ci := 0) (q0 := 0) rfl rfl rfl rfl hl.1 rfl (Nat.le_of_ble_eq_true rfl) dX1_freeInNew_86 ⟨Nat.zero_le _, Nat.zero_le _⟩ ?_
          refine lv_istore_n (lv' := [(3, .int (nI (q_ad X.1 i 1))), (0, .ref h0), (2, .int (nI fr)), (4, .int (nI s2))]) hx hb dX1_freeInNew_89 rfl hl (by decide) rfl (fun ls hl => ?_)
          refine lv_aload_n hx hb dX1_freeInNew_90 rfl (lv_at hl 1 rfl) ?_
          refine lv_dup hx hb dX1_freeInNew_91 rfl ?_
          refine va_get (D := (dC, dI)) (ci := 1) (v := .int (nI w)) (C := RX1) (T := TX1) (N := 6) hx hb hts hin_X1_freeInNew_X1 hown hK hP 0 rfl rfl 5 (by decide) (hts (.fieldLink RX1 35 "StepMap" "work" "I") (by decide +kernel)) (fun _ h9 => h9) rfl dX1_freeInNew_92 ?_
          refine lv_iconst (v := 1) hx hb dX1_freeInNew_95 (by decide) ?_
          refine lv_iadd hx hb dX1_freeInNew_96 ?_
          refine r_eq (z := nI (w + 1)) (nI_add w 1) ?_
          refine va_put (D := (dC, dI)) (ci := 1) (v := .int (nI (w + 1))) (ty := .int) (C := RX1) (T := TX1) (N := 6) hx hb hts hin_X1_freeInNew_X1 tyX1 tyX1_ok nmX1 hown hK hP hD hS 0 rfl rfl 5 (by decide) (hts (.fieldLink RX1 35 "StepMap" "work" "I") (by decide +kernel)) (fun _ h9 => h9) rfl (by decide +kernel) (rfl) (rfl) (Nat.le_of_ble_eq_true rfl) dX1_freeInNew_97 (fun H locs hP hD hS => ?_)
          have hP : va_P (dC, dI) vwCl [(h0, .inr (1, [.int x0, .ref t1, .ref t2, .int x3, .int x4, .int (nI (w + 1))])), (t1, .inr (0, [.ref m1, .ref k1, .ref v1, .int (nI X.1)])), (m1, .inl (cI, L, .inl X.2.1)), (k1, .inl (cI, L, .inl X.2.2.1)), (v1, .inl (cI, L, .inl X.2.2.2))] H := hP
          have hD : va_D Aq [(h0, .inr (1, [.int x0, .ref t1, .ref t2, .int x3, .int x4, .int (nI (w + 1))])), (t1, .inr (0, [.ref m1, .ref k1, .ref v1, .int (nI X.1)])), (m1, .inl (cI, L, .inl X.2.1)), (k1, .inl (cI, L, .inl X.2.2.1)), (v1, .inl (cI, L, .inl X.2.2.2))] := hD
          refine lv_iinc (v := nI (s2 + 1)) (lv' := [(4, .int (nI (s2 + 1))), (3, .int (nI (q_ad X.1 i 1))), (0, .ref h0), (2, .int (nI fr))]) hx hb dX1_freeInNew_100 hl (k := 3) rfl (nI_1 _) (by decide) rfl (fun ls hl => ?_)
          refine lv_goto (tgt := 34) hx hb dX1_freeInNew_103 (by decide) ?_
          have h6 : (q_fz f X fr (q_ad X.1 i 1)).1 = RT := by rw [q_fz_2 c_55 h_67] at h6; exact h6
          have h7 : w + ((q_fz f X fr (q_ad X.1 i 1)).2 + 1) = RW := by rw [q_fz_2 c_55 h_67] at h7; exact h7
          exact ih fr (q_ad X.1 i 1) (s2 + 1) (w + 1) X ⟨(show s2 + 1 + f = X.1 by omega), h2, h3, h4, q_ad_lt h5 (by omega), h6, by omega⟩ H locs ls hP hD hS (lv_sub hl [2, 3, 1, 0] rfl)
        · have h_67 : (q_rd X.1 fr i ≤ q_rd X.1 (q_hm X.1 (X.2.2.1 i)) i) := q_b_n0 c_67
          refine lv_aload_n hx hb dX1_freeInNew_70 rfl (lv_at hl 0 rfl) ?_
          refine va_get (D := (dC, dI)) (ci := 1) (v := .ref t1) (C := RX1) (T := TX1) (N := 6) hx hb hts hin_X1_freeInNew_X1 hown hK hP 0 rfl rfl 1 (by decide) (hts (.fieldLink RX1 22 "StepMap" "newTable" "LStepMap$Table;") (by decide +kernel)) (fun _ h9 => h9) rfl dX1_freeInNew_71 ?_
          refine lv_iload_n hx hb dX1_freeInNew_74 rfl (lv_at hl 2 rfl) ?_
          refine lv_iload_n hx hb dX1_freeInNew_75 rfl (lv_at hl 1 rfl) ?_
          refine r_muV (wr := [(h0, .inr (1, [.int x0, .ref t1, .ref t2, .int x3, .int x4, .int (nI w)]))]) (rest := []) S0 (c_X0_shift l dC dI cI t1 m1 k1 v1 L X.1 X.2.1 X.2.2.1 X.2.2.2 i fr H.size (by assumption) (by omega) (by omega) (by omega) (by omega)) (cwV 2 hts gX1_freeInNew_X0_shift rfl rfl rfl (by decide +kernel) ⟨Nat.le_of_ble_eq_true rfl, Nat.le_of_ble_eq_true rfl⟩) hK hP hD hS hA [1, 2, 3, 4] [0] rfl rfl (by decide) (by decide) (by decide) (ci := 0) (q0 := 0) rfl rfl rfl rfl hl.1 rfl (Nat.le_of_ble_eq_true rfl) dX1_freeInNew_76 ⟨Nat.zero_le _, Nat.zero_le _⟩ (fun _ H locs hu hP hD hS => ?_)
          have hP : va_P (dC, dI) vwCl [(h0, .inr (1, [.int x0, .ref t1, .ref t2, .int x3, .int x4, .int (nI w)])), (t1, .inr (0, [.ref m1, .ref k1, .ref v1, .int (nI X.1)])), (m1, .inl (cI, L, .inl (upd (upd X.2.1 fr 2) i 0))), (k1, .inl (cI, L, .inl (upd X.2.2.1 fr (X.2.2.1 i)))), (v1, .inl (cI, L, .inl (upd X.2.2.2 fr (X.2.2.2 i))))] H := hP.sub [0, 1, 2, 3, 4] rfl
          have hD : va_D Aq [(h0, .inr (1, [.int x0, .ref t1, .ref t2, .int x3, .int x4, .int (nI w)])), (t1, .inr (0, [.ref m1, .ref k1, .ref v1, .int (nI X.1)])), (m1, .inl (cI, L, .inl (upd (upd X.2.1 fr 2) i 0))), (k1, .inl (cI, L, .inl (upd X.2.2.1 fr (X.2.2.1 i)))), (v1, .inl (cI, L, .inl (upd X.2.2.2 fr (X.2.2.2 i))))] := hD.sub [0, 1, 2, 3, 4] (by decide) rfl
          refine lv_iload_n hx hb dX1_freeInNew_79 rfl (lv_at hl 2 rfl) ?_
          refine lv_istore_n (lv' := [(2, .int (nI i)), (0, .ref h0), (3, .int (nI i)), (4, .int (nI s2))]) hx hb dX1_freeInNew_80 rfl hl (by decide) rfl (fun ls hl => ?_)
          refine lv_aload_n hx hb dX1_freeInNew_81 rfl (lv_at hl 1 rfl) ?_
          refine va_get (D := (dC, dI)) (ci := 1) (v := .ref t1) (C := RX1) (T := TX1) (N := 6) hx hb hts hin_X1_freeInNew_X1 hown hK hP 0 rfl rfl 1 (by decide) (hts (.fieldLink RX1 22 "StepMap" "newTable" "LStepMap$Table;") (by decide +kernel)) (fun _ h9 => h9) rfl dX1_freeInNew_82 ?_
          refine lv_iload_n hx hb dX1_freeInNew_85 rfl (lv_at hl 2 rfl) ?_
          refine r_roV (rest := []) S0 (c_X0_next l dC dI cI t1 m1 k1 v1 L X.1 (upd (upd X.2.1 fr 2) i 0) (upd X.2.2.1 fr (X.2.2.1 i)) (upd X.2.2.2 fr (X.2.2.2 i)) i (by assumption) (by omega) (by omega) (by omega)) (cwV 1 hts gX1_freeInNew_X0_next rfl rfl rfl (by decide +kernel) ⟨Nat.le_of_ble_eq_true rfl, Nat.le_of_ble_eq_true rfl⟩) hK hP [1, 2, 3, 4] rfl (ci := 0) (q0 := 0) rfl rfl rfl rfl hl.1 rfl (Nat.le_of_ble_eq_true rfl) dX1_freeInNew_86 ⟨Nat.zero_le _, Nat.zero_le _⟩ ?_
          refine lv_istore_n (lv' := [(3, .int (nI (q_ad X.1 i 1))), (2, .int (nI i)), (0, .ref h0), (4, .int (nI s2))]) hx hb dX1_freeInNew_89 rfl hl (by decide) rfl (fun ls hl => ?_)
          refine lv_aload_n hx hb dX1_freeInNew_90 rfl (lv_at hl 2 rfl) ?_
          refine lv_dup hx hb dX1_freeInNew_91 rfl ?_
          refine va_get (D := (dC, dI)) (ci := 1) (v := .int (nI w)) (C := RX1) (T := TX1) (N := 6) hx hb hts hin_X1_freeInNew_X1 hown hK hP 0 rfl rfl 5 (by decide) (hts (.fieldLink RX1 35 "StepMap" "work" "I") (by decide +kernel)) (fun _ h9 => h9) rfl dX1_freeInNew_92 ?_
          refine lv_iconst (v := 1) hx hb dX1_freeInNew_95 (by decide) ?_
          refine lv_iadd hx hb dX1_freeInNew_96 ?_
          refine r_eq (z := nI (w + 1)) (nI_add w 1) ?_
          refine va_put (D := (dC, dI)) (ci := 1) (v := .int (nI (w + 1))) (ty := .int) (C := RX1) (T := TX1) (N := 6) hx hb hts hin_X1_freeInNew_X1 tyX1 tyX1_ok nmX1 hown hK hP hD hS 0 rfl rfl 5 (by decide) (hts (.fieldLink RX1 35 "StepMap" "work" "I") (by decide +kernel)) (fun _ h9 => h9) rfl (by decide +kernel) (rfl) (rfl) (Nat.le_of_ble_eq_true rfl) dX1_freeInNew_97 (fun H locs hP hD hS => ?_)
          have hP : va_P (dC, dI) vwCl [(h0, .inr (1, [.int x0, .ref t1, .ref t2, .int x3, .int x4, .int (nI (w + 1))])), (t1, .inr (0, [.ref m1, .ref k1, .ref v1, .int (nI X.1)])), (m1, .inl (cI, L, .inl (upd (upd X.2.1 fr 2) i 0))), (k1, .inl (cI, L, .inl (upd X.2.2.1 fr (X.2.2.1 i)))), (v1, .inl (cI, L, .inl (upd X.2.2.2 fr (X.2.2.2 i))))] H := hP
          have hD : va_D Aq [(h0, .inr (1, [.int x0, .ref t1, .ref t2, .int x3, .int x4, .int (nI (w + 1))])), (t1, .inr (0, [.ref m1, .ref k1, .ref v1, .int (nI X.1)])), (m1, .inl (cI, L, .inl (upd (upd X.2.1 fr 2) i 0))), (k1, .inl (cI, L, .inl (upd X.2.2.1 fr (X.2.2.1 i)))), (v1, .inl (cI, L, .inl (upd X.2.2.2 fr (X.2.2.2 i))))] := hD
          refine lv_iinc (v := nI (s2 + 1)) (lv' := [(4, .int (nI (s2 + 1))), (3, .int (nI (q_ad X.1 i 1))), (2, .int (nI i)), (0, .ref h0)]) hx hb dX1_freeInNew_100 hl (k := 3) rfl (nI_1 _) (by decide) rfl (fun ls hl => ?_)
          refine lv_goto (tgt := 34) hx hb dX1_freeInNew_103 (by decide) ?_
          have h6 : (q_fz f (q_sh X i fr) i (q_ad X.1 i 1)).1 = RT := by rw [q_fz_1 c_55 h_67] at h6; exact h6
          have h7 : w + ((q_fz f (q_sh X i fr) i (q_ad X.1 i 1)).2 + 1) = RW := by rw [q_fz_1 c_55 h_67] at h7; exact h7
          exact ih i (q_ad X.1 i 1) (s2 + 1) (w + 1) (q_sh X i fr) ⟨(show s2 + 1 + f = X.1 by omega), h2, h3, h5, q_ad_lt h5 (by omega), h6, by omega⟩ H locs ls hP hD hS (lv_sub hl [3, 2, 1, 0] rfl)
set_option maxHeartbeats 4000000 in
set_option maxRecDepth 100000 in
theorem c_X1_freeInNew (l : Launch) (dC : Nat → ClassId) (dI : Nat → Nat → Nat) (cI : ClassId) (h0 t1 m1 k1 v1 t2 L : Nat) (x0 x3 x4 : Int32) (w : Nat) (A : q_TB) (e9 : Nat) (sz : Nat) (hpA : q_pw A.1) (hAL : A.1 ≤ L) (hL : L ≤ 1024) (he9 : e9 < A.1) : Met l yX1_freeInNew wsX1_freeInNew ({ frames := 2, cells := 0, slots := 0, locals := 45 }) (r_Mc (dC, dI) vwCl [(cI, .int)] [(h0, .inr (1, [.int x0, .ref t1, .ref t2, .int x3, .int x4, .int (nI w)])), (t1, .inr (0, [.ref m1, .ref k1, .ref v1, .int (nI A.1)])), (m1, .inl (cI, L, .inl A.2.1)), (k1, .inl (cI, L, .inl A.2.2.1)), (v1, .inl (cI, L, .inl A.2.2.2))] sz [.ref h0, .int (nI e9)]) (va_Qv (fun (_ : Unit) => True) (fun u t => r_B (dC, dI) vwCl [(cI, .int)] (va_A [(h0, .inr (1, [.int x0, .ref t1, .ref t2, .int x3, .int x4, .int (nI w)])), (t1, .inr (0, [.ref m1, .ref k1, .ref v1, .int (nI A.1)])), (m1, .inl (cI, L, .inl A.2.1)), (k1, .inl (cI, L, .inl A.2.2.1)), (v1, .inl (cI, L, .inl A.2.2.2))] sz) ((fun _ => [(h0, .inr (1, [.int x0, .ref t1, .ref t2, .int x3, .int x4, .int (nI (w + ((q_fr A e9).2 + 1)))])), (t1, .inr (0, [.ref m1, .ref k1, .ref v1, .int (nI ((q_fr A e9).1.1))])), (m1, .inl (cI, L, .inl ((q_fr A e9).1.2.1))), (k1, .inl (cI, L, .inl ((q_fr A e9).1.2.2.1))), (v1, .inl (cI, L, .inl ((q_fr A e9).1.2.2.2)))]) u) t) (va_A [(h0, .inr (1, [.int x0, .ref t1, .ref t2, .int x3, .int x4, .int (nI w)])), (t1, .inr (0, [.ref m1, .ref k1, .ref v1, .int (nI A.1)])), (m1, .inl (cI, L, .inl A.2.1)), (k1, .inl (cI, L, .inl A.2.2.1)), (v1, .inl (cI, L, .inl A.2.2.2))] sz)) 0 0 (va_A [(h0, .inr (1, [.int x0, .ref t1, .ref t2, .int x3, .int x4, .int (nI w)])), (t1, .inr (0, [.ref m1, .ref k1, .ref v1, .int (nI A.1)])), (m1, .inl (cI, L, .inl A.2.1)), (k1, .inl (cI, L, .inl A.2.2.1)), (v1, .inl (cI, L, .inl A.2.2.2))] sz) := by
  refine Met.ofW (cc := cX1_freeInNew) (maxL := 5) (ret := none) (by decide) rfl ?_
  intro p e s m args below meth c s₁ Bd hml hv
  obtain ⟨rfl, hsz, hP, hK, hD0⟩ := hv
  have hx := Bd.exec
  have hb := Bd.bytes
  have hr := Bd.returns
  have hts := atoms_spec (ws := wsX1_freeInNew) Bd.pre
  have hown : s.vm.findClass RX1 = some m.cls := findClass_of_methodNamed Bd.named
  have hlocks := Bd.notSynchronized
  have S0 : CallFix p m c cX1_freeInNew 5 s _ wsX1_freeInNew RX1 := ⟨hx, hb, hml, hown, hts⟩
  subst hsz
  have hD := hD0.self (sz := s.heap.size)
  generalize hAe : va_A [(h0, .inr (1, [.int x0, .ref t1, .ref t2, .int x3, .int x4, .int (nI w)])), (t1, .inr (0, [.ref m1, .ref k1, .ref v1, .int (nI A.1)])), (m1, .inl (cI, L, .inl A.2.1)), (k1, .inl (cI, L, .inl A.2.2.1)), (v1, .inl (cI, L, .inl A.2.2.2))] s.heap.size = Aq at hD ⊢
  have hA : ∀ q : Nat, s.heap.size ≤ q → Aq q := fun q h => by rw [← hAe]; exact Or.inr h
  have hS : va_S Aq s.heap s.heap [] := va_S.rf
  have hD : va_D Aq [(h0, .inr (1, [.int x0, .ref t1, .ref t2, .int x3, .int x4, .int (nI w)])), (t1, .inr (0, [.ref m1, .ref k1, .ref v1, .int (nI A.1)])), (m1, .inl (cI, L, .inl A.2.1)), (k1, .inl (cI, L, .inl A.2.2.1)), (v1, .inl (cI, L, .inl A.2.2.2))] := hD
  have hP : va_P (dC, dI) vwCl [(h0, .inr (1, [.int x0, .ref t1, .ref t2, .int x3, .int x4, .int (nI w)])), (t1, .inr (0, [.ref m1, .ref k1, .ref v1, .int (nI A.1)])), (m1, .inl (cI, L, .inl A.2.1)), (k1, .inl (cI, L, .inl A.2.2.1)), (v1, .inl (cI, L, .inl A.2.2.2))] s.heap := hP
  have hl := lv_entry ([.ref h0, .int (nI e9)]) (n := 5) (Nat.le_of_ble_eq_true rfl)
  rw [lg_entry_eq]
  generalize (lg_sl ([.ref h0, .int (nI e9)]) ++ List.replicate (5 - (lg_sl ([.ref h0, .int (nI e9)])).length) Slot.unset).toArray = ls at hl ⊢
  have hl : lv_has ls 5 [(0, .ref h0), (1, .int (nI e9))] := hl
  have hA8 := q_pw_8 hpA
  refine lv_iload_n hx hb dX1_freeInNew_0 rfl (lv_at hl 1 rfl) ?_
  refine lv_istore_n (lv' := [(2, .int (nI e9)), (0, .ref h0), (1, .int (nI e9))]) hx hb dX1_freeInNew_1 rfl hl (by decide) rfl (fun ls hl => ?_)
  refine lv_aload_n hx hb dX1_freeInNew_2 rfl (lv_at hl 1 rfl) ?_
  refine va_get (D := (dC, dI)) (ci := 1) (v := .ref t1) (C := RX1) (T := TX1) (N := 6) hx hb hts hin_X1_freeInNew_X1 hown hK hP 0 rfl rfl 1 (by decide) (hts (.fieldLink RX1 22 "StepMap" "newTable" "LStepMap$Table;") (by decide +kernel)) (fun _ h9 => h9) rfl dX1_freeInNew_3 ?_
  refine va_get (D := (dC, dI)) (ci := 0) (v := .ref m1) (C := RX0) (T := TX0) (N := 4) hx hb hts hin_X1_freeInNew_X0 hown hK hP 1 rfl rfl 0 (by decide) (hts (.fieldLink RX1 63 "StepMap$Table" "marks" "[I") (by decide +kernel)) (fun _ h9 => h9) rfl dX1_freeInNew_6 ?_
  refine lv_iload_n hx hb dX1_freeInNew_9 rfl (lv_at hl 0 rfl) ?_
  refine lv_iconst (v := 0) hx hb dX1_freeInNew_10 (by decide) ?_
  refine r_st (i := e9) hx hb hK hP hD hS 2 0 rfl rfl (by omega) (by omega) dX1_freeInNew_11 (fun H locs hP hD hS => ?_)
  have hP : va_P (dC, dI) vwCl [(h0, .inr (1, [.int x0, .ref t1, .ref t2, .int x3, .int x4, .int (nI w)])), (t1, .inr (0, [.ref m1, .ref k1, .ref v1, .int (nI A.1)])), (m1, .inl (cI, L, .inl (upd A.2.1 e9 0))), (k1, .inl (cI, L, .inl A.2.2.1)), (v1, .inl (cI, L, .inl A.2.2.2))] H := hP
  have hD : va_D Aq [(h0, .inr (1, [.int x0, .ref t1, .ref t2, .int x3, .int x4, .int (nI w)])), (t1, .inr (0, [.ref m1, .ref k1, .ref v1, .int (nI A.1)])), (m1, .inl (cI, L, .inl (upd A.2.1 e9 0))), (k1, .inl (cI, L, .inl A.2.2.1)), (v1, .inl (cI, L, .inl A.2.2.2))] := hD
  refine lv_aload_n hx hb dX1_freeInNew_12 rfl (lv_at hl 1 rfl) ?_
  refine va_get (D := (dC, dI)) (ci := 1) (v := .ref t1) (C := RX1) (T := TX1) (N := 6) hx hb hts hin_X1_freeInNew_X1 hown hK hP 0 rfl rfl 1 (by decide) (hts (.fieldLink RX1 22 "StepMap" "newTable" "LStepMap$Table;") (by decide +kernel)) (fun _ h9 => h9) rfl dX1_freeInNew_13 ?_
  refine lv_iload_n hx hb dX1_freeInNew_16 rfl (lv_at hl 0 rfl) ?_
  refine r_roV (rest := []) S0 (c_X0_next l dC dI cI t1 m1 k1 v1 L A.1 (upd A.2.1 e9 0) A.2.2.1 A.2.2.2 e9 (by assumption) (by omega) (by omega) (by omega)) (cwV 1 hts gX1_freeInNew_X0_next rfl rfl rfl (by decide +kernel) ⟨Nat.le_of_ble_eq_true rfl, Nat.le_of_ble_eq_true rfl⟩) hK hP [1, 2, 3, 4] rfl (ci := 0) (q0 := 0) rfl rfl rfl rfl hl.1 rfl (Nat.le_of_ble_eq_true rfl) dX1_freeInNew_17 ⟨Nat.zero_le _, Nat.zero_le _⟩ ?_
  refine lv_istore_n (lv' := [(3, .int (nI (q_ad A.1 e9 1))), (2, .int (nI e9)), (0, .ref h0), (1, .int (nI e9))]) hx hb dX1_freeInNew_20 rfl hl (by decide) rfl (fun ls hl => ?_)
  refine lv_aload_n hx hb dX1_freeInNew_21 rfl (lv_at hl 2 rfl) ?_
  refine lv_dup hx hb dX1_freeInNew_22 rfl ?_
  refine va_get (D := (dC, dI)) (ci := 1) (v := .int (nI w)) (C := RX1) (T := TX1) (N := 6) hx hb hts hin_X1_freeInNew_X1 hown hK hP 0 rfl rfl 5 (by decide) (hts (.fieldLink RX1 35 "StepMap" "work" "I") (by decide +kernel)) (fun _ h9 => h9) rfl dX1_freeInNew_23 ?_
  refine lv_iconst (v := 1) hx hb dX1_freeInNew_26 (by decide) ?_
  refine lv_iadd hx hb dX1_freeInNew_27 ?_
  refine r_eq (z := nI (w + 1)) (nI_add w 1) ?_
  refine va_put (D := (dC, dI)) (ci := 1) (v := .int (nI (w + 1))) (ty := .int) (C := RX1) (T := TX1) (N := 6) hx hb hts hin_X1_freeInNew_X1 tyX1 tyX1_ok nmX1 hown hK hP hD hS 0 rfl rfl 5 (by decide) (hts (.fieldLink RX1 35 "StepMap" "work" "I") (by decide +kernel)) (fun _ h9 => h9) rfl (by decide +kernel) (rfl) (rfl) (Nat.le_of_ble_eq_true rfl) dX1_freeInNew_28 (fun H locs hP hD hS => ?_)
  have hP : va_P (dC, dI) vwCl [(h0, .inr (1, [.int x0, .ref t1, .ref t2, .int x3, .int x4, .int (nI (w + 1))])), (t1, .inr (0, [.ref m1, .ref k1, .ref v1, .int (nI A.1)])), (m1, .inl (cI, L, .inl (upd A.2.1 e9 0))), (k1, .inl (cI, L, .inl A.2.2.1)), (v1, .inl (cI, L, .inl A.2.2.2))] H := hP
  have hD : va_D Aq [(h0, .inr (1, [.int x0, .ref t1, .ref t2, .int x3, .int x4, .int (nI (w + 1))])), (t1, .inr (0, [.ref m1, .ref k1, .ref v1, .int (nI A.1)])), (m1, .inl (cI, L, .inl (upd A.2.1 e9 0))), (k1, .inl (cI, L, .inl A.2.2.1)), (v1, .inl (cI, L, .inl A.2.2.2))] := hD
  refine lv_iconst (v := 1) hx hb dX1_freeInNew_31 (by decide) ?_
  refine lv_istore (lv' := [(4, .int 1), (3, .int (nI (q_ad A.1 e9 1))), (2, .int (nI e9)), (0, .ref h0), (1, .int (nI e9))]) hx hb dX1_freeInNew_32 hl (by decide) rfl (fun ls hl => ?_)
  obtain ⟨RT, hRT⟩ : ∃ z, (q_fr A e9).1 = z := ⟨_, rfl⟩
  obtain ⟨RW, hRW⟩ : ∃ z, w + 1 + (q_fr A e9).2 = z := ⟨_, rfl⟩
  refine lp_X1_freeInNew S0 hK hA h0 t1 m1 k1 v1 t2 L x0 x3 x4 RT RW hL (fun H locs ls hP hD hS hl => ?_) (A.1 - 1) e9 (q_ad A.1 e9 1) 1 (w + 1) (A.1, upd A.2.1 e9 0, A.2.2.1, A.2.2.2) ⟨(show 1 + (A.1 - 1) = A.1 by omega), hpA, hAL, he9, q_ad_lt he9 (show 1 ≤ A.1 by omega), hRT, hRW⟩ H locs ls hP hD hS (lv_sub hl [3, 2, 1, 0] rfl)
  have e_0_5 : nI RW = nI (w + ((q_fr A e9).2 + 1)) := by rw [← hRW]; exact congrArg nI (by omega)
  have hP : va_P (dC, dI) vwCl [(h0, .inr (1, [.int x0, .ref t1, .ref t2, .int x3, .int x4, .int (nI (w + ((q_fr A e9).2 + 1)))])), (t1, .inr (0, [.ref m1, .ref k1, .ref v1, .int (nI RT.1)])), (m1, .inl (cI, L, .inl RT.2.1)), (k1, .inl (cI, L, .inl RT.2.2.1)), (v1, .inl (cI, L, .inl RT.2.2.2))] H := by rw [← e_0_5]; exact hP
  have hD : va_D Aq [(h0, .inr (1, [.int x0, .ref t1, .ref t2, .int x3, .int x4, .int (nI (w + ((q_fr A e9).2 + 1)))])), (t1, .inr (0, [.ref m1, .ref k1, .ref v1, .int (nI RT.1)])), (m1, .inl (cI, L, .inl RT.2.1)), (k1, .inl (cI, L, .inl RT.2.2.1)), (v1, .inl (cI, L, .inl RT.2.2.2))] := by rw [← e_0_5]; exact hD
  subst hRT
  exact W.vret hx hb hr (fun t ht hW => ⟨⟨(), rfl, trivial, by rw [ht]; exact hP, va_K.moved hW.alike hK, hD⟩, hS.F ht⟩) hS.2.2 dX1_freeInNew_106
