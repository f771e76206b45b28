/-! MAP: what is done behind a put or a remove; the public calls (laid by gen_pub.py) -/
set_option maxHeartbeats 4000000 in
set_option maxRecDepth 100000 in
theorem c_X1_moveOn (l : Launch) (dC : Nat → ClassId) (dI : Nat → Nat → Nat) (cI : ClassId) (h0 t1 m1 k1 v1 t2 m2 k2 v2 L : Nat) (A B : q_TB) (nx : Option Nat) (kc w : Nat) (sz : Nat) (hW : q_IW L A B nx kc) : Met l yX1_moveOn wsX1_moveOn ({ frames := 5, cells := 0, slots := 0, locals := 112 }) (r_Mc (dC, dI) vwCl [(cI, .int)] [(h0, .inr (1, [.int (nI L), .ref t1, .ref t2, .int (q_nx nx), .int (nI kc), .int (nI w)])), (t1, .inr (0, [.ref m1, .ref k1, .ref v1, .int (nI A.1)])), (m1, .inl (cI, L, .inl A.2.1)), (k1, .inl (cI, L, .inl A.2.2.1)), (v1, .inl (cI, L, .inl A.2.2.2)), (t2, .inr (0, [.ref m2, .ref k2, .ref v2, .int (nI B.1)])), (m2, .inl (cI, L, .inl B.2.1)), (k2, .inl (cI, L, .inl B.2.2.1)), (v2, .inl (cI, L, .inl B.2.2.2))] sz [.ref h0]) (va_Qv (fun (_ : q_AD) => True) (fun u t => r_B (dC, dI) vwCl [(cI, .int)] (va_A [(h0, .inr (1, [.int (nI L), .ref t1, .ref t2, .int (q_nx nx), .int (nI kc), .int (nI w)])), (t1, .inr (0, [.ref m1, .ref k1, .ref v1, .int (nI A.1)])), (m1, .inl (cI, L, .inl A.2.1)), (k1, .inl (cI, L, .inl A.2.2.1)), (v1, .inl (cI, L, .inl A.2.2.2)), (t2, .inr (0, [.ref m2, .ref k2, .ref v2, .int (nI B.1)])), (m2, .inl (cI, L, .inl B.2.1)), (k2, .inl (cI, L, .inl B.2.2.1)), (v2, .inl (cI, L, .inl B.2.2.2))] sz) ((fun u => q_WS cI L h0 u (q_on A B nx kc w)) u) t) (va_A [(h0, .inr (1, [.int (nI L), .ref t1, .ref t2, .int (q_nx nx), .int (nI kc), .int (nI w)])), (t1, .inr (0, [.ref m1, .ref k1, .ref v1, .int (nI A.1)])), (m1, .inl (cI, L, .inl A.2.1)), (k1, .inl (cI, L, .inl A.2.2.1)), (v1, .inl (cI, L, .inl A.2.2.2)), (t2, .inr (0, [.ref m2, .ref k2, .ref v2, .int (nI B.1)])), (m2, .inl (cI, L, .inl B.2.1)), (k2, .inl (cI, L, .inl B.2.2.1)), (v2, .inl (cI, L, .inl B.2.2.2))] sz)) 0 0 (va_A [(h0, .inr (1, [.int (nI L), .ref t1, .ref t2, .int (q_nx nx), .int (nI kc), .int (nI w)])), (t1, .inr (0, [.ref m1, .ref k1, .ref v1, .int (nI A.1)])), (m1, .inl (cI, L, .inl A.2.1)), (k1, .inl (cI, L, .inl A.2.2.1)), (v1, .inl (cI, L, .inl A.2.2.2)), (t2, .inr (0, [.ref m2, .ref k2, .ref v2, .int (nI B.1)])), (m2, .inl (cI, L, .inl B.2.1)), (k2, .inl (cI, L, .inl B.2.2.1)), (v2, .inl (cI, L, .inl B.2.2.2))] sz) := by
  refine Met.ofW (cc := cX1_moveOn) (maxL := 1) (ret := none) (by decide) rfl ?_
  intro p e s m args below meth c s₁ Bd hml hv
  obtain ⟨rfl, hsz, hP, hK, hD0⟩ := hv
  have hx := Bd.exec
  have hb := Bd.bytes
  have hr := Bd.returns
  have hts := atoms_spec (ws := wsX1_moveOn) Bd.pre
  have hown : s.vm.findClass RX1 = some m.cls := findClass_of_methodNamed Bd.named
  have hlocks := Bd.notSynchronized
  have S0 : CallFix p m c cX1_moveOn 1 s _ wsX1_moveOn RX1 := ⟨hx, hb, hml, hown, hts⟩
  subst hsz
  have hD := hD0.self (sz := s.heap.size)
  generalize hAe : va_A [(h0, .inr (1, [.int (nI L), .ref t1, .ref t2, .int (q_nx nx), .int (nI kc), .int (nI w)])), (t1, .inr (0, [.ref m1, .ref k1, .ref v1, .int (nI A.1)])), (m1, .inl (cI, L, .inl A.2.1)), (k1, .inl (cI, L, .inl A.2.2.1)), (v1, .inl (cI, L, .inl A.2.2.2)), (t2, .inr (0, [.ref m2, .ref k2, .ref v2, .int (nI B.1)])), (m2, .inl (cI, L, .inl B.2.1)), (k2, .inl (cI, L, .inl B.2.2.1)), (v2, .inl (cI, L, .inl B.2.2.2))] s.heap.size = Aq at hD ⊢
  have hA : ∀ q : Nat, s.heap.size ≤ q → Aq q := fun q h => by rw [← hAe]; exact Or.inr h
  have hS : va_S Aq s.heap s.heap [] := va_S.rf
  have hD : va_D Aq [(h0, .inr (1, [.int (nI L), .ref t1, .ref t2, .int (q_nx nx), .int (nI kc), .int (nI w)])), (t1, .inr (0, [.ref m1, .ref k1, .ref v1, .int (nI A.1)])), (m1, .inl (cI, L, .inl A.2.1)), (k1, .inl (cI, L, .inl A.2.2.1)), (v1, .inl (cI, L, .inl A.2.2.2)), (t2, .inr (0, [.ref m2, .ref k2, .ref v2, .int (nI B.1)])), (m2, .inl (cI, L, .inl B.2.1)), (k2, .inl (cI, L, .inl B.2.2.1)), (v2, .inl (cI, L, .inl B.2.2.2))] := hD
  have hP : va_P (dC, dI) vwCl [(h0, .inr (1, [.int (nI L), .ref t1, .ref t2, .int (q_nx nx), .int (nI kc), .int (nI w)])), (t1, .inr (0, [.ref m1, .ref k1, .ref v1, .int (nI A.1)])), (m1, .inl (cI, L, .inl A.2.1)), (k1, .inl (cI, L, .inl A.2.2.1)), (v1, .inl (cI, L, .inl A.2.2.2)), (t2, .inr (0, [.ref m2, .ref k2, .ref v2, .int (nI B.1)])), (m2, .inl (cI, L, .inl B.2.1)), (k2, .inl (cI, L, .inl B.2.2.1)), (v2, .inl (cI, L, .inl B.2.2.2))] s.heap := hP
  have hl := lv_entry ([.ref h0]) (n := 1) (Nat.le_of_ble_eq_true rfl)
  rw [lg_entry_eq]
  generalize (lg_sl ([.ref h0]) ++ List.replicate (1 - (lg_sl ([.ref h0])).length) Slot.unset).toArray = ls at hl ⊢
  have hl : lv_has ls 1 [(0, .ref h0)] := hl
  obtain ⟨hSZ, hW2⟩ := id hW
  have hkc := q_iw_kc hW
  obtain ⟨hLp, hpA, hAL, hpB, hBL⟩ := id hSZ
  have hL := (q_pw_8 hLp).2
  have hA8 := q_pw_8 hpA
  have hB8 := q_pw_8 hpB
  rcases nx with _ | cu
  · obtain ⟨hN, hP9, hU9, hk9, h49, h29⟩ := hW2
    refine lv_aload_n hx hb dX1_moveOn_0 rfl (lv_at hl 0 rfl) ?_
    refine r_roV (rest := []) S0 (c_X1_migrating l dC dI cI h0 (nI L) t1 t2 ((none : Option Nat)) (nI kc) (nI w) (fun c2 h => by cases h)) (cwV 0 hts gX1_moveOn_X1_migrating rfl rfl rfl (by decide +kernel) ⟨Nat.le_of_ble_eq_true rfl, Nat.le_of_ble_eq_true rfl⟩) hK hP [0] rfl (ci := 1) (q0 := 0) rfl rfl rfl rfl hl.1 rfl (Nat.le_of_ble_eq_true rfl) dX1_moveOn_1 ⟨Nat.zero_le _, Nat.zero_le _⟩ ?_
    refine lv_if_eq (tgt := 11) hx hb dX1_moveOn_4 (by decide) (fun c_4 => ?_) (fun c_4 => ?_)
    · have h_4 : ¬ ((none : Option Nat).isSome = true) := q_b_0.mp c_4
      refine lv_aload_n hx hb dX1_moveOn_11 rfl (lv_at hl 0 rfl) ?_
      refine r_roV (rest := []) S0 (c_X1_migrating l dC dI cI h0 (nI L) t1 t2 ((none : Option Nat)) (nI kc) (nI w) (fun c2 h => by cases h)) (cwV 0 hts gX1_moveOn_X1_migrating rfl rfl rfl (by decide +kernel) ⟨Nat.le_of_ble_eq_true rfl, Nat.le_of_ble_eq_true rfl⟩) hK hP [0] rfl (ci := 1) (q0 := 0) rfl rfl rfl rfl hl.1 rfl (Nat.le_of_ble_eq_true rfl) dX1_moveOn_12 ⟨Nat.zero_le _, Nat.zero_le _⟩ ?_
      refine lv_if_eq (tgt := 19) hx hb dX1_moveOn_15 (by decide) (fun c_15 => ?_) (fun c_15 => ?_)
      · have h_15 : ¬ ((none : Option Nat).isSome = true) := q_b_0.mp c_15
        refine lv_aload_n hx hb dX1_moveOn_19 rfl (lv_at hl 0 rfl) ?_
        refine lv_aload_n hx hb dX1_moveOn_20 rfl (lv_at hl 0 rfl) ?_
        refine va_get (D := (dC, dI)) (ci := 1) (v := .int (nI kc)) (C := RX1) (T := TX1) (N := 6) hx hb hts hin_X1_moveOn_X1 hown hK hP 0 rfl rfl 4 (by decide) (hts (.fieldLink RX1 57 "StepMap" "keyCount" "I") (by decide +kernel)) (fun _ h9 => h9) rfl dX1_moveOn_21 ?_
        refine r_roV (rest := []) S0 (c_X1_isCrowdedBy l dC dI cI h0 t1 (nI L) t2 (q_nx (none : Option Nat)) (nI kc) (nI w) m1 k1 v1 A.1 kc (by omega) (by omega)) (cwV 1 hts gX1_moveOn_X1_isCrowdedBy rfl rfl rfl (by decide +kernel) ⟨Nat.le_of_ble_eq_true rfl, Nat.le_of_ble_eq_true rfl⟩) hK hP [0, 1] rfl (ci := 1) (q0 := 0) rfl rfl rfl rfl hl.1 rfl (Nat.le_of_ble_eq_true rfl) dX1_moveOn_24 ⟨Nat.zero_le _, Nat.zero_le _⟩ ?_
        refine lv_if_eq (tgt := 46) hx hb dX1_moveOn_27 (by decide) (fun c_27 => ?_) (fun c_27 => ?_)
        · have h_27 : ¬ (3 * A.1 ≤ 4 * kc) := q_b_0.mp c_27
          refine lv_aload_n hx hb dX1_moveOn_46 rfl (lv_at hl 0 rfl) ?_
          refine r_roV (rest := []) S0 (c_X1_isSparse l dC dI cI h0 t1 (nI L) t2 (q_nx (none : Option Nat)) (nI w) m1 k1 v1 A.1 kc (by omega) (by omega)) (cwV 0 hts gX1_moveOn_X1_isSparse rfl rfl rfl (by decide +kernel) ⟨Nat.le_of_ble_eq_true rfl, Nat.le_of_ble_eq_true rfl⟩) hK hP [0, 1] rfl (ci := 1) (q0 := 0) rfl rfl rfl rfl hl.1 rfl (Nat.le_of_ble_eq_true rfl) dX1_moveOn_47 ⟨Nat.zero_le _, Nat.zero_le _⟩ ?_
          refine lv_if_eq (tgt := 66) hx hb dX1_moveOn_50 (by decide) (fun c_50 => ?_) (fun c_50 => ?_)
          · have h_50 : ¬ (8 * kc ≤ A.1 ∧ 8 < A.1) := q_b_0.mp c_50
            have eq : q_on A B none kc w = _ := (q_on_n _ _ _ _).trans (q_set0_3 h_27 h_50)
            have hP : va_P (dC, dI) vwCl (q_WS cI L h0 (t1, m1, k1, v1, t2, m2, k2, v2) (q_on A B none kc w)) s.heap := by rw [eq]; exact hP
            have hD : va_D Aq (q_WS cI L h0 (t1, m1, k1, v1, t2, m2, k2, v2) (q_on A B none kc w)) := by rw [eq]; exact hD
            exact W.vret hx hb hr (fun t ht hW => ⟨⟨(t1, m1, k1, v1, t2, m2, k2, v2), rfl, trivial, by rw [ht]; exact hP, va_K.moved hW.alike hK, hD⟩, hS.F ht⟩) hS.2.2 dX1_moveOn_66
          · have h_50 : (8 * kc ≤ A.1 ∧ 8 < A.1) := q_b_n0 c_50
            refine lv_aload_n hx hb dX1_moveOn_53 rfl (lv_at hl 0 rfl) ?_
            refine lv_aload_n hx hb dX1_moveOn_54 rfl (lv_at hl 0 rfl) ?_
            refine va_get (D := (dC, dI)) (ci := 1) (v := .ref t1) (C := RX1) (T := TX1) (N := 6) hx hb hts hin_X1_moveOn_X1 hown hK hP 0 rfl rfl 1 (by decide) (hts (.fieldLink RX1 22 "StepMap" "newTable" "LStepMap$Table;") (by decide +kernel)) (fun _ h9 => h9) rfl dX1_moveOn_55 ?_
            refine va_get (D := (dC, dI)) (ci := 0) (v := .int (nI A.1)) (C := RX0) (T := TX0) (N := 4) hx hb hts hin_X1_moveOn_X0 hown hK hP 1 rfl rfl 3 (by decide) (hts (.fieldLink RX1 69 "StepMap$Table" "slots" "I") (by decide +kernel)) (fun _ h9 => h9) rfl dX1_moveOn_58 ?_
            refine lv_iconst (v := 2) hx hb dX1_moveOn_61 (by decide) ?_
            refine lv_idiv hx hb dX1_moveOn_62 (by decide) ?_
            refine r_eq (z := nI (A.1 / 2)) (pk_div (d := 2) (by omega) (by omega) (by omega)) ?_
            refine r_muV (wr := []) (rest := []) S0 (c_X1_startMigration l dC dI cI h0 t1 m1 k1 v1 t2 m2 k2 v2 L A B (q_nx (none : Option Nat)) (nI kc) (nI w) (A.1 / 2) s.heap.size hpB hBL hL (by omega)) (cwV 1 hts gX1_moveOn_X1_startMigration rfl rfl rfl (by decide +kernel) ⟨Nat.le_of_ble_eq_true rfl, Nat.le_of_ble_eq_true rfl⟩) hK hP hD hS hA [0, 1, 2, 3, 4, 5, 6, 7, 8] [] rfl rfl (by decide) (by decide) (by decide) (ci := 1) (q0 := 0) rfl rfl rfl rfl hl.1 rfl (Nat.le_of_ble_eq_true rfl) dX1_moveOn_63 ⟨Nat.zero_le _, Nat.zero_le _⟩ (fun _ H locs hu hP hD hS => ?_)
            have hP : va_P (dC, dI) vwCl [(h0, .inr (1, [.int (nI L), .ref t2, .ref t1, .int (nI 0), .int (nI kc), .int (nI w)])), (t1, .inr (0, [.ref m1, .ref k1, .ref v1, .int (nI A.1)])), (m1, .inl (cI, L, .inl A.2.1)), (k1, .inl (cI, L, .inl A.2.2.1)), (v1, .inl (cI, L, .inl A.2.2.2)), (t2, .inr (0, [.ref m2, .ref k2, .ref v2, .int (nI (A.1 / 2))])), (m2, .inl (cI, L, .inl (q_cl B.2.1 (A.1 / 2)))), (k2, .inl (cI, L, .inl B.2.2.1)), (v2, .inl (cI, L, .inl B.2.2.2))] H := hP.sub [0, 1, 2, 3, 4, 5, 6, 7, 8] rfl
            have hD : va_D Aq [(h0, .inr (1, [.int (nI L), .ref t2, .ref t1, .int (nI 0), .int (nI kc), .int (nI w)])), (t1, .inr (0, [.ref m1, .ref k1, .ref v1, .int (nI A.1)])), (m1, .inl (cI, L, .inl A.2.1)), (k1, .inl (cI, L, .inl A.2.2.1)), (v1, .inl (cI, L, .inl A.2.2.2)), (t2, .inr (0, [.ref m2, .ref k2, .ref v2, .int (nI (A.1 / 2))])), (m2, .inl (cI, L, .inl (q_cl B.2.1 (A.1 / 2)))), (k2, .inl (cI, L, .inl B.2.2.1)), (v2, .inl (cI, L, .inl B.2.2.2))] := hD.sub [0, 1, 2, 3, 4, 5, 6, 7, 8] (by decide) rfl
            have eq : q_on A B none kc w = _ := (q_on_n _ _ _ _).trans (q_set0_2 h_27 h_50)
            have hP : va_P (dC, dI) vwCl (q_WS cI L h0 (t2, m2, k2, v2, t1, m1, k1, v1) (q_on A B none kc w)) H := by rw [eq]; exact hP.sub [0, 5, 6, 7, 8, 1, 2, 3, 4] rfl
            have hD : va_D Aq (q_WS cI L h0 (t2, m2, k2, v2, t1, m1, k1, v1) (q_on A B none kc w)) := by rw [eq]; exact hD.sub [0, 5, 6, 7, 8, 1, 2, 3, 4] (by decide) rfl
            exact W.vret hx hb hr (fun t ht hW => ⟨⟨(t2, m2, k2, v2, t1, m1, k1, v1), rfl, trivial, by rw [ht]; exact hP, va_K.moved hW.alike hK, hD⟩, hS.F ht⟩) hS.2.2 dX1_moveOn_66
        · have h_27 : (3 * A.1 ≤ 4 * kc) := q_b_n0 c_27
          refine lv_aload_n hx hb dX1_moveOn_30 rfl (lv_at hl 0 rfl) ?_
          refine lv_aload_n hx hb dX1_moveOn_31 rfl (lv_at hl 0 rfl) ?_
          refine va_get (D := (dC, dI)) (ci := 1) (v := .ref t1) (C := RX1) (T := TX1) (N := 6) hx hb hts hin_X1_moveOn_X1 hown hK hP 0 rfl rfl 1 (by decide) (hts (.fieldLink RX1 22 "StepMap" "newTable" "LStepMap$Table;") (by decide +kernel)) (fun _ h9 => h9) rfl dX1_moveOn_32 ?_
          refine va_get (D := (dC, dI)) (ci := 0) (v := .int (nI A.1)) (C := RX0) (T := TX0) (N := 4) hx hb hts hin_X1_moveOn_X0 hown hK hP 1 rfl rfl 3 (by decide) (hts (.fieldLink RX1 69 "StepMap$Table" "slots" "I") (by decide +kernel)) (fun _ h9 => h9) rfl dX1_moveOn_35 ?_
          refine lv_iconst (v := 2) hx hb dX1_moveOn_38 (by decide) ?_
          refine lv_imul hx hb dX1_moveOn_39 ?_
          refine r_eq (z := nI (A.1 * 2)) (pk_mul A.1 2) ?_
          refine r_eq (z := nI (2 * A.1)) (congrArg nI (Nat.mul_comm _ _)) ?_
          refine r_muV (wr := []) (rest := []) S0 (c_X1_startMigration l dC dI cI h0 t1 m1 k1 v1 t2 m2 k2 v2 L A B (q_nx (none : Option Nat)) (nI kc) (nI w) (2 * A.1) s.heap.size hpB hBL hL (h29 (by omega))) (cwV 1 hts gX1_moveOn_X1_startMigration rfl rfl rfl (by decide +kernel) ⟨Nat.le_of_ble_eq_true rfl, Nat.le_of_ble_eq_true rfl⟩) hK hP hD hS hA [0, 1, 2, 3, 4, 5, 6, 7, 8] [] rfl rfl (by decide) (by decide) (by decide) (ci := 1) (q0 := 0) rfl rfl rfl rfl hl.1 rfl (Nat.le_of_ble_eq_true rfl) dX1_moveOn_40 ⟨Nat.zero_le _, Nat.zero_le _⟩ (fun _ H locs hu hP hD hS => ?_)
          have hP : va_P (dC, dI) vwCl [(h0, .inr (1, [.int (nI L), .ref t2, .ref t1, .int (nI 0), .int (nI kc), .int (nI w)])), (t1, .inr (0, [.ref m1, .ref k1, .ref v1, .int (nI A.1)])), (m1, .inl (cI, L, .inl A.2.1)), (k1, .inl (cI, L, .inl A.2.2.1)), (v1, .inl (cI, L, .inl A.2.2.2)), (t2, .inr (0, [.ref m2, .ref k2, .ref v2, .int (nI (2 * A.1))])), (m2, .inl (cI, L, .inl (q_cl B.2.1 (2 * A.1)))), (k2, .inl (cI, L, .inl B.2.2.1)), (v2, .inl (cI, L, .inl B.2.2.2))] H := hP.sub [0, 1, 2, 3, 4, 5, 6, 7, 8] rfl
          have hD : va_D Aq [(h0, .inr (1, [.int (nI L), .ref t2, .ref t1, .int (nI 0), .int (nI kc), .int (nI w)])), (t1, .inr (0, [.ref m1, .ref k1, .ref v1, .int (nI A.1)])), (m1, .inl (cI, L, .inl A.2.1)), (k1, .inl (cI, L, .inl A.2.2.1)), (v1, .inl (cI, L, .inl A.2.2.2)), (t2, .inr (0, [.ref m2, .ref k2, .ref v2, .int (nI (2 * A.1))])), (m2, .inl (cI, L, .inl (q_cl B.2.1 (2 * A.1)))), (k2, .inl (cI, L, .inl B.2.2.1)), (v2, .inl (cI, L, .inl B.2.2.2))] := hD.sub [0, 1, 2, 3, 4, 5, 6, 7, 8] (by decide) rfl
          refine lv_goto (tgt := 66) hx hb dX1_moveOn_43 (by decide) ?_
          have eq : q_on A B none kc w = _ := (q_on_n _ _ _ _).trans (q_set0_1 h_27)
          have hP : va_P (dC, dI) vwCl (q_WS cI L h0 (t2, m2, k2, v2, t1, m1, k1, v1) (q_on A B none kc w)) H := by rw [eq]; exact hP.sub [0, 5, 6, 7, 8, 1, 2, 3, 4] rfl
          have hD : va_D Aq (q_WS cI L h0 (t2, m2, k2, v2, t1, m1, k1, v1) (q_on A B none kc w)) := by rw [eq]; exact hD.sub [0, 5, 6, 7, 8, 1, 2, 3, 4] (by decide) rfl
          exact W.vret hx hb hr (fun t ht hW => ⟨⟨(t2, m2, k2, v2, t1, m1, k1, v1), rfl, trivial, by rw [ht]; exact hP, va_K.moved hW.alike hK, hD⟩, hS.F ht⟩) hS.2.2 dX1_moveOn_66
      · have h_15 : ((none : Option Nat).isSome = true) := q_b_n0 c_15
        exact absurd h_15 (by decide)
    · have h_4 : ((none : Option Nat).isSome = true) := q_b_n0 c_4
      exact absurd h_4 (by decide)
  · obtain ⟨hM, hk9, hc4, hcB, h49, h29⟩ := hW2
    have hB4 := q_pw_4 hpB
    have hcb : cu + 4 ≤ B.1 := by omega
    obtain ⟨hn1, hn2⟩ := q_mvs_n 4 A B cu
    obtain ⟨Z9, hZ⟩ : ∃ z, q_mvs 4 A B cu = z := ⟨_, rfl⟩
    rw [hZ] at hn1 hn2
    refine lv_aload_n hx hb dX1_moveOn_0 rfl (lv_at hl 0 rfl) ?_
    refine r_roV (rest := []) S0 (c_X1_migrating l dC dI cI h0 (nI L) t1 t2 ((some cu)) (nI kc) (nI w) (fun c2 h => by cases h; omega)) (cwV 0 hts gX1_moveOn_X1_migrating rfl rfl rfl (by decide +kernel) ⟨Nat.le_of_ble_eq_true rfl, Nat.le_of_ble_eq_true rfl⟩) hK hP [0] rfl (ci := 1) (q0 := 0) rfl rfl rfl rfl hl.1 rfl (Nat.le_of_ble_eq_true rfl) dX1_moveOn_1 ⟨Nat.zero_le _, Nat.zero_le _⟩ ?_
    refine lv_if_eq (tgt := 11) hx hb dX1_moveOn_4 (by decide) (fun c_4 => ?_) (fun c_4 => ?_)
    · have h_4 : ¬ ((some cu).isSome = true) := q_b_0.mp c_4
      exact absurd rfl h_4
    · have h_4 : ((some cu).isSome = true) := q_b_n0 c_4
      refine lv_aload_n hx hb dX1_moveOn_7 rfl (lv_at hl 0 rfl) ?_
      refine r_muV (wr := []) (rest := []) S0 (c_X1_moveNextSlots l dC dI cI h0 t1 m1 k1 v1 t2 m2 k2 v2 L A B (nI kc) cu w s.heap.size hSZ (by omega)) (cwV 0 hts gX1_moveOn_X1_moveNextSlots rfl rfl rfl (by decide +kernel) ⟨Nat.le_of_ble_eq_true rfl, Nat.le_of_ble_eq_true rfl⟩) hK hP hD hS hA [0, 1, 2, 3, 4, 5, 6, 7, 8] [] rfl rfl (by decide) (by decide) (by decide) (ci := 1) (q0 := 0) rfl rfl rfl rfl hl.1 rfl (Nat.le_of_ble_eq_true rfl) dX1_moveOn_8 ⟨Nat.zero_le _, Nat.zero_le _⟩ (fun _ H locs hu hP hD hS => ?_)
      have hP : va_P (dC, dI) vwCl [(h0, .inr (1, [.int (nI L), .ref t1, .ref t2, .int (q_nx (if cu + 4 < B.1 then some (cu + 4) else none)), .int (nI kc), .int (nI (w + (q_mvs 4 A B cu).2.2))])), (t1, .inr (0, [.ref m1, .ref k1, .ref v1, .int (nI ((q_mvs 4 A B cu).1.1))])), (m1, .inl (cI, L, .inl ((q_mvs 4 A B cu).1.2.1))), (k1, .inl (cI, L, .inl ((q_mvs 4 A B cu).1.2.2.1))), (v1, .inl (cI, L, .inl ((q_mvs 4 A B cu).1.2.2.2))), (t2, .inr (0, [.ref m2, .ref k2, .ref v2, .int (nI ((q_mvs 4 A B cu).2.1.1))])), (m2, .inl (cI, L, .inl ((q_mvs 4 A B cu).2.1.2.1))), (k2, .inl (cI, L, .inl ((q_mvs 4 A B cu).2.1.2.2.1))), (v2, .inl (cI, L, .inl ((q_mvs 4 A B cu).2.1.2.2.2)))] H := hP.sub [0, 1, 2, 3, 4, 5, 6, 7, 8] rfl
      have hD : va_D Aq [(h0, .inr (1, [.int (nI L), .ref t1, .ref t2, .int (q_nx (if cu + 4 < B.1 then some (cu + 4) else none)), .int (nI kc), .int (nI (w + (q_mvs 4 A B cu).2.2))])), (t1, .inr (0, [.ref m1, .ref k1, .ref v1, .int (nI ((q_mvs 4 A B cu).1.1))])), (m1, .inl (cI, L, .inl ((q_mvs 4 A B cu).1.2.1))), (k1, .inl (cI, L, .inl ((q_mvs 4 A B cu).1.2.2.1))), (v1, .inl (cI, L, .inl ((q_mvs 4 A B cu).1.2.2.2))), (t2, .inr (0, [.ref m2, .ref k2, .ref v2, .int (nI ((q_mvs 4 A B cu).2.1.1))])), (m2, .inl (cI, L, .inl ((q_mvs 4 A B cu).2.1.2.1))), (k2, .inl (cI, L, .inl ((q_mvs 4 A B cu).2.1.2.2.1))), (v2, .inl (cI, L, .inl ((q_mvs 4 A B cu).2.1.2.2.2)))] := hD.sub [0, 1, 2, 3, 4, 5, 6, 7, 8] (by decide) rfl
      rw [hZ] at hP hD
      have hP : va_P (dC, dI) vwCl [(h0, .inr (1, [.int (nI L), .ref t1, .ref t2, .int (q_nx (if cu + 4 < B.1 then some (cu + 4) else none)), .int (nI kc), .int (nI (w + Z9.2.2))])), (t1, .inr (0, [.ref m1, .ref k1, .ref v1, .int (nI Z9.1.1)])), (m1, .inl (cI, L, .inl Z9.1.2.1)), (k1, .inl (cI, L, .inl Z9.1.2.2.1)), (v1, .inl (cI, L, .inl Z9.1.2.2.2)), (t2, .inr (0, [.ref m2, .ref k2, .ref v2, .int (nI Z9.2.1.1)])), (m2, .inl (cI, L, .inl Z9.2.1.2.1)), (k2, .inl (cI, L, .inl Z9.2.1.2.2.1)), (v2, .inl (cI, L, .inl Z9.2.1.2.2.2))] H := hP
      have hD : va_D Aq [(h0, .inr (1, [.int (nI L), .ref t1, .ref t2, .int (q_nx (if cu + 4 < B.1 then some (cu + 4) else none)), .int (nI kc), .int (nI (w + Z9.2.2))])), (t1, .inr (0, [.ref m1, .ref k1, .ref v1, .int (nI Z9.1.1)])), (m1, .inl (cI, L, .inl Z9.1.2.1)), (k1, .inl (cI, L, .inl Z9.1.2.2.1)), (v1, .inl (cI, L, .inl Z9.1.2.2.2)), (t2, .inr (0, [.ref m2, .ref k2, .ref v2, .int (nI Z9.2.1.1)])), (m2, .inl (cI, L, .inl Z9.2.1.2.1)), (k2, .inl (cI, L, .inl Z9.2.1.2.2.1)), (v2, .inl (cI, L, .inl Z9.2.1.2.2.2))] := hD
      by_cases hlt : cu + 4 < B.1
      · have e_0_3 : q_nx (if cu + 4 < B.1 then some (cu + 4) else none) = q_nx (some (cu + 4)) := by rw [if_pos hlt]
        have hP : va_P (dC, dI) vwCl [(h0, .inr (1, [.int (nI L), .ref t1, .ref t2, .int (q_nx (some (cu + 4))), .int (nI kc), .int (nI (w + Z9.2.2))])), (t1, .inr (0, [.ref m1, .ref k1, .ref v1, .int (nI Z9.1.1)])), (m1, .inl (cI, L, .inl Z9.1.2.1)), (k1, .inl (cI, L, .inl Z9.1.2.2.1)), (v1, .inl (cI, L, .inl Z9.1.2.2.2)), (t2, .inr (0, [.ref m2, .ref k2, .ref v2, .int (nI Z9.2.1.1)])), (m2, .inl (cI, L, .inl Z9.2.1.2.1)), (k2, .inl (cI, L, .inl Z9.2.1.2.2.1)), (v2, .inl (cI, L, .inl Z9.2.1.2.2.2))] H := by rw [← e_0_3]; exact hP
        have hD : va_D Aq [(h0, .inr (1, [.int (nI L), .ref t1, .ref t2, .int (q_nx (some (cu + 4))), .int (nI kc), .int (nI (w + Z9.2.2))])), (t1, .inr (0, [.ref m1, .ref k1, .ref v1, .int (nI Z9.1.1)])), (m1, .inl (cI, L, .inl Z9.1.2.1)), (k1, .inl (cI, L, .inl Z9.1.2.2.1)), (v1, .inl (cI, L, .inl Z9.1.2.2.2)), (t2, .inr (0, [.ref m2, .ref k2, .ref v2, .int (nI Z9.2.1.1)])), (m2, .inl (cI, L, .inl Z9.2.1.2.1)), (k2, .inl (cI, L, .inl Z9.2.1.2.2.1)), (v2, .inl (cI, L, .inl Z9.2.1.2.2.2))] := by rw [← e_0_3]; exact hD
        refine lv_aload_n hx hb dX1_moveOn_11 rfl (lv_at hl 0 rfl) ?_
        refine r_roV (rest := []) S0 (c_X1_migrating l dC dI cI h0 (nI L) t1 t2 ((some (cu + 4))) (nI kc) (nI (w + Z9.2.2)) (fun c2 h => by cases h; omega)) (cwV 0 hts gX1_moveOn_X1_migrating rfl rfl rfl (by decide +kernel) ⟨Nat.le_of_ble_eq_true rfl, Nat.le_of_ble_eq_true rfl⟩) hK hP [0] rfl (ci := 1) (q0 := 0) rfl rfl rfl rfl hl.1 rfl (Nat.le_of_ble_eq_true rfl) dX1_moveOn_12 ⟨Nat.zero_le _, Nat.zero_le _⟩ ?_
        refine lv_if_eq (tgt := 19) hx hb dX1_moveOn_15 (by decide) (fun c_15 => ?_) (fun c_15 => ?_)
        · have h_15 : ¬ ((some (cu + 4)).isSome = true) := q_b_0.mp c_15
          exact absurd rfl h_15
        · have h_15 : ((some (cu + 4)).isSome = true) := q_b_n0 c_15
          have eq : q_on A B (some cu) kc w = (Z9.1, Z9.2.1, some (cu + 4), kc, w + Z9.2.2) := (q_on_c hlt).trans (by rw [hZ])
          have hP : va_P (dC, dI) vwCl (q_WS cI L h0 (t1, m1, k1, v1, t2, m2, k2, v2) (q_on A B (some cu) kc w)) H := by rw [eq]; exact hP
          have hD : va_D Aq (q_WS cI L h0 (t1, m1, k1, v1, t2, m2, k2, v2) (q_on A B (some cu) kc w)) := by rw [eq]; exact hD
          exact W.vret hx hb hr (fun t ht hW => ⟨⟨(t1, m1, k1, v1, t2, m2, k2, v2), rfl, trivial, by rw [ht]; exact hP, va_K.moved hW.alike hK, hD⟩, hS.F ht⟩) hS.2.2 dX1_moveOn_18
      · have e_0_3 : q_nx (if cu + 4 < B.1 then some (cu + 4) else none) = q_nx (none : Option Nat) := by rw [if_neg hlt]
        have hP : va_P (dC, dI) vwCl [(h0, .inr (1, [.int (nI L), .ref t1, .ref t2, .int (q_nx (none : Option Nat)), .int (nI kc), .int (nI (w + Z9.2.2))])), (t1, .inr (0, [.ref m1, .ref k1, .ref v1, .int (nI Z9.1.1)])), (m1, .inl (cI, L, .inl Z9.1.2.1)), (k1, .inl (cI, L, .inl Z9.1.2.2.1)), (v1, .inl (cI, L, .inl Z9.1.2.2.2)), (t2, .inr (0, [.ref m2, .ref k2, .ref v2, .int (nI Z9.2.1.1)])), (m2, .inl (cI, L, .inl Z9.2.1.2.1)), (k2, .inl (cI, L, .inl Z9.2.1.2.2.1)), (v2, .inl (cI, L, .inl Z9.2.1.2.2.2))] H := by rw [← e_0_3]; exact hP
        have hD : va_D Aq [(h0, .inr (1, [.int (nI L), .ref t1, .ref t2, .int (q_nx (none : Option Nat)), .int (nI kc), .int (nI (w + Z9.2.2))])), (t1, .inr (0, [.ref m1, .ref k1, .ref v1, .int (nI Z9.1.1)])), (m1, .inl (cI, L, .inl Z9.1.2.1)), (k1, .inl (cI, L, .inl Z9.1.2.2.1)), (v1, .inl (cI, L, .inl Z9.1.2.2.2)), (t2, .inr (0, [.ref m2, .ref k2, .ref v2, .int (nI Z9.2.1.1)])), (m2, .inl (cI, L, .inl Z9.2.1.2.1)), (k2, .inl (cI, L, .inl Z9.2.1.2.2.1)), (v2, .inl (cI, L, .inl Z9.2.1.2.2.2))] := by rw [← e_0_3]; exact hD
        refine lv_aload_n hx hb dX1_moveOn_11 rfl (lv_at hl 0 rfl) ?_
        refine r_roV (rest := []) S0 (c_X1_migrating l dC dI cI h0 (nI L) t1 t2 ((none : Option Nat)) (nI kc) (nI (w + Z9.2.2)) (fun c2 h => by cases h)) (cwV 0 hts gX1_moveOn_X1_migrating rfl rfl rfl (by decide +kernel) ⟨Nat.le_of_ble_eq_true rfl, Nat.le_of_ble_eq_true rfl⟩) hK hP [0] rfl (ci := 1) (q0 := 0) rfl rfl rfl rfl hl.1 rfl (Nat.le_of_ble_eq_true rfl) dX1_moveOn_12 ⟨Nat.zero_le _, Nat.zero_le _⟩ ?_
        refine lv_if_eq (tgt := 19) hx hb dX1_moveOn_15 (by decide) (fun c_15 => ?_) (fun c_15 => ?_)
        · have h_15 : ¬ ((none : Option Nat).isSome = true) := q_b_0.mp c_15
          refine lv_aload_n hx hb dX1_moveOn_19 rfl (lv_at hl 0 rfl) ?_
          refine lv_aload_n hx hb dX1_moveOn_20 rfl (lv_at hl 0 rfl) ?_
          refine va_get (D := (dC, dI)) (ci := 1) (v := .int (nI kc)) (C := RX1) (T := TX1) (N := 6) hx hb hts hin_X1_moveOn_X1 hown hK hP 0 rfl rfl 4 (by decide) (hts (.fieldLink RX1 57 "StepMap" "keyCount" "I") (by decide +kernel)) (fun _ h9 => h9) rfl dX1_moveOn_21 ?_
          refine r_roV (rest := []) S0 (c_X1_isCrowdedBy l dC dI cI h0 t1 (nI L) t2 (q_nx (none : Option Nat)) (nI kc) (nI (w + Z9.2.2)) m1 k1 v1 Z9.1.1 kc (by omega) (by omega)) (cwV 1 hts gX1_moveOn_X1_isCrowdedBy rfl rfl rfl (by decide +kernel) ⟨Nat.le_of_ble_eq_true rfl, Nat.le_of_ble_eq_true rfl⟩) hK hP [0, 1] rfl (ci := 1) (q0 := 0) rfl rfl rfl rfl hl.1 rfl (Nat.le_of_ble_eq_true rfl) dX1_moveOn_24 ⟨Nat.zero_le _, Nat.zero_le _⟩ ?_
          refine lv_if_eq (tgt := 46) hx hb dX1_moveOn_27 (by decide) (fun c_27 => ?_) (fun c_27 => ?_)
          · have h_27 : ¬ (3 * Z9.1.1 ≤ 4 * kc) := q_b_0.mp c_27
            refine lv_aload_n hx hb dX1_moveOn_46 rfl (lv_at hl 0 rfl) ?_
            refine r_roV (rest := []) S0 (c_X1_isSparse l dC dI cI h0 t1 (nI L) t2 (q_nx (none : Option Nat)) (nI (w + Z9.2.2)) m1 k1 v1 Z9.1.1 kc (by omega) (by omega)) (cwV 0 hts gX1_moveOn_X1_isSparse rfl rfl rfl (by decide +kernel) ⟨Nat.le_of_ble_eq_true rfl, Nat.le_of_ble_eq_true rfl⟩) hK hP [0, 1] rfl (ci := 1) (q0 := 0) rfl rfl rfl rfl hl.1 rfl (Nat.le_of_ble_eq_true rfl) dX1_moveOn_47 ⟨Nat.zero_le _, Nat.zero_le _⟩ ?_
            refine lv_if_eq (tgt := 66) hx hb dX1_moveOn_50 (by decide) (fun c_50 => ?_) (fun c_50 => ?_)
            · have h_50 : ¬ (8 * kc ≤ Z9.1.1 ∧ 8 < Z9.1.1) := q_b_0.mp c_50
              have eq : q_on A B (some cu) kc w = _ := (show q_on A B (some cu) kc w = q_set0 Z9.1 Z9.2.1 kc (w + Z9.2.2) by rw [q_on_e hlt, hZ]).trans (q_set0_3 h_27 h_50)
              have hP : va_P (dC, dI) vwCl (q_WS cI L h0 (t1, m1, k1, v1, t2, m2, k2, v2) (q_on A B (some cu) kc w)) H := by rw [eq]; exact hP
              have hD : va_D Aq (q_WS cI L h0 (t1, m1, k1, v1, t2, m2, k2, v2) (q_on A B (some cu) kc w)) := by rw [eq]; exact hD
              exact W.vret hx hb hr (fun t ht hW => ⟨⟨(t1, m1, k1, v1, t2, m2, k2, v2), rfl, trivial, by rw [ht]; exact hP, va_K.moved hW.alike hK, hD⟩, hS.F ht⟩) hS.2.2 dX1_moveOn_66
            · have h_50 : (8 * kc ≤ Z9.1.1 ∧ 8 < Z9.1.1) := q_b_n0 c_50
              refine lv_aload_n hx hb dX1_moveOn_53 rfl (lv_at hl 0 rfl) ?_
              refine lv_aload_n hx hb dX1_moveOn_54 rfl (lv_at hl 0 rfl) ?_
              refine va_get (D := (dC, dI)) (ci := 1) (v := .ref t1) (C := RX1) (T := TX1) (N := 6) hx hb hts hin_X1_moveOn_X1 hown hK hP 0 rfl rfl 1 (by decide) (hts (.fieldLink RX1 22 "StepMap" "newTable" "LStepMap$Table;") (by decide +kernel)) (fun _ h9 => h9) rfl dX1_moveOn_55 ?_
              refine va_get (D := (dC, dI)) (ci := 0) (v := .int (nI Z9.1.1)) (C := RX0) (T := TX0) (N := 4) hx hb hts hin_X1_moveOn_X0 hown hK hP 1 rfl rfl 3 (by decide) (hts (.fieldLink RX1 69 "StepMap$Table" "slots" "I") (by decide +kernel)) (fun _ h9 => h9) rfl dX1_moveOn_58 ?_
              refine lv_iconst (v := 2) hx hb dX1_moveOn_61 (by decide) ?_
              refine lv_idiv hx hb dX1_moveOn_62 (by decide) ?_
              refine r_eq (z := nI (Z9.1.1 / 2)) (pk_div (d := 2) (by omega) (by omega) (by omega)) ?_
              refine r_muV (wr := []) (rest := []) S0 (c_X1_startMigration l dC dI cI h0 t1 m1 k1 v1 t2 m2 k2 v2 L Z9.1 Z9.2.1 (q_nx (none : Option Nat)) (nI kc) (nI (w + Z9.2.2)) (Z9.1.1 / 2) H.size (by rw [hn2]; exact hpB) (by rw [hn2]; exact hBL) hL (by omega)) (cwV 1 hts gX1_moveOn_X1_startMigration rfl rfl rfl (by decide +kernel) ⟨Nat.le_of_ble_eq_true rfl, Nat.le_of_ble_eq_true rfl⟩) hK hP hD hS hA [0, 1, 2, 3, 4, 5, 6, 7, 8] [] rfl rfl (by decide) (by decide) (by decide) (ci := 1) (q0 := 0) rfl rfl rfl rfl hl.1 rfl (Nat.le_of_ble_eq_true rfl) dX1_moveOn_63 ⟨Nat.zero_le _, Nat.zero_le _⟩ (fun _ H locs hu hP hD hS => ?_)
              have hP : va_P (dC, dI) vwCl [(h0, .inr (1, [.int (nI L), .ref t2, .ref t1, .int (nI 0), .int (nI kc), .int (nI (w + Z9.2.2))])), (t1, .inr (0, [.ref m1, .ref k1, .ref v1, .int (nI Z9.1.1)])), (m1, .inl (cI, L, .inl Z9.1.2.1)), (k1, .inl (cI, L, .inl Z9.1.2.2.1)), (v1, .inl (cI, L, .inl Z9.1.2.2.2)), (t2, .inr (0, [.ref m2, .ref k2, .ref v2, .int (nI (Z9.1.1 / 2))])), (m2, .inl (cI, L, .inl (q_cl Z9.2.1.2.1 (Z9.1.1 / 2)))), (k2, .inl (cI, L, .inl Z9.2.1.2.2.1)), (v2, .inl (cI, L, .inl Z9.2.1.2.2.2))] H := hP.sub [0, 1, 2, 3, 4, 5, 6, 7, 8] rfl
              have hD : va_D Aq [(h0, .inr (1, [.int (nI L), .ref t2, .ref t1, .int (nI 0), .int (nI kc), .int (nI (w + Z9.2.2))])), (t1, .inr (0, [.ref m1, .ref k1, .ref v1, .int (nI Z9.1.1)])), (m1, .inl (cI, L, .inl Z9.1.2.1)), (k1, .inl (cI, L, .inl Z9.1.2.2.1)), (v1, .inl (cI, L, .inl Z9.1.2.2.2)), (t2, .inr (0, [.ref m2, .ref k2, .ref v2, .int (nI (Z9.1.1 / 2))])), (m2, .inl (cI, L, .inl (q_cl Z9.2.1.2.1 (Z9.1.1 / 2)))), (k2, .inl (cI, L, .inl Z9.2.1.2.2.1)), (v2, .inl (cI, L, .inl Z9.2.1.2.2.2))] := hD.sub [0, 1, 2, 3, 4, 5, 6, 7, 8] (by decide) rfl
              have eq : q_on A B (some cu) kc w = _ := (show q_on A B (some cu) kc w = q_set0 Z9.1 Z9.2.1 kc (w + Z9.2.2) by rw [q_on_e hlt, hZ]).trans (q_set0_2 h_27 h_50)
              have hP : va_P (dC, dI) vwCl (q_WS cI L h0 (t2, m2, k2, v2, t1, m1, k1, v1) (q_on A B (some cu) kc w)) H := by rw [eq]; exact hP.sub [0, 5, 6, 7, 8, 1, 2, 3, 4] rfl
              have hD : va_D Aq (q_WS cI L h0 (t2, m2, k2, v2, t1, m1, k1, v1) (q_on A B (some cu) kc w)) := by rw [eq]; exact hD.sub [0, 5, 6, 7, 8, 1, 2, 3, 4] (by decide) rfl
              exact W.vret hx hb hr (fun t ht hW => ⟨⟨(t2, m2, k2, v2, t1, m1, k1, v1), rfl, trivial, by rw [ht]; exact hP, va_K.moved hW.alike hK, hD⟩, hS.F ht⟩) hS.2.2 dX1_moveOn_66
          · have h_27 : (3 * Z9.1.1 ≤ 4 * kc) := q_b_n0 c_27
            refine lv_aload_n hx hb dX1_moveOn_30 rfl (lv_at hl 0 rfl) ?_
            refine lv_aload_n hx hb dX1_moveOn_31 rfl (lv_at hl 0 rfl) ?_
            refine va_get (D := (dC, dI)) (ci := 1) (v := .ref t1) (C := RX1) (T := TX1) (N := 6) hx hb hts hin_X1_moveOn_X1 hown hK hP 0 rfl rfl 1 (by decide) (hts (.fieldLink RX1 22 "StepMap" "newTable" "LStepMap$Table;") (by decide +kernel)) (fun _ h9 => h9) rfl dX1_moveOn_32 ?_
            refine va_get (D := (dC, dI)) (ci := 0) (v := .int (nI Z9.1.1)) (C := RX0) (T := TX0) (N := 4) hx hb hts hin_X1_moveOn_X0 hown hK hP 1 rfl rfl 3 (by decide) (hts (.fieldLink RX1 69 "StepMap$Table" "slots" "I") (by decide +kernel)) (fun _ h9 => h9) rfl dX1_moveOn_35 ?_
            refine lv_iconst (v := 2) hx hb dX1_moveOn_38 (by decide) ?_
            refine lv_imul hx hb dX1_moveOn_39 ?_
            refine r_eq (z := nI (Z9.1.1 * 2)) (pk_mul Z9.1.1 2) ?_
            refine r_eq (z := nI (2 * Z9.1.1)) (congrArg nI (Nat.mul_comm _ _)) ?_
            refine r_muV (wr := []) (rest := []) S0 (c_X1_startMigration l dC dI cI h0 t1 m1 k1 v1 t2 m2 k2 v2 L Z9.1 Z9.2.1 (q_nx (none : Option Nat)) (nI kc) (nI (w + Z9.2.2)) (2 * Z9.1.1) H.size (by rw [hn2]; exact hpB) (by rw [hn2]; exact hBL) hL (by rw [hn1]; exact h29 (by omega) (by omega))) (cwV 1 hts gX1_moveOn_X1_startMigration rfl rfl rfl (by decide +kernel) ⟨Nat.le_of_ble_eq_true rfl, Nat.le_of_ble_eq_true rfl⟩) hK hP hD hS hA [0, 1, 2, 3, 4, 5, 6, 7, 8] [] rfl rfl (by decide) (by decide) (by decide) (ci := 1) (q0 := 0) rfl rfl rfl rfl hl.1 rfl (Nat.le_of_ble_eq_true rfl) dX1_moveOn_40 ⟨Nat.zero_le _, Nat.zero_le _⟩ (fun _ H locs hu hP hD hS => ?_)
            have hP : va_P (dC, dI) vwCl [(h0, .inr (1, [.int (nI L), .ref t2, .ref t1, .int (nI 0), .int (nI kc), .int (nI (w + Z9.2.2))])), (t1, .inr (0, [.ref m1, .ref k1, .ref v1, .int (nI Z9.1.1)])), (m1, .inl (cI, L, .inl Z9.1.2.1)), (k1, .inl (cI, L, .inl Z9.1.2.2.1)), (v1, .inl (cI, L, .inl Z9.1.2.2.2)), (t2, .inr (0, [.ref m2, .ref k2, .ref v2, .int (nI (2 * Z9.1.1))])), (m2, .inl (cI, L, .inl (q_cl Z9.2.1.2.1 (2 * Z9.1.1)))), (k2, .inl (cI, L, .inl Z9.2.1.2.2.1)), (v2, .inl (cI, L, .inl Z9.2.1.2.2.2))] H := hP.sub [0, 1, 2, 3, 4, 5, 6, 7, 8] rfl
            have hD : va_D Aq [(h0, .inr (1, [.int (nI L), .ref t2, .ref t1, .int (nI 0), .int (nI kc), .int (nI (w + Z9.2.2))])), (t1, .inr (0, [.ref m1, .ref k1, .ref v1, .int (nI Z9.1.1)])), (m1, .inl (cI, L, .inl Z9.1.2.1)), (k1, .inl (cI, L, .inl Z9.1.2.2.1)), (v1, .inl (cI, L, .inl Z9.1.2.2.2)), (t2, .inr (0, [.ref m2, .ref k2, .ref v2, .int (nI (2 * Z9.1.1))])), (m2, .inl (cI, L, .inl (q_cl Z9.2.1.2.1 (2 * Z9.1.1)))), (k2, .inl (cI, L, .inl Z9.2.1.2.2.1)), (v2, .inl (cI, L, .inl Z9.2.1.2.2.2))] := hD.sub [0, 1, 2, 3, 4, 5, 6, 7, 8] (by decide) rfl
            refine lv_goto (tgt := 66) hx hb dX1_moveOn_43 (by decide) ?_
            have eq : q_on A B (some cu) kc w = _ := (show q_on A B (some cu) kc w = q_set0 Z9.1 Z9.2.1 kc (w + Z9.2.2) by rw [q_on_e hlt, hZ]).trans (q_set0_1 h_27)
            have hP : va_P (dC, dI) vwCl (q_WS cI L h0 (t2, m2, k2, v2, t1, m1, k1, v1) (q_on A B (some cu) kc w)) H := by rw [eq]; exact hP.sub [0, 5, 6, 7, 8, 1, 2, 3, 4] rfl
            have hD : va_D Aq (q_WS cI L h0 (t2, m2, k2, v2, t1, m1, k1, v1) (q_on A B (some cu) kc w)) := by rw [eq]; exact hD.sub [0, 5, 6, 7, 8, 1, 2, 3, 4] (by decide) rfl
            exact W.vret hx hb hr (fun t ht hW => ⟨⟨(t2, m2, k2, v2, t1, m1, k1, v1), rfl, trivial, by rw [ht]; exact hP, va_K.moved hW.alike hK, hD⟩, hS.F ht⟩) hS.2.2 dX1_moveOn_66
        · have h_15 : ((none : Option Nat).isSome = true) := q_b_n0 c_15
          exact absurd h_15 (by decide)
set_option maxHeartbeats 4000000 in
set_option maxRecDepth 100000 in
theorem c_X1_get (l : Launch) (dC : Nat → ClassId) (dI : Nat → Nat → Nat) (cI : ClassId) (h0 t1 m1 k1 v1 t2 m2 k2 v2 L : Nat) (A B : q_TB) (nx : Option Nat) (kc w : Nat) (k : Int32) (sz : Nat) (hIV : q_IV L A B nx kc) : Met l yX1_get wsX1_get ({ frames := 4, cells := 0, slots := 0, locals := 91 }) (r_Mc (dC, dI) vwCl [(cI, .int)] [(h0, .inr (1, [.int (nI L), .ref t1, .ref t2, .int (q_nx nx), .int (nI kc), .int (nI w)])), (t1, .inr (0, [.ref m1, .ref k1, .ref v1, .int (nI A.1)])), (m1, .inl (cI, L, .inl A.2.1)), (k1, .inl (cI, L, .inl A.2.2.1)), (v1, .inl (cI, L, .inl A.2.2.2)), (t2, .inr (0, [.ref m2, .ref k2, .ref v2, .int (nI B.1)])), (m2, .inl (cI, L, .inl B.2.1)), (k2, .inl (cI, L, .inl B.2.2.1)), (v2, .inl (cI, L, .inl B.2.2.2))] sz [.ref h0, .int k]) (va_Qi (fun (r : Int32) (_ : Unit) => r = q_get A B nx k) (fun u t => r_B (dC, dI) vwCl [(cI, .int)] (va_A [(h0, .inr (1, [.int (nI L), .ref t1, .ref t2, .int (q_nx nx), .int (nI kc), .int (nI w)])), (t1, .inr (0, [.ref m1, .ref k1, .ref v1, .int (nI A.1)])), (m1, .inl (cI, L, .inl A.2.1)), (k1, .inl (cI, L, .inl A.2.2.1)), (v1, .inl (cI, L, .inl A.2.2.2)), (t2, .inr (0, [.ref m2, .ref k2, .ref v2, .int (nI B.1)])), (m2, .inl (cI, L, .inl B.2.1)), (k2, .inl (cI, L, .inl B.2.2.1)), (v2, .inl (cI, L, .inl B.2.2.2))] sz) ((fun _ => [(h0, .inr (1, [.int (nI L), .ref t1, .ref t2, .int (q_nx nx), .int (nI kc), .int (nI (q_lw A B nx k))])), (t1, .inr (0, [.ref m1, .ref k1, .ref v1, .int (nI A.1)])), (m1, .inl (cI, L, .inl A.2.1)), (k1, .inl (cI, L, .inl A.2.2.1)), (v1, .inl (cI, L, .inl A.2.2.2)), (t2, .inr (0, [.ref m2, .ref k2, .ref v2, .int (nI B.1)])), (m2, .inl (cI, L, .inl B.2.1)), (k2, .inl (cI, L, .inl B.2.2.1)), (v2, .inl (cI, L, .inl B.2.2.2))]) u) t) (va_A [(h0, .inr (1, [.int (nI L), .ref t1, .ref t2, .int (q_nx nx), .int (nI kc), .int (nI w)])), (t1, .inr (0, [.ref m1, .ref k1, .ref v1, .int (nI A.1)])), (m1, .inl (cI, L, .inl A.2.1)), (k1, .inl (cI, L, .inl A.2.2.1)), (v1, .inl (cI, L, .inl A.2.2.2)), (t2, .inr (0, [.ref m2, .ref k2, .ref v2, .int (nI B.1)])), (m2, .inl (cI, L, .inl B.2.1)), (k2, .inl (cI, L, .inl B.2.2.1)), (v2, .inl (cI, L, .inl B.2.2.2))] sz)) 0 0 (va_A [(h0, .inr (1, [.int (nI L), .ref t1, .ref t2, .int (q_nx nx), .int (nI kc), .int (nI w)])), (t1, .inr (0, [.ref m1, .ref k1, .ref v1, .int (nI A.1)])), (m1, .inl (cI, L, .inl A.2.1)), (k1, .inl (cI, L, .inl A.2.2.1)), (v1, .inl (cI, L, .inl A.2.2.2)), (t2, .inr (0, [.ref m2, .ref k2, .ref v2, .int (nI B.1)])), (m2, .inl (cI, L, .inl B.2.1)), (k2, .inl (cI, L, .inl B.2.2.1)), (v2, .inl (cI, L, .inl B.2.2.2))] sz) := by
  refine Met.ofW (cc := cX1_get) (maxL := 3) (ret := (some .int)) (by decide) rfl ?_
  intro p e s m args below meth c s₁ Bd hml hv
  obtain ⟨rfl, hsz, hP, hK, hD0⟩ := hv
  have hx := Bd.exec
  have hb := Bd.bytes
  have hr := Bd.returns
  have hts := atoms_spec (ws := wsX1_get) Bd.pre
  have hown : s.vm.findClass RX1 = some m.cls := findClass_of_methodNamed Bd.named
  have hlocks := Bd.notSynchronized
  have S0 : CallFix p m c cX1_get 3 s _ wsX1_get RX1 := ⟨hx, hb, hml, hown, hts⟩
  subst hsz
  have hD := hD0.self (sz := s.heap.size)
  generalize hAe : va_A [(h0, .inr (1, [.int (nI L), .ref t1, .ref t2, .int (q_nx nx), .int (nI kc), .int (nI w)])), (t1, .inr (0, [.ref m1, .ref k1, .ref v1, .int (nI A.1)])), (m1, .inl (cI, L, .inl A.2.1)), (k1, .inl (cI, L, .inl A.2.2.1)), (v1, .inl (cI, L, .inl A.2.2.2)), (t2, .inr (0, [.ref m2, .ref k2, .ref v2, .int (nI B.1)])), (m2, .inl (cI, L, .inl B.2.1)), (k2, .inl (cI, L, .inl B.2.2.1)), (v2, .inl (cI, L, .inl B.2.2.2))] s.heap.size = Aq at hD ⊢
  have hA : ∀ q : Nat, s.heap.size ≤ q → Aq q := fun q h => by rw [← hAe]; exact Or.inr h
  have hS : va_S Aq s.heap s.heap [] := va_S.rf
  have hD : va_D Aq [(h0, .inr (1, [.int (nI L), .ref t1, .ref t2, .int (q_nx nx), .int (nI kc), .int (nI w)])), (t1, .inr (0, [.ref m1, .ref k1, .ref v1, .int (nI A.1)])), (m1, .inl (cI, L, .inl A.2.1)), (k1, .inl (cI, L, .inl A.2.2.1)), (v1, .inl (cI, L, .inl A.2.2.2)), (t2, .inr (0, [.ref m2, .ref k2, .ref v2, .int (nI B.1)])), (m2, .inl (cI, L, .inl B.2.1)), (k2, .inl (cI, L, .inl B.2.2.1)), (v2, .inl (cI, L, .inl B.2.2.2))] := hD
  have hP : va_P (dC, dI) vwCl [(h0, .inr (1, [.int (nI L), .ref t1, .ref t2, .int (q_nx nx), .int (nI kc), .int (nI w)])), (t1, .inr (0, [.ref m1, .ref k1, .ref v1, .int (nI A.1)])), (m1, .inl (cI, L, .inl A.2.1)), (k1, .inl (cI, L, .inl A.2.2.1)), (v1, .inl (cI, L, .inl A.2.2.2)), (t2, .inr (0, [.ref m2, .ref k2, .ref v2, .int (nI B.1)])), (m2, .inl (cI, L, .inl B.2.1)), (k2, .inl (cI, L, .inl B.2.2.1)), (v2, .inl (cI, L, .inl B.2.2.2))] s.heap := hP
  have hl := lv_entry ([.ref h0, .int k]) (n := 3) (Nat.le_of_ble_eq_true rfl)
  rw [lg_entry_eq]
  generalize (lg_sl ([.ref h0, .int k]) ++ List.replicate (3 - (lg_sl ([.ref h0, .int k])).length) Slot.unset).toArray = ls at hl ⊢
  have hl : lv_has ls 3 [(0, .ref h0), (1, .int k)] := hl
  have hSZ := hIV.1
  have hkc : kc ≤ 4096 := by have := q_iv_kc hIV; omega
  have hc := q_iv_c hIV
  obtain ⟨hLp, hpA, hAL, hpB, hBL⟩ := id hSZ
  have hL := (q_pw_8 hLp).2
  have hA8 := q_pw_8 hpA
  have hB8 := q_pw_8 hpB
  have heA := q_lkE_lt (t := A) k (by omega)
  have heB := q_lkE_lt (t := B) k (by omega)
  refine lv_aload_n hx hb dX1_get_0 rfl (lv_at hl 0 rfl) ?_
  refine lv_iconst (v := 0) hx hb dX1_get_1 (by decide) ?_
  refine va_put (D := (dC, dI)) (ci := 1) (v := .int 0) (ty := .int) (C := RX1) (T := TX1) (N := 6) hx hb hts hin_X1_get_X1 tyX1 tyX1_ok nmX1 hown hK hP hD hS 0 rfl rfl 5 (by decide) (hts (.fieldLink RX1 35 "StepMap" "work" "I") (by decide +kernel)) (fun _ h9 => h9) rfl (by decide +kernel) (rfl) (rfl) (Nat.le_of_ble_eq_true rfl) dX1_get_2 (fun H locs hP hD hS => ?_)
  have hP : va_P (dC, dI) vwCl [(h0, .inr (1, [.int (nI L), .ref t1, .ref t2, .int (q_nx nx), .int (nI kc), .int 0])), (t1, .inr (0, [.ref m1, .ref k1, .ref v1, .int (nI A.1)])), (m1, .inl (cI, L, .inl A.2.1)), (k1, .inl (cI, L, .inl A.2.2.1)), (v1, .inl (cI, L, .inl A.2.2.2)), (t2, .inr (0, [.ref m2, .ref k2, .ref v2, .int (nI B.1)])), (m2, .inl (cI, L, .inl B.2.1)), (k2, .inl (cI, L, .inl B.2.2.1)), (v2, .inl (cI, L, .inl B.2.2.2))] H := hP
  have hD : va_D Aq [(h0, .inr (1, [.int (nI L), .ref t1, .ref t2, .int (q_nx nx), .int (nI kc), .int 0])), (t1, .inr (0, [.ref m1, .ref k1, .ref v1, .int (nI A.1)])), (m1, .inl (cI, L, .inl A.2.1)), (k1, .inl (cI, L, .inl A.2.2.1)), (v1, .inl (cI, L, .inl A.2.2.2)), (t2, .inr (0, [.ref m2, .ref k2, .ref v2, .int (nI B.1)])), (m2, .inl (cI, L, .inl B.2.1)), (k2, .inl (cI, L, .inl B.2.2.1)), (v2, .inl (cI, L, .inl B.2.2.2))] := hD
  have e_0_5 : 0 = nI 0 := nI_0.symm
  have hP : va_P (dC, dI) vwCl [(h0, .inr (1, [.int (nI L), .ref t1, .ref t2, .int (q_nx nx), .int (nI kc), .int (nI 0)])), (t1, .inr (0, [.ref m1, .ref k1, .ref v1, .int (nI A.1)])), (m1, .inl (cI, L, .inl A.2.1)), (k1, .inl (cI, L, .inl A.2.2.1)), (v1, .inl (cI, L, .inl A.2.2.2)), (t2, .inr (0, [.ref m2, .ref k2, .ref v2, .int (nI B.1)])), (m2, .inl (cI, L, .inl B.2.1)), (k2, .inl (cI, L, .inl B.2.2.1)), (v2, .inl (cI, L, .inl B.2.2.2))] H := by rw [← e_0_5]; exact hP
  have hD : va_D Aq [(h0, .inr (1, [.int (nI L), .ref t1, .ref t2, .int (q_nx nx), .int (nI kc), .int (nI 0)])), (t1, .inr (0, [.ref m1, .ref k1, .ref v1, .int (nI A.1)])), (m1, .inl (cI, L, .inl A.2.1)), (k1, .inl (cI, L, .inl A.2.2.1)), (v1, .inl (cI, L, .inl A.2.2.2)), (t2, .inr (0, [.ref m2, .ref k2, .ref v2, .int (nI B.1)])), (m2, .inl (cI, L, .inl B.2.1)), (k2, .inl (cI, L, .inl B.2.2.1)), (v2, .inl (cI, L, .inl B.2.2.2))] := by rw [← e_0_5]; exact hD
  refine lv_aload_n hx hb dX1_get_5 rfl (lv_at hl 0 rfl) ?_
  refine lv_iload_n hx hb dX1_get_6 rfl (lv_at hl 1 rfl) ?_
  refine r_muI (wr := []) (rest := []) S0 (c_X1_lookUp l dC dI cI h0 t1 m1 k1 v1 t2 m2 k2 v2 L A B nx kc 0 k H.size hSZ hkc hc) (cwV 1 hts gX1_get_X1_lookUp rfl rfl rfl (by decide +kernel) ⟨Nat.le_of_ble_eq_true rfl, Nat.le_of_ble_eq_true rfl⟩) hK hP hD hS hA [0, 1, 2, 3, 4, 5, 6, 7, 8] [] rfl rfl (by decide) (by decide) (by decide) (ci := 1) (q0 := 0) rfl rfl rfl rfl hl.1 rfl (Nat.le_of_ble_eq_true rfl) dX1_get_7 ⟨Nat.zero_le _, Nat.zero_le _⟩ (fun r_7 _ H locs hu hP hD hS => ?_)
  have hP : va_P (dC, dI) vwCl [(h0, .inr (1, [.int (nI L), .ref t1, .ref t2, .int (q_nx nx), .int (nI kc), .int (nI (0 + q_lw A B nx k))])), (t1, .inr (0, [.ref m1, .ref k1, .ref v1, .int (nI A.1)])), (m1, .inl (cI, L, .inl A.2.1)), (k1, .inl (cI, L, .inl A.2.2.1)), (v1, .inl (cI, L, .inl A.2.2.2)), (t2, .inr (0, [.ref m2, .ref k2, .ref v2, .int (nI B.1)])), (m2, .inl (cI, L, .inl B.2.1)), (k2, .inl (cI, L, .inl B.2.2.1)), (v2, .inl (cI, L, .inl B.2.2.2))] H := hP.sub [0, 1, 2, 3, 4, 5, 6, 7, 8] rfl
  have hD : va_D Aq [(h0, .inr (1, [.int (nI L), .ref t1, .ref t2, .int (q_nx nx), .int (nI kc), .int (nI (0 + q_lw A B nx k))])), (t1, .inr (0, [.ref m1, .ref k1, .ref v1, .int (nI A.1)])), (m1, .inl (cI, L, .inl A.2.1)), (k1, .inl (cI, L, .inl A.2.2.1)), (v1, .inl (cI, L, .inl A.2.2.2)), (t2, .inr (0, [.ref m2, .ref k2, .ref v2, .int (nI B.1)])), (m2, .inl (cI, L, .inl B.2.1)), (k2, .inl (cI, L, .inl B.2.2.1)), (v2, .inl (cI, L, .inl B.2.2.2))] := hD.sub [0, 1, 2, 3, 4, 5, 6, 7, 8] (by decide) rfl
  have hu : r_7 = q_place A B nx k := hu
  subst hu
  have e_0_5 : nI (0 + q_lw A B nx k) = nI (q_lw A B nx k) := congrArg nI (Nat.zero_add _)
  have hP : va_P (dC, dI) vwCl [(h0, .inr (1, [.int (nI L), .ref t1, .ref t2, .int (q_nx nx), .int (nI kc), .int (nI (q_lw A B nx k))])), (t1, .inr (0, [.ref m1, .ref k1, .ref v1, .int (nI A.1)])), (m1, .inl (cI, L, .inl A.2.1)), (k1, .inl (cI, L, .inl A.2.2.1)), (v1, .inl (cI, L, .inl A.2.2.2)), (t2, .inr (0, [.ref m2, .ref k2, .ref v2, .int (nI B.1)])), (m2, .inl (cI, L, .inl B.2.1)), (k2, .inl (cI, L, .inl B.2.2.1)), (v2, .inl (cI, L, .inl B.2.2.2))] H := by rw [← e_0_5]; exact hP
  have hD : va_D Aq [(h0, .inr (1, [.int (nI L), .ref t1, .ref t2, .int (q_nx nx), .int (nI kc), .int (nI (q_lw A B nx k))])), (t1, .inr (0, [.ref m1, .ref k1, .ref v1, .int (nI A.1)])), (m1, .inl (cI, L, .inl A.2.1)), (k1, .inl (cI, L, .inl A.2.2.1)), (v1, .inl (cI, L, .inl A.2.2.2)), (t2, .inr (0, [.ref m2, .ref k2, .ref v2, .int (nI B.1)])), (m2, .inl (cI, L, .inl B.2.1)), (k2, .inl (cI, L, .inl B.2.2.1)), (v2, .inl (cI, L, .inl B.2.2.2))] := by rw [← e_0_5]; exact hD
  rcases q_place_c A B nx k with ⟨ha, ep⟩ | ⟨ha, hbt, ep⟩ | ⟨ha, hbt, ep⟩
  · refine r_eq (z := nI (q_lkE A k)) (ep) ?_
    refine lv_istore_n (lv' := [(2, .int (nI (q_lkE A k))), (0, .ref h0), (1, .int k)]) hx hb dX1_get_10 rfl hl (by decide) rfl (fun ls hl => ?_)
    refine lv_iload_n hx hb dX1_get_11 rfl (lv_at hl 0 rfl) ?_
    refine lv_sipush (v := 2000) hx hb dX1_get_12 (by decide) ?_
    refine lv_icmp_lt (tgt := 32) hx hb dX1_get_15 (by decide) (fun c_15 => ?_) (fun c_15 => ?_)
    · have h_15 := q_lt_t (a := q_lkE A k) (b := 2000) (by omega) (by omega) c_15
      refine lv_iload_n hx hb dX1_get_32 rfl (lv_at hl 0 rfl) ?_
      refine lv_if_lt (tgt := 48) hx hb dX1_get_33 (by decide) (fun c_33 => ?_) (fun c_33 => ?_)
      · have h_33 := q_lt_t (a := q_lkE A k) (b := 0) (by omega) (by omega) c_33
        omega
      · have h_33 := q_lt_f (a := q_lkE A k) (b := 0) (by omega) (by omega) c_33
        refine lv_aload_n hx hb dX1_get_36 rfl (lv_at hl 1 rfl) ?_
        refine va_get (D := (dC, dI)) (ci := 1) (v := .ref t1) (C := RX1) (T := TX1) (N := 6) hx hb hts hin_X1_get_X1 hown hK hP 0 rfl rfl 1 (by decide) (hts (.fieldLink RX1 22 "StepMap" "newTable" "LStepMap$Table;") (by decide +kernel)) (fun _ h9 => h9) rfl dX1_get_37 ?_
        refine va_get (D := (dC, dI)) (ci := 0) (v := .ref v1) (C := RX0) (T := TX0) (N := 4) hx hb hts hin_X1_get_X0 hown hK hP 1 rfl rfl 2 (by decide) (hts (.fieldLink RX1 41 "StepMap$Table" "values" "[I") (by decide +kernel)) (fun _ h9 => h9) rfl dX1_get_40 ?_
        refine lv_iload_n hx hb dX1_get_43 rfl (lv_at hl 0 rfl) ?_
        refine r_ld (i := q_lkE A k) hx hb hK hP 4 0 rfl rfl (by omega) (by omega) dX1_get_44 ?_
        refine lv_goto (tgt := 49) hx hb dX1_get_45 (by decide) ?_
        exact W.iret (v := A.2.2.2 (q_lkE A k)) hx hb hr (fun t ht hW => ⟨⟨_, (), rfl, (q_get_A ha).symm, by rw [ht]; exact hP, va_K.moved hW.alike hK, hD⟩, hS.F ht⟩) hS.2.2 dX1_get_49
    · have h_15 := q_lt_f (a := q_lkE A k) (b := 2000) (by omega) (by omega) c_15
      omega
  · refine r_eq (z := nI (2000 + q_lkE B k)) (ep) ?_
    refine lv_istore_n (lv' := [(2, .int (nI (2000 + q_lkE B k))), (0, .ref h0), (1, .int k)]) hx hb dX1_get_10 rfl hl (by decide) rfl (fun ls hl => ?_)
    refine lv_iload_n hx hb dX1_get_11 rfl (lv_at hl 0 rfl) ?_
    refine lv_sipush (v := 2000) hx hb dX1_get_12 (by decide) ?_
    refine lv_icmp_lt (tgt := 32) hx hb dX1_get_15 (by decide) (fun c_15 => ?_) (fun c_15 => ?_)
    · have h_15 := q_lt_t (a := 2000 + q_lkE B k) (b := 2000) (by omega) (by omega) c_15
      omega
    · have h_15 := q_lt_f (a := 2000 + q_lkE B k) (b := 2000) (by omega) (by omega) c_15
      refine lv_aload_n hx hb dX1_get_18 rfl (lv_at hl 1 rfl) ?_
      refine va_get (D := (dC, dI)) (ci := 1) (v := .ref t2) (C := RX1) (T := TX1) (N := 6) hx hb hts hin_X1_get_X1 hown hK hP 0 rfl rfl 2 (by decide) (hts (.fieldLink RX1 26 "StepMap" "oldTable" "LStepMap$Table;") (by decide +kernel)) (fun _ h9 => h9) rfl dX1_get_19 ?_
      refine va_get (D := (dC, dI)) (ci := 0) (v := .ref v2) (C := RX0) (T := TX0) (N := 4) hx hb hts hin_X1_get_X0 hown hK hP 5 rfl rfl 2 (by decide) (hts (.fieldLink RX1 41 "StepMap$Table" "values" "[I") (by decide +kernel)) (fun _ h9 => h9) rfl dX1_get_22 ?_
      refine lv_iload_n hx hb dX1_get_25 rfl (lv_at hl 0 rfl) ?_
      refine lv_sipush (v := 2000) hx hb dX1_get_26 (by decide) ?_
      refine lv_isub hx hb dX1_get_29 ?_
      refine r_eq (z := nI (q_lkE B k)) (q_2000 _) ?_
      refine r_ld (i := q_lkE B k) hx hb hK hP 8 0 rfl rfl (by omega) (by omega) dX1_get_30 ?_
      exact W.iret (v := B.2.2.2 (q_lkE B k)) hx hb hr (fun t ht hW => ⟨⟨_, (), rfl, (q_get_B ha hbt).symm, by rw [ht]; exact hP, va_K.moved hW.alike hK, hD⟩, hS.F ht⟩) hS.2.2 dX1_get_31
  · refine r_eq (z := -1 - nI (q_lkE A k)) (ep) ?_
    refine lv_istore_n (lv' := [(2, .int (-1 - nI (q_lkE A k))), (0, .ref h0), (1, .int k)]) hx hb dX1_get_10 rfl hl (by decide) rfl (fun ls hl => ?_)
    refine lv_iload_n hx hb dX1_get_11 rfl (lv_at hl 0 rfl) ?_
    refine lv_sipush (v := 2000) hx hb dX1_get_12 (by decide) ?_
    refine lv_icmp_lt (tgt := 32) hx hb dX1_get_15 (by decide) (fun c_15 => ?_) (fun c_15 => ?_)
    · refine lv_iload_n hx hb dX1_get_32 rfl (lv_at hl 0 rfl) ?_
      refine lv_if_lt (tgt := 48) hx hb dX1_get_33 (by decide) (fun c_33 => ?_) (fun c_33 => ?_)
      · refine lv_iconst (v := 0) hx hb dX1_get_48 (by decide) ?_
        exact W.iret (v := 0) hx hb hr (fun t ht hW => ⟨⟨_, (), rfl, (q_get_N ha hbt).symm, by rw [ht]; exact hP, va_K.moved hW.alike hK, hD⟩, hS.F ht⟩) hS.2.2 dX1_get_49
      · exact absurd (q_neg1 (by omega)) c_33
    · exact absurd (q_neg_lt (by omega)) c_15
set_option maxHeartbeats 4000000 in
set_option maxRecDepth 100000 in
theorem c_X1_has (l : Launch) (dC : Nat → ClassId) (dI : Nat → Nat → Nat) (cI : ClassId) (h0 t1 m1 k1 v1 t2 m2 k2 v2 L : Nat) (A B : q_TB) (nx : Option Nat) (kc w : Nat) (k : Int32) (sz : Nat) (hIV : q_IV L A B nx kc) : Met l yX1_has wsX1_has ({ frames := 4, cells := 0, slots := 0, locals := 91 }) (r_Mc (dC, dI) vwCl [(cI, .int)] [(h0, .inr (1, [.int (nI L), .ref t1, .ref t2, .int (q_nx nx), .int (nI kc), .int (nI w)])), (t1, .inr (0, [.ref m1, .ref k1, .ref v1, .int (nI A.1)])), (m1, .inl (cI, L, .inl A.2.1)), (k1, .inl (cI, L, .inl A.2.2.1)), (v1, .inl (cI, L, .inl A.2.2.2)), (t2, .inr (0, [.ref m2, .ref k2, .ref v2, .int (nI B.1)])), (m2, .inl (cI, L, .inl B.2.1)), (k2, .inl (cI, L, .inl B.2.2.1)), (v2, .inl (cI, L, .inl B.2.2.2))] sz [.ref h0, .int k]) (va_Qi (fun (r : Int32) (_ : Unit) => r = q_b (q_has A B nx k)) (fun u t => r_B (dC, dI) vwCl [(cI, .int)] (va_A [(h0, .inr (1, [.int (nI L), .ref t1, .ref t2, .int (q_nx nx), .int (nI kc), .int (nI w)])), (t1, .inr (0, [.ref m1, .ref k1, .ref v1, .int (nI A.1)])), (m1, .inl (cI, L, .inl A.2.1)), (k1, .inl (cI, L, .inl A.2.2.1)), (v1, .inl (cI, L, .inl A.2.2.2)), (t2, .inr (0, [.ref m2, .ref k2, .ref v2, .int (nI B.1)])), (m2, .inl (cI, L, .inl B.2.1)), (k2, .inl (cI, L, .inl B.2.2.1)), (v2, .inl (cI, L, .inl B.2.2.2))] sz) ((fun _ => [(h0, .inr (1, [.int (nI L), .ref t1, .ref t2, .int (q_nx nx), .int (nI kc), .int (nI (q_lw A B nx k))])), (t1, .inr (0, [.ref m1, .ref k1, .ref v1, .int (nI A.1)])), (m1, .inl (cI, L, .inl A.2.1)), (k1, .inl (cI, L, .inl A.2.2.1)), (v1, .inl (cI, L, .inl A.2.2.2)), (t2, .inr (0, [.ref m2, .ref k2, .ref v2, .int (nI B.1)])), (m2, .inl (cI, L, .inl B.2.1)), (k2, .inl (cI, L, .inl B.2.2.1)), (v2, .inl (cI, L, .inl B.2.2.2))]) u) t) (va_A [(h0, .inr (1, [.int (nI L), .ref t1, .ref t2, .int (q_nx nx), .int (nI kc), .int (nI w)])), (t1, .inr (0, [.ref m1, .ref k1, .ref v1, .int (nI A.1)])), (m1, .inl (cI, L, .inl A.2.1)), (k1, .inl (cI, L, .inl A.2.2.1)), (v1, .inl (cI, L, .inl A.2.2.2)), (t2, .inr (0, [.ref m2, .ref k2, .ref v2, .int (nI B.1)])), (m2, .inl (cI, L, .inl B.2.1)), (k2, .inl (cI, L, .inl B.2.2.1)), (v2, .inl (cI, L, .inl B.2.2.2))] sz)) 0 0 (va_A [(h0, .inr (1, [.int (nI L), .ref t1, .ref t2, .int (q_nx nx), .int (nI kc), .int (nI w)])), (t1, .inr (0, [.ref m1, .ref k1, .ref v1, .int (nI A.1)])), (m1, .inl (cI, L, .inl A.2.1)), (k1, .inl (cI, L, .inl A.2.2.1)), (v1, .inl (cI, L, .inl A.2.2.2)), (t2, .inr (0, [.ref m2, .ref k2, .ref v2, .int (nI B.1)])), (m2, .inl (cI, L, .inl B.2.1)), (k2, .inl (cI, L, .inl B.2.2.1)), (v2, .inl (cI, L, .inl B.2.2.2))] sz) := by
  refine Met.ofW (cc := cX1_has) (maxL := 2) (ret := (some .boolean)) (by decide) rfl ?_
  intro p e s m args below meth c s₁ Bd hml hv
  obtain ⟨rfl, hsz, hP, hK, hD0⟩ := hv
  have hx := Bd.exec
  have hb := Bd.bytes
  have hr := Bd.returns
  have hts := atoms_spec (ws := wsX1_has) Bd.pre
  have hown : s.vm.findClass RX1 = some m.cls := findClass_of_methodNamed Bd.named
  have hlocks := Bd.notSynchronized
  have S0 : CallFix p m c cX1_has 2 s _ wsX1_has RX1 := ⟨hx, hb, hml, hown, hts⟩
  subst hsz
  have hD := hD0.self (sz := s.heap.size)
  generalize hAe : va_A [(h0, .inr (1, [.int (nI L), .ref t1, .ref t2, .int (q_nx nx), .int (nI kc), .int (nI w)])), (t1, .inr (0, [.ref m1, .ref k1, .ref v1, .int (nI A.1)])), (m1, .inl (cI, L, .inl A.2.1)), (k1, .inl (cI, L, .inl A.2.2.1)), (v1, .inl (cI, L, .inl A.2.2.2)), (t2, .inr (0, [.ref m2, .ref k2, .ref v2, .int (nI B.1)])), (m2, .inl (cI, L, .inl B.2.1)), (k2, .inl (cI, L, .inl B.2.2.1)), (v2, .inl (cI, L, .inl B.2.2.2))] s.heap.size = Aq at hD ⊢
  have hA : ∀ q : Nat, s.heap.size ≤ q → Aq q := fun q h => by rw [← hAe]; exact Or.inr h
  have hS : va_S Aq s.heap s.heap [] := va_S.rf
  have hD : va_D Aq [(h0, .inr (1, [.int (nI L), .ref t1, .ref t2, .int (q_nx nx), .int (nI kc), .int (nI w)])), (t1, .inr (0, [.ref m1, .ref k1, .ref v1, .int (nI A.1)])), (m1, .inl (cI, L, .inl A.2.1)), (k1, .inl (cI, L, .inl A.2.2.1)), (v1, .inl (cI, L, .inl A.2.2.2)), (t2, .inr (0, [.ref m2, .ref k2, .ref v2, .int (nI B.1)])), (m2, .inl (cI, L, .inl B.2.1)), (k2, .inl (cI, L, .inl B.2.2.1)), (v2, .inl (cI, L, .inl B.2.2.2))] := hD
  have hP : va_P (dC, dI) vwCl [(h0, .inr (1, [.int (nI L), .ref t1, .ref t2, .int (q_nx nx), .int (nI kc), .int (nI w)])), (t1, .inr (0, [.ref m1, .ref k1, .ref v1, .int (nI A.1)])), (m1, .inl (cI, L, .inl A.2.1)), (k1, .inl (cI, L, .inl A.2.2.1)), (v1, .inl (cI, L, .inl A.2.2.2)), (t2, .inr (0, [.ref m2, .ref k2, .ref v2, .int (nI B.1)])), (m2, .inl (cI, L, .inl B.2.1)), (k2, .inl (cI, L, .inl B.2.2.1)), (v2, .inl (cI, L, .inl B.2.2.2))] s.heap := hP
  have hl := lv_entry ([.ref h0, .int k]) (n := 2) (Nat.le_of_ble_eq_true rfl)
  rw [lg_entry_eq]
  generalize (lg_sl ([.ref h0, .int k]) ++ List.replicate (2 - (lg_sl ([.ref h0, .int k])).length) Slot.unset).toArray = ls at hl ⊢
  have hl : lv_has ls 2 [(0, .ref h0), (1, .int k)] := hl
  have hSZ := hIV.1
  have hkc : kc ≤ 4096 := by have := q_iv_kc hIV; omega
  have hc := q_iv_c hIV
  obtain ⟨hLp, hpA, hAL, hpB, hBL⟩ := id hSZ
  have hL := (q_pw_8 hLp).2
  have hA8 := q_pw_8 hpA
  have hB8 := q_pw_8 hpB
  have heA := q_lkE_lt (t := A) k (by omega)
  have heB := q_lkE_lt (t := B) k (by omega)
  refine lv_aload_n hx hb dX1_has_0 rfl (lv_at hl 0 rfl) ?_
  refine lv_iconst (v := 0) hx hb dX1_has_1 (by decide) ?_
  refine va_put (D := (dC, dI)) (ci := 1) (v := .int 0) (ty := .int) (C := RX1) (T := TX1) (N := 6) hx hb hts hin_X1_has_X1 tyX1 tyX1_ok nmX1 hown hK hP hD hS 0 rfl rfl 5 (by decide) (hts (.fieldLink RX1 35 "StepMap" "work" "I") (by decide +kernel)) (fun _ h9 => h9) rfl (by decide +kernel) (rfl) (rfl) (Nat.le_of_ble_eq_true rfl) dX1_has_2 (fun H locs hP hD hS => ?_)
  have hP : va_P (dC, dI) vwCl [(h0, .inr (1, [.int (nI L), .ref t1, .ref t2, .int (q_nx nx), .int (nI kc), .int 0])), (t1, .inr (0, [.ref m1, .ref k1, .ref v1, .int (nI A.1)])), (m1, .inl (cI, L, .inl A.2.1)), (k1, .inl (cI, L, .inl A.2.2.1)), (v1, .inl (cI, L, .inl A.2.2.2)), (t2, .inr (0, [.ref m2, .ref k2, .ref v2, .int (nI B.1)])), (m2, .inl (cI, L, .inl B.2.1)), (k2, .inl (cI, L, .inl B.2.2.1)), (v2, .inl (cI, L, .inl B.2.2.2))] H := hP
  have hD : va_D Aq [(h0, .inr (1, [.int (nI L), .ref t1, .ref t2, .int (q_nx nx), .int (nI kc), .int 0])), (t1, .inr (0, [.ref m1, .ref k1, .ref v1, .int (nI A.1)])), (m1, .inl (cI, L, .inl A.2.1)), (k1, .inl (cI, L, .inl A.2.2.1)), (v1, .inl (cI, L, .inl A.2.2.2)), (t2, .inr (0, [.ref m2, .ref k2, .ref v2, .int (nI B.1)])), (m2, .inl (cI, L, .inl B.2.1)), (k2, .inl (cI, L, .inl B.2.2.1)), (v2, .inl (cI, L, .inl B.2.2.2))] := hD
  have e_0_5 : 0 = nI 0 := nI_0.symm
  have hP : va_P (dC, dI) vwCl [(h0, .inr (1, [.int (nI L), .ref t1, .ref t2, .int (q_nx nx), .int (nI kc), .int (nI 0)])), (t1, .inr (0, [.ref m1, .ref k1, .ref v1, .int (nI A.1)])), (m1, .inl (cI, L, .inl A.2.1)), (k1, .inl (cI, L, .inl A.2.2.1)), (v1, .inl (cI, L, .inl A.2.2.2)), (t2, .inr (0, [.ref m2, .ref k2, .ref v2, .int (nI B.1)])), (m2, .inl (cI, L, .inl B.2.1)), (k2, .inl (cI, L, .inl B.2.2.1)), (v2, .inl (cI, L, .inl B.2.2.2))] H := by rw [← e_0_5]; exact hP
  have hD : va_D Aq [(h0, .inr (1, [.int (nI L), .ref t1, .ref t2, .int (q_nx nx), .int (nI kc), .int (nI 0)])), (t1, .inr (0, [.ref m1, .ref k1, .ref v1, .int (nI A.1)])), (m1, .inl (cI, L, .inl A.2.1)), (k1, .inl (cI, L, .inl A.2.2.1)), (v1, .inl (cI, L, .inl A.2.2.2)), (t2, .inr (0, [.ref m2, .ref k2, .ref v2, .int (nI B.1)])), (m2, .inl (cI, L, .inl B.2.1)), (k2, .inl (cI, L, .inl B.2.2.1)), (v2, .inl (cI, L, .inl B.2.2.2))] := by rw [← e_0_5]; exact hD
  refine lv_aload_n hx hb dX1_has_5 rfl (lv_at hl 0 rfl) ?_
  refine lv_iload_n hx hb dX1_has_6 rfl (lv_at hl 1 rfl) ?_
  refine r_muI (wr := []) (rest := []) S0 (c_X1_lookUp l dC dI cI h0 t1 m1 k1 v1 t2 m2 k2 v2 L A B nx kc 0 k H.size hSZ hkc hc) (cwV 1 hts gX1_has_X1_lookUp rfl rfl rfl (by decide +kernel) ⟨Nat.le_of_ble_eq_true rfl, Nat.le_of_ble_eq_true rfl⟩) hK hP hD hS hA [0, 1, 2, 3, 4, 5, 6, 7, 8] [] rfl rfl (by decide) (by decide) (by decide) (ci := 1) (q0 := 0) rfl rfl rfl rfl hl.1 rfl (Nat.le_of_ble_eq_true rfl) dX1_has_7 ⟨Nat.zero_le _, Nat.zero_le _⟩ (fun r_7 _ H locs hu hP hD hS => ?_)
  have hP : va_P (dC, dI) vwCl [(h0, .inr (1, [.int (nI L), .ref t1, .ref t2, .int (q_nx nx), .int (nI kc), .int (nI (0 + q_lw A B nx k))])), (t1, .inr (0, [.ref m1, .ref k1, .ref v1, .int (nI A.1)])), (m1, .inl (cI, L, .inl A.2.1)), (k1, .inl (cI, L, .inl A.2.2.1)), (v1, .inl (cI, L, .inl A.2.2.2)), (t2, .inr (0, [.ref m2, .ref k2, .ref v2, .int (nI B.1)])), (m2, .inl (cI, L, .inl B.2.1)), (k2, .inl (cI, L, .inl B.2.2.1)), (v2, .inl (cI, L, .inl B.2.2.2))] H := hP.sub [0, 1, 2, 3, 4, 5, 6, 7, 8] rfl
  have hD : va_D Aq [(h0, .inr (1, [.int (nI L), .ref t1, .ref t2, .int (q_nx nx), .int (nI kc), .int (nI (0 + q_lw A B nx k))])), (t1, .inr (0, [.ref m1, .ref k1, .ref v1, .int (nI A.1)])), (m1, .inl (cI, L, .inl A.2.1)), (k1, .inl (cI, L, .inl A.2.2.1)), (v1, .inl (cI, L, .inl A.2.2.2)), (t2, .inr (0, [.ref m2, .ref k2, .ref v2, .int (nI B.1)])), (m2, .inl (cI, L, .inl B.2.1)), (k2, .inl (cI, L, .inl B.2.2.1)), (v2, .inl (cI, L, .inl B.2.2.2))] := hD.sub [0, 1, 2, 3, 4, 5, 6, 7, 8] (by decide) rfl
  have hu : r_7 = q_place A B nx k := hu
  subst hu
  have e_0_5 : nI (0 + q_lw A B nx k) = nI (q_lw A B nx k) := congrArg nI (Nat.zero_add _)
  have hP : va_P (dC, dI) vwCl [(h0, .inr (1, [.int (nI L), .ref t1, .ref t2, .int (q_nx nx), .int (nI kc), .int (nI (q_lw A B nx k))])), (t1, .inr (0, [.ref m1, .ref k1, .ref v1, .int (nI A.1)])), (m1, .inl (cI, L, .inl A.2.1)), (k1, .inl (cI, L, .inl A.2.2.1)), (v1, .inl (cI, L, .inl A.2.2.2)), (t2, .inr (0, [.ref m2, .ref k2, .ref v2, .int (nI B.1)])), (m2, .inl (cI, L, .inl B.2.1)), (k2, .inl (cI, L, .inl B.2.2.1)), (v2, .inl (cI, L, .inl B.2.2.2))] H := by rw [← e_0_5]; exact hP
  have hD : va_D Aq [(h0, .inr (1, [.int (nI L), .ref t1, .ref t2, .int (q_nx nx), .int (nI kc), .int (nI (q_lw A B nx k))])), (t1, .inr (0, [.ref m1, .ref k1, .ref v1, .int (nI A.1)])), (m1, .inl (cI, L, .inl A.2.1)), (k1, .inl (cI, L, .inl A.2.2.1)), (v1, .inl (cI, L, .inl A.2.2.2)), (t2, .inr (0, [.ref m2, .ref k2, .ref v2, .int (nI B.1)])), (m2, .inl (cI, L, .inl B.2.1)), (k2, .inl (cI, L, .inl B.2.2.1)), (v2, .inl (cI, L, .inl B.2.2.2))] := by rw [← e_0_5]; exact hD
  rcases q_place_c A B nx k with ⟨ha, ep⟩ | ⟨ha, hbt, ep⟩ | ⟨ha, hbt, ep⟩
  · refine r_eq (z := nI (q_lkE A k)) (ep) ?_
    refine lv_if_lt (tgt := 17) hx hb dX1_has_10 (by decide) (fun c_10 => ?_) (fun c_10 => ?_)
    · have h_10 := q_lt_t (a := q_lkE A k) (b := 0) (by omega) (by omega) c_10
      omega
    · have h_10 := q_lt_f (a := q_lkE A k) (b := 0) (by omega) (by omega) c_10
      refine lv_iconst (v := 1) hx hb dX1_has_13 (by decide) ?_
      refine lv_goto (tgt := 18) hx hb dX1_has_14 (by decide) ?_
      exact W.zret (v := 1) hx hb hr (rfl) (fun t ht hW => ⟨⟨_, (), rfl, (q_b_t (Or.inl ha)).symm, by rw [ht]; exact hP, va_K.moved hW.alike hK, hD⟩, hS.F ht⟩) hS.2.2 dX1_has_18
  · refine r_eq (z := nI (2000 + q_lkE B k)) (ep) ?_
    refine lv_if_lt (tgt := 17) hx hb dX1_has_10 (by decide) (fun c_10 => ?_) (fun c_10 => ?_)
    · have h_10 := q_lt_t (a := 2000 + q_lkE B k) (b := 0) (by omega) (by omega) c_10
      omega
    · have h_10 := q_lt_f (a := 2000 + q_lkE B k) (b := 0) (by omega) (by omega) c_10
      refine lv_iconst (v := 1) hx hb dX1_has_13 (by decide) ?_
      refine lv_goto (tgt := 18) hx hb dX1_has_14 (by decide) ?_
      exact W.zret (v := 1) hx hb hr (rfl) (fun t ht hW => ⟨⟨_, (), rfl, (q_b_t (Or.inr hbt)).symm, by rw [ht]; exact hP, va_K.moved hW.alike hK, hD⟩, hS.F ht⟩) hS.2.2 dX1_has_18
  · refine r_eq (z := -1 - nI (q_lkE A k)) (ep) ?_
    refine lv_if_lt (tgt := 17) hx hb dX1_has_10 (by decide) (fun c_10 => ?_) (fun c_10 => ?_)
    · refine lv_iconst (v := 0) hx hb dX1_has_17 (by decide) ?_
      exact W.zret (v := 0) hx hb hr (rfl) (fun t ht hW => ⟨⟨_, (), rfl, (q_b_f (fun z => z.elim ha hbt)).symm, by rw [ht]; exact hP, va_K.moved hW.alike hK, hD⟩, hS.F ht⟩) hS.2.2 dX1_has_18
    · exact absurd (q_neg1 (by omega)) c_10
set_option maxHeartbeats 4000000 in
set_option maxRecDepth 100000 in
theorem c_X1_slot (l : Launch) (dC : Nat → ClassId) (dI : Nat → Nat → Nat) (cI : ClassId) (h0 t1 m1 k1 v1 t2 m2 k2 v2 L : Nat) (A B : q_TB) (nx : Option Nat) (kc w : Nat) (k : Int32) (sz : Nat) (hIV : q_IV L A B nx kc) : Met l yX1_slot wsX1_slot ({ frames := 4, cells := 0, slots := 0, locals := 91 }) (r_Mc (dC, dI) vwCl [(cI, .int)] [(h0, .inr (1, [.int (nI L), .ref t1, .ref t2, .int (q_nx nx), .int (nI kc), .int (nI w)])), (t1, .inr (0, [.ref m1, .ref k1, .ref v1, .int (nI A.1)])), (m1, .inl (cI, L, .inl A.2.1)), (k1, .inl (cI, L, .inl A.2.2.1)), (v1, .inl (cI, L, .inl A.2.2.2)), (t2, .inr (0, [.ref m2, .ref k2, .ref v2, .int (nI B.1)])), (m2, .inl (cI, L, .inl B.2.1)), (k2, .inl (cI, L, .inl B.2.2.1)), (v2, .inl (cI, L, .inl B.2.2.2))] sz [.ref h0, .int k]) (va_Qi (fun (r : Int32) (_ : Unit) => r = q_slot A B nx k) (fun u t => r_B (dC, dI) vwCl [(cI, .int)] (va_A [(h0, .inr (1, [.int (nI L), .ref t1, .ref t2, .int (q_nx nx), .int (nI kc), .int (nI w)])), (t1, .inr (0, [.ref m1, .ref k1, .ref v1, .int (nI A.1)])), (m1, .inl (cI, L, .inl A.2.1)), (k1, .inl (cI, L, .inl A.2.2.1)), (v1, .inl (cI, L, .inl A.2.2.2)), (t2, .inr (0, [.ref m2, .ref k2, .ref v2, .int (nI B.1)])), (m2, .inl (cI, L, .inl B.2.1)), (k2, .inl (cI, L, .inl B.2.2.1)), (v2, .inl (cI, L, .inl B.2.2.2))] sz) ((fun _ => [(h0, .inr (1, [.int (nI L), .ref t1, .ref t2, .int (q_nx nx), .int (nI kc), .int (nI w)])), (t1, .inr (0, [.ref m1, .ref k1, .ref v1, .int (nI A.1)])), (m1, .inl (cI, L, .inl A.2.1)), (k1, .inl (cI, L, .inl A.2.2.1)), (v1, .inl (cI, L, .inl A.2.2.2)), (t2, .inr (0, [.ref m2, .ref k2, .ref v2, .int (nI B.1)])), (m2, .inl (cI, L, .inl B.2.1)), (k2, .inl (cI, L, .inl B.2.2.1)), (v2, .inl (cI, L, .inl B.2.2.2))]) u) t) (va_A [(h0, .inr (1, [.int (nI L), .ref t1, .ref t2, .int (q_nx nx), .int (nI kc), .int (nI w)])), (t1, .inr (0, [.ref m1, .ref k1, .ref v1, .int (nI A.1)])), (m1, .inl (cI, L, .inl A.2.1)), (k1, .inl (cI, L, .inl A.2.2.1)), (v1, .inl (cI, L, .inl A.2.2.2)), (t2, .inr (0, [.ref m2, .ref k2, .ref v2, .int (nI B.1)])), (m2, .inl (cI, L, .inl B.2.1)), (k2, .inl (cI, L, .inl B.2.2.1)), (v2, .inl (cI, L, .inl B.2.2.2))] sz)) 0 0 (va_A [(h0, .inr (1, [.int (nI L), .ref t1, .ref t2, .int (q_nx nx), .int (nI kc), .int (nI w)])), (t1, .inr (0, [.ref m1, .ref k1, .ref v1, .int (nI A.1)])), (m1, .inl (cI, L, .inl A.2.1)), (k1, .inl (cI, L, .inl A.2.2.1)), (v1, .inl (cI, L, .inl A.2.2.2)), (t2, .inr (0, [.ref m2, .ref k2, .ref v2, .int (nI B.1)])), (m2, .inl (cI, L, .inl B.2.1)), (k2, .inl (cI, L, .inl B.2.2.1)), (v2, .inl (cI, L, .inl B.2.2.2))] sz) := by
  refine Met.ofW (cc := cX1_slot) (maxL := 4) (ret := (some .int)) (by decide) rfl ?_
  intro p e s m args below meth c s₁ Bd hml hv
  obtain ⟨rfl, hsz, hP, hK, hD0⟩ := hv
  have hx := Bd.exec
  have hb := Bd.bytes
  have hr := Bd.returns
  have hts := atoms_spec (ws := wsX1_slot) Bd.pre
  have hown : s.vm.findClass RX1 = some m.cls := findClass_of_methodNamed Bd.named
  have hlocks := Bd.notSynchronized
  have S0 : CallFix p m c cX1_slot 4 s _ wsX1_slot RX1 := ⟨hx, hb, hml, hown, hts⟩
  subst hsz
  have hD := hD0.self (sz := s.heap.size)
  generalize hAe : va_A [(h0, .inr (1, [.int (nI L), .ref t1, .ref t2, .int (q_nx nx), .int (nI kc), .int (nI w)])), (t1, .inr (0, [.ref m1, .ref k1, .ref v1, .int (nI A.1)])), (m1, .inl (cI, L, .inl A.2.1)), (k1, .inl (cI, L, .inl A.2.2.1)), (v1, .inl (cI, L, .inl A.2.2.2)), (t2, .inr (0, [.ref m2, .ref k2, .ref v2, .int (nI B.1)])), (m2, .inl (cI, L, .inl B.2.1)), (k2, .inl (cI, L, .inl B.2.2.1)), (v2, .inl (cI, L, .inl B.2.2.2))] s.heap.size = Aq at hD ⊢
  have hA : ∀ q : Nat, s.heap.size ≤ q → Aq q := fun q h => by rw [← hAe]; exact Or.inr h
  have hS : va_S Aq s.heap s.heap [] := va_S.rf
  have hD : va_D Aq [(h0, .inr (1, [.int (nI L), .ref t1, .ref t2, .int (q_nx nx), .int (nI kc), .int (nI w)])), (t1, .inr (0, [.ref m1, .ref k1, .ref v1, .int (nI A.1)])), (m1, .inl (cI, L, .inl A.2.1)), (k1, .inl (cI, L, .inl A.2.2.1)), (v1, .inl (cI, L, .inl A.2.2.2)), (t2, .inr (0, [.ref m2, .ref k2, .ref v2, .int (nI B.1)])), (m2, .inl (cI, L, .inl B.2.1)), (k2, .inl (cI, L, .inl B.2.2.1)), (v2, .inl (cI, L, .inl B.2.2.2))] := hD
  have hP : va_P (dC, dI) vwCl [(h0, .inr (1, [.int (nI L), .ref t1, .ref t2, .int (q_nx nx), .int (nI kc), .int (nI w)])), (t1, .inr (0, [.ref m1, .ref k1, .ref v1, .int (nI A.1)])), (m1, .inl (cI, L, .inl A.2.1)), (k1, .inl (cI, L, .inl A.2.2.1)), (v1, .inl (cI, L, .inl A.2.2.2)), (t2, .inr (0, [.ref m2, .ref k2, .ref v2, .int (nI B.1)])), (m2, .inl (cI, L, .inl B.2.1)), (k2, .inl (cI, L, .inl B.2.2.1)), (v2, .inl (cI, L, .inl B.2.2.2))] s.heap := hP
  have hl := lv_entry ([.ref h0, .int k]) (n := 4) (Nat.le_of_ble_eq_true rfl)
  rw [lg_entry_eq]
  generalize (lg_sl ([.ref h0, .int k]) ++ List.replicate (4 - (lg_sl ([.ref h0, .int k])).length) Slot.unset).toArray = ls at hl ⊢
  have hl : lv_has ls 4 [(0, .ref h0), (1, .int k)] := hl
  have hSZ := hIV.1
  have hkc : kc ≤ 4096 := by have := q_iv_kc hIV; omega
  have hc := q_iv_c hIV
  obtain ⟨hLp, hpA, hAL, hpB, hBL⟩ := id hSZ
  have hL := (q_pw_8 hLp).2
  have hA8 := q_pw_8 hpA
  have hB8 := q_pw_8 hpB
  have heA := q_lkE_lt (t := A) k (by omega)
  have heB := q_lkE_lt (t := B) k (by omega)
  refine lv_aload_n hx hb dX1_slot_0 rfl (lv_at hl 0 rfl) ?_
  refine va_get (D := (dC, dI)) (ci := 1) (v := .int (nI w)) (C := RX1) (T := TX1) (N := 6) hx hb hts hin_X1_slot_X1 hown hK hP 0 rfl rfl 5 (by decide) (hts (.fieldLink RX1 35 "StepMap" "work" "I") (by decide +kernel)) (fun _ h9 => h9) rfl dX1_slot_1 ?_
  refine lv_istore_n (lv' := [(2, .int (nI w)), (0, .ref h0), (1, .int k)]) hx hb dX1_slot_4 rfl hl (by decide) rfl (fun ls hl => ?_)
  refine lv_aload_n hx hb dX1_slot_5 rfl (lv_at hl 1 rfl) ?_
  refine lv_iload_n hx hb dX1_slot_6 rfl (lv_at hl 2 rfl) ?_
  refine r_muI (wr := []) (rest := []) S0 (c_X1_lookUp l dC dI cI h0 t1 m1 k1 v1 t2 m2 k2 v2 L A B nx kc w k s.heap.size hSZ hkc hc) (cwV 1 hts gX1_slot_X1_lookUp rfl rfl rfl (by decide +kernel) ⟨Nat.le_of_ble_eq_true rfl, Nat.le_of_ble_eq_true rfl⟩) hK hP hD hS hA [0, 1, 2, 3, 4, 5, 6, 7, 8] [] rfl rfl (by decide) (by decide) (by decide) (ci := 1) (q0 := 0) rfl rfl rfl rfl hl.1 rfl (Nat.le_of_ble_eq_true rfl) dX1_slot_7 ⟨Nat.zero_le _, Nat.zero_le _⟩ (fun r_7 _ H locs hu hP hD hS => ?_)
  have hP : va_P (dC, dI) vwCl [(h0, .inr (1, [.int (nI L), .ref t1, .ref t2, .int (q_nx nx), .int (nI kc), .int (nI (w + q_lw A B nx k))])), (t1, .inr (0, [.ref m1, .ref k1, .ref v1, .int (nI A.1)])), (m1, .inl (cI, L, .inl A.2.1)), (k1, .inl (cI, L, .inl A.2.2.1)), (v1, .inl (cI, L, .inl A.2.2.2)), (t2, .inr (0, [.ref m2, .ref k2, .ref v2, .int (nI B.1)])), (m2, .inl (cI, L, .inl B.2.1)), (k2, .inl (cI, L, .inl B.2.2.1)), (v2, .inl (cI, L, .inl B.2.2.2))] H := hP.sub [0, 1, 2, 3, 4, 5, 6, 7, 8] rfl
  have hD : va_D Aq [(h0, .inr (1, [.int (nI L), .ref t1, .ref t2, .int (q_nx nx), .int (nI kc), .int (nI (w + q_lw A B nx k))])), (t1, .inr (0, [.ref m1, .ref k1, .ref v1, .int (nI A.1)])), (m1, .inl (cI, L, .inl A.2.1)), (k1, .inl (cI, L, .inl A.2.2.1)), (v1, .inl (cI, L, .inl A.2.2.2)), (t2, .inr (0, [.ref m2, .ref k2, .ref v2, .int (nI B.1)])), (m2, .inl (cI, L, .inl B.2.1)), (k2, .inl (cI, L, .inl B.2.2.1)), (v2, .inl (cI, L, .inl B.2.2.2))] := hD.sub [0, 1, 2, 3, 4, 5, 6, 7, 8] (by decide) rfl
  have hu : r_7 = q_place A B nx k := hu
  subst hu
  rcases q_place_c A B nx k with ⟨ha, ep⟩ | ⟨ha, hbt, ep⟩ | ⟨ha, hbt, ep⟩
  · refine r_eq (z := nI (q_lkE A k)) (ep) ?_
    refine lv_istore_n (lv' := [(3, .int (nI (q_lkE A k))), (2, .int (nI w)), (0, .ref h0), (1, .int k)]) hx hb dX1_slot_10 rfl hl (by decide) rfl (fun ls hl => ?_)
    refine lv_aload_n hx hb dX1_slot_11 rfl (lv_at hl 2 rfl) ?_
    refine lv_iload_n hx hb dX1_slot_12 rfl (lv_at hl 1 rfl) ?_
    refine va_put (D := (dC, dI)) (ci := 1) (v := .int (nI w)) (ty := .int) (C := RX1) (T := TX1) (N := 6) hx hb hts hin_X1_slot_X1 tyX1 tyX1_ok nmX1 hown hK hP hD hS 0 rfl rfl 5 (by decide) (hts (.fieldLink RX1 35 "StepMap" "work" "I") (by decide +kernel)) (fun _ h9 => h9) rfl (by decide +kernel) (rfl) (rfl) (Nat.le_of_ble_eq_true rfl) dX1_slot_13 (fun H locs hP hD hS => ?_)
    have hP : va_P (dC, dI) vwCl [(h0, .inr (1, [.int (nI L), .ref t1, .ref t2, .int (q_nx nx), .int (nI kc), .int (nI w)])), (t1, .inr (0, [.ref m1, .ref k1, .ref v1, .int (nI A.1)])), (m1, .inl (cI, L, .inl A.2.1)), (k1, .inl (cI, L, .inl A.2.2.1)), (v1, .inl (cI, L, .inl A.2.2.2)), (t2, .inr (0, [.ref m2, .ref k2, .ref v2, .int (nI B.1)])), (m2, .inl (cI, L, .inl B.2.1)), (k2, .inl (cI, L, .inl B.2.2.1)), (v2, .inl (cI, L, .inl B.2.2.2))] H := hP
    have hD : va_D Aq [(h0, .inr (1, [.int (nI L), .ref t1, .ref t2, .int (q_nx nx), .int (nI kc), .int (nI w)])), (t1, .inr (0, [.ref m1, .ref k1, .ref v1, .int (nI A.1)])), (m1, .inl (cI, L, .inl A.2.1)), (k1, .inl (cI, L, .inl A.2.2.1)), (v1, .inl (cI, L, .inl A.2.2.2)), (t2, .inr (0, [.ref m2, .ref k2, .ref v2, .int (nI B.1)])), (m2, .inl (cI, L, .inl B.2.1)), (k2, .inl (cI, L, .inl B.2.2.1)), (v2, .inl (cI, L, .inl B.2.2.2))] := hD
    refine lv_iload_n hx hb dX1_slot_16 rfl (lv_at hl 0 rfl) ?_
    refine lv_if_lt (tgt := 24) hx hb dX1_slot_17 (by decide) (fun c_17 => ?_) (fun c_17 => ?_)
    · have h_17 := q_lt_t (a := q_lkE A k) (b := 0) (by omega) (by omega) c_17
      omega
    · have h_17 := q_lt_f (a := q_lkE A k) (b := 0) (by omega) (by omega) c_17
      refine lv_iload_n hx hb dX1_slot_20 rfl (lv_at hl 0 rfl) ?_
      refine lv_goto (tgt := 25) hx hb dX1_slot_21 (by decide) ?_
      exact W.iret (v := nI (q_lkE A k)) hx hb hr (fun t ht hW => ⟨⟨_, (), rfl, (q_slot_A ha).symm, by rw [ht]; exact hP, va_K.moved hW.alike hK, hD⟩, hS.F ht⟩) hS.2.2 dX1_slot_25
  · refine r_eq (z := nI (2000 + q_lkE B k)) (ep) ?_
    refine lv_istore_n (lv' := [(3, .int (nI (2000 + q_lkE B k))), (2, .int (nI w)), (0, .ref h0), (1, .int k)]) hx hb dX1_slot_10 rfl hl (by decide) rfl (fun ls hl => ?_)
    refine lv_aload_n hx hb dX1_slot_11 rfl (lv_at hl 2 rfl) ?_
    refine lv_iload_n hx hb dX1_slot_12 rfl (lv_at hl 1 rfl) ?_
    refine va_put (D := (dC, dI)) (ci := 1) (v := .int (nI w)) (ty := .int) (C := RX1) (T := TX1) (N := 6) hx hb hts hin_X1_slot_X1 tyX1 tyX1_ok nmX1 hown hK hP hD hS 0 rfl rfl 5 (by decide) (hts (.fieldLink RX1 35 "StepMap" "work" "I") (by decide +kernel)) (fun _ h9 => h9) rfl (by decide +kernel) (rfl) (rfl) (Nat.le_of_ble_eq_true rfl) dX1_slot_13 (fun H locs hP hD hS => ?_)
    have hP : va_P (dC, dI) vwCl [(h0, .inr (1, [.int (nI L), .ref t1, .ref t2, .int (q_nx nx), .int (nI kc), .int (nI w)])), (t1, .inr (0, [.ref m1, .ref k1, .ref v1, .int (nI A.1)])), (m1, .inl (cI, L, .inl A.2.1)), (k1, .inl (cI, L, .inl A.2.2.1)), (v1, .inl (cI, L, .inl A.2.2.2)), (t2, .inr (0, [.ref m2, .ref k2, .ref v2, .int (nI B.1)])), (m2, .inl (cI, L, .inl B.2.1)), (k2, .inl (cI, L, .inl B.2.2.1)), (v2, .inl (cI, L, .inl B.2.2.2))] H := hP
    have hD : va_D Aq [(h0, .inr (1, [.int (nI L), .ref t1, .ref t2, .int (q_nx nx), .int (nI kc), .int (nI w)])), (t1, .inr (0, [.ref m1, .ref k1, .ref v1, .int (nI A.1)])), (m1, .inl (cI, L, .inl A.2.1)), (k1, .inl (cI, L, .inl A.2.2.1)), (v1, .inl (cI, L, .inl A.2.2.2)), (t2, .inr (0, [.ref m2, .ref k2, .ref v2, .int (nI B.1)])), (m2, .inl (cI, L, .inl B.2.1)), (k2, .inl (cI, L, .inl B.2.2.1)), (v2, .inl (cI, L, .inl B.2.2.2))] := hD
    refine lv_iload_n hx hb dX1_slot_16 rfl (lv_at hl 0 rfl) ?_
    refine lv_if_lt (tgt := 24) hx hb dX1_slot_17 (by decide) (fun c_17 => ?_) (fun c_17 => ?_)
    · have h_17 := q_lt_t (a := 2000 + q_lkE B k) (b := 0) (by omega) (by omega) c_17
      omega
    · have h_17 := q_lt_f (a := 2000 + q_lkE B k) (b := 0) (by omega) (by omega) c_17
      refine lv_iload_n hx hb dX1_slot_20 rfl (lv_at hl 0 rfl) ?_
      refine lv_goto (tgt := 25) hx hb dX1_slot_21 (by decide) ?_
      exact W.iret (v := nI (2000 + q_lkE B k)) hx hb hr (fun t ht hW => ⟨⟨_, (), rfl, (q_slot_B ha hbt).symm, by rw [ht]; exact hP, va_K.moved hW.alike hK, hD⟩, hS.F ht⟩) hS.2.2 dX1_slot_25
  · refine r_eq (z := -1 - nI (q_lkE A k)) (ep) ?_
    refine lv_istore_n (lv' := [(3, .int (-1 - nI (q_lkE A k))), (2, .int (nI w)), (0, .ref h0), (1, .int k)]) hx hb dX1_slot_10 rfl hl (by decide) rfl (fun ls hl => ?_)
    refine lv_aload_n hx hb dX1_slot_11 rfl (lv_at hl 2 rfl) ?_
    refine lv_iload_n hx hb dX1_slot_12 rfl (lv_at hl 1 rfl) ?_
    refine va_put (D := (dC, dI)) (ci := 1) (v := .int (nI w)) (ty := .int) (C := RX1) (T := TX1) (N := 6) hx hb hts hin_X1_slot_X1 tyX1 tyX1_ok nmX1 hown hK hP hD hS 0 rfl rfl 5 (by decide) (hts (.fieldLink RX1 35 "StepMap" "work" "I") (by decide +kernel)) (fun _ h9 => h9) rfl (by decide +kernel) (rfl) (rfl) (Nat.le_of_ble_eq_true rfl) dX1_slot_13 (fun H locs hP hD hS => ?_)
    have hP : va_P (dC, dI) vwCl [(h0, .inr (1, [.int (nI L), .ref t1, .ref t2, .int (q_nx nx), .int (nI kc), .int (nI w)])), (t1, .inr (0, [.ref m1, .ref k1, .ref v1, .int (nI A.1)])), (m1, .inl (cI, L, .inl A.2.1)), (k1, .inl (cI, L, .inl A.2.2.1)), (v1, .inl (cI, L, .inl A.2.2.2)), (t2, .inr (0, [.ref m2, .ref k2, .ref v2, .int (nI B.1)])), (m2, .inl (cI, L, .inl B.2.1)), (k2, .inl (cI, L, .inl B.2.2.1)), (v2, .inl (cI, L, .inl B.2.2.2))] H := hP
    have hD : va_D Aq [(h0, .inr (1, [.int (nI L), .ref t1, .ref t2, .int (q_nx nx), .int (nI kc), .int (nI w)])), (t1, .inr (0, [.ref m1, .ref k1, .ref v1, .int (nI A.1)])), (m1, .inl (cI, L, .inl A.2.1)), (k1, .inl (cI, L, .inl A.2.2.1)), (v1, .inl (cI, L, .inl A.2.2.2)), (t2, .inr (0, [.ref m2, .ref k2, .ref v2, .int (nI B.1)])), (m2, .inl (cI, L, .inl B.2.1)), (k2, .inl (cI, L, .inl B.2.2.1)), (v2, .inl (cI, L, .inl B.2.2.2))] := hD
    refine lv_iload_n hx hb dX1_slot_16 rfl (lv_at hl 0 rfl) ?_
    refine lv_if_lt (tgt := 24) hx hb dX1_slot_17 (by decide) (fun c_17 => ?_) (fun c_17 => ?_)
    · refine lv_iconst (v := -1) hx hb dX1_slot_24 (by decide) ?_
      exact W.iret (v := -1) hx hb hr (fun t ht hW => ⟨⟨_, (), rfl, (q_slot_N ha hbt).symm, by rw [ht]; exact hP, va_K.moved hW.alike hK, hD⟩, hS.F ht⟩) hS.2.2 dX1_slot_25
    · exact absurd (q_neg1 (by omega)) c_17
set_option maxHeartbeats 4000000 in
set_option maxRecDepth 100000 in
theorem c_X1_put (l : Launch) (dC : Nat → ClassId) (dI : Nat → Nat → Nat) (cI : ClassId) (h0 t1 m1 k1 v1 t2 m2 k2 v2 L : Nat) (A B : q_TB) (nx : Option Nat) (kc w : Nat) (k v : Int32) (sz : Nat) (hIV : q_IV L A B nx kc) : Met l yX1_put wsX1_put ({ frames := 6, cells := 0, slots := 0, locals := 132 }) (r_Mc (dC, dI) vwCl [(cI, .int)] [(h0, .inr (1, [.int (nI L), .ref t1, .ref t2, .int (q_nx nx), .int (nI kc), .int (nI w)])), (t1, .inr (0, [.ref m1, .ref k1, .ref v1, .int (nI A.1)])), (m1, .inl (cI, L, .inl A.2.1)), (k1, .inl (cI, L, .inl A.2.2.1)), (v1, .inl (cI, L, .inl A.2.2.2)), (t2, .inr (0, [.ref m2, .ref k2, .ref v2, .int (nI B.1)])), (m2, .inl (cI, L, .inl B.2.1)), (k2, .inl (cI, L, .inl B.2.2.1)), (v2, .inl (cI, L, .inl B.2.2.2))] sz [.ref h0, .int k, .int v]) (va_Qi (fun (r : Int32) (_ : q_AD) => r = (q_put L A B nx kc k v).1) (fun u t => r_B (dC, dI) vwCl [(cI, .int)] (va_A [(h0, .inr (1, [.int (nI L), .ref t1, .ref t2, .int (q_nx nx), .int (nI kc), .int (nI w)])), (t1, .inr (0, [.ref m1, .ref k1, .ref v1, .int (nI A.1)])), (m1, .inl (cI, L, .inl A.2.1)), (k1, .inl (cI, L, .inl A.2.2.1)), (v1, .inl (cI, L, .inl A.2.2.2)), (t2, .inr (0, [.ref m2, .ref k2, .ref v2, .int (nI B.1)])), (m2, .inl (cI, L, .inl B.2.1)), (k2, .inl (cI, L, .inl B.2.2.1)), (v2, .inl (cI, L, .inl B.2.2.2))] sz) ((fun u => q_WS cI L h0 u (q_put L A B nx kc k v).2) u) t) (va_A [(h0, .inr (1, [.int (nI L), .ref t1, .ref t2, .int (q_nx nx), .int (nI kc), .int (nI w)])), (t1, .inr (0, [.ref m1, .ref k1, .ref v1, .int (nI A.1)])), (m1, .inl (cI, L, .inl A.2.1)), (k1, .inl (cI, L, .inl A.2.2.1)), (v1, .inl (cI, L, .inl A.2.2.2)), (t2, .inr (0, [.ref m2, .ref k2, .ref v2, .int (nI B.1)])), (m2, .inl (cI, L, .inl B.2.1)), (k2, .inl (cI, L, .inl B.2.2.1)), (v2, .inl (cI, L, .inl B.2.2.2))] sz)) 0 0 (va_A [(h0, .inr (1, [.int (nI L), .ref t1, .ref t2, .int (q_nx nx), .int (nI kc), .int (nI w)])), (t1, .inr (0, [.ref m1, .ref k1, .ref v1, .int (nI A.1)])), (m1, .inl (cI, L, .inl A.2.1)), (k1, .inl (cI, L, .inl A.2.2.1)), (v1, .inl (cI, L, .inl A.2.2.2)), (t2, .inr (0, [.ref m2, .ref k2, .ref v2, .int (nI B.1)])), (m2, .inl (cI, L, .inl B.2.1)), (k2, .inl (cI, L, .inl B.2.2.1)), (v2, .inl (cI, L, .inl B.2.2.2))] sz) := by
  refine Met.ofW (cc := cX1_put) (maxL := 4) (ret := (some .int)) (by decide) rfl ?_
  intro p e s m args below meth c s₁ Bd hml hv
  obtain ⟨rfl, hsz, hP, hK, hD0⟩ := hv
  have hx := Bd.exec
  have hb := Bd.bytes
  have hr := Bd.returns
  have hts := atoms_spec (ws := wsX1_put) Bd.pre
  have hown : s.vm.findClass RX1 = some m.cls := findClass_of_methodNamed Bd.named
  have hlocks := Bd.notSynchronized
  have S0 : CallFix p m c cX1_put 4 s _ wsX1_put RX1 := ⟨hx, hb, hml, hown, hts⟩
  subst hsz
  have hD := hD0.self (sz := s.heap.size)
  generalize hAe : va_A [(h0, .inr (1, [.int (nI L), .ref t1, .ref t2, .int (q_nx nx), .int (nI kc), .int (nI w)])), (t1, .inr (0, [.ref m1, .ref k1, .ref v1, .int (nI A.1)])), (m1, .inl (cI, L, .inl A.2.1)), (k1, .inl (cI, L, .inl A.2.2.1)), (v1, .inl (cI, L, .inl A.2.2.2)), (t2, .inr (0, [.ref m2, .ref k2, .ref v2, .int (nI B.1)])), (m2, .inl (cI, L, .inl B.2.1)), (k2, .inl (cI, L, .inl B.2.2.1)), (v2, .inl (cI, L, .inl B.2.2.2))] s.heap.size = Aq at hD ⊢
  have hA : ∀ q : Nat, s.heap.size ≤ q → Aq q := fun q h => by rw [← hAe]; exact Or.inr h
  have hS : va_S Aq s.heap s.heap [] := va_S.rf
  have hD : va_D Aq [(h0, .inr (1, [.int (nI L), .ref t1, .ref t2, .int (q_nx nx), .int (nI kc), .int (nI w)])), (t1, .inr (0, [.ref m1, .ref k1, .ref v1, .int (nI A.1)])), (m1, .inl (cI, L, .inl A.2.1)), (k1, .inl (cI, L, .inl A.2.2.1)), (v1, .inl (cI, L, .inl A.2.2.2)), (t2, .inr (0, [.ref m2, .ref k2, .ref v2, .int (nI B.1)])), (m2, .inl (cI, L, .inl B.2.1)), (k2, .inl (cI, L, .inl B.2.2.1)), (v2, .inl (cI, L, .inl B.2.2.2))] := hD
  have hP : va_P (dC, dI) vwCl [(h0, .inr (1, [.int (nI L), .ref t1, .ref t2, .int (q_nx nx), .int (nI kc), .int (nI w)])), (t1, .inr (0, [.ref m1, .ref k1, .ref v1, .int (nI A.1)])), (m1, .inl (cI, L, .inl A.2.1)), (k1, .inl (cI, L, .inl A.2.2.1)), (v1, .inl (cI, L, .inl A.2.2.2)), (t2, .inr (0, [.ref m2, .ref k2, .ref v2, .int (nI B.1)])), (m2, .inl (cI, L, .inl B.2.1)), (k2, .inl (cI, L, .inl B.2.2.1)), (v2, .inl (cI, L, .inl B.2.2.2))] s.heap := hP
  have hl := lv_entry ([.ref h0, .int k, .int v]) (n := 4) (Nat.le_of_ble_eq_true rfl)
  rw [lg_entry_eq]
  generalize (lg_sl ([.ref h0, .int k, .int v]) ++ List.replicate (4 - (lg_sl ([.ref h0, .int k, .int v])).length) Slot.unset).toArray = ls at hl ⊢
  have hl : lv_has ls 4 [(0, .ref h0), (1, .int k), (2, .int v)] := hl
  have hSZ := hIV.1
  have hkc : kc ≤ 4096 := by have := q_iv_kc hIV; omega
  have hc := q_iv_c hIV
  obtain ⟨hLp, hpA, hAL, hpB, hBL⟩ := id hSZ
  have hL := (q_pw_8 hLp).2
  have hA8 := q_pw_8 hpA
  have hB8 := q_pw_8 hpB
  have heA := q_lkE_lt (t := A) k (by omega)
  have heB := q_lkE_lt (t := B) k (by omega)
  refine lv_aload_n hx hb dX1_put_0 rfl (lv_at hl 0 rfl) ?_
  refine lv_iconst (v := 0) hx hb dX1_put_1 (by decide) ?_
  refine va_put (D := (dC, dI)) (ci := 1) (v := .int 0) (ty := .int) (C := RX1) (T := TX1) (N := 6) hx hb hts hin_X1_put_X1 tyX1 tyX1_ok nmX1 hown hK hP hD hS 0 rfl rfl 5 (by decide) (hts (.fieldLink RX1 35 "StepMap" "work" "I") (by decide +kernel)) (fun _ h9 => h9) rfl (by decide +kernel) (rfl) (rfl) (Nat.le_of_ble_eq_true rfl) dX1_put_2 (fun H locs hP hD hS => ?_)
  have hP : va_P (dC, dI) vwCl [(h0, .inr (1, [.int (nI L), .ref t1, .ref t2, .int (q_nx nx), .int (nI kc), .int 0])), (t1, .inr (0, [.ref m1, .ref k1, .ref v1, .int (nI A.1)])), (m1, .inl (cI, L, .inl A.2.1)), (k1, .inl (cI, L, .inl A.2.2.1)), (v1, .inl (cI, L, .inl A.2.2.2)), (t2, .inr (0, [.ref m2, .ref k2, .ref v2, .int (nI B.1)])), (m2, .inl (cI, L, .inl B.2.1)), (k2, .inl (cI, L, .inl B.2.2.1)), (v2, .inl (cI, L, .inl B.2.2.2))] H := hP
  have hD : va_D Aq [(h0, .inr (1, [.int (nI L), .ref t1, .ref t2, .int (q_nx nx), .int (nI kc), .int 0])), (t1, .inr (0, [.ref m1, .ref k1, .ref v1, .int (nI A.1)])), (m1, .inl (cI, L, .inl A.2.1)), (k1, .inl (cI, L, .inl A.2.2.1)), (v1, .inl (cI, L, .inl A.2.2.2)), (t2, .inr (0, [.ref m2, .ref k2, .ref v2, .int (nI B.1)])), (m2, .inl (cI, L, .inl B.2.1)), (k2, .inl (cI, L, .inl B.2.2.1)), (v2, .inl (cI, L, .inl B.2.2.2))] := hD
  have e_0_5 : 0 = nI 0 := nI_0.symm
  have hP : va_P (dC, dI) vwCl [(h0, .inr (1, [.int (nI L), .ref t1, .ref t2, .int (q_nx nx), .int (nI kc), .int (nI 0)])), (t1, .inr (0, [.ref m1, .ref k1, .ref v1, .int (nI A.1)])), (m1, .inl (cI, L, .inl A.2.1)), (k1, .inl (cI, L, .inl A.2.2.1)), (v1, .inl (cI, L, .inl A.2.2.2)), (t2, .inr (0, [.ref m2, .ref k2, .ref v2, .int (nI B.1)])), (m2, .inl (cI, L, .inl B.2.1)), (k2, .inl (cI, L, .inl B.2.2.1)), (v2, .inl (cI, L, .inl B.2.2.2))] H := by rw [← e_0_5]; exact hP
  have hD : va_D Aq [(h0, .inr (1, [.int (nI L), .ref t1, .ref t2, .int (q_nx nx), .int (nI kc), .int (nI 0)])), (t1, .inr (0, [.ref m1, .ref k1, .ref v1, .int (nI A.1)])), (m1, .inl (cI, L, .inl A.2.1)), (k1, .inl (cI, L, .inl A.2.2.1)), (v1, .inl (cI, L, .inl A.2.2.2)), (t2, .inr (0, [.ref m2, .ref k2, .ref v2, .int (nI B.1)])), (m2, .inl (cI, L, .inl B.2.1)), (k2, .inl (cI, L, .inl B.2.2.1)), (v2, .inl (cI, L, .inl B.2.2.2))] := by rw [← e_0_5]; exact hD
  refine lv_aload_n hx hb dX1_put_5 rfl (lv_at hl 0 rfl) ?_
  refine lv_iload_n hx hb dX1_put_6 rfl (lv_at hl 1 rfl) ?_
  refine r_muI (wr := []) (rest := []) S0 (c_X1_lookUp l dC dI cI h0 t1 m1 k1 v1 t2 m2 k2 v2 L A B nx kc 0 k H.size hSZ hkc hc) (cwV 1 hts gX1_put_X1_lookUp rfl rfl rfl (by decide +kernel) ⟨Nat.le_of_ble_eq_true rfl, Nat.le_of_ble_eq_true rfl⟩) hK hP hD hS hA [0, 1, 2, 3, 4, 5, 6, 7, 8] [] rfl rfl (by decide) (by decide) (by decide) (ci := 1) (q0 := 0) rfl rfl rfl rfl hl.1 rfl (Nat.le_of_ble_eq_true rfl) dX1_put_7 ⟨Nat.zero_le _, Nat.zero_le _⟩ (fun r_7 _ H locs hu hP hD hS => ?_)
  have hP : va_P (dC, dI) vwCl [(h0, .inr (1, [.int (nI L), .ref t1, .ref t2, .int (q_nx nx), .int (nI kc), .int (nI (0 + q_lw A B nx k))])), (t1, .inr (0, [.ref m1, .ref k1, .ref v1, .int (nI A.1)])), (m1, .inl (cI, L, .inl A.2.1)), (k1, .inl (cI, L, .inl A.2.2.1)), (v1, .inl (cI, L, .inl A.2.2.2)), (t2, .inr (0, [.ref m2, .ref k2, .ref v2, .int (nI B.1)])), (m2, .inl (cI, L, .inl B.2.1)), (k2, .inl (cI, L, .inl B.2.2.1)), (v2, .inl (cI, L, .inl B.2.2.2))] H := hP.sub [0, 1, 2, 3, 4, 5, 6, 7, 8] rfl
  have hD : va_D Aq [(h0, .inr (1, [.int (nI L), .ref t1, .ref t2, .int (q_nx nx), .int (nI kc), .int (nI (0 + q_lw A B nx k))])), (t1, .inr (0, [.ref m1, .ref k1, .ref v1, .int (nI A.1)])), (m1, .inl (cI, L, .inl A.2.1)), (k1, .inl (cI, L, .inl A.2.2.1)), (v1, .inl (cI, L, .inl A.2.2.2)), (t2, .inr (0, [.ref m2, .ref k2, .ref v2, .int (nI B.1)])), (m2, .inl (cI, L, .inl B.2.1)), (k2, .inl (cI, L, .inl B.2.2.1)), (v2, .inl (cI, L, .inl B.2.2.2))] := hD.sub [0, 1, 2, 3, 4, 5, 6, 7, 8] (by decide) rfl
  have hu : r_7 = q_place A B nx k := hu
  subst hu
  have e_0_5 : nI (0 + q_lw A B nx k) = nI (q_lw A B nx k) := congrArg nI (Nat.zero_add _)
  have hP : va_P (dC, dI) vwCl [(h0, .inr (1, [.int (nI L), .ref t1, .ref t2, .int (q_nx nx), .int (nI kc), .int (nI (q_lw A B nx k))])), (t1, .inr (0, [.ref m1, .ref k1, .ref v1, .int (nI A.1)])), (m1, .inl (cI, L, .inl A.2.1)), (k1, .inl (cI, L, .inl A.2.2.1)), (v1, .inl (cI, L, .inl A.2.2.2)), (t2, .inr (0, [.ref m2, .ref k2, .ref v2, .int (nI B.1)])), (m2, .inl (cI, L, .inl B.2.1)), (k2, .inl (cI, L, .inl B.2.2.1)), (v2, .inl (cI, L, .inl B.2.2.2))] H := by rw [← e_0_5]; exact hP
  have hD : va_D Aq [(h0, .inr (1, [.int (nI L), .ref t1, .ref t2, .int (q_nx nx), .int (nI kc), .int (nI (q_lw A B nx k))])), (t1, .inr (0, [.ref m1, .ref k1, .ref v1, .int (nI A.1)])), (m1, .inl (cI, L, .inl A.2.1)), (k1, .inl (cI, L, .inl A.2.2.1)), (v1, .inl (cI, L, .inl A.2.2.2)), (t2, .inr (0, [.ref m2, .ref k2, .ref v2, .int (nI B.1)])), (m2, .inl (cI, L, .inl B.2.1)), (k2, .inl (cI, L, .inl B.2.2.1)), (v2, .inl (cI, L, .inl B.2.2.2))] := by rw [← e_0_5]; exact hD
  rcases q_place_c A B nx k with ⟨ha, ep⟩ | ⟨ha, hbt, ep⟩ | ⟨ha, hbt, ep⟩
  · refine r_eq (z := nI (q_lkE A k)) (ep) ?_
    refine lv_istore_n (lv' := [(3, .int (nI (q_lkE A k))), (0, .ref h0), (1, .int k), (2, .int v)]) hx hb dX1_put_10 rfl hl (by decide) rfl (fun ls hl => ?_)
    refine lv_iload_n hx hb dX1_put_11 rfl (lv_at hl 0 rfl) ?_
    refine lv_sipush (v := 2000) hx hb dX1_put_12 (by decide) ?_
    refine lv_icmp_lt (tgt := 34) hx hb dX1_put_15 (by decide) (fun c_15 => ?_) (fun c_15 => ?_)
    · have h_15 := q_lt_t (a := q_lkE A k) (b := 2000) (by omega) (by omega) c_15
      refine lv_iload_n hx hb dX1_put_34 rfl (lv_at hl 0 rfl) ?_
      refine lv_if_lt (tgt := 50) hx hb dX1_put_35 (by decide) (fun c_35 => ?_) (fun c_35 => ?_)
      · have h_35 := q_lt_t (a := q_lkE A k) (b := 0) (by omega) (by omega) c_35
        omega
      · have h_35 := q_lt_f (a := q_lkE A k) (b := 0) (by omega) (by omega) c_35
        refine lv_aload_n hx hb dX1_put_38 rfl (lv_at hl 1 rfl) ?_
        refine va_get (D := (dC, dI)) (ci := 1) (v := .ref t1) (C := RX1) (T := TX1) (N := 6) hx hb hts hin_X1_put_X1 hown hK hP 0 rfl rfl 1 (by decide) (hts (.fieldLink RX1 22 "StepMap" "newTable" "LStepMap$Table;") (by decide +kernel)) (fun _ h9 => h9) rfl dX1_put_39 ?_
        refine va_get (D := (dC, dI)) (ci := 0) (v := .ref v1) (C := RX0) (T := TX0) (N := 4) hx hb hts hin_X1_put_X0 hown hK hP 1 rfl rfl 2 (by decide) (hts (.fieldLink RX1 41 "StepMap$Table" "values" "[I") (by decide +kernel)) (fun _ h9 => h9) rfl dX1_put_42 ?_
        refine lv_iload_n hx hb dX1_put_45 rfl (lv_at hl 0 rfl) ?_
        refine lv_iload_n hx hb dX1_put_46 rfl (lv_at hl 3 rfl) ?_
        refine r_st (i := q_lkE A k) hx hb hK hP hD hS 4 0 rfl rfl (by omega) (by omega) dX1_put_47 (fun H locs hP hD hS => ?_)
        have hP : va_P (dC, dI) vwCl [(h0, .inr (1, [.int (nI L), .ref t1, .ref t2, .int (q_nx nx), .int (nI kc), .int (nI (q_lw A B nx k))])), (t1, .inr (0, [.ref m1, .ref k1, .ref v1, .int (nI A.1)])), (m1, .inl (cI, L, .inl A.2.1)), (k1, .inl (cI, L, .inl A.2.2.1)), (v1, .inl (cI, L, .inl (upd A.2.2.2 (q_lkE A k) v))), (t2, .inr (0, [.ref m2, .ref k2, .ref v2, .int (nI B.1)])), (m2, .inl (cI, L, .inl B.2.1)), (k2, .inl (cI, L, .inl B.2.2.1)), (v2, .inl (cI, L, .inl B.2.2.2))] H := hP
        have hD : va_D Aq [(h0, .inr (1, [.int (nI L), .ref t1, .ref t2, .int (q_nx nx), .int (nI kc), .int (nI (q_lw A B nx k))])), (t1, .inr (0, [.ref m1, .ref k1, .ref v1, .int (nI A.1)])), (m1, .inl (cI, L, .inl A.2.1)), (k1, .inl (cI, L, .inl A.2.2.1)), (v1, .inl (cI, L, .inl (upd A.2.2.2 (q_lkE A k) v))), (t2, .inr (0, [.ref m2, .ref k2, .ref v2, .int (nI B.1)])), (m2, .inl (cI, L, .inl B.2.1)), (k2, .inl (cI, L, .inl B.2.2.1)), (v2, .inl (cI, L, .inl B.2.2.2))] := hD
        refine lv_iconst (v := 0) hx hb dX1_put_48 (by decide) ?_
        have eq := q_put_A (B := B) (nx := nx) (L := L) (kc := kc) (v := v) ha
        have hP : va_P (dC, dI) vwCl (q_WS cI L h0 (t1, m1, k1, v1, t2, m2, k2, v2) (q_put L A B nx kc k v).2) H := by rw [eq]; exact hP
        have hD : va_D Aq (q_WS cI L h0 (t1, m1, k1, v1, t2, m2, k2, v2) (q_put L A B nx kc k v).2) := by rw [eq]; exact hD
        exact W.iret (v := 0) hx hb hr (fun t ht hW => ⟨⟨_, (t1, m1, k1, v1, t2, m2, k2, v2), rfl, by rw [eq], by rw [ht]; exact hP, va_K.moved hW.alike hK, hD⟩, hS.F ht⟩) hS.2.2 dX1_put_49
    · have h_15 := q_lt_f (a := q_lkE A k) (b := 2000) (by omega) (by omega) c_15
      omega
  · refine r_eq (z := nI (2000 + q_lkE B k)) (ep) ?_
    refine lv_istore_n (lv' := [(3, .int (nI (2000 + q_lkE B k))), (0, .ref h0), (1, .int k), (2, .int v)]) hx hb dX1_put_10 rfl hl (by decide) rfl (fun ls hl => ?_)
    refine lv_iload_n hx hb dX1_put_11 rfl (lv_at hl 0 rfl) ?_
    refine lv_sipush (v := 2000) hx hb dX1_put_12 (by decide) ?_
    refine lv_icmp_lt (tgt := 34) hx hb dX1_put_15 (by decide) (fun c_15 => ?_) (fun c_15 => ?_)
    · have h_15 := q_lt_t (a := 2000 + q_lkE B k) (b := 2000) (by omega) (by omega) c_15
      omega
    · have h_15 := q_lt_f (a := 2000 + q_lkE B k) (b := 2000) (by omega) (by omega) c_15
      refine lv_aload_n hx hb dX1_put_18 rfl (lv_at hl 1 rfl) ?_
      refine va_get (D := (dC, dI)) (ci := 1) (v := .ref t2) (C := RX1) (T := TX1) (N := 6) hx hb hts hin_X1_put_X1 hown hK hP 0 rfl rfl 2 (by decide) (hts (.fieldLink RX1 26 "StepMap" "oldTable" "LStepMap$Table;") (by decide +kernel)) (fun _ h9 => h9) rfl dX1_put_19 ?_
      refine va_get (D := (dC, dI)) (ci := 0) (v := .ref v2) (C := RX0) (T := TX0) (N := 4) hx hb hts hin_X1_put_X0 hown hK hP 5 rfl rfl 2 (by decide) (hts (.fieldLink RX1 41 "StepMap$Table" "values" "[I") (by decide +kernel)) (fun _ h9 => h9) rfl dX1_put_22 ?_
      refine lv_iload_n hx hb dX1_put_25 rfl (lv_at hl 0 rfl) ?_
      refine lv_sipush (v := 2000) hx hb dX1_put_26 (by decide) ?_
      refine lv_isub hx hb dX1_put_29 ?_
      refine r_eq (z := nI (q_lkE B k)) (q_2000 _) ?_
      refine lv_iload_n hx hb dX1_put_30 rfl (lv_at hl 3 rfl) ?_
      refine r_st (i := q_lkE B k) hx hb hK hP hD hS 8 0 rfl rfl (by omega) (by omega) dX1_put_31 (fun H locs hP hD hS => ?_)
      have hP : va_P (dC, dI) vwCl [(h0, .inr (1, [.int (nI L), .ref t1, .ref t2, .int (q_nx nx), .int (nI kc), .int (nI (q_lw A B nx k))])), (t1, .inr (0, [.ref m1, .ref k1, .ref v1, .int (nI A.1)])), (m1, .inl (cI, L, .inl A.2.1)), (k1, .inl (cI, L, .inl A.2.2.1)), (v1, .inl (cI, L, .inl A.2.2.2)), (t2, .inr (0, [.ref m2, .ref k2, .ref v2, .int (nI B.1)])), (m2, .inl (cI, L, .inl B.2.1)), (k2, .inl (cI, L, .inl B.2.2.1)), (v2, .inl (cI, L, .inl (upd B.2.2.2 (q_lkE B k) v)))] H := hP
      have hD : va_D Aq [(h0, .inr (1, [.int (nI L), .ref t1, .ref t2, .int (q_nx nx), .int (nI kc), .int (nI (q_lw A B nx k))])), (t1, .inr (0, [.ref m1, .ref k1, .ref v1, .int (nI A.1)])), (m1, .inl (cI, L, .inl A.2.1)), (k1, .inl (cI, L, .inl A.2.2.1)), (v1, .inl (cI, L, .inl A.2.2.2)), (t2, .inr (0, [.ref m2, .ref k2, .ref v2, .int (nI B.1)])), (m2, .inl (cI, L, .inl B.2.1)), (k2, .inl (cI, L, .inl B.2.2.1)), (v2, .inl (cI, L, .inl (upd B.2.2.2 (q_lkE B k) v)))] := hD
      refine lv_iconst (v := 0) hx hb dX1_put_32 (by decide) ?_
      have eq := q_put_B (L := L) (kc := kc) (v := v) ha hbt
      have hP : va_P (dC, dI) vwCl (q_WS cI L h0 (t1, m1, k1, v1, t2, m2, k2, v2) (q_put L A B nx kc k v).2) H := by rw [eq]; exact hP
      have hD : va_D Aq (q_WS cI L h0 (t1, m1, k1, v1, t2, m2, k2, v2) (q_put L A B nx kc k v).2) := by rw [eq]; exact hD
      exact W.iret (v := 0) hx hb hr (fun t ht hW => ⟨⟨_, (t1, m1, k1, v1, t2, m2, k2, v2), rfl, by rw [eq], by rw [ht]; exact hP, va_K.moved hW.alike hK, hD⟩, hS.F ht⟩) hS.2.2 dX1_put_33
  · refine r_eq (z := -1 - nI (q_lkE A k)) (ep) ?_
    refine lv_istore_n (lv' := [(3, .int (-1 - nI (q_lkE A k))), (0, .ref h0), (1, .int k), (2, .int v)]) hx hb dX1_put_10 rfl hl (by decide) rfl (fun ls hl => ?_)
    refine lv_iload_n hx hb dX1_put_11 rfl (lv_at hl 0 rfl) ?_
    refine lv_sipush (v := 2000) hx hb dX1_put_12 (by decide) ?_
    refine lv_icmp_lt (tgt := 34) hx hb dX1_put_15 (by decide) (fun c_15 => ?_) (fun c_15 => ?_)
    · refine lv_iload_n hx hb dX1_put_34 rfl (lv_at hl 0 rfl) ?_
      refine lv_if_lt (tgt := 50) hx hb dX1_put_35 (by decide) (fun c_35 => ?_) (fun c_35 => ?_)
      · refine lv_aload_n hx hb dX1_put_50 rfl (lv_at hl 1 rfl) ?_
        refine r_roV (rest := []) S0 (c_X1_wouldOutgrowHalf l dC dI cI h0 t1 m1 k1 v1 t2 m2 k2 v2 L A B nx kc (q_lw A B nx k) hSZ hkc hc) (cwV 0 hts gX1_put_X1_wouldOutgrowHalf rfl rfl rfl (by decide +kernel) ⟨Nat.le_of_ble_eq_true rfl, Nat.le_of_ble_eq_true rfl⟩) hK hP [0, 1, 2, 3, 4, 5, 6, 7, 8] rfl (ci := 1) (q0 := 0) rfl rfl rfl rfl hl.1 rfl (Nat.le_of_ble_eq_true rfl) dX1_put_51 ⟨Nat.zero_le _, Nat.zero_le _⟩ ?_
        refine lv_if_eq (tgt := 60) hx hb dX1_put_54 (by decide) (fun c_54 => ?_) (fun c_54 => ?_)
        · have h_54 : ¬ (q_full L A B nx kc) := q_b_0.mp c_54
          refine lv_aload_n hx hb dX1_put_60 rfl (lv_at hl 1 rfl) ?_
          refine va_get (D := (dC, dI)) (ci := 1) (v := .ref t1) (C := RX1) (T := TX1) (N := 6) hx hb hts hin_X1_put_X1 hown hK hP 0 rfl rfl 1 (by decide) (hts (.fieldLink RX1 22 "StepMap" "newTable" "LStepMap$Table;") (by decide +kernel)) (fun _ h9 => h9) rfl dX1_put_61 ?_
          refine lv_iload_n hx hb dX1_put_64 rfl (lv_at hl 0 rfl) ?_
          refine r_roS (rest := [.ref t1]) S0 (c_X1_emptySlot l dC dI cI (-1 - nI (q_lkE A k))) (va_cwS 1 hts gX1_put_X1_emptySlot rfl rfl rfl (by decide +kernel) ⟨Nat.le_of_ble_eq_true rfl, Nat.le_of_ble_eq_true rfl⟩) hK hP [] rfl rfl hl.1 rfl (Nat.le_of_ble_eq_true rfl) dX1_put_65 ⟨Nat.zero_le _, Nat.zero_le _⟩ ?_
          refine r_eq (z := nI (q_lkE A k)) (q_neg1' _) ?_
          refine lv_iload_n hx hb dX1_put_68 rfl (lv_at hl 2 rfl) ?_
          refine lv_iload_n hx hb dX1_put_69 rfl (lv_at hl 3 rfl) ?_
          refine r_muV (wr := [(h0, .inr (1, [.int (nI L), .ref t1, .ref t2, .int (q_nx nx), .int (nI kc), .int (nI (q_lw A B nx k))])), (t2, .inr (0, [.ref m2, .ref k2, .ref v2, .int (nI B.1)])), (m2, .inl (cI, L, .inl B.2.1)), (k2, .inl (cI, L, .inl B.2.2.1)), (v2, .inl (cI, L, .inl B.2.2.2))]) (rest := []) S0 (c_X0_fill l dC dI cI t1 m1 k1 v1 L A.1 A.2.1 A.2.2.1 A.2.2.2 (q_lkE A k) k v H.size (by assumption) (by omega) (by omega) (by omega)) (cwV 3 hts gX1_put_X0_fill rfl rfl rfl (by decide +kernel) ⟨Nat.le_of_ble_eq_true rfl, Nat.le_of_ble_eq_true rfl⟩) hK hP hD hS hA [1, 2, 3, 4] [0, 5, 6, 7, 8] rfl rfl (by decide) (by decide) (by decide) (ci := 0) (q0 := 0) rfl rfl rfl rfl hl.1 rfl (Nat.le_of_ble_eq_true rfl) dX1_put_70 ⟨Nat.zero_le _, Nat.zero_le _⟩ (fun _ H locs hu hP hD hS => ?_)
          have hP : va_P (dC, dI) vwCl [(h0, .inr (1, [.int (nI L), .ref t1, .ref t2, .int (q_nx nx), .int (nI kc), .int (nI (q_lw A B nx k))])), (t1, .inr (0, [.ref m1, .ref k1, .ref v1, .int (nI A.1)])), (m1, .inl (cI, L, .inl (upd A.2.1 (q_lkE A k) 2))), (k1, .inl (cI, L, .inl (upd A.2.2.1 (q_lkE A k) k))), (v1, .inl (cI, L, .inl (upd A.2.2.2 (q_lkE A k) v))), (t2, .inr (0, [.ref m2, .ref k2, .ref v2, .int (nI B.1)])), (m2, .inl (cI, L, .inl B.2.1)), (k2, .inl (cI, L, .inl B.2.2.1)), (v2, .inl (cI, L, .inl B.2.2.2))] H := hP.sub [0, 5, 6, 7, 8, 1, 2, 3, 4] rfl
          have hD : va_D Aq [(h0, .inr (1, [.int (nI L), .ref t1, .ref t2, .int (q_nx nx), .int (nI kc), .int (nI (q_lw A B nx k))])), (t1, .inr (0, [.ref m1, .ref k1, .ref v1, .int (nI A.1)])), (m1, .inl (cI, L, .inl (upd A.2.1 (q_lkE A k) 2))), (k1, .inl (cI, L, .inl (upd A.2.2.1 (q_lkE A k) k))), (v1, .inl (cI, L, .inl (upd A.2.2.2 (q_lkE A k) v))), (t2, .inr (0, [.ref m2, .ref k2, .ref v2, .int (nI B.1)])), (m2, .inl (cI, L, .inl B.2.1)), (k2, .inl (cI, L, .inl B.2.2.1)), (v2, .inl (cI, L, .inl B.2.2.2))] := hD.sub [0, 5, 6, 7, 8, 1, 2, 3, 4] (by decide) rfl
          refine lv_aload_n hx hb dX1_put_73 rfl (lv_at hl 1 rfl) ?_
          refine lv_dup hx hb dX1_put_74 rfl ?_
          refine va_get (D := (dC, dI)) (ci := 1) (v := .int (nI kc)) (C := RX1) (T := TX1) (N := 6) hx hb hts hin_X1_put_X1 hown hK hP 0 rfl rfl 4 (by decide) (hts (.fieldLink RX1 57 "StepMap" "keyCount" "I") (by decide +kernel)) (fun _ h9 => h9) rfl dX1_put_75 ?_
          refine lv_iconst (v := 1) hx hb dX1_put_78 (by decide) ?_
          refine lv_iadd hx hb dX1_put_79 ?_
          refine r_eq (z := nI (kc + 1)) (nI_add kc 1) ?_
          refine va_put (D := (dC, dI)) (ci := 1) (v := .int (nI (kc + 1))) (ty := .int) (C := RX1) (T := TX1) (N := 6) hx hb hts hin_X1_put_X1 tyX1 tyX1_ok nmX1 hown hK hP hD hS 0 rfl rfl 4 (by decide) (hts (.fieldLink RX1 57 "StepMap" "keyCount" "I") (by decide +kernel)) (fun _ h9 => h9) rfl (by decide +kernel) (rfl) (rfl) (Nat.le_of_ble_eq_true rfl) dX1_put_80 (fun H locs hP hD hS => ?_)
          have hP : va_P (dC, dI) vwCl [(h0, .inr (1, [.int (nI L), .ref t1, .ref t2, .int (q_nx nx), .int (nI (kc + 1)), .int (nI (q_lw A B nx k))])), (t1, .inr (0, [.ref m1, .ref k1, .ref v1, .int (nI A.1)])), (m1, .inl (cI, L, .inl (upd A.2.1 (q_lkE A k) 2))), (k1, .inl (cI, L, .inl (upd A.2.2.1 (q_lkE A k) k))), (v1, .inl (cI, L, .inl (upd A.2.2.2 (q_lkE A k) v))), (t2, .inr (0, [.ref m2, .ref k2, .ref v2, .int (nI B.1)])), (m2, .inl (cI, L, .inl B.2.1)), (k2, .inl (cI, L, .inl B.2.2.1)), (v2, .inl (cI, L, .inl B.2.2.2))] H := hP
          have hD : va_D Aq [(h0, .inr (1, [.int (nI L), .ref t1, .ref t2, .int (q_nx nx), .int (nI (kc + 1)), .int (nI (q_lw A B nx k))])), (t1, .inr (0, [.ref m1, .ref k1, .ref v1, .int (nI A.1)])), (m1, .inl (cI, L, .inl (upd A.2.1 (q_lkE A k) 2))), (k1, .inl (cI, L, .inl (upd A.2.2.1 (q_lkE A k) k))), (v1, .inl (cI, L, .inl (upd A.2.2.2 (q_lkE A k) v))), (t2, .inr (0, [.ref m2, .ref k2, .ref v2, .int (nI B.1)])), (m2, .inl (cI, L, .inl B.2.1)), (k2, .inl (cI, L, .inl B.2.2.1)), (v2, .inl (cI, L, .inl B.2.2.2))] := hD
          refine lv_aload_n hx hb dX1_put_83 rfl (lv_at hl 1 rfl) ?_
          refine r_muV (wr := []) (rest := []) S0 (c_X1_moveOn l dC dI cI h0 t1 m1 k1 v1 t2 m2 k2 v2 L (A.1, upd A.2.1 (q_lkE A k) 2, upd A.2.2.1 (q_lkE A k) k, upd A.2.2.2 (q_lkE A k) v) B nx (kc + 1) (q_lw A B nx k) H.size (q_iw_put hIV ha hbt h_54)) (cwV 0 hts gX1_put_X1_moveOn rfl rfl rfl (by decide +kernel) ⟨Nat.le_of_ble_eq_true rfl, Nat.le_of_ble_eq_true rfl⟩) hK hP hD hS hA [0, 1, 2, 3, 4, 5, 6, 7, 8] [] rfl rfl (by decide) (by decide) (by decide) (ci := 1) (q0 := 0) rfl rfl rfl rfl hl.1 rfl (Nat.le_of_ble_eq_true rfl) dX1_put_84 ⟨Nat.zero_le _, Nat.zero_le _⟩ (fun u H locs hu hP hD hS => ?_)
          have hP : va_P (dC, dI) vwCl [(h0, .inr (1, [.int (nI L), .ref u.1, .ref u.2.2.2.2.1, .int (q_nx (q_on (A.1, upd A.2.1 (q_lkE A k) 2, upd A.2.2.1 (q_lkE A k) k, upd A.2.2.2 (q_lkE A k) v) B nx (kc + 1) (q_lw A B nx k)).2.2.1), .int (nI (q_on (A.1, upd A.2.1 (q_lkE A k) 2, upd A.2.2.1 (q_lkE A k) k, upd A.2.2.2 (q_lkE A k) v) B nx (kc + 1) (q_lw A B nx k)).2.2.2.1), .int (nI (q_on (A.1, upd A.2.1 (q_lkE A k) 2, upd A.2.2.1 (q_lkE A k) k, upd A.2.2.2 (q_lkE A k) v) B nx (kc + 1) (q_lw A B nx k)).2.2.2.2)])), (u.1, .inr (0, [.ref u.2.1, .ref u.2.2.1, .ref u.2.2.2.1, .int (nI ((q_on (A.1, upd A.2.1 (q_lkE A k) 2, upd A.2.2.1 (q_lkE A k) k, upd A.2.2.2 (q_lkE A k) v) B nx (kc + 1) (q_lw A B nx k)).1.1))])), (u.2.1, .inl (cI, L, .inl ((q_on (A.1, upd A.2.1 (q_lkE A k) 2, upd A.2.2.1 (q_lkE A k) k, upd A.2.2.2 (q_lkE A k) v) B nx (kc + 1) (q_lw A B nx k)).1.2.1))), (u.2.2.1, .inl (cI, L, .inl ((q_on (A.1, upd A.2.1 (q_lkE A k) 2, upd A.2.2.1 (q_lkE A k) k, upd A.2.2.2 (q_lkE A k) v) B nx (kc + 1) (q_lw A B nx k)).1.2.2.1))), (u.2.2.2.1, .inl (cI, L, .inl ((q_on (A.1, upd A.2.1 (q_lkE A k) 2, upd A.2.2.1 (q_lkE A k) k, upd A.2.2.2 (q_lkE A k) v) B nx (kc + 1) (q_lw A B nx k)).1.2.2.2))), (u.2.2.2.2.1, .inr (0, [.ref u.2.2.2.2.2.1, .ref u.2.2.2.2.2.2.1, .ref u.2.2.2.2.2.2.2, .int (nI ((q_on (A.1, upd A.2.1 (q_lkE A k) 2, upd A.2.2.1 (q_lkE A k) k, upd A.2.2.2 (q_lkE A k) v) B nx (kc + 1) (q_lw A B nx k)).2.1.1))])), (u.2.2.2.2.2.1, .inl (cI, L, .inl ((q_on (A.1, upd A.2.1 (q_lkE A k) 2, upd A.2.2.1 (q_lkE A k) k, upd A.2.2.2 (q_lkE A k) v) B nx (kc + 1) (q_lw A B nx k)).2.1.2.1))), (u.2.2.2.2.2.2.1, .inl (cI, L, .inl ((q_on (A.1, upd A.2.1 (q_lkE A k) 2, upd A.2.2.1 (q_lkE A k) k, upd A.2.2.2 (q_lkE A k) v) B nx (kc + 1) (q_lw A B nx k)).2.1.2.2.1))), (u.2.2.2.2.2.2.2, .inl (cI, L, .inl ((q_on (A.1, upd A.2.1 (q_lkE A k) 2, upd A.2.2.1 (q_lkE A k) k, upd A.2.2.2 (q_lkE A k) v) B nx (kc + 1) (q_lw A B nx k)).2.1.2.2.2)))] H := hP.sub [0, 1, 2, 3, 4, 5, 6, 7, 8] rfl
          have hD : va_D Aq [(h0, .inr (1, [.int (nI L), .ref u.1, .ref u.2.2.2.2.1, .int (q_nx (q_on (A.1, upd A.2.1 (q_lkE A k) 2, upd A.2.2.1 (q_lkE A k) k, upd A.2.2.2 (q_lkE A k) v) B nx (kc + 1) (q_lw A B nx k)).2.2.1), .int (nI (q_on (A.1, upd A.2.1 (q_lkE A k) 2, upd A.2.2.1 (q_lkE A k) k, upd A.2.2.2 (q_lkE A k) v) B nx (kc + 1) (q_lw A B nx k)).2.2.2.1), .int (nI (q_on (A.1, upd A.2.1 (q_lkE A k) 2, upd A.2.2.1 (q_lkE A k) k, upd A.2.2.2 (q_lkE A k) v) B nx (kc + 1) (q_lw A B nx k)).2.2.2.2)])), (u.1, .inr (0, [.ref u.2.1, .ref u.2.2.1, .ref u.2.2.2.1, .int (nI ((q_on (A.1, upd A.2.1 (q_lkE A k) 2, upd A.2.2.1 (q_lkE A k) k, upd A.2.2.2 (q_lkE A k) v) B nx (kc + 1) (q_lw A B nx k)).1.1))])), (u.2.1, .inl (cI, L, .inl ((q_on (A.1, upd A.2.1 (q_lkE A k) 2, upd A.2.2.1 (q_lkE A k) k, upd A.2.2.2 (q_lkE A k) v) B nx (kc + 1) (q_lw A B nx k)).1.2.1))), (u.2.2.1, .inl (cI, L, .inl ((q_on (A.1, upd A.2.1 (q_lkE A k) 2, upd A.2.2.1 (q_lkE A k) k, upd A.2.2.2 (q_lkE A k) v) B nx (kc + 1) (q_lw A B nx k)).1.2.2.1))), (u.2.2.2.1, .inl (cI, L, .inl ((q_on (A.1, upd A.2.1 (q_lkE A k) 2, upd A.2.2.1 (q_lkE A k) k, upd A.2.2.2 (q_lkE A k) v) B nx (kc + 1) (q_lw A B nx k)).1.2.2.2))), (u.2.2.2.2.1, .inr (0, [.ref u.2.2.2.2.2.1, .ref u.2.2.2.2.2.2.1, .ref u.2.2.2.2.2.2.2, .int (nI ((q_on (A.1, upd A.2.1 (q_lkE A k) 2, upd A.2.2.1 (q_lkE A k) k, upd A.2.2.2 (q_lkE A k) v) B nx (kc + 1) (q_lw A B nx k)).2.1.1))])), (u.2.2.2.2.2.1, .inl (cI, L, .inl ((q_on (A.1, upd A.2.1 (q_lkE A k) 2, upd A.2.2.1 (q_lkE A k) k, upd A.2.2.2 (q_lkE A k) v) B nx (kc + 1) (q_lw A B nx k)).2.1.2.1))), (u.2.2.2.2.2.2.1, .inl (cI, L, .inl ((q_on (A.1, upd A.2.1 (q_lkE A k) 2, upd A.2.2.1 (q_lkE A k) k, upd A.2.2.2 (q_lkE A k) v) B nx (kc + 1) (q_lw A B nx k)).2.1.2.2.1))), (u.2.2.2.2.2.2.2, .inl (cI, L, .inl ((q_on (A.1, upd A.2.1 (q_lkE A k) 2, upd A.2.2.1 (q_lkE A k) k, upd A.2.2.2 (q_lkE A k) v) B nx (kc + 1) (q_lw A B nx k)).2.1.2.2.2)))] := hD.sub [0, 1, 2, 3, 4, 5, 6, 7, 8] (by decide) rfl
          refine lv_iconst (v := 0) hx hb dX1_put_87 (by decide) ?_
          have eq := q_put_N (v := v) ha hbt h_54
          have hP : va_P (dC, dI) vwCl (q_WS cI L h0 u (q_put L A B nx kc k v).2) H := by rw [eq]; exact hP
          have hD : va_D Aq (q_WS cI L h0 u (q_put L A B nx kc k v).2) := by rw [eq]; exact hD
          exact W.iret (v := 0) hx hb hr (fun t ht hW => ⟨⟨_, u, rfl, by rw [eq], by rw [ht]; exact hP, va_K.moved hW.alike hK, hD⟩, hS.F ht⟩) hS.2.2 dX1_put_88
        · have h_54 : (q_full L A B nx kc) := q_b_n0 c_54
          refine lv_ldc (v := -2000000001) hx hb hown (hts (.constant RX1 49 (-2000000001)) (by decide +kernel)) dX1_put_57 ?_
          have eq := q_put_F (v := v) ha hbt h_54
          have hP : va_P (dC, dI) vwCl (q_WS cI L h0 (t1, m1, k1, v1, t2, m2, k2, v2) (q_put L A B nx kc k v).2) H := by rw [eq]; exact hP
          have hD : va_D Aq (q_WS cI L h0 (t1, m1, k1, v1, t2, m2, k2, v2) (q_put L A B nx kc k v).2) := by rw [eq]; exact hD
          exact W.iret (v := -2000000001) hx hb hr (fun t ht hW => ⟨⟨_, (t1, m1, k1, v1, t2, m2, k2, v2), rfl, by rw [eq], by rw [ht]; exact hP, va_K.moved hW.alike hK, hD⟩, hS.F ht⟩) hS.2.2 dX1_put_59
      · exact absurd (q_neg1 (by omega)) c_35
    · exact absurd (q_neg_lt (by omega)) c_15
set_option maxHeartbeats 4000000 in
set_option maxRecDepth 100000 in
theorem c_X1_remove (l : Launch) (dC : Nat → ClassId) (dI : Nat → Nat → Nat) (cI : ClassId) (h0 t1 m1 k1 v1 t2 m2 k2 v2 L : Nat) (A B : q_TB) (nx : Option Nat) (kc w : Nat) (k : Int32) (sz : Nat) (hIV : q_IV L A B nx kc) : Met l yX1_remove wsX1_remove ({ frames := 6, cells := 0, slots := 0, locals := 132 }) (r_Mc (dC, dI) vwCl [(cI, .int)] [(h0, .inr (1, [.int (nI L), .ref t1, .ref t2, .int (q_nx nx), .int (nI kc), .int (nI w)])), (t1, .inr (0, [.ref m1, .ref k1, .ref v1, .int (nI A.1)])), (m1, .inl (cI, L, .inl A.2.1)), (k1, .inl (cI, L, .inl A.2.2.1)), (v1, .inl (cI, L, .inl A.2.2.2)), (t2, .inr (0, [.ref m2, .ref k2, .ref v2, .int (nI B.1)])), (m2, .inl (cI, L, .inl B.2.1)), (k2, .inl (cI, L, .inl B.2.2.1)), (v2, .inl (cI, L, .inl B.2.2.2))] sz [.ref h0, .int k]) (va_Qi (fun (r : Int32) (_ : q_AD) => r = (q_rem A B nx kc k).1) (fun u t => r_B (dC, dI) vwCl [(cI, .int)] (va_A [(h0, .inr (1, [.int (nI L), .ref t1, .ref t2, .int (q_nx nx), .int (nI kc), .int (nI w)])), (t1, .inr (0, [.ref m1, .ref k1, .ref v1, .int (nI A.1)])), (m1, .inl (cI, L, .inl A.2.1)), (k1, .inl (cI, L, .inl A.2.2.1)), (v1, .inl (cI, L, .inl A.2.2.2)), (t2, .inr (0, [.ref m2, .ref k2, .ref v2, .int (nI B.1)])), (m2, .inl (cI, L, .inl B.2.1)), (k2, .inl (cI, L, .inl B.2.2.1)), (v2, .inl (cI, L, .inl B.2.2.2))] sz) ((fun u => q_WS cI L h0 u (q_rem A B nx kc k).2) u) t) (va_A [(h0, .inr (1, [.int (nI L), .ref t1, .ref t2, .int (q_nx nx), .int (nI kc), .int (nI w)])), (t1, .inr (0, [.ref m1, .ref k1, .ref v1, .int (nI A.1)])), (m1, .inl (cI, L, .inl A.2.1)), (k1, .inl (cI, L, .inl A.2.2.1)), (v1, .inl (cI, L, .inl A.2.2.2)), (t2, .inr (0, [.ref m2, .ref k2, .ref v2, .int (nI B.1)])), (m2, .inl (cI, L, .inl B.2.1)), (k2, .inl (cI, L, .inl B.2.2.1)), (v2, .inl (cI, L, .inl B.2.2.2))] sz)) 0 0 (va_A [(h0, .inr (1, [.int (nI L), .ref t1, .ref t2, .int (q_nx nx), .int (nI kc), .int (nI w)])), (t1, .inr (0, [.ref m1, .ref k1, .ref v1, .int (nI A.1)])), (m1, .inl (cI, L, .inl A.2.1)), (k1, .inl (cI, L, .inl A.2.2.1)), (v1, .inl (cI, L, .inl A.2.2.2)), (t2, .inr (0, [.ref m2, .ref k2, .ref v2, .int (nI B.1)])), (m2, .inl (cI, L, .inl B.2.1)), (k2, .inl (cI, L, .inl B.2.2.1)), (v2, .inl (cI, L, .inl B.2.2.2))] sz) := by
  refine Met.ofW (cc := cX1_remove) (maxL := 3) (ret := (some .boolean)) (by decide) rfl ?_
  intro p e s m args below meth c s₁ Bd hml hv
  obtain ⟨rfl, hsz, hP, hK, hD0⟩ := hv
  have hx := Bd.exec
  have hb := Bd.bytes
  have hr := Bd.returns
  have hts := atoms_spec (ws := wsX1_remove) Bd.pre
  have hown : s.vm.findClass RX1 = some m.cls := findClass_of_methodNamed Bd.named
  have hlocks := Bd.notSynchronized
  have S0 : CallFix p m c cX1_remove 3 s _ wsX1_remove RX1 := ⟨hx, hb, hml, hown, hts⟩
  subst hsz
  have hD := hD0.self (sz := s.heap.size)
  generalize hAe : va_A [(h0, .inr (1, [.int (nI L), .ref t1, .ref t2, .int (q_nx nx), .int (nI kc), .int (nI w)])), (t1, .inr (0, [.ref m1, .ref k1, .ref v1, .int (nI A.1)])), (m1, .inl (cI, L, .inl A.2.1)), (k1, .inl (cI, L, .inl A.2.2.1)), (v1, .inl (cI, L, .inl A.2.2.2)), (t2, .inr (0, [.ref m2, .ref k2, .ref v2, .int (nI B.1)])), (m2, .inl (cI, L, .inl B.2.1)), (k2, .inl (cI, L, .inl B.2.2.1)), (v2, .inl (cI, L, .inl B.2.2.2))] s.heap.size = Aq at hD ⊢
  have hA : ∀ q : Nat, s.heap.size ≤ q → Aq q := fun q h => by rw [← hAe]; exact Or.inr h
  have hS : va_S Aq s.heap s.heap [] := va_S.rf
  have hD : va_D Aq [(h0, .inr (1, [.int (nI L), .ref t1, .ref t2, .int (q_nx nx), .int (nI kc), .int (nI w)])), (t1, .inr (0, [.ref m1, .ref k1, .ref v1, .int (nI A.1)])), (m1, .inl (cI, L, .inl A.2.1)), (k1, .inl (cI, L, .inl A.2.2.1)), (v1, .inl (cI, L, .inl A.2.2.2)), (t2, .inr (0, [.ref m2, .ref k2, .ref v2, .int (nI B.1)])), (m2, .inl (cI, L, .inl B.2.1)), (k2, .inl (cI, L, .inl B.2.2.1)), (v2, .inl (cI, L, .inl B.2.2.2))] := hD
  have hP : va_P (dC, dI) vwCl [(h0, .inr (1, [.int (nI L), .ref t1, .ref t2, .int (q_nx nx), .int (nI kc), .int (nI w)])), (t1, .inr (0, [.ref m1, .ref k1, .ref v1, .int (nI A.1)])), (m1, .inl (cI, L, .inl A.2.1)), (k1, .inl (cI, L, .inl A.2.2.1)), (v1, .inl (cI, L, .inl A.2.2.2)), (t2, .inr (0, [.ref m2, .ref k2, .ref v2, .int (nI B.1)])), (m2, .inl (cI, L, .inl B.2.1)), (k2, .inl (cI, L, .inl B.2.2.1)), (v2, .inl (cI, L, .inl B.2.2.2))] s.heap := hP
  have hl := lv_entry ([.ref h0, .int k]) (n := 3) (Nat.le_of_ble_eq_true rfl)
  rw [lg_entry_eq]
  generalize (lg_sl ([.ref h0, .int k]) ++ List.replicate (3 - (lg_sl ([.ref h0, .int k])).length) Slot.unset).toArray = ls at hl ⊢
  have hl : lv_has ls 3 [(0, .ref h0), (1, .int k)] := hl
  have hSZ := hIV.1
  have hkc : kc ≤ 4096 := by have := q_iv_kc hIV; omega
  have hc := q_iv_c hIV
  obtain ⟨hLp, hpA, hAL, hpB, hBL⟩ := id hSZ
  have hL := (q_pw_8 hLp).2
  have hA8 := q_pw_8 hpA
  have hB8 := q_pw_8 hpB
  have heA := q_lkE_lt (t := A) k (by omega)
  have heB := q_lkE_lt (t := B) k (by omega)
  refine lv_aload_n hx hb dX1_remove_0 rfl (lv_at hl 0 rfl) ?_
  refine lv_iconst (v := 0) hx hb dX1_remove_1 (by decide) ?_
  refine va_put (D := (dC, dI)) (ci := 1) (v := .int 0) (ty := .int) (C := RX1) (T := TX1) (N := 6) hx hb hts hin_X1_remove_X1 tyX1 tyX1_ok nmX1 hown hK hP hD hS 0 rfl rfl 5 (by decide) (hts (.fieldLink RX1 35 "StepMap" "work" "I") (by decide +kernel)) (fun _ h9 => h9) rfl (by decide +kernel) (rfl) (rfl) (Nat.le_of_ble_eq_true rfl) dX1_remove_2 (fun H locs hP hD hS => ?_)
  have hP : va_P (dC, dI) vwCl [(h0, .inr (1, [.int (nI L), .ref t1, .ref t2, .int (q_nx nx), .int (nI kc), .int 0])), (t1, .inr (0, [.ref m1, .ref k1, .ref v1, .int (nI A.1)])), (m1, .inl (cI, L, .inl A.2.1)), (k1, .inl (cI, L, .inl A.2.2.1)), (v1, .inl (cI, L, .inl A.2.2.2)), (t2, .inr (0, [.ref m2, .ref k2, .ref v2, .int (nI B.1)])), (m2, .inl (cI, L, .inl B.2.1)), (k2, .inl (cI, L, .inl B.2.2.1)), (v2, .inl (cI, L, .inl B.2.2.2))] H := hP
  have hD : va_D Aq [(h0, .inr (1, [.int (nI L), .ref t1, .ref t2, .int (q_nx nx), .int (nI kc), .int 0])), (t1, .inr (0, [.ref m1, .ref k1, .ref v1, .int (nI A.1)])), (m1, .inl (cI, L, .inl A.2.1)), (k1, .inl (cI, L, .inl A.2.2.1)), (v1, .inl (cI, L, .inl A.2.2.2)), (t2, .inr (0, [.ref m2, .ref k2, .ref v2, .int (nI B.1)])), (m2, .inl (cI, L, .inl B.2.1)), (k2, .inl (cI, L, .inl B.2.2.1)), (v2, .inl (cI, L, .inl B.2.2.2))] := hD
  have e_0_5 : 0 = nI 0 := nI_0.symm
  have hP : va_P (dC, dI) vwCl [(h0, .inr (1, [.int (nI L), .ref t1, .ref t2, .int (q_nx nx), .int (nI kc), .int (nI 0)])), (t1, .inr (0, [.ref m1, .ref k1, .ref v1, .int (nI A.1)])), (m1, .inl (cI, L, .inl A.2.1)), (k1, .inl (cI, L, .inl A.2.2.1)), (v1, .inl (cI, L, .inl A.2.2.2)), (t2, .inr (0, [.ref m2, .ref k2, .ref v2, .int (nI B.1)])), (m2, .inl (cI, L, .inl B.2.1)), (k2, .inl (cI, L, .inl B.2.2.1)), (v2, .inl (cI, L, .inl B.2.2.2))] H := by rw [← e_0_5]; exact hP
  have hD : va_D Aq [(h0, .inr (1, [.int (nI L), .ref t1, .ref t2, .int (q_nx nx), .int (nI kc), .int (nI 0)])), (t1, .inr (0, [.ref m1, .ref k1, .ref v1, .int (nI A.1)])), (m1, .inl (cI, L, .inl A.2.1)), (k1, .inl (cI, L, .inl A.2.2.1)), (v1, .inl (cI, L, .inl A.2.2.2)), (t2, .inr (0, [.ref m2, .ref k2, .ref v2, .int (nI B.1)])), (m2, .inl (cI, L, .inl B.2.1)), (k2, .inl (cI, L, .inl B.2.2.1)), (v2, .inl (cI, L, .inl B.2.2.2))] := by rw [← e_0_5]; exact hD
  refine lv_aload_n hx hb dX1_remove_5 rfl (lv_at hl 0 rfl) ?_
  refine lv_iload_n hx hb dX1_remove_6 rfl (lv_at hl 1 rfl) ?_
  refine r_muI (wr := []) (rest := []) S0 (c_X1_lookUp l dC dI cI h0 t1 m1 k1 v1 t2 m2 k2 v2 L A B nx kc 0 k H.size hSZ hkc hc) (cwV 1 hts gX1_remove_X1_lookUp rfl rfl rfl (by decide +kernel) ⟨Nat.le_of_ble_eq_true rfl, Nat.le_of_ble_eq_true rfl⟩) hK hP hD hS hA [0, 1, 2, 3, 4, 5, 6, 7, 8] [] rfl rfl (by decide) (by decide) (by decide) (ci := 1) (q0 := 0) rfl rfl rfl rfl hl.1 rfl (Nat.le_of_ble_eq_true rfl) dX1_remove_7 ⟨Nat.zero_le _, Nat.zero_le _⟩ (fun r_7 _ H locs hu hP hD hS => ?_)
  have hP : va_P (dC, dI) vwCl [(h0, .inr (1, [.int (nI L), .ref t1, .ref t2, .int (q_nx nx), .int (nI kc), .int (nI (0 + q_lw A B nx k))])), (t1, .inr (0, [.ref m1, .ref k1, .ref v1, .int (nI A.1)])), (m1, .inl (cI, L, .inl A.2.1)), (k1, .inl (cI, L, .inl A.2.2.1)), (v1, .inl (cI, L, .inl A.2.2.2)), (t2, .inr (0, [.ref m2, .ref k2, .ref v2, .int (nI B.1)])), (m2, .inl (cI, L, .inl B.2.1)), (k2, .inl (cI, L, .inl B.2.2.1)), (v2, .inl (cI, L, .inl B.2.2.2))] H := hP.sub [0, 1, 2, 3, 4, 5, 6, 7, 8] rfl
  have hD : va_D Aq [(h0, .inr (1, [.int (nI L), .ref t1, .ref t2, .int (q_nx nx), .int (nI kc), .int (nI (0 + q_lw A B nx k))])), (t1, .inr (0, [.ref m1, .ref k1, .ref v1, .int (nI A.1)])), (m1, .inl (cI, L, .inl A.2.1)), (k1, .inl (cI, L, .inl A.2.2.1)), (v1, .inl (cI, L, .inl A.2.2.2)), (t2, .inr (0, [.ref m2, .ref k2, .ref v2, .int (nI B.1)])), (m2, .inl (cI, L, .inl B.2.1)), (k2, .inl (cI, L, .inl B.2.2.1)), (v2, .inl (cI, L, .inl B.2.2.2))] := hD.sub [0, 1, 2, 3, 4, 5, 6, 7, 8] (by decide) rfl
  have hu : r_7 = q_place A B nx k := hu
  subst hu
  have e_0_5 : nI (0 + q_lw A B nx k) = nI (q_lw A B nx k) := congrArg nI (Nat.zero_add _)
  have hP : va_P (dC, dI) vwCl [(h0, .inr (1, [.int (nI L), .ref t1, .ref t2, .int (q_nx nx), .int (nI kc), .int (nI (q_lw A B nx k))])), (t1, .inr (0, [.ref m1, .ref k1, .ref v1, .int (nI A.1)])), (m1, .inl (cI, L, .inl A.2.1)), (k1, .inl (cI, L, .inl A.2.2.1)), (v1, .inl (cI, L, .inl A.2.2.2)), (t2, .inr (0, [.ref m2, .ref k2, .ref v2, .int (nI B.1)])), (m2, .inl (cI, L, .inl B.2.1)), (k2, .inl (cI, L, .inl B.2.2.1)), (v2, .inl (cI, L, .inl B.2.2.2))] H := by rw [← e_0_5]; exact hP
  have hD : va_D Aq [(h0, .inr (1, [.int (nI L), .ref t1, .ref t2, .int (q_nx nx), .int (nI kc), .int (nI (q_lw A B nx k))])), (t1, .inr (0, [.ref m1, .ref k1, .ref v1, .int (nI A.1)])), (m1, .inl (cI, L, .inl A.2.1)), (k1, .inl (cI, L, .inl A.2.2.1)), (v1, .inl (cI, L, .inl A.2.2.2)), (t2, .inr (0, [.ref m2, .ref k2, .ref v2, .int (nI B.1)])), (m2, .inl (cI, L, .inl B.2.1)), (k2, .inl (cI, L, .inl B.2.2.1)), (v2, .inl (cI, L, .inl B.2.2.2))] := by rw [← e_0_5]; exact hD
  rcases q_place_c A B nx k with ⟨ha, ep⟩ | ⟨ha, hbt, ep⟩ | ⟨ha, hbt, ep⟩
  · refine r_eq (z := nI (q_lkE A k)) (ep) ?_
    refine lv_istore_n (lv' := [(2, .int (nI (q_lkE A k))), (0, .ref h0), (1, .int k)]) hx hb dX1_remove_10 rfl hl (by decide) rfl (fun ls hl => ?_)
    refine lv_iload_n hx hb dX1_remove_11 rfl (lv_at hl 0 rfl) ?_
    refine lv_if_ge (tgt := 17) hx hb dX1_remove_12 (by decide) (fun c_12 => ?_) (fun c_12 => ?_)
    · have h_12 := q_le_t (a := 0) (b := q_lkE A k) (by omega) (by omega) c_12
      refine lv_iload_n hx hb dX1_remove_17 rfl (lv_at hl 0 rfl) ?_
      refine lv_sipush (v := 2000) hx hb dX1_remove_18 (by decide) ?_
      refine lv_icmp_lt (tgt := 41) hx hb dX1_remove_21 (by decide) (fun c_21 => ?_) (fun c_21 => ?_)
      · have h_21 := q_lt_t (a := q_lkE A k) (b := 2000) (by omega) (by omega) c_21
        refine lv_aload_n hx hb dX1_remove_41 rfl (lv_at hl 1 rfl) ?_
        refine lv_iload_n hx hb dX1_remove_42 rfl (lv_at hl 0 rfl) ?_
        refine r_muV (wr := [(t2, .inr (0, [.ref m2, .ref k2, .ref v2, .int (nI B.1)])), (m2, .inl (cI, L, .inl B.2.1)), (k2, .inl (cI, L, .inl B.2.2.1)), (v2, .inl (cI, L, .inl B.2.2.2))]) (rest := []) S0 (c_X1_freeInNew l dC dI cI h0 t1 m1 k1 v1 t2 L (nI L) (q_nx nx) (nI kc) (q_lw A B nx k) A (q_lkE A k) H.size (by assumption) (by omega) (by omega) (by omega)) (cwV 1 hts gX1_remove_X1_freeInNew rfl rfl rfl (by decide +kernel) ⟨Nat.le_of_ble_eq_true rfl, Nat.le_of_ble_eq_true rfl⟩) hK hP hD hS hA [0, 1, 2, 3, 4] [5, 6, 7, 8] rfl rfl (by decide) (by decide) (by decide) (ci := 1) (q0 := 0) rfl rfl rfl rfl hl.1 rfl (Nat.le_of_ble_eq_true rfl) dX1_remove_43 ⟨Nat.zero_le _, Nat.zero_le _⟩ (fun _ H locs hu hP hD hS => ?_)
        have hP : va_P (dC, dI) vwCl [(h0, .inr (1, [.int (nI L), .ref t1, .ref t2, .int (q_nx nx), .int (nI kc), .int (nI (q_lw A B nx k + ((q_fr A (q_lkE A k)).2 + 1)))])), (t1, .inr (0, [.ref m1, .ref k1, .ref v1, .int (nI ((q_fr A (q_lkE A k)).1.1))])), (m1, .inl (cI, L, .inl ((q_fr A (q_lkE A k)).1.2.1))), (k1, .inl (cI, L, .inl ((q_fr A (q_lkE A k)).1.2.2.1))), (v1, .inl (cI, L, .inl ((q_fr A (q_lkE A k)).1.2.2.2))), (t2, .inr (0, [.ref m2, .ref k2, .ref v2, .int (nI B.1)])), (m2, .inl (cI, L, .inl B.2.1)), (k2, .inl (cI, L, .inl B.2.2.1)), (v2, .inl (cI, L, .inl B.2.2.2))] H := hP.sub [4, 5, 6, 7, 8, 0, 1, 2, 3] rfl
        have hD : va_D Aq [(h0, .inr (1, [.int (nI L), .ref t1, .ref t2, .int (q_nx nx), .int (nI kc), .int (nI (q_lw A B nx k + ((q_fr A (q_lkE A k)).2 + 1)))])), (t1, .inr (0, [.ref m1, .ref k1, .ref v1, .int (nI ((q_fr A (q_lkE A k)).1.1))])), (m1, .inl (cI, L, .inl ((q_fr A (q_lkE A k)).1.2.1))), (k1, .inl (cI, L, .inl ((q_fr A (q_lkE A k)).1.2.2.1))), (v1, .inl (cI, L, .inl ((q_fr A (q_lkE A k)).1.2.2.2))), (t2, .inr (0, [.ref m2, .ref k2, .ref v2, .int (nI B.1)])), (m2, .inl (cI, L, .inl B.2.1)), (k2, .inl (cI, L, .inl B.2.2.1)), (v2, .inl (cI, L, .inl B.2.2.2))] := hD.sub [4, 5, 6, 7, 8, 0, 1, 2, 3] (by decide) rfl
        refine lv_aload_n hx hb dX1_remove_46 rfl (lv_at hl 1 rfl) ?_
        refine lv_dup hx hb dX1_remove_47 rfl ?_
        refine va_get (D := (dC, dI)) (ci := 1) (v := .int (nI kc)) (C := RX1) (T := TX1) (N := 6) hx hb hts hin_X1_remove_X1 hown hK hP 0 rfl rfl 4 (by decide) (hts (.fieldLink RX1 57 "StepMap" "keyCount" "I") (by decide +kernel)) (fun _ h9 => h9) rfl dX1_remove_48 ?_
        refine lv_iconst (v := 1) hx hb dX1_remove_51 (by decide) ?_
        refine lv_isub hx hb dX1_remove_52 ?_
        have hk1 := q_hit_kc hIV ha
        refine r_eq (z := nI (kc - 1)) (pk_sub (b := 1) hk1) ?_
        refine va_put (D := (dC, dI)) (ci := 1) (v := .int (nI (kc - 1))) (ty := .int) (C := RX1) (T := TX1) (N := 6) hx hb hts hin_X1_remove_X1 tyX1 tyX1_ok nmX1 hown hK hP hD hS 0 rfl rfl 4 (by decide) (hts (.fieldLink RX1 57 "StepMap" "keyCount" "I") (by decide +kernel)) (fun _ h9 => h9) rfl (by decide +kernel) (rfl) (rfl) (Nat.le_of_ble_eq_true rfl) dX1_remove_53 (fun H locs hP hD hS => ?_)
        have hP : va_P (dC, dI) vwCl [(h0, .inr (1, [.int (nI L), .ref t1, .ref t2, .int (q_nx nx), .int (nI (kc - 1)), .int (nI (q_lw A B nx k + ((q_fr A (q_lkE A k)).2 + 1)))])), (t1, .inr (0, [.ref m1, .ref k1, .ref v1, .int (nI ((q_fr A (q_lkE A k)).1.1))])), (m1, .inl (cI, L, .inl ((q_fr A (q_lkE A k)).1.2.1))), (k1, .inl (cI, L, .inl ((q_fr A (q_lkE A k)).1.2.2.1))), (v1, .inl (cI, L, .inl ((q_fr A (q_lkE A k)).1.2.2.2))), (t2, .inr (0, [.ref m2, .ref k2, .ref v2, .int (nI B.1)])), (m2, .inl (cI, L, .inl B.2.1)), (k2, .inl (cI, L, .inl B.2.2.1)), (v2, .inl (cI, L, .inl B.2.2.2))] H := hP
        have hD : va_D Aq [(h0, .inr (1, [.int (nI L), .ref t1, .ref t2, .int (q_nx nx), .int (nI (kc - 1)), .int (nI (q_lw A B nx k + ((q_fr A (q_lkE A k)).2 + 1)))])), (t1, .inr (0, [.ref m1, .ref k1, .ref v1, .int (nI ((q_fr A (q_lkE A k)).1.1))])), (m1, .inl (cI, L, .inl ((q_fr A (q_lkE A k)).1.2.1))), (k1, .inl (cI, L, .inl ((q_fr A (q_lkE A k)).1.2.2.1))), (v1, .inl (cI, L, .inl ((q_fr A (q_lkE A k)).1.2.2.2))), (t2, .inr (0, [.ref m2, .ref k2, .ref v2, .int (nI B.1)])), (m2, .inl (cI, L, .inl B.2.1)), (k2, .inl (cI, L, .inl B.2.2.1)), (v2, .inl (cI, L, .inl B.2.2.2))] := hD
        refine lv_aload_n hx hb dX1_remove_56 rfl (lv_at hl 1 rfl) ?_
        refine r_muV (wr := []) (rest := []) S0 (c_X1_moveOn l dC dI cI h0 t1 m1 k1 v1 t2 m2 k2 v2 L ((q_fr A (q_lkE A k)).1) B nx (kc - 1) (q_lw A B nx k + ((q_fr A (q_lkE A k)).2 + 1)) H.size (q_iw_rmA hIV ha)) (cwV 0 hts gX1_remove_X1_moveOn rfl rfl rfl (by decide +kernel) ⟨Nat.le_of_ble_eq_true rfl, Nat.le_of_ble_eq_true rfl⟩) hK hP hD hS hA [0, 1, 2, 3, 4, 5, 6, 7, 8] [] rfl rfl (by decide) (by decide) (by decide) (ci := 1) (q0 := 0) rfl rfl rfl rfl hl.1 rfl (Nat.le_of_ble_eq_true rfl) dX1_remove_57 ⟨Nat.zero_le _, Nat.zero_le _⟩ (fun u H locs hu hP hD hS => ?_)
        have hP : va_P (dC, dI) vwCl [(h0, .inr (1, [.int (nI L), .ref u.1, .ref u.2.2.2.2.1, .int (q_nx (q_on ((q_fr A (q_lkE A k)).1) B nx (kc - 1) (q_lw A B nx k + ((q_fr A (q_lkE A k)).2 + 1))).2.2.1), .int (nI (q_on ((q_fr A (q_lkE A k)).1) B nx (kc - 1) (q_lw A B nx k + ((q_fr A (q_lkE A k)).2 + 1))).2.2.2.1), .int (nI (q_on ((q_fr A (q_lkE A k)).1) B nx (kc - 1) (q_lw A B nx k + ((q_fr A (q_lkE A k)).2 + 1))).2.2.2.2)])), (u.1, .inr (0, [.ref u.2.1, .ref u.2.2.1, .ref u.2.2.2.1, .int (nI ((q_on ((q_fr A (q_lkE A k)).1) B nx (kc - 1) (q_lw A B nx k + ((q_fr A (q_lkE A k)).2 + 1))).1.1))])), (u.2.1, .inl (cI, L, .inl ((q_on ((q_fr A (q_lkE A k)).1) B nx (kc - 1) (q_lw A B nx k + ((q_fr A (q_lkE A k)).2 + 1))).1.2.1))), (u.2.2.1, .inl (cI, L, .inl ((q_on ((q_fr A (q_lkE A k)).1) B nx (kc - 1) (q_lw A B nx k + ((q_fr A (q_lkE A k)).2 + 1))).1.2.2.1))), (u.2.2.2.1, .inl (cI, L, .inl ((q_on ((q_fr A (q_lkE A k)).1) B nx (kc - 1) (q_lw A B nx k + ((q_fr A (q_lkE A k)).2 + 1))).1.2.2.2))), (u.2.2.2.2.1, .inr (0, [.ref u.2.2.2.2.2.1, .ref u.2.2.2.2.2.2.1, .ref u.2.2.2.2.2.2.2, .int (nI ((q_on ((q_fr A (q_lkE A k)).1) B nx (kc - 1) (q_lw A B nx k + ((q_fr A (q_lkE A k)).2 + 1))).2.1.1))])), (u.2.2.2.2.2.1, .inl (cI, L, .inl ((q_on ((q_fr A (q_lkE A k)).1) B nx (kc - 1) (q_lw A B nx k + ((q_fr A (q_lkE A k)).2 + 1))).2.1.2.1))), (u.2.2.2.2.2.2.1, .inl (cI, L, .inl ((q_on ((q_fr A (q_lkE A k)).1) B nx (kc - 1) (q_lw A B nx k + ((q_fr A (q_lkE A k)).2 + 1))).2.1.2.2.1))), (u.2.2.2.2.2.2.2, .inl (cI, L, .inl ((q_on ((q_fr A (q_lkE A k)).1) B nx (kc - 1) (q_lw A B nx k + ((q_fr A (q_lkE A k)).2 + 1))).2.1.2.2.2)))] H := hP.sub [0, 1, 2, 3, 4, 5, 6, 7, 8] rfl
        have hD : va_D Aq [(h0, .inr (1, [.int (nI L), .ref u.1, .ref u.2.2.2.2.1, .int (q_nx (q_on ((q_fr A (q_lkE A k)).1) B nx (kc - 1) (q_lw A B nx k + ((q_fr A (q_lkE A k)).2 + 1))).2.2.1), .int (nI (q_on ((q_fr A (q_lkE A k)).1) B nx (kc - 1) (q_lw A B nx k + ((q_fr A (q_lkE A k)).2 + 1))).2.2.2.1), .int (nI (q_on ((q_fr A (q_lkE A k)).1) B nx (kc - 1) (q_lw A B nx k + ((q_fr A (q_lkE A k)).2 + 1))).2.2.2.2)])), (u.1, .inr (0, [.ref u.2.1, .ref u.2.2.1, .ref u.2.2.2.1, .int (nI ((q_on ((q_fr A (q_lkE A k)).1) B nx (kc - 1) (q_lw A B nx k + ((q_fr A (q_lkE A k)).2 + 1))).1.1))])), (u.2.1, .inl (cI, L, .inl ((q_on ((q_fr A (q_lkE A k)).1) B nx (kc - 1) (q_lw A B nx k + ((q_fr A (q_lkE A k)).2 + 1))).1.2.1))), (u.2.2.1, .inl (cI, L, .inl ((q_on ((q_fr A (q_lkE A k)).1) B nx (kc - 1) (q_lw A B nx k + ((q_fr A (q_lkE A k)).2 + 1))).1.2.2.1))), (u.2.2.2.1, .inl (cI, L, .inl ((q_on ((q_fr A (q_lkE A k)).1) B nx (kc - 1) (q_lw A B nx k + ((q_fr A (q_lkE A k)).2 + 1))).1.2.2.2))), (u.2.2.2.2.1, .inr (0, [.ref u.2.2.2.2.2.1, .ref u.2.2.2.2.2.2.1, .ref u.2.2.2.2.2.2.2, .int (nI ((q_on ((q_fr A (q_lkE A k)).1) B nx (kc - 1) (q_lw A B nx k + ((q_fr A (q_lkE A k)).2 + 1))).2.1.1))])), (u.2.2.2.2.2.1, .inl (cI, L, .inl ((q_on ((q_fr A (q_lkE A k)).1) B nx (kc - 1) (q_lw A B nx k + ((q_fr A (q_lkE A k)).2 + 1))).2.1.2.1))), (u.2.2.2.2.2.2.1, .inl (cI, L, .inl ((q_on ((q_fr A (q_lkE A k)).1) B nx (kc - 1) (q_lw A B nx k + ((q_fr A (q_lkE A k)).2 + 1))).2.1.2.2.1))), (u.2.2.2.2.2.2.2, .inl (cI, L, .inl ((q_on ((q_fr A (q_lkE A k)).1) B nx (kc - 1) (q_lw A B nx k + ((q_fr A (q_lkE A k)).2 + 1))).2.1.2.2.2)))] := hD.sub [0, 1, 2, 3, 4, 5, 6, 7, 8] (by decide) rfl
        refine lv_iconst (v := 1) hx hb dX1_remove_60 (by decide) ?_
        have eq := q_rem_A (B := B) (nx := nx) (kc := kc) ha
        have hP : va_P (dC, dI) vwCl (q_WS cI L h0 u (q_rem A B nx kc k).2) H := by rw [eq]; exact hP
        have hD : va_D Aq (q_WS cI L h0 u (q_rem A B nx kc k).2) := by rw [eq]; exact hD
        exact W.zret (v := 1) hx hb hr (rfl) (fun t ht hW => ⟨⟨_, u, rfl, by rw [eq], by rw [ht]; exact hP, va_K.moved hW.alike hK, hD⟩, hS.F ht⟩) hS.2.2 dX1_remove_61
      · have h_21 := q_lt_f (a := q_lkE A k) (b := 2000) (by omega) (by omega) c_21
        omega
    · have h_12 := q_le_f (a := 0) (b := q_lkE A k) (by omega) (by omega) c_12
      omega
  · refine r_eq (z := nI (2000 + q_lkE B k)) (ep) ?_
    refine lv_istore_n (lv' := [(2, .int (nI (2000 + q_lkE B k))), (0, .ref h0), (1, .int k)]) hx hb dX1_remove_10 rfl hl (by decide) rfl (fun ls hl => ?_)
    refine lv_iload_n hx hb dX1_remove_11 rfl (lv_at hl 0 rfl) ?_
    refine lv_if_ge (tgt := 17) hx hb dX1_remove_12 (by decide) (fun c_12 => ?_) (fun c_12 => ?_)
    · have h_12 := q_le_t (a := 0) (b := 2000 + q_lkE B k) (by omega) (by omega) c_12
      refine lv_iload_n hx hb dX1_remove_17 rfl (lv_at hl 0 rfl) ?_
      refine lv_sipush (v := 2000) hx hb dX1_remove_18 (by decide) ?_
      refine lv_icmp_lt (tgt := 41) hx hb dX1_remove_21 (by decide) (fun c_21 => ?_) (fun c_21 => ?_)
      · have h_21 := q_lt_t (a := 2000 + q_lkE B k) (b := 2000) (by omega) (by omega) c_21
        omega
      · have h_21 := q_lt_f (a := 2000 + q_lkE B k) (b := 2000) (by omega) (by omega) c_21
        refine lv_aload_n hx hb dX1_remove_24 rfl (lv_at hl 1 rfl) ?_
        refine va_get (D := (dC, dI)) (ci := 1) (v := .ref t2) (C := RX1) (T := TX1) (N := 6) hx hb hts hin_X1_remove_X1 hown hK hP 0 rfl rfl 2 (by decide) (hts (.fieldLink RX1 26 "StepMap" "oldTable" "LStepMap$Table;") (by decide +kernel)) (fun _ h9 => h9) rfl dX1_remove_25 ?_
        refine va_get (D := (dC, dI)) (ci := 0) (v := .ref m2) (C := RX0) (T := TX0) (N := 4) hx hb hts hin_X1_remove_X0 hown hK hP 5 rfl rfl 0 (by decide) (hts (.fieldLink RX1 63 "StepMap$Table" "marks" "[I") (by decide +kernel)) (fun _ h9 => h9) rfl dX1_remove_28 ?_
        refine lv_iload_n hx hb dX1_remove_31 rfl (lv_at hl 0 rfl) ?_
        refine lv_sipush (v := 2000) hx hb dX1_remove_32 (by decide) ?_
        refine lv_isub hx hb dX1_remove_35 ?_
        refine r_eq (z := nI (q_lkE B k)) (q_2000 _) ?_
        refine lv_iconst (v := 1) hx hb dX1_remove_36 (by decide) ?_
        refine r_st (i := q_lkE B k) hx hb hK hP hD hS 6 0 rfl rfl (by omega) (by omega) dX1_remove_37 (fun H locs hP hD hS => ?_)
        have hP : va_P (dC, dI) vwCl [(h0, .inr (1, [.int (nI L), .ref t1, .ref t2, .int (q_nx nx), .int (nI kc), .int (nI (q_lw A B nx k))])), (t1, .inr (0, [.ref m1, .ref k1, .ref v1, .int (nI A.1)])), (m1, .inl (cI, L, .inl A.2.1)), (k1, .inl (cI, L, .inl A.2.2.1)), (v1, .inl (cI, L, .inl A.2.2.2)), (t2, .inr (0, [.ref m2, .ref k2, .ref v2, .int (nI B.1)])), (m2, .inl (cI, L, .inl (upd B.2.1 (q_lkE B k) 1))), (k2, .inl (cI, L, .inl B.2.2.1)), (v2, .inl (cI, L, .inl B.2.2.2))] H := hP
        have hD : va_D Aq [(h0, .inr (1, [.int (nI L), .ref t1, .ref t2, .int (q_nx nx), .int (nI kc), .int (nI (q_lw A B nx k))])), (t1, .inr (0, [.ref m1, .ref k1, .ref v1, .int (nI A.1)])), (m1, .inl (cI, L, .inl A.2.1)), (k1, .inl (cI, L, .inl A.2.2.1)), (v1, .inl (cI, L, .inl A.2.2.2)), (t2, .inr (0, [.ref m2, .ref k2, .ref v2, .int (nI B.1)])), (m2, .inl (cI, L, .inl (upd B.2.1 (q_lkE B k) 1))), (k2, .inl (cI, L, .inl B.2.2.1)), (v2, .inl (cI, L, .inl B.2.2.2))] := hD
        refine lv_goto (tgt := 46) hx hb dX1_remove_38 (by decide) ?_
        refine lv_aload_n hx hb dX1_remove_46 rfl (lv_at hl 1 rfl) ?_
        refine lv_dup hx hb dX1_remove_47 rfl ?_
        refine va_get (D := (dC, dI)) (ci := 1) (v := .int (nI kc)) (C := RX1) (T := TX1) (N := 6) hx hb hts hin_X1_remove_X1 hown hK hP 0 rfl rfl 4 (by decide) (hts (.fieldLink RX1 57 "StepMap" "keyCount" "I") (by decide +kernel)) (fun _ h9 => h9) rfl dX1_remove_48 ?_
        refine lv_iconst (v := 1) hx hb dX1_remove_51 (by decide) ?_
        refine lv_isub hx hb dX1_remove_52 ?_
        have hk1 := q_hitB_kc hIV hbt
        refine r_eq (z := nI (kc - 1)) (pk_sub (b := 1) hk1) ?_
        refine va_put (D := (dC, dI)) (ci := 1) (v := .int (nI (kc - 1))) (ty := .int) (C := RX1) (T := TX1) (N := 6) hx hb hts hin_X1_remove_X1 tyX1 tyX1_ok nmX1 hown hK hP hD hS 0 rfl rfl 4 (by decide) (hts (.fieldLink RX1 57 "StepMap" "keyCount" "I") (by decide +kernel)) (fun _ h9 => h9) rfl (by decide +kernel) (rfl) (rfl) (Nat.le_of_ble_eq_true rfl) dX1_remove_53 (fun H locs hP hD hS => ?_)
        have hP : va_P (dC, dI) vwCl [(h0, .inr (1, [.int (nI L), .ref t1, .ref t2, .int (q_nx nx), .int (nI (kc - 1)), .int (nI (q_lw A B nx k))])), (t1, .inr (0, [.ref m1, .ref k1, .ref v1, .int (nI A.1)])), (m1, .inl (cI, L, .inl A.2.1)), (k1, .inl (cI, L, .inl A.2.2.1)), (v1, .inl (cI, L, .inl A.2.2.2)), (t2, .inr (0, [.ref m2, .ref k2, .ref v2, .int (nI B.1)])), (m2, .inl (cI, L, .inl (upd B.2.1 (q_lkE B k) 1))), (k2, .inl (cI, L, .inl B.2.2.1)), (v2, .inl (cI, L, .inl B.2.2.2))] H := hP
        have hD : va_D Aq [(h0, .inr (1, [.int (nI L), .ref t1, .ref t2, .int (q_nx nx), .int (nI (kc - 1)), .int (nI (q_lw A B nx k))])), (t1, .inr (0, [.ref m1, .ref k1, .ref v1, .int (nI A.1)])), (m1, .inl (cI, L, .inl A.2.1)), (k1, .inl (cI, L, .inl A.2.2.1)), (v1, .inl (cI, L, .inl A.2.2.2)), (t2, .inr (0, [.ref m2, .ref k2, .ref v2, .int (nI B.1)])), (m2, .inl (cI, L, .inl (upd B.2.1 (q_lkE B k) 1))), (k2, .inl (cI, L, .inl B.2.2.1)), (v2, .inl (cI, L, .inl B.2.2.2))] := hD
        refine lv_aload_n hx hb dX1_remove_56 rfl (lv_at hl 1 rfl) ?_
        refine r_muV (wr := []) (rest := []) S0 (c_X1_moveOn l dC dI cI h0 t1 m1 k1 v1 t2 m2 k2 v2 L A (B.1, upd B.2.1 (q_lkE B k) 1, B.2.2.1, B.2.2.2) nx (kc - 1) (q_lw A B nx k) H.size (q_iw_rmB' hIV hbt)) (cwV 0 hts gX1_remove_X1_moveOn rfl rfl rfl (by decide +kernel) ⟨Nat.le_of_ble_eq_true rfl, Nat.le_of_ble_eq_true rfl⟩) hK hP hD hS hA [0, 1, 2, 3, 4, 5, 6, 7, 8] [] rfl rfl (by decide) (by decide) (by decide) (ci := 1) (q0 := 0) rfl rfl rfl rfl hl.1 rfl (Nat.le_of_ble_eq_true rfl) dX1_remove_57 ⟨Nat.zero_le _, Nat.zero_le _⟩ (fun u H locs hu hP hD hS => ?_)
        have hP : va_P (dC, dI) vwCl [(h0, .inr (1, [.int (nI L), .ref u.1, .ref u.2.2.2.2.1, .int (q_nx (q_on A (B.1, upd B.2.1 (q_lkE B k) 1, B.2.2.1, B.2.2.2) nx (kc - 1) (q_lw A B nx k)).2.2.1), .int (nI (q_on A (B.1, upd B.2.1 (q_lkE B k) 1, B.2.2.1, B.2.2.2) nx (kc - 1) (q_lw A B nx k)).2.2.2.1), .int (nI (q_on A (B.1, upd B.2.1 (q_lkE B k) 1, B.2.2.1, B.2.2.2) nx (kc - 1) (q_lw A B nx k)).2.2.2.2)])), (u.1, .inr (0, [.ref u.2.1, .ref u.2.2.1, .ref u.2.2.2.1, .int (nI ((q_on A (B.1, upd B.2.1 (q_lkE B k) 1, B.2.2.1, B.2.2.2) nx (kc - 1) (q_lw A B nx k)).1.1))])), (u.2.1, .inl (cI, L, .inl ((q_on A (B.1, upd B.2.1 (q_lkE B k) 1, B.2.2.1, B.2.2.2) nx (kc - 1) (q_lw A B nx k)).1.2.1))), (u.2.2.1, .inl (cI, L, .inl ((q_on A (B.1, upd B.2.1 (q_lkE B k) 1, B.2.2.1, B.2.2.2) nx (kc - 1) (q_lw A B nx k)).1.2.2.1))), (u.2.2.2.1, .inl (cI, L, .inl ((q_on A (B.1, upd B.2.1 (q_lkE B k) 1, B.2.2.1, B.2.2.2) nx (kc - 1) (q_lw A B nx k)).1.2.2.2))), (u.2.2.2.2.1, .inr (0, [.ref u.2.2.2.2.2.1, .ref u.2.2.2.2.2.2.1, .ref u.2.2.2.2.2.2.2, .int (nI ((q_on A (B.1, upd B.2.1 (q_lkE B k) 1, B.2.2.1, B.2.2.2) nx (kc - 1) (q_lw A B nx k)).2.1.1))])), (u.2.2.2.2.2.1, .inl (cI, L, .inl ((q_on A (B.1, upd B.2.1 (q_lkE B k) 1, B.2.2.1, B.2.2.2) nx (kc - 1) (q_lw A B nx k)).2.1.2.1))), (u.2.2.2.2.2.2.1, .inl (cI, L, .inl ((q_on A (B.1, upd B.2.1 (q_lkE B k) 1, B.2.2.1, B.2.2.2) nx (kc - 1) (q_lw A B nx k)).2.1.2.2.1))), (u.2.2.2.2.2.2.2, .inl (cI, L, .inl ((q_on A (B.1, upd B.2.1 (q_lkE B k) 1, B.2.2.1, B.2.2.2) nx (kc - 1) (q_lw A B nx k)).2.1.2.2.2)))] H := hP.sub [0, 1, 2, 3, 4, 5, 6, 7, 8] rfl
        have hD : va_D Aq [(h0, .inr (1, [.int (nI L), .ref u.1, .ref u.2.2.2.2.1, .int (q_nx (q_on A (B.1, upd B.2.1 (q_lkE B k) 1, B.2.2.1, B.2.2.2) nx (kc - 1) (q_lw A B nx k)).2.2.1), .int (nI (q_on A (B.1, upd B.2.1 (q_lkE B k) 1, B.2.2.1, B.2.2.2) nx (kc - 1) (q_lw A B nx k)).2.2.2.1), .int (nI (q_on A (B.1, upd B.2.1 (q_lkE B k) 1, B.2.2.1, B.2.2.2) nx (kc - 1) (q_lw A B nx k)).2.2.2.2)])), (u.1, .inr (0, [.ref u.2.1, .ref u.2.2.1, .ref u.2.2.2.1, .int (nI ((q_on A (B.1, upd B.2.1 (q_lkE B k) 1, B.2.2.1, B.2.2.2) nx (kc - 1) (q_lw A B nx k)).1.1))])), (u.2.1, .inl (cI, L, .inl ((q_on A (B.1, upd B.2.1 (q_lkE B k) 1, B.2.2.1, B.2.2.2) nx (kc - 1) (q_lw A B nx k)).1.2.1))), (u.2.2.1, .inl (cI, L, .inl ((q_on A (B.1, upd B.2.1 (q_lkE B k) 1, B.2.2.1, B.2.2.2) nx (kc - 1) (q_lw A B nx k)).1.2.2.1))), (u.2.2.2.1, .inl (cI, L, .inl ((q_on A (B.1, upd B.2.1 (q_lkE B k) 1, B.2.2.1, B.2.2.2) nx (kc - 1) (q_lw A B nx k)).1.2.2.2))), (u.2.2.2.2.1, .inr (0, [.ref u.2.2.2.2.2.1, .ref u.2.2.2.2.2.2.1, .ref u.2.2.2.2.2.2.2, .int (nI ((q_on A (B.1, upd B.2.1 (q_lkE B k) 1, B.2.2.1, B.2.2.2) nx (kc - 1) (q_lw A B nx k)).2.1.1))])), (u.2.2.2.2.2.1, .inl (cI, L, .inl ((q_on A (B.1, upd B.2.1 (q_lkE B k) 1, B.2.2.1, B.2.2.2) nx (kc - 1) (q_lw A B nx k)).2.1.2.1))), (u.2.2.2.2.2.2.1, .inl (cI, L, .inl ((q_on A (B.1, upd B.2.1 (q_lkE B k) 1, B.2.2.1, B.2.2.2) nx (kc - 1) (q_lw A B nx k)).2.1.2.2.1))), (u.2.2.2.2.2.2.2, .inl (cI, L, .inl ((q_on A (B.1, upd B.2.1 (q_lkE B k) 1, B.2.2.1, B.2.2.2) nx (kc - 1) (q_lw A B nx k)).2.1.2.2.2)))] := hD.sub [0, 1, 2, 3, 4, 5, 6, 7, 8] (by decide) rfl
        refine lv_iconst (v := 1) hx hb dX1_remove_60 (by decide) ?_
        have eq := q_rem_B (kc := kc) ha hbt
        have hP : va_P (dC, dI) vwCl (q_WS cI L h0 u (q_rem A B nx kc k).2) H := by rw [eq]; exact hP
        have hD : va_D Aq (q_WS cI L h0 u (q_rem A B nx kc k).2) := by rw [eq]; exact hD
        exact W.zret (v := 1) hx hb hr (rfl) (fun t ht hW => ⟨⟨_, u, rfl, by rw [eq], by rw [ht]; exact hP, va_K.moved hW.alike hK, hD⟩, hS.F ht⟩) hS.2.2 dX1_remove_61
    · have h_12 := q_le_f (a := 0) (b := 2000 + q_lkE B k) (by omega) (by omega) c_12
      omega
  · refine r_eq (z := -1 - nI (q_lkE A k)) (ep) ?_
    refine lv_istore_n (lv' := [(2, .int (-1 - nI (q_lkE A k))), (0, .ref h0), (1, .int k)]) hx hb dX1_remove_10 rfl hl (by decide) rfl (fun ls hl => ?_)
    refine lv_iload_n hx hb dX1_remove_11 rfl (lv_at hl 0 rfl) ?_
    refine lv_if_ge (tgt := 17) hx hb dX1_remove_12 (by decide) (fun c_12 => ?_) (fun c_12 => ?_)
    · exact absurd c_12 (q_neg_ge (by omega))
    · refine lv_iconst (v := 0) hx hb dX1_remove_15 (by decide) ?_
      have eq := q_rem_N (kc := kc) ha hbt
      have hP : va_P (dC, dI) vwCl (q_WS cI L h0 (t1, m1, k1, v1, t2, m2, k2, v2) (q_rem A B nx kc k).2) H := by rw [eq]; exact hP
      have hD : va_D Aq (q_WS cI L h0 (t1, m1, k1, v1, t2, m2, k2, v2) (q_rem A B nx kc k).2) := by rw [eq]; exact hD
      exact W.zret (v := 0) hx hb hr (rfl) (fun t ht hW => ⟨⟨_, (t1, m1, k1, v1, t2, m2, k2, v2), rfl, by rw [eq], by rw [ht]; exact hP, va_K.moved hW.alike hK, hD⟩, hS.F ht⟩) hS.2.2 dX1_remove_16
