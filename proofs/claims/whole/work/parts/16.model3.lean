/-! MODEL: the public calls of the reference (laid by gen_model3.py) -/
theorem hin_X2_find_X2 : ∀ w ∈ wsX20, w ∈ wsX2_find := by decide +kernel
theorem hin_X2_put_X2 : ∀ w ∈ wsX20, w ∈ wsX2_put := by decide +kernel
theorem hin_X2_get_X2 : ∀ w ∈ wsX20, w ∈ wsX2_get := by decide +kernel
theorem hin_X2_has_X2 : ∀ w ∈ wsX20, w ∈ wsX2_has := by decide +kernel
theorem hin_X2_remove_X2 : ∀ w ∈ wsX20, w ∈ wsX2_remove := by decide +kernel
theorem hin_X2_slot_X2 : ∀ w ∈ wsX20, w ∈ wsX2_slot := by decide +kernel
theorem hin_X2_size_X2 : ∀ w ∈ wsX20, w ∈ wsX2_size := by decide +kernel
theorem hin_X2_capacity_X2 : ∀ w ∈ wsX20, w ∈ wsX2_capacity := by decide +kernel
theorem hin_X2_migrating_X2 : ∀ w ∈ wsX20, w ∈ wsX2_migrating := by decide +kernel
theorem hin_X2_lastWork_X2 : ∀ w ∈ wsX20, w ∈ wsX2_lastWork := by decide +kernel
theorem hin_X2_cursor_X2 : ∀ w ∈ wsX20, w ∈ wsX2_cursor := by decide +kernel
set_option maxHeartbeats 4000000 in
set_option maxRecDepth 100000 in
theorem c_X2_find (l : Launch) (dC : Nat → ClassId) (dI : Nat → Nat → Nat) (cI : ClassId) (g0 gs gk gv gz L : Nat) (Sx Kx Vx Zx : Nat → Int32) (x0 x8 x9 x11 : Int32) (ci vi : Nat) (A B : q_TB) (nx : Option Nat) (k : Int32) (sz : Nat) (hSZ : q_SZ L A B) (hEM : q_EM A) (hEB : ∀ c, nx = some c → q_EM B) (hci : ci < 2) (hzA : Zx ci = nI A.1) (hRTA : q_RT Sx Kx Vx ci A) (hcr : ∀ c, nx = some c → x8 = nI c ∧ Zx (1 - ci) = nI B.1 ∧ q_RT Sx Kx Vx (1 - ci) B) : Met l yX2_find wsX2_find ({ frames := 2, cells := 0, slots := 0, locals := 47 }) (r_Mc (dC, dI) vwCl [(cI, .int)] [(g0, .inr (2, [.int x0, .int (nI L), .ref gs, .ref gk, .ref gv, .ref gz, .int (nI ci), .int (q_b (nx.isSome = true)), .int x8, .int x9, .int (nI vi), .int x11])), (gs, .inl (cI, 2048, .inl Sx)), (gk, .inl (cI, 2048, .inl Kx)), (gv, .inl (cI, 2048, .inl Vx)), (gz, .inl (cI, 2, .inl Zx))] sz [.ref g0, .int k]) (va_Qi (fun (r : Int32) (_ : Unit) => r = q_fnd A B nx k ci) (fun u t => r_B (dC, dI) vwCl [(cI, .int)] (va_A [(g0, .inr (2, [.int x0, .int (nI L), .ref gs, .ref gk, .ref gv, .ref gz, .int (nI ci), .int (q_b (nx.isSome = true)), .int x8, .int x9, .int (nI vi), .int x11])), (gs, .inl (cI, 2048, .inl Sx)), (gk, .inl (cI, 2048, .inl Kx)), (gv, .inl (cI, 2048, .inl Vx)), (gz, .inl (cI, 2, .inl Zx))] sz) ((fun _ => [(g0, .inr (2, [.int x0, .int (nI L), .ref gs, .ref gk, .ref gv, .ref gz, .int (nI ci), .int (q_b (nx.isSome = true)), .int x8, .int x9, .int (nI (vi + q_lw A B nx k)), .int x11])), (gs, .inl (cI, 2048, .inl Sx)), (gk, .inl (cI, 2048, .inl Kx)), (gv, .inl (cI, 2048, .inl Vx)), (gz, .inl (cI, 2, .inl Zx))]) u) t) (va_A [(g0, .inr (2, [.int x0, .int (nI L), .ref gs, .ref gk, .ref gv, .ref gz, .int (nI ci), .int (q_b (nx.isSome = true)), .int x8, .int x9, .int (nI vi), .int x11])), (gs, .inl (cI, 2048, .inl Sx)), (gk, .inl (cI, 2048, .inl Kx)), (gv, .inl (cI, 2048, .inl Vx)), (gz, .inl (cI, 2, .inl Zx))] sz)) 0 0 (va_A [(g0, .inr (2, [.int x0, .int (nI L), .ref gs, .ref gk, .ref gv, .ref gz, .int (nI ci), .int (q_b (nx.isSome = true)), .int x8, .int x9, .int (nI vi), .int x11])), (gs, .inl (cI, 2048, .inl Sx)), (gk, .inl (cI, 2048, .inl Kx)), (gv, .inl (cI, 2048, .inl Vx)), (gz, .inl (cI, 2, .inl Zx))] sz) := by
  refine Met.ofW (cc := cX2_find) (maxL := 4) (ret := (some .int)) (by decide) rfl ?_
  intro p e s m args below meth c s₁ Bd hml hv
  obtain ⟨rfl, hsz, hP, hK, hD0⟩ := hv
  have hx := Bd.exec
  have hb := Bd.bytes
  have hr := Bd.returns
  have hts := atoms_spec (ws := wsX2_find) Bd.pre
  have hown : s.vm.findClass RX2 = some m.cls := findClass_of_methodNamed Bd.named
  have hlocks := Bd.notSynchronized
  have S0 : CallFix p m c cX2_find 4 s _ wsX2_find RX2 := ⟨hx, hb, hml, hown, hts⟩
  subst hsz
  have hD := hD0.self (sz := s.heap.size)
  generalize hAe : va_A [(g0, .inr (2, [.int x0, .int (nI L), .ref gs, .ref gk, .ref gv, .ref gz, .int (nI ci), .int (q_b (nx.isSome = true)), .int x8, .int x9, .int (nI vi), .int x11])), (gs, .inl (cI, 2048, .inl Sx)), (gk, .inl (cI, 2048, .inl Kx)), (gv, .inl (cI, 2048, .inl Vx)), (gz, .inl (cI, 2, .inl Zx))] s.heap.size = Aq at hD ⊢
  have hA : ∀ q : Nat, s.heap.size ≤ q → Aq q := fun q h => by rw [← hAe]; exact Or.inr h
  have hS : va_S Aq s.heap s.heap [] := va_S.rf
  have hD : va_D Aq [(g0, .inr (2, [.int x0, .int (nI L), .ref gs, .ref gk, .ref gv, .ref gz, .int (nI ci), .int (q_b (nx.isSome = true)), .int x8, .int x9, .int (nI vi), .int x11])), (gs, .inl (cI, 2048, .inl Sx)), (gk, .inl (cI, 2048, .inl Kx)), (gv, .inl (cI, 2048, .inl Vx)), (gz, .inl (cI, 2, .inl Zx))] := hD
  have hP : va_P (dC, dI) vwCl [(g0, .inr (2, [.int x0, .int (nI L), .ref gs, .ref gk, .ref gv, .ref gz, .int (nI ci), .int (q_b (nx.isSome = true)), .int x8, .int x9, .int (nI vi), .int x11])), (gs, .inl (cI, 2048, .inl Sx)), (gk, .inl (cI, 2048, .inl Kx)), (gv, .inl (cI, 2048, .inl Vx)), (gz, .inl (cI, 2, .inl Zx))] s.heap := hP
  have hl := lv_entry ([.ref g0, .int k]) (n := 4) (Nat.le_of_ble_eq_true rfl)
  rw [lg_entry_eq]
  generalize (lg_sl ([.ref g0, .int k]) ++ List.replicate (4 - (lg_sl ([.ref g0, .int k])).length) Slot.unset).toArray = ls at hl ⊢
  have hl : lv_has ls 4 [(0, .ref g0), (1, .int k)] := hl
  obtain ⟨hLp, hpA, hAL, hpB, hBL⟩ := id hSZ
  have hL := (q_pw_8 hLp).2
  have hA8 := q_pw_8 hpA
  have hB8 := q_pw_8 hpB
  have heA := q_lkE_lt (t := A) k (by omega)
  have heB := q_lkE_lt (t := B) k (by omega)
  refine lv_aload_n hx hb dX2_find_0 rfl (lv_at hl 0 rfl) ?_
  refine lv_iload_n hx hb dX2_find_1 rfl (lv_at hl 1 rfl) ?_
  refine lv_aload_n hx hb dX2_find_2 rfl (lv_at hl 0 rfl) ?_
  refine va_get (D := (dC, dI)) (ci := 2) (v := .int (nI ci)) (C := RX2) (T := TX2) (N := 12) hx hb hts hin_X2_find_X2 hown hK hP 0 rfl rfl 6 (by decide) (hts (.fieldLink RX2 43 "StepMapModel" "current" "I") (by decide +kernel)) (fun _ h9 => h9) rfl dX2_find_3 ?_
  refine r_muI (wr := []) (rest := []) S0 (c_X2_look l dC dI cI g0 gs gk gv gz L Sx Kx Vx Zx x0 (nI ci) (q_b (nx.isSome = true)) x8 x9 x11 vi ci A k s.heap.size (by omega) hzA hpA hRTA hEM) (cwV 2 hts gX2_find_X2_look rfl rfl rfl (by decide +kernel) ⟨Nat.le_of_ble_eq_true rfl, Nat.le_of_ble_eq_true rfl⟩) hK hP hD hS hA [0, 1, 2, 3, 4] [] rfl rfl (by decide) (by decide) (by decide) (ci := 2) (q0 := 0) rfl rfl rfl rfl hl.1 rfl (Nat.le_of_ble_eq_true rfl) dX2_find_6 ⟨Nat.zero_le _, Nat.zero_le _⟩ (fun r_6 _ H locs hu hP hD hS => ?_)
  have hP : va_P (dC, dI) vwCl [(g0, .inr (2, [.int x0, .int (nI L), .ref gs, .ref gk, .ref gv, .ref gz, .int (nI ci), .int (q_b (nx.isSome = true)), .int x8, .int x9, .int (nI (vi + (q_lkD A k + 1))), .int x11])), (gs, .inl (cI, 2048, .inl Sx)), (gk, .inl (cI, 2048, .inl Kx)), (gv, .inl (cI, 2048, .inl Vx)), (gz, .inl (cI, 2, .inl Zx))] H := hP.sub [0, 1, 2, 3, 4] rfl
  have hD : va_D Aq [(g0, .inr (2, [.int x0, .int (nI L), .ref gs, .ref gk, .ref gv, .ref gz, .int (nI ci), .int (q_b (nx.isSome = true)), .int x8, .int x9, .int (nI (vi + (q_lkD A k + 1))), .int x11])), (gs, .inl (cI, 2048, .inl Sx)), (gk, .inl (cI, 2048, .inl Kx)), (gv, .inl (cI, 2048, .inl Vx)), (gz, .inl (cI, 2, .inl Zx))] := hD.sub [0, 1, 2, 3, 4] (by decide) rfl
  have hu : r_6 = q_lkR A k := hu
  subst hu
  by_cases ha : q_hit A k
  · refine r_eq (z := nI (q_lkE A k)) (q_lkR_t ha) ?_
    refine lv_istore_n (lv' := [(2, .int (nI (q_lkE A k))), (0, .ref g0), (1, .int k)]) hx hb dX2_find_9 rfl hl (by decide) rfl (fun ls hl => ?_)
    refine lv_iload_n hx hb dX2_find_10 rfl (lv_at hl 0 rfl) ?_
    refine lv_if_lt (tgt := 24) hx hb dX2_find_11 (by decide) (fun c_11 => ?_) (fun c_11 => ?_)
    · have h_11 := q_lt_t (a := q_lkE A k) (b := 0) (by omega) (by omega) c_11
      omega
    · have h_11 := q_lt_f (a := q_lkE A k) (b := 0) (by omega) (by omega) c_11
      refine lv_aload_n hx hb dX2_find_14 rfl (lv_at hl 1 rfl) ?_
      refine lv_aload_n hx hb dX2_find_15 rfl (lv_at hl 1 rfl) ?_
      refine va_get (D := (dC, dI)) (ci := 2) (v := .int (nI ci)) (C := RX2) (T := TX2) (N := 12) hx hb hts hin_X2_find_X2 hown hK hP 0 rfl rfl 6 (by decide) (hts (.fieldLink RX2 43 "StepMapModel" "current" "I") (by decide +kernel)) (fun _ h9 => h9) rfl dX2_find_16 ?_
      refine lv_iload_n hx hb dX2_find_19 rfl (lv_at hl 0 rfl) ?_
      refine r_roV (rest := []) S0 (c_X2_at l dC dI cI g0 gs gk gv gz L Sx Kx Vx Zx x0 (nI ci) (q_b (nx.isSome = true)) x8 x9 (nI (vi + (q_lkD A k + 1))) x11 ci (q_lkE A k)) (cwV 2 hts gX2_find_X2_at rfl rfl rfl (by decide +kernel) ⟨Nat.le_of_ble_eq_true rfl, Nat.le_of_ble_eq_true rfl⟩) hK hP [0, 1, 2, 3, 4] rfl (ci := 2) (q0 := 0) rfl rfl rfl rfl hl.1 rfl (Nat.le_of_ble_eq_true rfl) dX2_find_20 ⟨Nat.zero_le _, Nat.zero_le _⟩ ?_
      have e_0_10 : nI (vi + (q_lkD A k + 1)) = nI (vi + q_lw A B nx k) := by rw [q_lw_A ha]
      have hP : va_P (dC, dI) vwCl [(g0, .inr (2, [.int x0, .int (nI L), .ref gs, .ref gk, .ref gv, .ref gz, .int (nI ci), .int (q_b (nx.isSome = true)), .int x8, .int x9, .int (nI (vi + q_lw A B nx k)), .int x11])), (gs, .inl (cI, 2048, .inl Sx)), (gk, .inl (cI, 2048, .inl Kx)), (gv, .inl (cI, 2048, .inl Vx)), (gz, .inl (cI, 2, .inl Zx))] H := by rw [← e_0_10]; exact hP
      have hD : va_D Aq [(g0, .inr (2, [.int x0, .int (nI L), .ref gs, .ref gk, .ref gv, .ref gz, .int (nI ci), .int (q_b (nx.isSome = true)), .int x8, .int x9, .int (nI (vi + q_lw A B nx k)), .int x11])), (gs, .inl (cI, 2048, .inl Sx)), (gk, .inl (cI, 2048, .inl Kx)), (gv, .inl (cI, 2048, .inl Vx)), (gz, .inl (cI, 2, .inl Zx))] := by rw [← e_0_10]; exact hD
      exact W.iret (v := nI (1024 * ci + (q_lkE A k))) hx hb hr (fun t ht hW => ⟨⟨_, (), rfl, (q_fnd_A ha).symm, by rw [ht]; exact hP, va_K.moved hW.alike hK, hD⟩, hS.F ht⟩) hS.2.2 dX2_find_23
  · refine r_eq (z := -1 - nI (q_lkE A k)) (q_lkR_f ha) ?_
    refine lv_istore_n (lv' := [(2, .int (-1 - nI (q_lkE A k))), (0, .ref g0), (1, .int k)]) hx hb dX2_find_9 rfl hl (by decide) rfl (fun ls hl => ?_)
    refine lv_iload_n hx hb dX2_find_10 rfl (lv_at hl 0 rfl) ?_
    refine lv_if_lt (tgt := 24) hx hb dX2_find_11 (by decide) (fun c_11 => ?_) (fun c_11 => ?_)
    · refine lv_aload_n hx hb dX2_find_24 rfl (lv_at hl 1 rfl) ?_
      refine va_get (D := (dC, dI)) (ci := 2) (v := .int (q_b (nx.isSome = true))) (C := RX2) (T := TX2) (N := 12) hx hb hts hin_X2_find_X2 hown hK hP 0 rfl rfl 7 (by decide) (hts (.fieldLink RX2 56 "StepMapModel" "moving" "Z") (by decide +kernel)) (fun _ h9 => h9) rfl dX2_find_25 ?_
      refine lv_if_eq (tgt := 45) hx hb dX2_find_28 (by decide) (fun c_28 => ?_) (fun c_28 => ?_)
      · have h_28 : ¬ (nx.isSome = true) := q_b_0.mp c_28
        refine lv_iconst (v := -1) hx hb dX2_find_45 (by decide) ?_
        refine lv_istore_n (lv' := [(3, .int (-1)), (2, .int (-1 - nI (q_lkE A k))), (0, .ref g0), (1, .int k)]) hx hb dX2_find_46 rfl hl (by decide) rfl (fun ls hl => ?_)
        refine lv_iload_n hx hb dX2_find_47 rfl (lv_at hl 0 rfl) ?_
        refine lv_if_ge (tgt := 55) hx hb dX2_find_48 (by decide) (fun c_48 => ?_) (fun c_48 => ?_)
        · exact absurd c_48 (by decide)
        · refine lv_iconst (v := -1) hx hb dX2_find_51 (by decide) ?_
          refine lv_goto (tgt := 66) hx hb dX2_find_52 (by decide) ?_
          have e_0_10 : nI (vi + (q_lkD A k + 1)) = nI (vi + q_lw A B nx k) := by rw [q_lw_N ha h_28]
          have hP : va_P (dC, dI) vwCl [(g0, .inr (2, [.int x0, .int (nI L), .ref gs, .ref gk, .ref gv, .ref gz, .int (nI ci), .int (q_b (nx.isSome = true)), .int x8, .int x9, .int (nI (vi + q_lw A B nx k)), .int x11])), (gs, .inl (cI, 2048, .inl Sx)), (gk, .inl (cI, 2048, .inl Kx)), (gv, .inl (cI, 2048, .inl Vx)), (gz, .inl (cI, 2, .inl Zx))] H := by rw [← e_0_10]; exact hP
          have hD : va_D Aq [(g0, .inr (2, [.int x0, .int (nI L), .ref gs, .ref gk, .ref gv, .ref gz, .int (nI ci), .int (q_b (nx.isSome = true)), .int x8, .int x9, .int (nI (vi + q_lw A B nx k)), .int x11])), (gs, .inl (cI, 2048, .inl Sx)), (gk, .inl (cI, 2048, .inl Kx)), (gv, .inl (cI, 2048, .inl Vx)), (gz, .inl (cI, 2, .inl Zx))] := by rw [← e_0_10]; exact hD
          exact W.iret (v := -1) hx hb hr (fun t ht hW => ⟨⟨_, (), rfl, (q_fnd_N ha (fun z => h_28 z.1)).symm, by rw [ht]; exact hP, va_K.moved hW.alike hK, hD⟩, hS.F ht⟩) hS.2.2 dX2_find_66
      · have h_28 : (nx.isSome = true) := q_b_n0 c_28
        obtain ⟨cu, hcc⟩ := Option.isSome_iff_exists.mp h_28
        obtain ⟨hcr1, hzB, hRTB⟩ := hcr cu hcc
        have hEB9 := (hEB cu hcc)
        refine lv_aload_n hx hb dX2_find_31 rfl (lv_at hl 1 rfl) ?_
        refine lv_iload_n hx hb dX2_find_32 rfl (lv_at hl 2 rfl) ?_
        refine lv_iconst (v := 1) hx hb dX2_find_33 (by decide) ?_
        refine lv_aload_n hx hb dX2_find_34 rfl (lv_at hl 1 rfl) ?_
        refine va_get (D := (dC, dI)) (ci := 2) (v := .int (nI ci)) (C := RX2) (T := TX2) (N := 12) hx hb hts hin_X2_find_X2 hown hK hP 0 rfl rfl 6 (by decide) (hts (.fieldLink RX2 43 "StepMapModel" "current" "I") (by decide +kernel)) (fun _ h9 => h9) rfl dX2_find_35 ?_
        refine lv_isub hx hb dX2_find_38 ?_
        refine r_eq (z := nI (1 - ci)) (pk_sub (a := 1) (by omega)) ?_
        refine r_muI (wr := []) (rest := []) S0 (c_X2_look l dC dI cI g0 gs gk gv gz L Sx Kx Vx Zx x0 (nI ci) (q_b (nx.isSome = true)) x8 x9 x11 (vi + (q_lkD A k + 1)) (1 - ci) B k H.size (by omega) hzB hpB hRTB hEB9) (cwV 2 hts gX2_find_X2_look rfl rfl rfl (by decide +kernel) ⟨Nat.le_of_ble_eq_true rfl, Nat.le_of_ble_eq_true rfl⟩) hK hP hD hS hA [0, 1, 2, 3, 4] [] rfl rfl (by decide) (by decide) (by decide) (ci := 2) (q0 := 0) rfl rfl rfl rfl hl.1 rfl (Nat.le_of_ble_eq_true rfl) dX2_find_39 ⟨Nat.zero_le _, Nat.zero_le _⟩ (fun r_39 _ H locs hu hP hD hS => ?_)
        have hP : va_P (dC, dI) vwCl [(g0, .inr (2, [.int x0, .int (nI L), .ref gs, .ref gk, .ref gv, .ref gz, .int (nI ci), .int (q_b (nx.isSome = true)), .int x8, .int x9, .int (nI ((vi + (q_lkD A k + 1)) + (q_lkD B k + 1))), .int x11])), (gs, .inl (cI, 2048, .inl Sx)), (gk, .inl (cI, 2048, .inl Kx)), (gv, .inl (cI, 2048, .inl Vx)), (gz, .inl (cI, 2, .inl Zx))] H := hP.sub [0, 1, 2, 3, 4] rfl
        have hD : va_D Aq [(g0, .inr (2, [.int x0, .int (nI L), .ref gs, .ref gk, .ref gv, .ref gz, .int (nI ci), .int (q_b (nx.isSome = true)), .int x8, .int x9, .int (nI ((vi + (q_lkD A k + 1)) + (q_lkD B k + 1))), .int x11])), (gs, .inl (cI, 2048, .inl Sx)), (gk, .inl (cI, 2048, .inl Kx)), (gv, .inl (cI, 2048, .inl Vx)), (gz, .inl (cI, 2, .inl Zx))] := hD.sub [0, 1, 2, 3, 4] (by decide) rfl
        have hu : r_39 = q_lkR B k := hu
        subst hu
        refine lv_goto (tgt := 46) hx hb dX2_find_42 (by decide) ?_
        by_cases hb2 : q_hit B k
        · refine r_eq (z := nI (q_lkE B k)) (q_lkR_t hb2) ?_
          refine lv_istore_n (lv' := [(3, .int (nI (q_lkE B k))), (2, .int (-1 - nI (q_lkE A k))), (0, .ref g0), (1, .int k)]) hx hb dX2_find_46 rfl hl (by decide) rfl (fun ls hl => ?_)
          refine lv_iload_n hx hb dX2_find_47 rfl (lv_at hl 0 rfl) ?_
          refine lv_if_ge (tgt := 55) hx hb dX2_find_48 (by decide) (fun c_48 => ?_) (fun c_48 => ?_)
          · have h_48 := q_le_t (a := 0) (b := q_lkE B k) (by omega) (by omega) c_48
            refine lv_aload_n hx hb dX2_find_55 rfl (lv_at hl 2 rfl) ?_
            refine lv_iconst (v := 1) hx hb dX2_find_56 (by decide) ?_
            refine lv_aload_n hx hb dX2_find_57 rfl (lv_at hl 2 rfl) ?_
            refine va_get (D := (dC, dI)) (ci := 2) (v := .int (nI ci)) (C := RX2) (T := TX2) (N := 12) hx hb hts hin_X2_find_X2 hown hK hP 0 rfl rfl 6 (by decide) (hts (.fieldLink RX2 43 "StepMapModel" "current" "I") (by decide +kernel)) (fun _ h9 => h9) rfl dX2_find_58 ?_
            refine lv_isub hx hb dX2_find_61 ?_
            refine r_eq (z := nI (1 - ci)) (pk_sub (a := 1) (by omega)) ?_
            refine lv_iload_n hx hb dX2_find_62 rfl (lv_at hl 0 rfl) ?_
            refine r_roV (rest := []) S0 (c_X2_at l dC dI cI g0 gs gk gv gz L Sx Kx Vx Zx x0 (nI ci) (q_b (nx.isSome = true)) x8 x9 (nI ((vi + (q_lkD A k + 1)) + (q_lkD B k + 1))) x11 (1 - ci) (q_lkE B k)) (cwV 2 hts gX2_find_X2_at rfl rfl rfl (by decide +kernel) ⟨Nat.le_of_ble_eq_true rfl, Nat.le_of_ble_eq_true rfl⟩) hK hP [0, 1, 2, 3, 4] rfl (ci := 2) (q0 := 0) rfl rfl rfl rfl hl.1 rfl (Nat.le_of_ble_eq_true rfl) dX2_find_63 ⟨Nat.zero_le _, Nat.zero_le _⟩ ?_
            have e_0_10 : nI ((vi + (q_lkD A k + 1)) + (q_lkD B k + 1)) = nI (vi + q_lw A B nx k) := by rw [q_lw_B ha h_28]; exact congrArg nI (by omega)
            have hP : va_P (dC, dI) vwCl [(g0, .inr (2, [.int x0, .int (nI L), .ref gs, .ref gk, .ref gv, .ref gz, .int (nI ci), .int (q_b (nx.isSome = true)), .int x8, .int x9, .int (nI (vi + q_lw A B nx k)), .int x11])), (gs, .inl (cI, 2048, .inl Sx)), (gk, .inl (cI, 2048, .inl Kx)), (gv, .inl (cI, 2048, .inl Vx)), (gz, .inl (cI, 2, .inl Zx))] H := by rw [← e_0_10]; exact hP
            have hD : va_D Aq [(g0, .inr (2, [.int x0, .int (nI L), .ref gs, .ref gk, .ref gv, .ref gz, .int (nI ci), .int (q_b (nx.isSome = true)), .int x8, .int x9, .int (nI (vi + q_lw A B nx k)), .int x11])), (gs, .inl (cI, 2048, .inl Sx)), (gk, .inl (cI, 2048, .inl Kx)), (gv, .inl (cI, 2048, .inl Vx)), (gz, .inl (cI, 2, .inl Zx))] := by rw [← e_0_10]; exact hD
            exact W.iret (v := nI (1024 * (1 - ci) + (q_lkE B k))) hx hb hr (fun t ht hW => ⟨⟨_, (), rfl, (q_fnd_B ha ⟨h_28, hb2⟩).symm, by rw [ht]; exact hP, va_K.moved hW.alike hK, hD⟩, hS.F ht⟩) hS.2.2 dX2_find_66
          · have h_48 := q_le_f (a := 0) (b := q_lkE B k) (by omega) (by omega) c_48
            omega
        · refine r_eq (z := -1 - nI (q_lkE B k)) (q_lkR_f hb2) ?_
          refine lv_istore_n (lv' := [(3, .int (-1 - nI (q_lkE B k))), (2, .int (-1 - nI (q_lkE A k))), (0, .ref g0), (1, .int k)]) hx hb dX2_find_46 rfl hl (by decide) rfl (fun ls hl => ?_)
          refine lv_iload_n hx hb dX2_find_47 rfl (lv_at hl 0 rfl) ?_
          refine lv_if_ge (tgt := 55) hx hb dX2_find_48 (by decide) (fun c_48 => ?_) (fun c_48 => ?_)
          · exact absurd c_48 (q_neg_ge (by omega))
          · refine lv_iconst (v := -1) hx hb dX2_find_51 (by decide) ?_
            refine lv_goto (tgt := 66) hx hb dX2_find_52 (by decide) ?_
            have e_0_10 : nI ((vi + (q_lkD A k + 1)) + (q_lkD B k + 1)) = nI (vi + q_lw A B nx k) := by rw [q_lw_B ha h_28]; exact congrArg nI (by omega)
            have hP : va_P (dC, dI) vwCl [(g0, .inr (2, [.int x0, .int (nI L), .ref gs, .ref gk, .ref gv, .ref gz, .int (nI ci), .int (q_b (nx.isSome = true)), .int x8, .int x9, .int (nI (vi + q_lw A B nx k)), .int x11])), (gs, .inl (cI, 2048, .inl Sx)), (gk, .inl (cI, 2048, .inl Kx)), (gv, .inl (cI, 2048, .inl Vx)), (gz, .inl (cI, 2, .inl Zx))] H := by rw [← e_0_10]; exact hP
            have hD : va_D Aq [(g0, .inr (2, [.int x0, .int (nI L), .ref gs, .ref gk, .ref gv, .ref gz, .int (nI ci), .int (q_b (nx.isSome = true)), .int x8, .int x9, .int (nI (vi + q_lw A B nx k)), .int x11])), (gs, .inl (cI, 2048, .inl Sx)), (gk, .inl (cI, 2048, .inl Kx)), (gv, .inl (cI, 2048, .inl Vx)), (gz, .inl (cI, 2, .inl Zx))] := by rw [← e_0_10]; exact hD
            exact W.iret (v := -1) hx hb hr (fun t ht hW => ⟨⟨_, (), rfl, (q_fnd_N ha (fun z => hb2 z.2)).symm, by rw [ht]; exact hP, va_K.moved hW.alike hK, hD⟩, hS.F ht⟩) hS.2.2 dX2_find_66
    · exact absurd (q_neg1 (by omega)) c_11
set_option maxHeartbeats 4000000 in
set_option maxRecDepth 100000 in
theorem c_X2_size (l : Launch) (dC : Nat → ClassId) (dI : Nat → Nat → Nat) (cI : ClassId) (g0 gs gk gv gz L : Nat) (Sx Kx Vx Zx : Nat → Int32) (x7 x8 : Int32) (ci vi : Nat) (A B : q_TB) (nx : Option Nat) (kc w : Nat) (sz : Nat) (hIV : q_IV L A B nx kc) (hR : q_RL (A, B, nx, kc, w) ci Sx Kx Vx Zx x7 x8) : Met l yX2_size wsX2_size ({ frames := 0, cells := 0, slots := 0, locals := 0 }) (r_Mc (dC, dI) vwCl [(cI, .int)] [(g0, .inr (2, [.int 0, .int (nI L), .ref gs, .ref gk, .ref gv, .ref gz, .int (nI ci), .int x7, .int x8, .int (nI kc), .int (nI vi), .int (nI w)])), (gs, .inl (cI, 2048, .inl Sx)), (gk, .inl (cI, 2048, .inl Kx)), (gv, .inl (cI, 2048, .inl Vx)), (gz, .inl (cI, 2, .inl Zx))] sz [.ref g0]) (va_Qi (fun (r : Int32) (_ : Unit) => r = nI kc) (fun u t => r_B (dC, dI) vwCl [(cI, .int)] (va_A [(g0, .inr (2, [.int 0, .int (nI L), .ref gs, .ref gk, .ref gv, .ref gz, .int (nI ci), .int x7, .int x8, .int (nI kc), .int (nI vi), .int (nI w)])), (gs, .inl (cI, 2048, .inl Sx)), (gk, .inl (cI, 2048, .inl Kx)), (gv, .inl (cI, 2048, .inl Vx)), (gz, .inl (cI, 2, .inl Zx))] sz) ((fun _ => [(g0, .inr (2, [.int 0, .int (nI L), .ref gs, .ref gk, .ref gv, .ref gz, .int (nI ci), .int x7, .int x8, .int (nI kc), .int (nI vi), .int (nI w)])), (gs, .inl (cI, 2048, .inl Sx)), (gk, .inl (cI, 2048, .inl Kx)), (gv, .inl (cI, 2048, .inl Vx)), (gz, .inl (cI, 2, .inl Zx))]) u) t) (va_A [(g0, .inr (2, [.int 0, .int (nI L), .ref gs, .ref gk, .ref gv, .ref gz, .int (nI ci), .int x7, .int x8, .int (nI kc), .int (nI vi), .int (nI w)])), (gs, .inl (cI, 2048, .inl Sx)), (gk, .inl (cI, 2048, .inl Kx)), (gv, .inl (cI, 2048, .inl Vx)), (gz, .inl (cI, 2, .inl Zx))] sz)) 0 0 (va_A [(g0, .inr (2, [.int 0, .int (nI L), .ref gs, .ref gk, .ref gv, .ref gz, .int (nI ci), .int x7, .int x8, .int (nI kc), .int (nI vi), .int (nI w)])), (gs, .inl (cI, 2048, .inl Sx)), (gk, .inl (cI, 2048, .inl Kx)), (gv, .inl (cI, 2048, .inl Vx)), (gz, .inl (cI, 2, .inl Zx))] sz) := by
  refine Met.ofW (cc := cX2_size) (maxL := 1) (ret := (some .int)) (by decide) rfl ?_
  intro p e s m args below meth c s₁ Bd hml hv
  obtain ⟨rfl, hsz, hP, hK, hD0⟩ := hv
  have hx := Bd.exec
  have hb := Bd.bytes
  have hr := Bd.returns
  have hts := atoms_spec (ws := wsX2_size) Bd.pre
  have hown : s.vm.findClass RX2 = some m.cls := findClass_of_methodNamed Bd.named
  have hlocks := Bd.notSynchronized
  have S0 : CallFix p m c cX2_size 1 s _ wsX2_size RX2 := ⟨hx, hb, hml, hown, hts⟩
  subst hsz
  have hD := hD0.self (sz := s.heap.size)
  generalize hAe : va_A [(g0, .inr (2, [.int 0, .int (nI L), .ref gs, .ref gk, .ref gv, .ref gz, .int (nI ci), .int x7, .int x8, .int (nI kc), .int (nI vi), .int (nI w)])), (gs, .inl (cI, 2048, .inl Sx)), (gk, .inl (cI, 2048, .inl Kx)), (gv, .inl (cI, 2048, .inl Vx)), (gz, .inl (cI, 2, .inl Zx))] s.heap.size = Aq at hD ⊢
  have hA : ∀ q : Nat, s.heap.size ≤ q → Aq q := fun q h => by rw [← hAe]; exact Or.inr h
  have hS : va_S Aq s.heap s.heap [] := va_S.rf
  have hD : va_D Aq [(g0, .inr (2, [.int 0, .int (nI L), .ref gs, .ref gk, .ref gv, .ref gz, .int (nI ci), .int x7, .int x8, .int (nI kc), .int (nI vi), .int (nI w)])), (gs, .inl (cI, 2048, .inl Sx)), (gk, .inl (cI, 2048, .inl Kx)), (gv, .inl (cI, 2048, .inl Vx)), (gz, .inl (cI, 2, .inl Zx))] := hD
  have hP : va_P (dC, dI) vwCl [(g0, .inr (2, [.int 0, .int (nI L), .ref gs, .ref gk, .ref gv, .ref gz, .int (nI ci), .int x7, .int x8, .int (nI kc), .int (nI vi), .int (nI w)])), (gs, .inl (cI, 2048, .inl Sx)), (gk, .inl (cI, 2048, .inl Kx)), (gv, .inl (cI, 2048, .inl Vx)), (gz, .inl (cI, 2, .inl Zx))] s.heap := hP
  have hl := lv_entry ([.ref g0]) (n := 1) (Nat.le_of_ble_eq_true rfl)
  rw [lg_entry_eq]
  generalize (lg_sl ([.ref g0]) ++ List.replicate (1 - (lg_sl ([.ref g0])).length) Slot.unset).toArray = ls at hl ⊢
  have hl : lv_has ls 1 [(0, .ref g0)] := hl
  have hSZ := hIV.1
  have hEM := q_iv_EM hIV
  have hEB := q_iv_EB hIV
  obtain ⟨hN, hP9, hU9⟩ := q_iv_PU hIV
  have hkc := q_iv_kc hIV
  obtain ⟨hci, hzA, hRTA, hmv, hcr⟩ := hR
  have hzA : Zx ci = nI A.1 := hzA
  have hRTA : q_RT Sx Kx Vx ci A := hRTA
  have hcr : ∀ c, nx = some c → x8 = nI c ∧ Zx (1 - ci) = nI B.1 ∧ q_RT Sx Kx Vx (1 - ci) B := hcr
  have hmv : x7 = q_b (nx.isSome = true) := hmv
  subst hmv
  have hcur : ∀ c, nx = some c → x8 = nI c ∧ Zx (1 - ci) = nI B.1 ∧ c ≤ B.1 := fun c h => ⟨(hcr c h).1, (hcr c h).2.1, (hEB c h).2⟩
  refine lv_aload_n hx hb dX2_size_0 rfl (lv_at hl 0 rfl) ?_
  refine lv_iconst (v := 0) hx hb dX2_size_1 (by decide) ?_
  refine va_put (D := (dC, dI)) (ci := 2) (v := .int 0) (ty := .int) (C := RX2) (T := TX2) (N := 12) hx hb hts hin_X2_size_X2 tyX2 tyX2_ok nmX2 hown hK hP hD hS 0 rfl rfl 0 (by decide) (hts (.fieldLink RX2 26 "StepMapModel" "thrown" "I") (by decide +kernel)) (fun _ h9 => h9) rfl (by decide +kernel) (rfl) (rfl) (Nat.le_of_ble_eq_true rfl) dX2_size_2 (fun H locs hP hD hS => ?_)
  have hP : va_P (dC, dI) vwCl [(g0, .inr (2, [.int 0, .int (nI L), .ref gs, .ref gk, .ref gv, .ref gz, .int (nI ci), .int (q_b (nx.isSome = true)), .int x8, .int (nI kc), .int (nI vi), .int (nI w)])), (gs, .inl (cI, 2048, .inl Sx)), (gk, .inl (cI, 2048, .inl Kx)), (gv, .inl (cI, 2048, .inl Vx)), (gz, .inl (cI, 2, .inl Zx))] H := hP
  have hD : va_D Aq [(g0, .inr (2, [.int 0, .int (nI L), .ref gs, .ref gk, .ref gv, .ref gz, .int (nI ci), .int (q_b (nx.isSome = true)), .int x8, .int (nI kc), .int (nI vi), .int (nI w)])), (gs, .inl (cI, 2048, .inl Sx)), (gk, .inl (cI, 2048, .inl Kx)), (gv, .inl (cI, 2048, .inl Vx)), (gz, .inl (cI, 2, .inl Zx))] := hD
  refine lv_aload_n hx hb dX2_size_5 rfl (lv_at hl 0 rfl) ?_
  refine va_get (D := (dC, dI)) (ci := 2) (v := .int (nI kc)) (C := RX2) (T := TX2) (N := 12) hx hb hts hin_X2_size_X2 hown hK hP 0 rfl rfl 9 (by decide) (hts (.fieldLink RX2 63 "StepMapModel" "count" "I") (by decide +kernel)) (fun _ h9 => h9) rfl dX2_size_6 ?_
  exact W.iret (v := nI kc) hx hb hr (fun t ht hW => ⟨⟨_, (), rfl, rfl, by rw [ht]; exact hP, va_K.moved hW.alike hK, hD⟩, hS.F ht⟩) hS.2.2 dX2_size_9
set_option maxHeartbeats 4000000 in
set_option maxRecDepth 100000 in
theorem c_X2_capacity (l : Launch) (dC : Nat → ClassId) (dI : Nat → Nat → Nat) (cI : ClassId) (g0 gs gk gv gz L : Nat) (Sx Kx Vx Zx : Nat → Int32) (x7 x8 : Int32) (ci vi : Nat) (A B : q_TB) (nx : Option Nat) (kc w : Nat) (sz : Nat) (hIV : q_IV L A B nx kc) (hR : q_RL (A, B, nx, kc, w) ci Sx Kx Vx Zx x7 x8) : Met l yX2_capacity wsX2_capacity ({ frames := 0, cells := 0, slots := 0, locals := 0 }) (r_Mc (dC, dI) vwCl [(cI, .int)] [(g0, .inr (2, [.int 0, .int (nI L), .ref gs, .ref gk, .ref gv, .ref gz, .int (nI ci), .int x7, .int x8, .int (nI kc), .int (nI vi), .int (nI w)])), (gs, .inl (cI, 2048, .inl Sx)), (gk, .inl (cI, 2048, .inl Kx)), (gv, .inl (cI, 2048, .inl Vx)), (gz, .inl (cI, 2, .inl Zx))] sz [.ref g0]) (va_Qi (fun (r : Int32) (_ : Unit) => r = nI A.1) (fun u t => r_B (dC, dI) vwCl [(cI, .int)] (va_A [(g0, .inr (2, [.int 0, .int (nI L), .ref gs, .ref gk, .ref gv, .ref gz, .int (nI ci), .int x7, .int x8, .int (nI kc), .int (nI vi), .int (nI w)])), (gs, .inl (cI, 2048, .inl Sx)), (gk, .inl (cI, 2048, .inl Kx)), (gv, .inl (cI, 2048, .inl Vx)), (gz, .inl (cI, 2, .inl Zx))] sz) ((fun _ => [(g0, .inr (2, [.int 0, .int (nI L), .ref gs, .ref gk, .ref gv, .ref gz, .int (nI ci), .int x7, .int x8, .int (nI kc), .int (nI vi), .int (nI w)])), (gs, .inl (cI, 2048, .inl Sx)), (gk, .inl (cI, 2048, .inl Kx)), (gv, .inl (cI, 2048, .inl Vx)), (gz, .inl (cI, 2, .inl Zx))]) u) t) (va_A [(g0, .inr (2, [.int 0, .int (nI L), .ref gs, .ref gk, .ref gv, .ref gz, .int (nI ci), .int x7, .int x8, .int (nI kc), .int (nI vi), .int (nI w)])), (gs, .inl (cI, 2048, .inl Sx)), (gk, .inl (cI, 2048, .inl Kx)), (gv, .inl (cI, 2048, .inl Vx)), (gz, .inl (cI, 2, .inl Zx))] sz)) 0 0 (va_A [(g0, .inr (2, [.int 0, .int (nI L), .ref gs, .ref gk, .ref gv, .ref gz, .int (nI ci), .int x7, .int x8, .int (nI kc), .int (nI vi), .int (nI w)])), (gs, .inl (cI, 2048, .inl Sx)), (gk, .inl (cI, 2048, .inl Kx)), (gv, .inl (cI, 2048, .inl Vx)), (gz, .inl (cI, 2, .inl Zx))] sz) := by
  refine Met.ofW (cc := cX2_capacity) (maxL := 1) (ret := (some .int)) (by decide) rfl ?_
  intro p e s m args below meth c s₁ Bd hml hv
  obtain ⟨rfl, hsz, hP, hK, hD0⟩ := hv
  have hx := Bd.exec
  have hb := Bd.bytes
  have hr := Bd.returns
  have hts := atoms_spec (ws := wsX2_capacity) Bd.pre
  have hown : s.vm.findClass RX2 = some m.cls := findClass_of_methodNamed Bd.named
  have hlocks := Bd.notSynchronized
  have S0 : CallFix p m c cX2_capacity 1 s _ wsX2_capacity RX2 := ⟨hx, hb, hml, hown, hts⟩
  subst hsz
  have hD := hD0.self (sz := s.heap.size)
  generalize hAe : va_A [(g0, .inr (2, [.int 0, .int (nI L), .ref gs, .ref gk, .ref gv, .ref gz, .int (nI ci), .int x7, .int x8, .int (nI kc), .int (nI vi), .int (nI w)])), (gs, .inl (cI, 2048, .inl Sx)), (gk, .inl (cI, 2048, .inl Kx)), (gv, .inl (cI, 2048, .inl Vx)), (gz, .inl (cI, 2, .inl Zx))] s.heap.size = Aq at hD ⊢
  have hA : ∀ q : Nat, s.heap.size ≤ q → Aq q := fun q h => by rw [← hAe]; exact Or.inr h
  have hS : va_S Aq s.heap s.heap [] := va_S.rf
  have hD : va_D Aq [(g0, .inr (2, [.int 0, .int (nI L), .ref gs, .ref gk, .ref gv, .ref gz, .int (nI ci), .int x7, .int x8, .int (nI kc), .int (nI vi), .int (nI w)])), (gs, .inl (cI, 2048, .inl Sx)), (gk, .inl (cI, 2048, .inl Kx)), (gv, .inl (cI, 2048, .inl Vx)), (gz, .inl (cI, 2, .inl Zx))] := hD
  have hP : va_P (dC, dI) vwCl [(g0, .inr (2, [.int 0, .int (nI L), .ref gs, .ref gk, .ref gv, .ref gz, .int (nI ci), .int x7, .int x8, .int (nI kc), .int (nI vi), .int (nI w)])), (gs, .inl (cI, 2048, .inl Sx)), (gk, .inl (cI, 2048, .inl Kx)), (gv, .inl (cI, 2048, .inl Vx)), (gz, .inl (cI, 2, .inl Zx))] s.heap := hP
  have hl := lv_entry ([.ref g0]) (n := 1) (Nat.le_of_ble_eq_true rfl)
  rw [lg_entry_eq]
  generalize (lg_sl ([.ref g0]) ++ List.replicate (1 - (lg_sl ([.ref g0])).length) Slot.unset).toArray = ls at hl ⊢
  have hl : lv_has ls 1 [(0, .ref g0)] := hl
  have hSZ := hIV.1
  have hEM := q_iv_EM hIV
  have hEB := q_iv_EB hIV
  obtain ⟨hN, hP9, hU9⟩ := q_iv_PU hIV
  have hkc := q_iv_kc hIV
  obtain ⟨hci, hzA, hRTA, hmv, hcr⟩ := hR
  have hzA : Zx ci = nI A.1 := hzA
  have hRTA : q_RT Sx Kx Vx ci A := hRTA
  have hcr : ∀ c, nx = some c → x8 = nI c ∧ Zx (1 - ci) = nI B.1 ∧ q_RT Sx Kx Vx (1 - ci) B := hcr
  have hmv : x7 = q_b (nx.isSome = true) := hmv
  subst hmv
  have hcur : ∀ c, nx = some c → x8 = nI c ∧ Zx (1 - ci) = nI B.1 ∧ c ≤ B.1 := fun c h => ⟨(hcr c h).1, (hcr c h).2.1, (hEB c h).2⟩
  refine lv_aload_n hx hb dX2_capacity_0 rfl (lv_at hl 0 rfl) ?_
  refine lv_iconst (v := 0) hx hb dX2_capacity_1 (by decide) ?_
  refine va_put (D := (dC, dI)) (ci := 2) (v := .int 0) (ty := .int) (C := RX2) (T := TX2) (N := 12) hx hb hts hin_X2_capacity_X2 tyX2 tyX2_ok nmX2 hown hK hP hD hS 0 rfl rfl 0 (by decide) (hts (.fieldLink RX2 26 "StepMapModel" "thrown" "I") (by decide +kernel)) (fun _ h9 => h9) rfl (by decide +kernel) (rfl) (rfl) (Nat.le_of_ble_eq_true rfl) dX2_capacity_2 (fun H locs hP hD hS => ?_)
  have hP : va_P (dC, dI) vwCl [(g0, .inr (2, [.int 0, .int (nI L), .ref gs, .ref gk, .ref gv, .ref gz, .int (nI ci), .int (q_b (nx.isSome = true)), .int x8, .int (nI kc), .int (nI vi), .int (nI w)])), (gs, .inl (cI, 2048, .inl Sx)), (gk, .inl (cI, 2048, .inl Kx)), (gv, .inl (cI, 2048, .inl Vx)), (gz, .inl (cI, 2, .inl Zx))] H := hP
  have hD : va_D Aq [(g0, .inr (2, [.int 0, .int (nI L), .ref gs, .ref gk, .ref gv, .ref gz, .int (nI ci), .int (q_b (nx.isSome = true)), .int x8, .int (nI kc), .int (nI vi), .int (nI w)])), (gs, .inl (cI, 2048, .inl Sx)), (gk, .inl (cI, 2048, .inl Kx)), (gv, .inl (cI, 2048, .inl Vx)), (gz, .inl (cI, 2, .inl Zx))] := hD
  refine lv_aload_n hx hb dX2_capacity_5 rfl (lv_at hl 0 rfl) ?_
  refine va_get (D := (dC, dI)) (ci := 2) (v := .ref gz) (C := RX2) (T := TX2) (N := 12) hx hb hts hin_X2_capacity_X2 hown hK hP 0 rfl rfl 5 (by decide) (hts (.fieldLink RX2 19 "StepMapModel" "sizes" "[I") (by decide +kernel)) (fun _ h9 => h9) rfl dX2_capacity_6 ?_
  refine lv_aload_n hx hb dX2_capacity_9 rfl (lv_at hl 0 rfl) ?_
  refine va_get (D := (dC, dI)) (ci := 2) (v := .int (nI ci)) (C := RX2) (T := TX2) (N := 12) hx hb hts hin_X2_capacity_X2 hown hK hP 0 rfl rfl 6 (by decide) (hts (.fieldLink RX2 43 "StepMapModel" "current" "I") (by decide +kernel)) (fun _ h9 => h9) rfl dX2_capacity_10 ?_
  refine r_ld (i := ci) hx hb hK hP 4 0 rfl rfl (by omega) (by omega) dX2_capacity_13 ?_
  refine r_eq (z := nI A.1) (hzA) ?_
  exact W.iret (v := nI A.1) hx hb hr (fun t ht hW => ⟨⟨_, (), rfl, rfl, by rw [ht]; exact hP, va_K.moved hW.alike hK, hD⟩, hS.F ht⟩) hS.2.2 dX2_capacity_14
set_option maxHeartbeats 4000000 in
set_option maxRecDepth 100000 in
theorem c_X2_migrating (l : Launch) (dC : Nat → ClassId) (dI : Nat → Nat → Nat) (cI : ClassId) (g0 gs gk gv gz L : Nat) (Sx Kx Vx Zx : Nat → Int32) (x7 x8 : Int32) (ci vi : Nat) (A B : q_TB) (nx : Option Nat) (kc w : Nat) (sz : Nat) (hIV : q_IV L A B nx kc) (hR : q_RL (A, B, nx, kc, w) ci Sx Kx Vx Zx x7 x8) : Met l yX2_migrating wsX2_migrating ({ frames := 0, cells := 0, slots := 0, locals := 0 }) (r_Mc (dC, dI) vwCl [(cI, .int)] [(g0, .inr (2, [.int 0, .int (nI L), .ref gs, .ref gk, .ref gv, .ref gz, .int (nI ci), .int x7, .int x8, .int (nI kc), .int (nI vi), .int (nI w)])), (gs, .inl (cI, 2048, .inl Sx)), (gk, .inl (cI, 2048, .inl Kx)), (gv, .inl (cI, 2048, .inl Vx)), (gz, .inl (cI, 2, .inl Zx))] sz [.ref g0]) (va_Qi (fun (r : Int32) (_ : Unit) => r = q_b (nx.isSome = true)) (fun u t => r_B (dC, dI) vwCl [(cI, .int)] (va_A [(g0, .inr (2, [.int 0, .int (nI L), .ref gs, .ref gk, .ref gv, .ref gz, .int (nI ci), .int x7, .int x8, .int (nI kc), .int (nI vi), .int (nI w)])), (gs, .inl (cI, 2048, .inl Sx)), (gk, .inl (cI, 2048, .inl Kx)), (gv, .inl (cI, 2048, .inl Vx)), (gz, .inl (cI, 2, .inl Zx))] sz) ((fun _ => [(g0, .inr (2, [.int 0, .int (nI L), .ref gs, .ref gk, .ref gv, .ref gz, .int (nI ci), .int x7, .int x8, .int (nI kc), .int (nI vi), .int (nI w)])), (gs, .inl (cI, 2048, .inl Sx)), (gk, .inl (cI, 2048, .inl Kx)), (gv, .inl (cI, 2048, .inl Vx)), (gz, .inl (cI, 2, .inl Zx))]) u) t) (va_A [(g0, .inr (2, [.int 0, .int (nI L), .ref gs, .ref gk, .ref gv, .ref gz, .int (nI ci), .int x7, .int x8, .int (nI kc), .int (nI vi), .int (nI w)])), (gs, .inl (cI, 2048, .inl Sx)), (gk, .inl (cI, 2048, .inl Kx)), (gv, .inl (cI, 2048, .inl Vx)), (gz, .inl (cI, 2, .inl Zx))] sz)) 0 0 (va_A [(g0, .inr (2, [.int 0, .int (nI L), .ref gs, .ref gk, .ref gv, .ref gz, .int (nI ci), .int x7, .int x8, .int (nI kc), .int (nI vi), .int (nI w)])), (gs, .inl (cI, 2048, .inl Sx)), (gk, .inl (cI, 2048, .inl Kx)), (gv, .inl (cI, 2048, .inl Vx)), (gz, .inl (cI, 2, .inl Zx))] sz) := by
  refine Met.ofW (cc := cX2_migrating) (maxL := 1) (ret := (some .boolean)) (by decide) rfl ?_
  intro p e s m args below meth c s₁ Bd hml hv
  obtain ⟨rfl, hsz, hP, hK, hD0⟩ := hv
  have hx := Bd.exec
  have hb := Bd.bytes
  have hr := Bd.returns
  have hts := atoms_spec (ws := wsX2_migrating) Bd.pre
  have hown : s.vm.findClass RX2 = some m.cls := findClass_of_methodNamed Bd.named
  have hlocks := Bd.notSynchronized
  have S0 : CallFix p m c cX2_migrating 1 s _ wsX2_migrating RX2 := ⟨hx, hb, hml, hown, hts⟩
  subst hsz
  have hD := hD0.self (sz := s.heap.size)
  generalize hAe : va_A [(g0, .inr (2, [.int 0, .int (nI L), .ref gs, .ref gk, .ref gv, .ref gz, .int (nI ci), .int x7, .int x8, .int (nI kc), .int (nI vi), .int (nI w)])), (gs, .inl (cI, 2048, .inl Sx)), (gk, .inl (cI, 2048, .inl Kx)), (gv, .inl (cI, 2048, .inl Vx)), (gz, .inl (cI, 2, .inl Zx))] s.heap.size = Aq at hD ⊢
  have hA : ∀ q : Nat, s.heap.size ≤ q → Aq q := fun q h => by rw [← hAe]; exact Or.inr h
  have hS : va_S Aq s.heap s.heap [] := va_S.rf
  have hD : va_D Aq [(g0, .inr (2, [.int 0, .int (nI L), .ref gs, .ref gk, .ref gv, .ref gz, .int (nI ci), .int x7, .int x8, .int (nI kc), .int (nI vi), .int (nI w)])), (gs, .inl (cI, 2048, .inl Sx)), (gk, .inl (cI, 2048, .inl Kx)), (gv, .inl (cI, 2048, .inl Vx)), (gz, .inl (cI, 2, .inl Zx))] := hD
  have hP : va_P (dC, dI) vwCl [(g0, .inr (2, [.int 0, .int (nI L), .ref gs, .ref gk, .ref gv, .ref gz, .int (nI ci), .int x7, .int x8, .int (nI kc), .int (nI vi), .int (nI w)])), (gs, .inl (cI, 2048, .inl Sx)), (gk, .inl (cI, 2048, .inl Kx)), (gv, .inl (cI, 2048, .inl Vx)), (gz, .inl (cI, 2, .inl Zx))] s.heap := hP
  have hl := lv_entry ([.ref g0]) (n := 1) (Nat.le_of_ble_eq_true rfl)
  rw [lg_entry_eq]
  generalize (lg_sl ([.ref g0]) ++ List.replicate (1 - (lg_sl ([.ref g0])).length) Slot.unset).toArray = ls at hl ⊢
  have hl : lv_has ls 1 [(0, .ref g0)] := hl
  have hSZ := hIV.1
  have hEM := q_iv_EM hIV
  have hEB := q_iv_EB hIV
  obtain ⟨hN, hP9, hU9⟩ := q_iv_PU hIV
  have hkc := q_iv_kc hIV
  obtain ⟨hci, hzA, hRTA, hmv, hcr⟩ := hR
  have hzA : Zx ci = nI A.1 := hzA
  have hRTA : q_RT Sx Kx Vx ci A := hRTA
  have hcr : ∀ c, nx = some c → x8 = nI c ∧ Zx (1 - ci) = nI B.1 ∧ q_RT Sx Kx Vx (1 - ci) B := hcr
  have hmv : x7 = q_b (nx.isSome = true) := hmv
  subst hmv
  have hcur : ∀ c, nx = some c → x8 = nI c ∧ Zx (1 - ci) = nI B.1 ∧ c ≤ B.1 := fun c h => ⟨(hcr c h).1, (hcr c h).2.1, (hEB c h).2⟩
  refine lv_aload_n hx hb dX2_migrating_0 rfl (lv_at hl 0 rfl) ?_
  refine lv_iconst (v := 0) hx hb dX2_migrating_1 (by decide) ?_
  refine va_put (D := (dC, dI)) (ci := 2) (v := .int 0) (ty := .int) (C := RX2) (T := TX2) (N := 12) hx hb hts hin_X2_migrating_X2 tyX2 tyX2_ok nmX2 hown hK hP hD hS 0 rfl rfl 0 (by decide) (hts (.fieldLink RX2 26 "StepMapModel" "thrown" "I") (by decide +kernel)) (fun _ h9 => h9) rfl (by decide +kernel) (rfl) (rfl) (Nat.le_of_ble_eq_true rfl) dX2_migrating_2 (fun H locs hP hD hS => ?_)
  have hP : va_P (dC, dI) vwCl [(g0, .inr (2, [.int 0, .int (nI L), .ref gs, .ref gk, .ref gv, .ref gz, .int (nI ci), .int (q_b (nx.isSome = true)), .int x8, .int (nI kc), .int (nI vi), .int (nI w)])), (gs, .inl (cI, 2048, .inl Sx)), (gk, .inl (cI, 2048, .inl Kx)), (gv, .inl (cI, 2048, .inl Vx)), (gz, .inl (cI, 2, .inl Zx))] H := hP
  have hD : va_D Aq [(g0, .inr (2, [.int 0, .int (nI L), .ref gs, .ref gk, .ref gv, .ref gz, .int (nI ci), .int (q_b (nx.isSome = true)), .int x8, .int (nI kc), .int (nI vi), .int (nI w)])), (gs, .inl (cI, 2048, .inl Sx)), (gk, .inl (cI, 2048, .inl Kx)), (gv, .inl (cI, 2048, .inl Vx)), (gz, .inl (cI, 2, .inl Zx))] := hD
  refine lv_aload_n hx hb dX2_migrating_5 rfl (lv_at hl 0 rfl) ?_
  refine va_get (D := (dC, dI)) (ci := 2) (v := .int (q_b (nx.isSome = true))) (C := RX2) (T := TX2) (N := 12) hx hb hts hin_X2_migrating_X2 hown hK hP 0 rfl rfl 7 (by decide) (hts (.fieldLink RX2 56 "StepMapModel" "moving" "Z") (by decide +kernel)) (fun _ h9 => h9) rfl dX2_migrating_6 ?_
  exact W.zret (v := q_b (nx.isSome = true)) hx hb hr (q_b_z _) (fun t ht hW => ⟨⟨_, (), rfl, rfl, by rw [ht]; exact hP, va_K.moved hW.alike hK, hD⟩, hS.F ht⟩) hS.2.2 dX2_migrating_9
set_option maxHeartbeats 4000000 in
set_option maxRecDepth 100000 in
theorem c_X2_lastWork (l : Launch) (dC : Nat → ClassId) (dI : Nat → Nat → Nat) (cI : ClassId) (g0 gs gk gv gz L : Nat) (Sx Kx Vx Zx : Nat → Int32) (x7 x8 : Int32) (ci vi : Nat) (A B : q_TB) (nx : Option Nat) (kc w : Nat) (sz : Nat) (hIV : q_IV L A B nx kc) (hR : q_RL (A, B, nx, kc, w) ci Sx Kx Vx Zx x7 x8) : Met l yX2_lastWork wsX2_lastWork ({ frames := 0, cells := 0, slots := 0, locals := 0 }) (r_Mc (dC, dI) vwCl [(cI, .int)] [(g0, .inr (2, [.int 0, .int (nI L), .ref gs, .ref gk, .ref gv, .ref gz, .int (nI ci), .int x7, .int x8, .int (nI kc), .int (nI vi), .int (nI w)])), (gs, .inl (cI, 2048, .inl Sx)), (gk, .inl (cI, 2048, .inl Kx)), (gv, .inl (cI, 2048, .inl Vx)), (gz, .inl (cI, 2, .inl Zx))] sz [.ref g0]) (va_Qi (fun (r : Int32) (_ : Unit) => r = nI w) (fun u t => r_B (dC, dI) vwCl [(cI, .int)] (va_A [(g0, .inr (2, [.int 0, .int (nI L), .ref gs, .ref gk, .ref gv, .ref gz, .int (nI ci), .int x7, .int x8, .int (nI kc), .int (nI vi), .int (nI w)])), (gs, .inl (cI, 2048, .inl Sx)), (gk, .inl (cI, 2048, .inl Kx)), (gv, .inl (cI, 2048, .inl Vx)), (gz, .inl (cI, 2, .inl Zx))] sz) ((fun _ => [(g0, .inr (2, [.int 0, .int (nI L), .ref gs, .ref gk, .ref gv, .ref gz, .int (nI ci), .int x7, .int x8, .int (nI kc), .int (nI vi), .int (nI w)])), (gs, .inl (cI, 2048, .inl Sx)), (gk, .inl (cI, 2048, .inl Kx)), (gv, .inl (cI, 2048, .inl Vx)), (gz, .inl (cI, 2, .inl Zx))]) u) t) (va_A [(g0, .inr (2, [.int 0, .int (nI L), .ref gs, .ref gk, .ref gv, .ref gz, .int (nI ci), .int x7, .int x8, .int (nI kc), .int (nI vi), .int (nI w)])), (gs, .inl (cI, 2048, .inl Sx)), (gk, .inl (cI, 2048, .inl Kx)), (gv, .inl (cI, 2048, .inl Vx)), (gz, .inl (cI, 2, .inl Zx))] sz)) 0 0 (va_A [(g0, .inr (2, [.int 0, .int (nI L), .ref gs, .ref gk, .ref gv, .ref gz, .int (nI ci), .int x7, .int x8, .int (nI kc), .int (nI vi), .int (nI w)])), (gs, .inl (cI, 2048, .inl Sx)), (gk, .inl (cI, 2048, .inl Kx)), (gv, .inl (cI, 2048, .inl Vx)), (gz, .inl (cI, 2, .inl Zx))] sz) := by
  refine Met.ofW (cc := cX2_lastWork) (maxL := 1) (ret := (some .int)) (by decide) rfl ?_
  intro p e s m args below meth c s₁ Bd hml hv
  obtain ⟨rfl, hsz, hP, hK, hD0⟩ := hv
  have hx := Bd.exec
  have hb := Bd.bytes
  have hr := Bd.returns
  have hts := atoms_spec (ws := wsX2_lastWork) Bd.pre
  have hown : s.vm.findClass RX2 = some m.cls := findClass_of_methodNamed Bd.named
  have hlocks := Bd.notSynchronized
  have S0 : CallFix p m c cX2_lastWork 1 s _ wsX2_lastWork RX2 := ⟨hx, hb, hml, hown, hts⟩
  subst hsz
  have hD := hD0.self (sz := s.heap.size)
  generalize hAe : va_A [(g0, .inr (2, [.int 0, .int (nI L), .ref gs, .ref gk, .ref gv, .ref gz, .int (nI ci), .int x7, .int x8, .int (nI kc), .int (nI vi), .int (nI w)])), (gs, .inl (cI, 2048, .inl Sx)), (gk, .inl (cI, 2048, .inl Kx)), (gv, .inl (cI, 2048, .inl Vx)), (gz, .inl (cI, 2, .inl Zx))] s.heap.size = Aq at hD ⊢
  have hA : ∀ q : Nat, s.heap.size ≤ q → Aq q := fun q h => by rw [← hAe]; exact Or.inr h
  have hS : va_S Aq s.heap s.heap [] := va_S.rf
  have hD : va_D Aq [(g0, .inr (2, [.int 0, .int (nI L), .ref gs, .ref gk, .ref gv, .ref gz, .int (nI ci), .int x7, .int x8, .int (nI kc), .int (nI vi), .int (nI w)])), (gs, .inl (cI, 2048, .inl Sx)), (gk, .inl (cI, 2048, .inl Kx)), (gv, .inl (cI, 2048, .inl Vx)), (gz, .inl (cI, 2, .inl Zx))] := hD
  have hP : va_P (dC, dI) vwCl [(g0, .inr (2, [.int 0, .int (nI L), .ref gs, .ref gk, .ref gv, .ref gz, .int (nI ci), .int x7, .int x8, .int (nI kc), .int (nI vi), .int (nI w)])), (gs, .inl (cI, 2048, .inl Sx)), (gk, .inl (cI, 2048, .inl Kx)), (gv, .inl (cI, 2048, .inl Vx)), (gz, .inl (cI, 2, .inl Zx))] s.heap := hP
  have hl := lv_entry ([.ref g0]) (n := 1) (Nat.le_of_ble_eq_true rfl)
  rw [lg_entry_eq]
  generalize (lg_sl ([.ref g0]) ++ List.replicate (1 - (lg_sl ([.ref g0])).length) Slot.unset).toArray = ls at hl ⊢
  have hl : lv_has ls 1 [(0, .ref g0)] := hl
  have hSZ := hIV.1
  have hEM := q_iv_EM hIV
  have hEB := q_iv_EB hIV
  obtain ⟨hN, hP9, hU9⟩ := q_iv_PU hIV
  have hkc := q_iv_kc hIV
  obtain ⟨hci, hzA, hRTA, hmv, hcr⟩ := hR
  have hzA : Zx ci = nI A.1 := hzA
  have hRTA : q_RT Sx Kx Vx ci A := hRTA
  have hcr : ∀ c, nx = some c → x8 = nI c ∧ Zx (1 - ci) = nI B.1 ∧ q_RT Sx Kx Vx (1 - ci) B := hcr
  have hmv : x7 = q_b (nx.isSome = true) := hmv
  subst hmv
  have hcur : ∀ c, nx = some c → x8 = nI c ∧ Zx (1 - ci) = nI B.1 ∧ c ≤ B.1 := fun c h => ⟨(hcr c h).1, (hcr c h).2.1, (hEB c h).2⟩
  refine lv_aload_n hx hb dX2_lastWork_0 rfl (lv_at hl 0 rfl) ?_
  refine lv_iconst (v := 0) hx hb dX2_lastWork_1 (by decide) ?_
  refine va_put (D := (dC, dI)) (ci := 2) (v := .int 0) (ty := .int) (C := RX2) (T := TX2) (N := 12) hx hb hts hin_X2_lastWork_X2 tyX2 tyX2_ok nmX2 hown hK hP hD hS 0 rfl rfl 0 (by decide) (hts (.fieldLink RX2 26 "StepMapModel" "thrown" "I") (by decide +kernel)) (fun _ h9 => h9) rfl (by decide +kernel) (rfl) (rfl) (Nat.le_of_ble_eq_true rfl) dX2_lastWork_2 (fun H locs hP hD hS => ?_)
  have hP : va_P (dC, dI) vwCl [(g0, .inr (2, [.int 0, .int (nI L), .ref gs, .ref gk, .ref gv, .ref gz, .int (nI ci), .int (q_b (nx.isSome = true)), .int x8, .int (nI kc), .int (nI vi), .int (nI w)])), (gs, .inl (cI, 2048, .inl Sx)), (gk, .inl (cI, 2048, .inl Kx)), (gv, .inl (cI, 2048, .inl Vx)), (gz, .inl (cI, 2, .inl Zx))] H := hP
  have hD : va_D Aq [(g0, .inr (2, [.int 0, .int (nI L), .ref gs, .ref gk, .ref gv, .ref gz, .int (nI ci), .int (q_b (nx.isSome = true)), .int x8, .int (nI kc), .int (nI vi), .int (nI w)])), (gs, .inl (cI, 2048, .inl Sx)), (gk, .inl (cI, 2048, .inl Kx)), (gv, .inl (cI, 2048, .inl Vx)), (gz, .inl (cI, 2, .inl Zx))] := hD
  refine lv_aload_n hx hb dX2_lastWork_5 rfl (lv_at hl 0 rfl) ?_
  refine va_get (D := (dC, dI)) (ci := 2) (v := .int (nI w)) (C := RX2) (T := TX2) (N := 12) hx hb hts hin_X2_lastWork_X2 hown hK hP 0 rfl rfl 11 (by decide) (hts (.fieldLink RX2 78 "StepMapModel" "work" "I") (by decide +kernel)) (fun _ h9 => h9) rfl dX2_lastWork_6 ?_
  exact W.iret (v := nI w) hx hb hr (fun t ht hW => ⟨⟨_, (), rfl, rfl, by rw [ht]; exact hP, va_K.moved hW.alike hK, hD⟩, hS.F ht⟩) hS.2.2 dX2_lastWork_9
set_option maxHeartbeats 4000000 in
set_option maxRecDepth 100000 in
theorem c_X2_cursor (l : Launch) (dC : Nat → ClassId) (dI : Nat → Nat → Nat) (cI : ClassId) (g0 gs gk gv gz L : Nat) (Sx Kx Vx Zx : Nat → Int32) (x7 x8 : Int32) (ci vi : Nat) (A B : q_TB) (nx : Option Nat) (kc w : Nat) (sz : Nat) (hIV : q_IV L A B nx kc) (hR : q_RL (A, B, nx, kc, w) ci Sx Kx Vx Zx x7 x8) : Met l yX2_cursor wsX2_cursor ({ frames := 0, cells := 0, slots := 0, locals := 0 }) (r_Mc (dC, dI) vwCl [(cI, .int)] [(g0, .inr (2, [.int 0, .int (nI L), .ref gs, .ref gk, .ref gv, .ref gz, .int (nI ci), .int x7, .int x8, .int (nI kc), .int (nI vi), .int (nI w)])), (gs, .inl (cI, 2048, .inl Sx)), (gk, .inl (cI, 2048, .inl Kx)), (gv, .inl (cI, 2048, .inl Vx)), (gz, .inl (cI, 2, .inl Zx))] sz [.ref g0]) (va_Qi (fun (r : Int32) (_ : Unit) => r = q_nx nx) (fun u t => r_B (dC, dI) vwCl [(cI, .int)] (va_A [(g0, .inr (2, [.int 0, .int (nI L), .ref gs, .ref gk, .ref gv, .ref gz, .int (nI ci), .int x7, .int x8, .int (nI kc), .int (nI vi), .int (nI w)])), (gs, .inl (cI, 2048, .inl Sx)), (gk, .inl (cI, 2048, .inl Kx)), (gv, .inl (cI, 2048, .inl Vx)), (gz, .inl (cI, 2, .inl Zx))] sz) ((fun _ => [(g0, .inr (2, [.int 0, .int (nI L), .ref gs, .ref gk, .ref gv, .ref gz, .int (nI ci), .int x7, .int x8, .int (nI kc), .int (nI vi), .int (nI w)])), (gs, .inl (cI, 2048, .inl Sx)), (gk, .inl (cI, 2048, .inl Kx)), (gv, .inl (cI, 2048, .inl Vx)), (gz, .inl (cI, 2, .inl Zx))]) u) t) (va_A [(g0, .inr (2, [.int 0, .int (nI L), .ref gs, .ref gk, .ref gv, .ref gz, .int (nI ci), .int x7, .int x8, .int (nI kc), .int (nI vi), .int (nI w)])), (gs, .inl (cI, 2048, .inl Sx)), (gk, .inl (cI, 2048, .inl Kx)), (gv, .inl (cI, 2048, .inl Vx)), (gz, .inl (cI, 2, .inl Zx))] sz)) 0 0 (va_A [(g0, .inr (2, [.int 0, .int (nI L), .ref gs, .ref gk, .ref gv, .ref gz, .int (nI ci), .int x7, .int x8, .int (nI kc), .int (nI vi), .int (nI w)])), (gs, .inl (cI, 2048, .inl Sx)), (gk, .inl (cI, 2048, .inl Kx)), (gv, .inl (cI, 2048, .inl Vx)), (gz, .inl (cI, 2, .inl Zx))] sz) := by
  refine Met.ofW (cc := cX2_cursor) (maxL := 1) (ret := (some .int)) (by decide) rfl ?_
  intro p e s m args below meth c s₁ Bd hml hv
  obtain ⟨rfl, hsz, hP, hK, hD0⟩ := hv
  have hx := Bd.exec
  have hb := Bd.bytes
  have hr := Bd.returns
  have hts := atoms_spec (ws := wsX2_cursor) Bd.pre
  have hown : s.vm.findClass RX2 = some m.cls := findClass_of_methodNamed Bd.named
  have hlocks := Bd.notSynchronized
  have S0 : CallFix p m c cX2_cursor 1 s _ wsX2_cursor RX2 := ⟨hx, hb, hml, hown, hts⟩
  subst hsz
  have hD := hD0.self (sz := s.heap.size)
  generalize hAe : va_A [(g0, .inr (2, [.int 0, .int (nI L), .ref gs, .ref gk, .ref gv, .ref gz, .int (nI ci), .int x7, .int x8, .int (nI kc), .int (nI vi), .int (nI w)])), (gs, .inl (cI, 2048, .inl Sx)), (gk, .inl (cI, 2048, .inl Kx)), (gv, .inl (cI, 2048, .inl Vx)), (gz, .inl (cI, 2, .inl Zx))] s.heap.size = Aq at hD ⊢
  have hA : ∀ q : Nat, s.heap.size ≤ q → Aq q := fun q h => by rw [← hAe]; exact Or.inr h
  have hS : va_S Aq s.heap s.heap [] := va_S.rf
  have hD : va_D Aq [(g0, .inr (2, [.int 0, .int (nI L), .ref gs, .ref gk, .ref gv, .ref gz, .int (nI ci), .int x7, .int x8, .int (nI kc), .int (nI vi), .int (nI w)])), (gs, .inl (cI, 2048, .inl Sx)), (gk, .inl (cI, 2048, .inl Kx)), (gv, .inl (cI, 2048, .inl Vx)), (gz, .inl (cI, 2, .inl Zx))] := hD
  have hP : va_P (dC, dI) vwCl [(g0, .inr (2, [.int 0, .int (nI L), .ref gs, .ref gk, .ref gv, .ref gz, .int (nI ci), .int x7, .int x8, .int (nI kc), .int (nI vi), .int (nI w)])), (gs, .inl (cI, 2048, .inl Sx)), (gk, .inl (cI, 2048, .inl Kx)), (gv, .inl (cI, 2048, .inl Vx)), (gz, .inl (cI, 2, .inl Zx))] s.heap := hP
  have hl := lv_entry ([.ref g0]) (n := 1) (Nat.le_of_ble_eq_true rfl)
  rw [lg_entry_eq]
  generalize (lg_sl ([.ref g0]) ++ List.replicate (1 - (lg_sl ([.ref g0])).length) Slot.unset).toArray = ls at hl ⊢
  have hl : lv_has ls 1 [(0, .ref g0)] := hl
  have hSZ := hIV.1
  have hEM := q_iv_EM hIV
  have hEB := q_iv_EB hIV
  obtain ⟨hN, hP9, hU9⟩ := q_iv_PU hIV
  have hkc := q_iv_kc hIV
  obtain ⟨hci, hzA, hRTA, hmv, hcr⟩ := hR
  have hzA : Zx ci = nI A.1 := hzA
  have hRTA : q_RT Sx Kx Vx ci A := hRTA
  have hcr : ∀ c, nx = some c → x8 = nI c ∧ Zx (1 - ci) = nI B.1 ∧ q_RT Sx Kx Vx (1 - ci) B := hcr
  have hmv : x7 = q_b (nx.isSome = true) := hmv
  subst hmv
  have hcur : ∀ c, nx = some c → x8 = nI c ∧ Zx (1 - ci) = nI B.1 ∧ c ≤ B.1 := fun c h => ⟨(hcr c h).1, (hcr c h).2.1, (hEB c h).2⟩
  refine lv_aload_n hx hb dX2_cursor_0 rfl (lv_at hl 0 rfl) ?_
  refine lv_iconst (v := 0) hx hb dX2_cursor_1 (by decide) ?_
  refine va_put (D := (dC, dI)) (ci := 2) (v := .int 0) (ty := .int) (C := RX2) (T := TX2) (N := 12) hx hb hts hin_X2_cursor_X2 tyX2 tyX2_ok nmX2 hown hK hP hD hS 0 rfl rfl 0 (by decide) (hts (.fieldLink RX2 26 "StepMapModel" "thrown" "I") (by decide +kernel)) (fun _ h9 => h9) rfl (by decide +kernel) (rfl) (rfl) (Nat.le_of_ble_eq_true rfl) dX2_cursor_2 (fun H locs hP hD hS => ?_)
  have hP : va_P (dC, dI) vwCl [(g0, .inr (2, [.int 0, .int (nI L), .ref gs, .ref gk, .ref gv, .ref gz, .int (nI ci), .int (q_b (nx.isSome = true)), .int x8, .int (nI kc), .int (nI vi), .int (nI w)])), (gs, .inl (cI, 2048, .inl Sx)), (gk, .inl (cI, 2048, .inl Kx)), (gv, .inl (cI, 2048, .inl Vx)), (gz, .inl (cI, 2, .inl Zx))] H := hP
  have hD : va_D Aq [(g0, .inr (2, [.int 0, .int (nI L), .ref gs, .ref gk, .ref gv, .ref gz, .int (nI ci), .int (q_b (nx.isSome = true)), .int x8, .int (nI kc), .int (nI vi), .int (nI w)])), (gs, .inl (cI, 2048, .inl Sx)), (gk, .inl (cI, 2048, .inl Kx)), (gv, .inl (cI, 2048, .inl Vx)), (gz, .inl (cI, 2, .inl Zx))] := hD
  refine lv_aload_n hx hb dX2_cursor_5 rfl (lv_at hl 0 rfl) ?_
  refine va_get (D := (dC, dI)) (ci := 2) (v := .int (q_b (nx.isSome = true))) (C := RX2) (T := TX2) (N := 12) hx hb hts hin_X2_cursor_X2 hown hK hP 0 rfl rfl 7 (by decide) (hts (.fieldLink RX2 56 "StepMapModel" "moving" "Z") (by decide +kernel)) (fun _ h9 => h9) rfl dX2_cursor_6 ?_
  refine lv_if_eq (tgt := 19) hx hb dX2_cursor_9 (by decide) (fun c_9 => ?_) (fun c_9 => ?_)
  · have h_9 : ¬ (nx.isSome = true) := q_b_0.mp c_9
    refine lv_iconst (v := -1) hx hb dX2_cursor_19 (by decide) ?_
    exact W.iret (v := -1) hx hb hr (fun t ht hW => ⟨⟨_, (), rfl, (q_cur_n h_9), by rw [ht]; exact hP, va_K.moved hW.alike hK, hD⟩, hS.F ht⟩) hS.2.2 dX2_cursor_20
  · have h_9 : (nx.isSome = true) := q_b_n0 c_9
    refine lv_aload_n hx hb dX2_cursor_12 rfl (lv_at hl 0 rfl) ?_
    refine va_get (D := (dC, dI)) (ci := 2) (v := .int x8) (C := RX2) (T := TX2) (N := 12) hx hb hts hin_X2_cursor_X2 hown hK hP 0 rfl rfl 8 (by decide) (hts (.fieldLink RX2 46 "StepMapModel" "cursor" "I") (by decide +kernel)) (fun _ h9 => h9) rfl dX2_cursor_13 ?_
    refine lv_goto (tgt := 20) hx hb dX2_cursor_16 (by decide) ?_
    exact W.iret (v := x8) hx hb hr (fun t ht hW => ⟨⟨_, (), rfl, (q_cur_s h_9 (fun c h => (hcr c h).1)), by rw [ht]; exact hP, va_K.moved hW.alike hK, hD⟩, hS.F ht⟩) hS.2.2 dX2_cursor_20
set_option maxHeartbeats 4000000 in
set_option maxRecDepth 100000 in
theorem c_X2_get (l : Launch) (dC : Nat → ClassId) (dI : Nat → Nat → Nat) (cI : ClassId) (g0 gs gk gv gz L : Nat) (Sx Kx Vx Zx : Nat → Int32) (x7 x8 : Int32) (ci vi : Nat) (A B : q_TB) (nx : Option Nat) (kc w : Nat) (k : Int32) (sz : Nat) (hIV : q_IV L A B nx kc) (hR : q_RL (A, B, nx, kc, w) ci Sx Kx Vx Zx x7 x8) : Met l yX2_get wsX2_get ({ frames := 3, cells := 0, slots := 0, locals := 70 }) (r_Mc (dC, dI) vwCl [(cI, .int)] [(g0, .inr (2, [.int 0, .int (nI L), .ref gs, .ref gk, .ref gv, .ref gz, .int (nI ci), .int x7, .int x8, .int (nI kc), .int (nI vi), .int (nI w)])), (gs, .inl (cI, 2048, .inl Sx)), (gk, .inl (cI, 2048, .inl Kx)), (gv, .inl (cI, 2048, .inl Vx)), (gz, .inl (cI, 2, .inl Zx))] sz [.ref g0, .int k]) (va_Qi (fun (r : Int32) (u : q_U) => r = q_get A B nx k ∧ q_rl (A, B, nx, kc, q_lw A B nx k) u) (fun u t => r_B (dC, dI) vwCl [(cI, .int)] (va_A [(g0, .inr (2, [.int 0, .int (nI L), .ref gs, .ref gk, .ref gv, .ref gz, .int (nI ci), .int x7, .int x8, .int (nI kc), .int (nI vi), .int (nI w)])), (gs, .inl (cI, 2048, .inl Sx)), (gk, .inl (cI, 2048, .inl Kx)), (gv, .inl (cI, 2048, .inl Vx)), (gz, .inl (cI, 2, .inl Zx))] sz) ((fun u => q_WM cI g0 gs gk gv gz L u (A, B, nx, kc, q_lw A B nx k)) u) t) (va_A [(g0, .inr (2, [.int 0, .int (nI L), .ref gs, .ref gk, .ref gv, .ref gz, .int (nI ci), .int x7, .int x8, .int (nI kc), .int (nI vi), .int (nI w)])), (gs, .inl (cI, 2048, .inl Sx)), (gk, .inl (cI, 2048, .inl Kx)), (gv, .inl (cI, 2048, .inl Vx)), (gz, .inl (cI, 2, .inl Zx))] sz)) 0 0 (va_A [(g0, .inr (2, [.int 0, .int (nI L), .ref gs, .ref gk, .ref gv, .ref gz, .int (nI ci), .int x7, .int x8, .int (nI kc), .int (nI vi), .int (nI w)])), (gs, .inl (cI, 2048, .inl Sx)), (gk, .inl (cI, 2048, .inl Kx)), (gv, .inl (cI, 2048, .inl Vx)), (gz, .inl (cI, 2, .inl Zx))] sz) := by
  refine Met.ofW (cc := cX2_get) (maxL := 3) (ret := (some .int)) (by decide) rfl ?_
  intro p e s m args below meth c s₁ Bd hml hv
  obtain ⟨rfl, hsz, hP, hK, hD0⟩ := hv
  have hx := Bd.exec
  have hb := Bd.bytes
  have hr := Bd.returns
  have hts := atoms_spec (ws := wsX2_get) Bd.pre
  have hown : s.vm.findClass RX2 = some m.cls := findClass_of_methodNamed Bd.named
  have hlocks := Bd.notSynchronized
  have S0 : CallFix p m c cX2_get 3 s _ wsX2_get RX2 := ⟨hx, hb, hml, hown, hts⟩
  subst hsz
  have hD := hD0.self (sz := s.heap.size)
  generalize hAe : va_A [(g0, .inr (2, [.int 0, .int (nI L), .ref gs, .ref gk, .ref gv, .ref gz, .int (nI ci), .int x7, .int x8, .int (nI kc), .int (nI vi), .int (nI w)])), (gs, .inl (cI, 2048, .inl Sx)), (gk, .inl (cI, 2048, .inl Kx)), (gv, .inl (cI, 2048, .inl Vx)), (gz, .inl (cI, 2, .inl Zx))] s.heap.size = Aq at hD ⊢
  have hA : ∀ q : Nat, s.heap.size ≤ q → Aq q := fun q h => by rw [← hAe]; exact Or.inr h
  have hS : va_S Aq s.heap s.heap [] := va_S.rf
  have hD : va_D Aq [(g0, .inr (2, [.int 0, .int (nI L), .ref gs, .ref gk, .ref gv, .ref gz, .int (nI ci), .int x7, .int x8, .int (nI kc), .int (nI vi), .int (nI w)])), (gs, .inl (cI, 2048, .inl Sx)), (gk, .inl (cI, 2048, .inl Kx)), (gv, .inl (cI, 2048, .inl Vx)), (gz, .inl (cI, 2, .inl Zx))] := hD
  have hP : va_P (dC, dI) vwCl [(g0, .inr (2, [.int 0, .int (nI L), .ref gs, .ref gk, .ref gv, .ref gz, .int (nI ci), .int x7, .int x8, .int (nI kc), .int (nI vi), .int (nI w)])), (gs, .inl (cI, 2048, .inl Sx)), (gk, .inl (cI, 2048, .inl Kx)), (gv, .inl (cI, 2048, .inl Vx)), (gz, .inl (cI, 2, .inl Zx))] s.heap := hP
  have hl := lv_entry ([.ref g0, .int k]) (n := 3) (Nat.le_of_ble_eq_true rfl)
  rw [lg_entry_eq]
  generalize (lg_sl ([.ref g0, .int k]) ++ List.replicate (3 - (lg_sl ([.ref g0, .int k])).length) Slot.unset).toArray = ls at hl ⊢
  have hl : lv_has ls 3 [(0, .ref g0), (1, .int k)] := hl
  have hSZ := hIV.1
  have hEM := q_iv_EM hIV
  have hEB := q_iv_EB hIV
  obtain ⟨hN, hP9, hU9⟩ := q_iv_PU hIV
  have hkc := q_iv_kc hIV
  obtain ⟨hci, hzA, hRTA, hmv, hcr⟩ := hR
  have hzA : Zx ci = nI A.1 := hzA
  have hRTA : q_RT Sx Kx Vx ci A := hRTA
  have hcr : ∀ c, nx = some c → x8 = nI c ∧ Zx (1 - ci) = nI B.1 ∧ q_RT Sx Kx Vx (1 - ci) B := hcr
  have hmv : x7 = q_b (nx.isSome = true) := hmv
  subst hmv
  have hcur : ∀ c, nx = some c → x8 = nI c ∧ Zx (1 - ci) = nI B.1 ∧ c ≤ B.1 := fun c h => ⟨(hcr c h).1, (hcr c h).2.1, (hEB c h).2⟩
  obtain ⟨hLp, hpA, hAL, hpB, hBL⟩ := id hSZ
  have hL := (q_pw_8 hLp).2
  have hA8 := q_pw_8 hpA
  have hB8 := q_pw_8 hpB
  have heA := q_lkE_lt (t := A) k (by omega)
  have heB := q_lkE_lt (t := B) k (by omega)
  refine lv_aload_n hx hb dX2_get_0 rfl (lv_at hl 0 rfl) ?_
  refine lv_iconst (v := 0) hx hb dX2_get_1 (by decide) ?_
  refine va_put (D := (dC, dI)) (ci := 2) (v := .int 0) (ty := .int) (C := RX2) (T := TX2) (N := 12) hx hb hts hin_X2_get_X2 tyX2 tyX2_ok nmX2 hown hK hP hD hS 0 rfl rfl 0 (by decide) (hts (.fieldLink RX2 26 "StepMapModel" "thrown" "I") (by decide +kernel)) (fun _ h9 => h9) rfl (by decide +kernel) (rfl) (rfl) (Nat.le_of_ble_eq_true rfl) dX2_get_2 (fun H locs hP hD hS => ?_)
  have hP : va_P (dC, dI) vwCl [(g0, .inr (2, [.int 0, .int (nI L), .ref gs, .ref gk, .ref gv, .ref gz, .int (nI ci), .int (q_b (nx.isSome = true)), .int x8, .int (nI kc), .int (nI vi), .int (nI w)])), (gs, .inl (cI, 2048, .inl Sx)), (gk, .inl (cI, 2048, .inl Kx)), (gv, .inl (cI, 2048, .inl Vx)), (gz, .inl (cI, 2, .inl Zx))] H := hP
  have hD : va_D Aq [(g0, .inr (2, [.int 0, .int (nI L), .ref gs, .ref gk, .ref gv, .ref gz, .int (nI ci), .int (q_b (nx.isSome = true)), .int x8, .int (nI kc), .int (nI vi), .int (nI w)])), (gs, .inl (cI, 2048, .inl Sx)), (gk, .inl (cI, 2048, .inl Kx)), (gv, .inl (cI, 2048, .inl Vx)), (gz, .inl (cI, 2, .inl Zx))] := hD
  refine lv_aload_n hx hb dX2_get_5 rfl (lv_at hl 0 rfl) ?_
  refine lv_iconst (v := 0) hx hb dX2_get_6 (by decide) ?_
  refine va_put (D := (dC, dI)) (ci := 2) (v := .int 0) (ty := .int) (C := RX2) (T := TX2) (N := 12) hx hb hts hin_X2_get_X2 tyX2 tyX2_ok nmX2 hown hK hP hD hS 0 rfl rfl 10 (by decide) (hts (.fieldLink RX2 34 "StepMapModel" "visits" "I") (by decide +kernel)) (fun _ h9 => h9) rfl (by decide +kernel) (rfl) (rfl) (Nat.le_of_ble_eq_true rfl) dX2_get_7 (fun H locs hP hD hS => ?_)
  have hP : va_P (dC, dI) vwCl [(g0, .inr (2, [.int 0, .int (nI L), .ref gs, .ref gk, .ref gv, .ref gz, .int (nI ci), .int (q_b (nx.isSome = true)), .int x8, .int (nI kc), .int 0, .int (nI w)])), (gs, .inl (cI, 2048, .inl Sx)), (gk, .inl (cI, 2048, .inl Kx)), (gv, .inl (cI, 2048, .inl Vx)), (gz, .inl (cI, 2, .inl Zx))] H := hP
  have hD : va_D Aq [(g0, .inr (2, [.int 0, .int (nI L), .ref gs, .ref gk, .ref gv, .ref gz, .int (nI ci), .int (q_b (nx.isSome = true)), .int x8, .int (nI kc), .int 0, .int (nI w)])), (gs, .inl (cI, 2048, .inl Sx)), (gk, .inl (cI, 2048, .inl Kx)), (gv, .inl (cI, 2048, .inl Vx)), (gz, .inl (cI, 2, .inl Zx))] := hD
  have e_0_10 : 0 = nI 0 := nI_0.symm
  have hP : va_P (dC, dI) vwCl [(g0, .inr (2, [.int 0, .int (nI L), .ref gs, .ref gk, .ref gv, .ref gz, .int (nI ci), .int (q_b (nx.isSome = true)), .int x8, .int (nI kc), .int (nI 0), .int (nI w)])), (gs, .inl (cI, 2048, .inl Sx)), (gk, .inl (cI, 2048, .inl Kx)), (gv, .inl (cI, 2048, .inl Vx)), (gz, .inl (cI, 2, .inl Zx))] H := by rw [← e_0_10]; exact hP
  have hD : va_D Aq [(g0, .inr (2, [.int 0, .int (nI L), .ref gs, .ref gk, .ref gv, .ref gz, .int (nI ci), .int (q_b (nx.isSome = true)), .int x8, .int (nI kc), .int (nI 0), .int (nI w)])), (gs, .inl (cI, 2048, .inl Sx)), (gk, .inl (cI, 2048, .inl Kx)), (gv, .inl (cI, 2048, .inl Vx)), (gz, .inl (cI, 2, .inl Zx))] := by rw [← e_0_10]; exact hD
  refine lv_aload_n hx hb dX2_get_10 rfl (lv_at hl 0 rfl) ?_
  refine lv_iload_n hx hb dX2_get_11 rfl (lv_at hl 1 rfl) ?_
  refine r_muI (wr := []) (rest := []) S0 (c_X2_find l dC dI cI g0 gs gk gv gz L Sx Kx Vx Zx 0 x8 (nI kc) (nI w) ci 0 A B nx k H.size hSZ hEM (fun c h => (hEB c h).1) hci hzA hRTA hcr) (cwV 1 hts gX2_get_X2_find rfl rfl rfl (by decide +kernel) ⟨Nat.le_of_ble_eq_true rfl, Nat.le_of_ble_eq_true rfl⟩) hK hP hD hS hA [0, 1, 2, 3, 4] [] rfl rfl (by decide) (by decide) (by decide) (ci := 2) (q0 := 0) rfl rfl rfl rfl hl.1 rfl (Nat.le_of_ble_eq_true rfl) dX2_get_12 ⟨Nat.zero_le _, Nat.zero_le _⟩ (fun r_12 _ H locs hu hP hD hS => ?_)
  have hP : va_P (dC, dI) vwCl [(g0, .inr (2, [.int 0, .int (nI L), .ref gs, .ref gk, .ref gv, .ref gz, .int (nI ci), .int (q_b (nx.isSome = true)), .int x8, .int (nI kc), .int (nI (0 + q_lw A B nx k)), .int (nI w)])), (gs, .inl (cI, 2048, .inl Sx)), (gk, .inl (cI, 2048, .inl Kx)), (gv, .inl (cI, 2048, .inl Vx)), (gz, .inl (cI, 2, .inl Zx))] H := hP.sub [0, 1, 2, 3, 4] rfl
  have hD : va_D Aq [(g0, .inr (2, [.int 0, .int (nI L), .ref gs, .ref gk, .ref gv, .ref gz, .int (nI ci), .int (q_b (nx.isSome = true)), .int x8, .int (nI kc), .int (nI (0 + q_lw A B nx k)), .int (nI w)])), (gs, .inl (cI, 2048, .inl Sx)), (gk, .inl (cI, 2048, .inl Kx)), (gv, .inl (cI, 2048, .inl Vx)), (gz, .inl (cI, 2, .inl Zx))] := hD.sub [0, 1, 2, 3, 4] (by decide) rfl
  have hu : r_12 = q_fnd A B nx k ci := hu
  subst hu
  have e_0_10 : nI (0 + q_lw A B nx k) = nI (q_lw A B nx k) := congrArg nI (Nat.zero_add _)
  have hP : va_P (dC, dI) vwCl [(g0, .inr (2, [.int 0, .int (nI L), .ref gs, .ref gk, .ref gv, .ref gz, .int (nI ci), .int (q_b (nx.isSome = true)), .int x8, .int (nI kc), .int (nI (q_lw A B nx k)), .int (nI w)])), (gs, .inl (cI, 2048, .inl Sx)), (gk, .inl (cI, 2048, .inl Kx)), (gv, .inl (cI, 2048, .inl Vx)), (gz, .inl (cI, 2, .inl Zx))] H := by rw [← e_0_10]; exact hP
  have hD : va_D Aq [(g0, .inr (2, [.int 0, .int (nI L), .ref gs, .ref gk, .ref gv, .ref gz, .int (nI ci), .int (q_b (nx.isSome = true)), .int x8, .int (nI kc), .int (nI (q_lw A B nx k)), .int (nI w)])), (gs, .inl (cI, 2048, .inl Sx)), (gk, .inl (cI, 2048, .inl Kx)), (gv, .inl (cI, 2048, .inl Vx)), (gz, .inl (cI, 2, .inl Zx))] := by rw [← e_0_10]; exact hD
  rcases q_fnd_c A B nx k ci with ⟨ha, ep⟩ | ⟨ha, hbt, ep⟩ | ⟨ha, hbt, ep⟩
  · refine r_eq (z := nI (1024 * ci + q_lkE A k)) (ep) ?_
    refine lv_istore_n (lv' := [(2, .int (nI (1024 * ci + q_lkE A k))), (0, .ref g0), (1, .int k)]) hx hb dX2_get_15 rfl hl (by decide) rfl (fun ls hl => ?_)
    refine lv_aload_n hx hb dX2_get_16 rfl (lv_at hl 1 rfl) ?_
    refine lv_aload_n hx hb dX2_get_17 rfl (lv_at hl 1 rfl) ?_
    refine va_get (D := (dC, dI)) (ci := 2) (v := .int (nI (q_lw A B nx k))) (C := RX2) (T := TX2) (N := 12) hx hb hts hin_X2_get_X2 hown hK hP 0 rfl rfl 10 (by decide) (hts (.fieldLink RX2 34 "StepMapModel" "visits" "I") (by decide +kernel)) (fun _ h9 => h9) rfl dX2_get_18 ?_
    refine va_put (D := (dC, dI)) (ci := 2) (v := .int (nI (q_lw A B nx k))) (ty := .int) (C := RX2) (T := TX2) (N := 12) hx hb hts hin_X2_get_X2 tyX2 tyX2_ok nmX2 hown hK hP hD hS 0 rfl rfl 11 (by decide) (hts (.fieldLink RX2 78 "StepMapModel" "work" "I") (by decide +kernel)) (fun _ h9 => h9) rfl (by decide +kernel) (rfl) (rfl) (Nat.le_of_ble_eq_true rfl) dX2_get_21 (fun H locs hP hD hS => ?_)
    have hP : va_P (dC, dI) vwCl [(g0, .inr (2, [.int 0, .int (nI L), .ref gs, .ref gk, .ref gv, .ref gz, .int (nI ci), .int (q_b (nx.isSome = true)), .int x8, .int (nI kc), .int (nI (q_lw A B nx k)), .int (nI (q_lw A B nx k))])), (gs, .inl (cI, 2048, .inl Sx)), (gk, .inl (cI, 2048, .inl Kx)), (gv, .inl (cI, 2048, .inl Vx)), (gz, .inl (cI, 2, .inl Zx))] H := hP
    have hD : va_D Aq [(g0, .inr (2, [.int 0, .int (nI L), .ref gs, .ref gk, .ref gv, .ref gz, .int (nI ci), .int (q_b (nx.isSome = true)), .int x8, .int (nI kc), .int (nI (q_lw A B nx k)), .int (nI (q_lw A B nx k))])), (gs, .inl (cI, 2048, .inl Sx)), (gk, .inl (cI, 2048, .inl Kx)), (gv, .inl (cI, 2048, .inl Vx)), (gz, .inl (cI, 2, .inl Zx))] := hD
    refine lv_iload_n hx hb dX2_get_24 rfl (lv_at hl 0 rfl) ?_
    refine lv_if_ge (tgt := 32) hx hb dX2_get_25 (by decide) (fun c_25 => ?_) (fun c_25 => ?_)
    · have h_25 := q_le_t (a := 0) (b := 1024 * ci + q_lkE A k) (by omega) (by omega) c_25
      refine lv_aload_n hx hb dX2_get_32 rfl (lv_at hl 1 rfl) ?_
      refine va_get (D := (dC, dI)) (ci := 2) (v := .ref gv) (C := RX2) (T := TX2) (N := 12) hx hb hts hin_X2_get_X2 hown hK hP 0 rfl rfl 4 (by decide) (hts (.fieldLink RX2 16 "StepMapModel" "values" "[I") (by decide +kernel)) (fun _ h9 => h9) rfl dX2_get_33 ?_
      refine lv_iload_n hx hb dX2_get_36 rfl (lv_at hl 0 rfl) ?_
      refine r_ld (i := 1024 * ci + q_lkE A k) hx hb hK hP 3 0 rfl rfl (by omega) (by omega) dX2_get_37 ?_
      exact W.iret (v := Vx (1024 * ci + q_lkE A k)) hx hb hr (fun t ht hW => ⟨⟨_, (ci, (Sx, Kx, Vx), Zx, q_b (nx.isSome = true), x8, q_lw A B nx k), rfl, ⟨(q_RT_v hRTA heA ha.1).trans (q_get_A ha).symm, ⟨hci, hzA, hRTA, rfl, hcr⟩⟩, by rw [ht]; exact hP, va_K.moved hW.alike hK, hD⟩, hS.F ht⟩) hS.2.2 dX2_get_38
    · have h_25 := q_le_f (a := 0) (b := 1024 * ci + q_lkE A k) (by omega) (by omega) c_25
      omega
  · refine r_eq (z := nI (1024 * (1 - ci) + q_lkE B k)) (ep) ?_
    obtain ⟨cu, hcc⟩ := Option.isSome_iff_exists.mp hbt.1
    obtain ⟨hcr1, hzB, hRTB⟩ := hcr cu hcc
    refine lv_istore_n (lv' := [(2, .int (nI (1024 * (1 - ci) + q_lkE B k))), (0, .ref g0), (1, .int k)]) hx hb dX2_get_15 rfl hl (by decide) rfl (fun ls hl => ?_)
    refine lv_aload_n hx hb dX2_get_16 rfl (lv_at hl 1 rfl) ?_
    refine lv_aload_n hx hb dX2_get_17 rfl (lv_at hl 1 rfl) ?_
    refine va_get (D := (dC, dI)) (ci := 2) (v := .int (nI (q_lw A B nx k))) (C := RX2) (T := TX2) (N := 12) hx hb hts hin_X2_get_X2 hown hK hP 0 rfl rfl 10 (by decide) (hts (.fieldLink RX2 34 "StepMapModel" "visits" "I") (by decide +kernel)) (fun _ h9 => h9) rfl dX2_get_18 ?_
    refine va_put (D := (dC, dI)) (ci := 2) (v := .int (nI (q_lw A B nx k))) (ty := .int) (C := RX2) (T := TX2) (N := 12) hx hb hts hin_X2_get_X2 tyX2 tyX2_ok nmX2 hown hK hP hD hS 0 rfl rfl 11 (by decide) (hts (.fieldLink RX2 78 "StepMapModel" "work" "I") (by decide +kernel)) (fun _ h9 => h9) rfl (by decide +kernel) (rfl) (rfl) (Nat.le_of_ble_eq_true rfl) dX2_get_21 (fun H locs hP hD hS => ?_)
    have hP : va_P (dC, dI) vwCl [(g0, .inr (2, [.int 0, .int (nI L), .ref gs, .ref gk, .ref gv, .ref gz, .int (nI ci), .int (q_b (nx.isSome = true)), .int x8, .int (nI kc), .int (nI (q_lw A B nx k)), .int (nI (q_lw A B nx k))])), (gs, .inl (cI, 2048, .inl Sx)), (gk, .inl (cI, 2048, .inl Kx)), (gv, .inl (cI, 2048, .inl Vx)), (gz, .inl (cI, 2, .inl Zx))] H := hP
    have hD : va_D Aq [(g0, .inr (2, [.int 0, .int (nI L), .ref gs, .ref gk, .ref gv, .ref gz, .int (nI ci), .int (q_b (nx.isSome = true)), .int x8, .int (nI kc), .int (nI (q_lw A B nx k)), .int (nI (q_lw A B nx k))])), (gs, .inl (cI, 2048, .inl Sx)), (gk, .inl (cI, 2048, .inl Kx)), (gv, .inl (cI, 2048, .inl Vx)), (gz, .inl (cI, 2, .inl Zx))] := hD
    refine lv_iload_n hx hb dX2_get_24 rfl (lv_at hl 0 rfl) ?_
    refine lv_if_ge (tgt := 32) hx hb dX2_get_25 (by decide) (fun c_25 => ?_) (fun c_25 => ?_)
    · have h_25 := q_le_t (a := 0) (b := 1024 * (1 - ci) + q_lkE B k) (by omega) (by omega) c_25
      refine lv_aload_n hx hb dX2_get_32 rfl (lv_at hl 1 rfl) ?_
      refine va_get (D := (dC, dI)) (ci := 2) (v := .ref gv) (C := RX2) (T := TX2) (N := 12) hx hb hts hin_X2_get_X2 hown hK hP 0 rfl rfl 4 (by decide) (hts (.fieldLink RX2 16 "StepMapModel" "values" "[I") (by decide +kernel)) (fun _ h9 => h9) rfl dX2_get_33 ?_
      refine lv_iload_n hx hb dX2_get_36 rfl (lv_at hl 0 rfl) ?_
      refine r_ld (i := 1024 * (1 - ci) + q_lkE B k) hx hb hK hP 3 0 rfl rfl (by omega) (by omega) dX2_get_37 ?_
      exact W.iret (v := Vx (1024 * (1 - ci) + q_lkE B k)) hx hb hr (fun t ht hW => ⟨⟨_, (ci, (Sx, Kx, Vx), Zx, q_b (nx.isSome = true), x8, q_lw A B nx k), rfl, ⟨(q_RT_v hRTB heB hbt.2.1).trans (q_get_B ha hbt).symm, ⟨hci, hzA, hRTA, rfl, hcr⟩⟩, by rw [ht]; exact hP, va_K.moved hW.alike hK, hD⟩, hS.F ht⟩) hS.2.2 dX2_get_38
    · have h_25 := q_le_f (a := 0) (b := 1024 * (1 - ci) + q_lkE B k) (by omega) (by omega) c_25
      omega
  · refine r_eq (z := -1) (ep) ?_
    refine lv_istore_n (lv' := [(2, .int (-1)), (0, .ref g0), (1, .int k)]) hx hb dX2_get_15 rfl hl (by decide) rfl (fun ls hl => ?_)
    refine lv_aload_n hx hb dX2_get_16 rfl (lv_at hl 1 rfl) ?_
    refine lv_aload_n hx hb dX2_get_17 rfl (lv_at hl 1 rfl) ?_
    refine va_get (D := (dC, dI)) (ci := 2) (v := .int (nI (q_lw A B nx k))) (C := RX2) (T := TX2) (N := 12) hx hb hts hin_X2_get_X2 hown hK hP 0 rfl rfl 10 (by decide) (hts (.fieldLink RX2 34 "StepMapModel" "visits" "I") (by decide +kernel)) (fun _ h9 => h9) rfl dX2_get_18 ?_
    refine va_put (D := (dC, dI)) (ci := 2) (v := .int (nI (q_lw A B nx k))) (ty := .int) (C := RX2) (T := TX2) (N := 12) hx hb hts hin_X2_get_X2 tyX2 tyX2_ok nmX2 hown hK hP hD hS 0 rfl rfl 11 (by decide) (hts (.fieldLink RX2 78 "StepMapModel" "work" "I") (by decide +kernel)) (fun _ h9 => h9) rfl (by decide +kernel) (rfl) (rfl) (Nat.le_of_ble_eq_true rfl) dX2_get_21 (fun H locs hP hD hS => ?_)
    have hP : va_P (dC, dI) vwCl [(g0, .inr (2, [.int 0, .int (nI L), .ref gs, .ref gk, .ref gv, .ref gz, .int (nI ci), .int (q_b (nx.isSome = true)), .int x8, .int (nI kc), .int (nI (q_lw A B nx k)), .int (nI (q_lw A B nx k))])), (gs, .inl (cI, 2048, .inl Sx)), (gk, .inl (cI, 2048, .inl Kx)), (gv, .inl (cI, 2048, .inl Vx)), (gz, .inl (cI, 2, .inl Zx))] H := hP
    have hD : va_D Aq [(g0, .inr (2, [.int 0, .int (nI L), .ref gs, .ref gk, .ref gv, .ref gz, .int (nI ci), .int (q_b (nx.isSome = true)), .int x8, .int (nI kc), .int (nI (q_lw A B nx k)), .int (nI (q_lw A B nx k))])), (gs, .inl (cI, 2048, .inl Sx)), (gk, .inl (cI, 2048, .inl Kx)), (gv, .inl (cI, 2048, .inl Vx)), (gz, .inl (cI, 2, .inl Zx))] := hD
    refine lv_iload_n hx hb dX2_get_24 rfl (lv_at hl 0 rfl) ?_
    refine lv_if_ge (tgt := 32) hx hb dX2_get_25 (by decide) (fun c_25 => ?_) (fun c_25 => ?_)
    · exact absurd c_25 (by decide)
    · refine lv_iconst (v := 0) hx hb dX2_get_28 (by decide) ?_
      refine lv_goto (tgt := 38) hx hb dX2_get_29 (by decide) ?_
      exact W.iret (v := 0) hx hb hr (fun t ht hW => ⟨⟨_, (ci, (Sx, Kx, Vx), Zx, q_b (nx.isSome = true), x8, q_lw A B nx k), rfl, ⟨(q_get_N ha hbt).symm, ⟨hci, hzA, hRTA, rfl, hcr⟩⟩, by rw [ht]; exact hP, va_K.moved hW.alike hK, hD⟩, hS.F ht⟩) hS.2.2 dX2_get_38
set_option maxHeartbeats 4000000 in
set_option maxRecDepth 100000 in
theorem c_X2_has (l : Launch) (dC : Nat → ClassId) (dI : Nat → Nat → Nat) (cI : ClassId) (g0 gs gk gv gz L : Nat) (Sx Kx Vx Zx : Nat → Int32) (x7 x8 : Int32) (ci vi : Nat) (A B : q_TB) (nx : Option Nat) (kc w : Nat) (k : Int32) (sz : Nat) (hIV : q_IV L A B nx kc) (hR : q_RL (A, B, nx, kc, w) ci Sx Kx Vx Zx x7 x8) : Met l yX2_has wsX2_has ({ frames := 3, cells := 0, slots := 0, locals := 70 }) (r_Mc (dC, dI) vwCl [(cI, .int)] [(g0, .inr (2, [.int 0, .int (nI L), .ref gs, .ref gk, .ref gv, .ref gz, .int (nI ci), .int x7, .int x8, .int (nI kc), .int (nI vi), .int (nI w)])), (gs, .inl (cI, 2048, .inl Sx)), (gk, .inl (cI, 2048, .inl Kx)), (gv, .inl (cI, 2048, .inl Vx)), (gz, .inl (cI, 2, .inl Zx))] sz [.ref g0, .int k]) (va_Qi (fun (r : Int32) (u : q_U) => r = q_b (q_has A B nx k) ∧ q_rl (A, B, nx, kc, q_lw A B nx k) u) (fun u t => r_B (dC, dI) vwCl [(cI, .int)] (va_A [(g0, .inr (2, [.int 0, .int (nI L), .ref gs, .ref gk, .ref gv, .ref gz, .int (nI ci), .int x7, .int x8, .int (nI kc), .int (nI vi), .int (nI w)])), (gs, .inl (cI, 2048, .inl Sx)), (gk, .inl (cI, 2048, .inl Kx)), (gv, .inl (cI, 2048, .inl Vx)), (gz, .inl (cI, 2, .inl Zx))] sz) ((fun u => q_WM cI g0 gs gk gv gz L u (A, B, nx, kc, q_lw A B nx k)) u) t) (va_A [(g0, .inr (2, [.int 0, .int (nI L), .ref gs, .ref gk, .ref gv, .ref gz, .int (nI ci), .int x7, .int x8, .int (nI kc), .int (nI vi), .int (nI w)])), (gs, .inl (cI, 2048, .inl Sx)), (gk, .inl (cI, 2048, .inl Kx)), (gv, .inl (cI, 2048, .inl Vx)), (gz, .inl (cI, 2, .inl Zx))] sz)) 0 0 (va_A [(g0, .inr (2, [.int 0, .int (nI L), .ref gs, .ref gk, .ref gv, .ref gz, .int (nI ci), .int x7, .int x8, .int (nI kc), .int (nI vi), .int (nI w)])), (gs, .inl (cI, 2048, .inl Sx)), (gk, .inl (cI, 2048, .inl Kx)), (gv, .inl (cI, 2048, .inl Vx)), (gz, .inl (cI, 2, .inl Zx))] sz) := by
  refine Met.ofW (cc := cX2_has) (maxL := 3) (ret := (some .boolean)) (by decide) rfl ?_
  intro p e s m args below meth c s₁ Bd hml hv
  obtain ⟨rfl, hsz, hP, hK, hD0⟩ := hv
  have hx := Bd.exec
  have hb := Bd.bytes
  have hr := Bd.returns
  have hts := atoms_spec (ws := wsX2_has) Bd.pre
  have hown : s.vm.findClass RX2 = some m.cls := findClass_of_methodNamed Bd.named
  have hlocks := Bd.notSynchronized
  have S0 : CallFix p m c cX2_has 3 s _ wsX2_has RX2 := ⟨hx, hb, hml, hown, hts⟩
  subst hsz
  have hD := hD0.self (sz := s.heap.size)
  generalize hAe : va_A [(g0, .inr (2, [.int 0, .int (nI L), .ref gs, .ref gk, .ref gv, .ref gz, .int (nI ci), .int x7, .int x8, .int (nI kc), .int (nI vi), .int (nI w)])), (gs, .inl (cI, 2048, .inl Sx)), (gk, .inl (cI, 2048, .inl Kx)), (gv, .inl (cI, 2048, .inl Vx)), (gz, .inl (cI, 2, .inl Zx))] s.heap.size = Aq at hD ⊢
  have hA : ∀ q : Nat, s.heap.size ≤ q → Aq q := fun q h => by rw [← hAe]; exact Or.inr h
  have hS : va_S Aq s.heap s.heap [] := va_S.rf
  have hD : va_D Aq [(g0, .inr (2, [.int 0, .int (nI L), .ref gs, .ref gk, .ref gv, .ref gz, .int (nI ci), .int x7, .int x8, .int (nI kc), .int (nI vi), .int (nI w)])), (gs, .inl (cI, 2048, .inl Sx)), (gk, .inl (cI, 2048, .inl Kx)), (gv, .inl (cI, 2048, .inl Vx)), (gz, .inl (cI, 2, .inl Zx))] := hD
  have hP : va_P (dC, dI) vwCl [(g0, .inr (2, [.int 0, .int (nI L), .ref gs, .ref gk, .ref gv, .ref gz, .int (nI ci), .int x7, .int x8, .int (nI kc), .int (nI vi), .int (nI w)])), (gs, .inl (cI, 2048, .inl Sx)), (gk, .inl (cI, 2048, .inl Kx)), (gv, .inl (cI, 2048, .inl Vx)), (gz, .inl (cI, 2, .inl Zx))] s.heap := hP
  have hl := lv_entry ([.ref g0, .int k]) (n := 3) (Nat.le_of_ble_eq_true rfl)
  rw [lg_entry_eq]
  generalize (lg_sl ([.ref g0, .int k]) ++ List.replicate (3 - (lg_sl ([.ref g0, .int k])).length) Slot.unset).toArray = ls at hl ⊢
  have hl : lv_has ls 3 [(0, .ref g0), (1, .int k)] := hl
  have hSZ := hIV.1
  have hEM := q_iv_EM hIV
  have hEB := q_iv_EB hIV
  obtain ⟨hN, hP9, hU9⟩ := q_iv_PU hIV
  have hkc := q_iv_kc hIV
  obtain ⟨hci, hzA, hRTA, hmv, hcr⟩ := hR
  have hzA : Zx ci = nI A.1 := hzA
  have hRTA : q_RT Sx Kx Vx ci A := hRTA
  have hcr : ∀ c, nx = some c → x8 = nI c ∧ Zx (1 - ci) = nI B.1 ∧ q_RT Sx Kx Vx (1 - ci) B := hcr
  have hmv : x7 = q_b (nx.isSome = true) := hmv
  subst hmv
  have hcur : ∀ c, nx = some c → x8 = nI c ∧ Zx (1 - ci) = nI B.1 ∧ c ≤ B.1 := fun c h => ⟨(hcr c h).1, (hcr c h).2.1, (hEB c h).2⟩
  obtain ⟨hLp, hpA, hAL, hpB, hBL⟩ := id hSZ
  have hL := (q_pw_8 hLp).2
  have hA8 := q_pw_8 hpA
  have hB8 := q_pw_8 hpB
  have heA := q_lkE_lt (t := A) k (by omega)
  have heB := q_lkE_lt (t := B) k (by omega)
  refine lv_aload_n hx hb dX2_has_0 rfl (lv_at hl 0 rfl) ?_
  refine lv_iconst (v := 0) hx hb dX2_has_1 (by decide) ?_
  refine va_put (D := (dC, dI)) (ci := 2) (v := .int 0) (ty := .int) (C := RX2) (T := TX2) (N := 12) hx hb hts hin_X2_has_X2 tyX2 tyX2_ok nmX2 hown hK hP hD hS 0 rfl rfl 0 (by decide) (hts (.fieldLink RX2 26 "StepMapModel" "thrown" "I") (by decide +kernel)) (fun _ h9 => h9) rfl (by decide +kernel) (rfl) (rfl) (Nat.le_of_ble_eq_true rfl) dX2_has_2 (fun H locs hP hD hS => ?_)
  have hP : va_P (dC, dI) vwCl [(g0, .inr (2, [.int 0, .int (nI L), .ref gs, .ref gk, .ref gv, .ref gz, .int (nI ci), .int (q_b (nx.isSome = true)), .int x8, .int (nI kc), .int (nI vi), .int (nI w)])), (gs, .inl (cI, 2048, .inl Sx)), (gk, .inl (cI, 2048, .inl Kx)), (gv, .inl (cI, 2048, .inl Vx)), (gz, .inl (cI, 2, .inl Zx))] H := hP
  have hD : va_D Aq [(g0, .inr (2, [.int 0, .int (nI L), .ref gs, .ref gk, .ref gv, .ref gz, .int (nI ci), .int (q_b (nx.isSome = true)), .int x8, .int (nI kc), .int (nI vi), .int (nI w)])), (gs, .inl (cI, 2048, .inl Sx)), (gk, .inl (cI, 2048, .inl Kx)), (gv, .inl (cI, 2048, .inl Vx)), (gz, .inl (cI, 2, .inl Zx))] := hD
  refine lv_aload_n hx hb dX2_has_5 rfl (lv_at hl 0 rfl) ?_
  refine lv_iconst (v := 0) hx hb dX2_has_6 (by decide) ?_
  refine va_put (D := (dC, dI)) (ci := 2) (v := .int 0) (ty := .int) (C := RX2) (T := TX2) (N := 12) hx hb hts hin_X2_has_X2 tyX2 tyX2_ok nmX2 hown hK hP hD hS 0 rfl rfl 10 (by decide) (hts (.fieldLink RX2 34 "StepMapModel" "visits" "I") (by decide +kernel)) (fun _ h9 => h9) rfl (by decide +kernel) (rfl) (rfl) (Nat.le_of_ble_eq_true rfl) dX2_has_7 (fun H locs hP hD hS => ?_)
  have hP : va_P (dC, dI) vwCl [(g0, .inr (2, [.int 0, .int (nI L), .ref gs, .ref gk, .ref gv, .ref gz, .int (nI ci), .int (q_b (nx.isSome = true)), .int x8, .int (nI kc), .int 0, .int (nI w)])), (gs, .inl (cI, 2048, .inl Sx)), (gk, .inl (cI, 2048, .inl Kx)), (gv, .inl (cI, 2048, .inl Vx)), (gz, .inl (cI, 2, .inl Zx))] H := hP
  have hD : va_D Aq [(g0, .inr (2, [.int 0, .int (nI L), .ref gs, .ref gk, .ref gv, .ref gz, .int (nI ci), .int (q_b (nx.isSome = true)), .int x8, .int (nI kc), .int 0, .int (nI w)])), (gs, .inl (cI, 2048, .inl Sx)), (gk, .inl (cI, 2048, .inl Kx)), (gv, .inl (cI, 2048, .inl Vx)), (gz, .inl (cI, 2, .inl Zx))] := hD
  have e_0_10 : 0 = nI 0 := nI_0.symm
  have hP : va_P (dC, dI) vwCl [(g0, .inr (2, [.int 0, .int (nI L), .ref gs, .ref gk, .ref gv, .ref gz, .int (nI ci), .int (q_b (nx.isSome = true)), .int x8, .int (nI kc), .int (nI 0), .int (nI w)])), (gs, .inl (cI, 2048, .inl Sx)), (gk, .inl (cI, 2048, .inl Kx)), (gv, .inl (cI, 2048, .inl Vx)), (gz, .inl (cI, 2, .inl Zx))] H := by rw [← e_0_10]; exact hP
  have hD : va_D Aq [(g0, .inr (2, [.int 0, .int (nI L), .ref gs, .ref gk, .ref gv, .ref gz, .int (nI ci), .int (q_b (nx.isSome = true)), .int x8, .int (nI kc), .int (nI 0), .int (nI w)])), (gs, .inl (cI, 2048, .inl Sx)), (gk, .inl (cI, 2048, .inl Kx)), (gv, .inl (cI, 2048, .inl Vx)), (gz, .inl (cI, 2, .inl Zx))] := by rw [← e_0_10]; exact hD
  refine lv_aload_n hx hb dX2_has_10 rfl (lv_at hl 0 rfl) ?_
  refine lv_iload_n hx hb dX2_has_11 rfl (lv_at hl 1 rfl) ?_
  refine r_muI (wr := []) (rest := []) S0 (c_X2_find l dC dI cI g0 gs gk gv gz L Sx Kx Vx Zx 0 x8 (nI kc) (nI w) ci 0 A B nx k H.size hSZ hEM (fun c h => (hEB c h).1) hci hzA hRTA hcr) (cwV 1 hts gX2_has_X2_find rfl rfl rfl (by decide +kernel) ⟨Nat.le_of_ble_eq_true rfl, Nat.le_of_ble_eq_true rfl⟩) hK hP hD hS hA [0, 1, 2, 3, 4] [] rfl rfl (by decide) (by decide) (by decide) (ci := 2) (q0 := 0) rfl rfl rfl rfl hl.1 rfl (Nat.le_of_ble_eq_true rfl) dX2_has_12 ⟨Nat.zero_le _, Nat.zero_le _⟩ (fun r_12 _ H locs hu hP hD hS => ?_)
  have hP : va_P (dC, dI) vwCl [(g0, .inr (2, [.int 0, .int (nI L), .ref gs, .ref gk, .ref gv, .ref gz, .int (nI ci), .int (q_b (nx.isSome = true)), .int x8, .int (nI kc), .int (nI (0 + q_lw A B nx k)), .int (nI w)])), (gs, .inl (cI, 2048, .inl Sx)), (gk, .inl (cI, 2048, .inl Kx)), (gv, .inl (cI, 2048, .inl Vx)), (gz, .inl (cI, 2, .inl Zx))] H := hP.sub [0, 1, 2, 3, 4] rfl
  have hD : va_D Aq [(g0, .inr (2, [.int 0, .int (nI L), .ref gs, .ref gk, .ref gv, .ref gz, .int (nI ci), .int (q_b (nx.isSome = true)), .int x8, .int (nI kc), .int (nI (0 + q_lw A B nx k)), .int (nI w)])), (gs, .inl (cI, 2048, .inl Sx)), (gk, .inl (cI, 2048, .inl Kx)), (gv, .inl (cI, 2048, .inl Vx)), (gz, .inl (cI, 2, .inl Zx))] := hD.sub [0, 1, 2, 3, 4] (by decide) rfl
  have hu : r_12 = q_fnd A B nx k ci := hu
  subst hu
  have e_0_10 : nI (0 + q_lw A B nx k) = nI (q_lw A B nx k) := congrArg nI (Nat.zero_add _)
  have hP : va_P (dC, dI) vwCl [(g0, .inr (2, [.int 0, .int (nI L), .ref gs, .ref gk, .ref gv, .ref gz, .int (nI ci), .int (q_b (nx.isSome = true)), .int x8, .int (nI kc), .int (nI (q_lw A B nx k)), .int (nI w)])), (gs, .inl (cI, 2048, .inl Sx)), (gk, .inl (cI, 2048, .inl Kx)), (gv, .inl (cI, 2048, .inl Vx)), (gz, .inl (cI, 2, .inl Zx))] H := by rw [← e_0_10]; exact hP
  have hD : va_D Aq [(g0, .inr (2, [.int 0, .int (nI L), .ref gs, .ref gk, .ref gv, .ref gz, .int (nI ci), .int (q_b (nx.isSome = true)), .int x8, .int (nI kc), .int (nI (q_lw A B nx k)), .int (nI w)])), (gs, .inl (cI, 2048, .inl Sx)), (gk, .inl (cI, 2048, .inl Kx)), (gv, .inl (cI, 2048, .inl Vx)), (gz, .inl (cI, 2, .inl Zx))] := by rw [← e_0_10]; exact hD
  rcases q_fnd_c A B nx k ci with ⟨ha, ep⟩ | ⟨ha, hbt, ep⟩ | ⟨ha, hbt, ep⟩
  · refine r_eq (z := nI (1024 * ci + q_lkE A k)) (ep) ?_
    refine lv_istore_n (lv' := [(2, .int (nI (1024 * ci + q_lkE A k))), (0, .ref g0), (1, .int k)]) hx hb dX2_has_15 rfl hl (by decide) rfl (fun ls hl => ?_)
    refine lv_aload_n hx hb dX2_has_16 rfl (lv_at hl 1 rfl) ?_
    refine lv_aload_n hx hb dX2_has_17 rfl (lv_at hl 1 rfl) ?_
    refine va_get (D := (dC, dI)) (ci := 2) (v := .int (nI (q_lw A B nx k))) (C := RX2) (T := TX2) (N := 12) hx hb hts hin_X2_has_X2 hown hK hP 0 rfl rfl 10 (by decide) (hts (.fieldLink RX2 34 "StepMapModel" "visits" "I") (by decide +kernel)) (fun _ h9 => h9) rfl dX2_has_18 ?_
    refine va_put (D := (dC, dI)) (ci := 2) (v := .int (nI (q_lw A B nx k))) (ty := .int) (C := RX2) (T := TX2) (N := 12) hx hb hts hin_X2_has_X2 tyX2 tyX2_ok nmX2 hown hK hP hD hS 0 rfl rfl 11 (by decide) (hts (.fieldLink RX2 78 "StepMapModel" "work" "I") (by decide +kernel)) (fun _ h9 => h9) rfl (by decide +kernel) (rfl) (rfl) (Nat.le_of_ble_eq_true rfl) dX2_has_21 (fun H locs hP hD hS => ?_)
    have hP : va_P (dC, dI) vwCl [(g0, .inr (2, [.int 0, .int (nI L), .ref gs, .ref gk, .ref gv, .ref gz, .int (nI ci), .int (q_b (nx.isSome = true)), .int x8, .int (nI kc), .int (nI (q_lw A B nx k)), .int (nI (q_lw A B nx k))])), (gs, .inl (cI, 2048, .inl Sx)), (gk, .inl (cI, 2048, .inl Kx)), (gv, .inl (cI, 2048, .inl Vx)), (gz, .inl (cI, 2, .inl Zx))] H := hP
    have hD : va_D Aq [(g0, .inr (2, [.int 0, .int (nI L), .ref gs, .ref gk, .ref gv, .ref gz, .int (nI ci), .int (q_b (nx.isSome = true)), .int x8, .int (nI kc), .int (nI (q_lw A B nx k)), .int (nI (q_lw A B nx k))])), (gs, .inl (cI, 2048, .inl Sx)), (gk, .inl (cI, 2048, .inl Kx)), (gv, .inl (cI, 2048, .inl Vx)), (gz, .inl (cI, 2, .inl Zx))] := hD
    refine lv_iload_n hx hb dX2_has_24 rfl (lv_at hl 0 rfl) ?_
    refine lv_if_lt (tgt := 32) hx hb dX2_has_25 (by decide) (fun c_25 => ?_) (fun c_25 => ?_)
    · have h_25 := q_lt_t (a := 1024 * ci + q_lkE A k) (b := 0) (by omega) (by omega) c_25
      omega
    · have h_25 := q_lt_f (a := 1024 * ci + q_lkE A k) (b := 0) (by omega) (by omega) c_25
      refine lv_iconst (v := 1) hx hb dX2_has_28 (by decide) ?_
      refine lv_goto (tgt := 33) hx hb dX2_has_29 (by decide) ?_
      exact W.zret (v := 1) hx hb hr (rfl) (fun t ht hW => ⟨⟨_, (ci, (Sx, Kx, Vx), Zx, q_b (nx.isSome = true), x8, q_lw A B nx k), rfl, ⟨(q_b_t (Or.inl ha)).symm, ⟨hci, hzA, hRTA, rfl, hcr⟩⟩, by rw [ht]; exact hP, va_K.moved hW.alike hK, hD⟩, hS.F ht⟩) hS.2.2 dX2_has_33
  · refine r_eq (z := nI (1024 * (1 - ci) + q_lkE B k)) (ep) ?_
    obtain ⟨cu, hcc⟩ := Option.isSome_iff_exists.mp hbt.1
    obtain ⟨hcr1, hzB, hRTB⟩ := hcr cu hcc
    refine lv_istore_n (lv' := [(2, .int (nI (1024 * (1 - ci) + q_lkE B k))), (0, .ref g0), (1, .int k)]) hx hb dX2_has_15 rfl hl (by decide) rfl (fun ls hl => ?_)
    refine lv_aload_n hx hb dX2_has_16 rfl (lv_at hl 1 rfl) ?_
    refine lv_aload_n hx hb dX2_has_17 rfl (lv_at hl 1 rfl) ?_
    refine va_get (D := (dC, dI)) (ci := 2) (v := .int (nI (q_lw A B nx k))) (C := RX2) (T := TX2) (N := 12) hx hb hts hin_X2_has_X2 hown hK hP 0 rfl rfl 10 (by decide) (hts (.fieldLink RX2 34 "StepMapModel" "visits" "I") (by decide +kernel)) (fun _ h9 => h9) rfl dX2_has_18 ?_
    refine va_put (D := (dC, dI)) (ci := 2) (v := .int (nI (q_lw A B nx k))) (ty := .int) (C := RX2) (T := TX2) (N := 12) hx hb hts hin_X2_has_X2 tyX2 tyX2_ok nmX2 hown hK hP hD hS 0 rfl rfl 11 (by decide) (hts (.fieldLink RX2 78 "StepMapModel" "work" "I") (by decide +kernel)) (fun _ h9 => h9) rfl (by decide +kernel) (rfl) (rfl) (Nat.le_of_ble_eq_true rfl) dX2_has_21 (fun H locs hP hD hS => ?_)
    have hP : va_P (dC, dI) vwCl [(g0, .inr (2, [.int 0, .int (nI L), .ref gs, .ref gk, .ref gv, .ref gz, .int (nI ci), .int (q_b (nx.isSome = true)), .int x8, .int (nI kc), .int (nI (q_lw A B nx k)), .int (nI (q_lw A B nx k))])), (gs, .inl (cI, 2048, .inl Sx)), (gk, .inl (cI, 2048, .inl Kx)), (gv, .inl (cI, 2048, .inl Vx)), (gz, .inl (cI, 2, .inl Zx))] H := hP
    have hD : va_D Aq [(g0, .inr (2, [.int 0, .int (nI L), .ref gs, .ref gk, .ref gv, .ref gz, .int (nI ci), .int (q_b (nx.isSome = true)), .int x8, .int (nI kc), .int (nI (q_lw A B nx k)), .int (nI (q_lw A B nx k))])), (gs, .inl (cI, 2048, .inl Sx)), (gk, .inl (cI, 2048, .inl Kx)), (gv, .inl (cI, 2048, .inl Vx)), (gz, .inl (cI, 2, .inl Zx))] := hD
    refine lv_iload_n hx hb dX2_has_24 rfl (lv_at hl 0 rfl) ?_
    refine lv_if_lt (tgt := 32) hx hb dX2_has_25 (by decide) (fun c_25 => ?_) (fun c_25 => ?_)
    · have h_25 := q_lt_t (a := 1024 * (1 - ci) + q_lkE B k) (b := 0) (by omega) (by omega) c_25
      omega
    · have h_25 := q_lt_f (a := 1024 * (1 - ci) + q_lkE B k) (b := 0) (by omega) (by omega) c_25
      refine lv_iconst (v := 1) hx hb dX2_has_28 (by decide) ?_
      refine lv_goto (tgt := 33) hx hb dX2_has_29 (by decide) ?_
      exact W.zret (v := 1) hx hb hr (rfl) (fun t ht hW => ⟨⟨_, (ci, (Sx, Kx, Vx), Zx, q_b (nx.isSome = true), x8, q_lw A B nx k), rfl, ⟨(q_b_t (Or.inr hbt)).symm, ⟨hci, hzA, hRTA, rfl, hcr⟩⟩, by rw [ht]; exact hP, va_K.moved hW.alike hK, hD⟩, hS.F ht⟩) hS.2.2 dX2_has_33
  · refine r_eq (z := -1) (ep) ?_
    refine lv_istore_n (lv' := [(2, .int (-1)), (0, .ref g0), (1, .int k)]) hx hb dX2_has_15 rfl hl (by decide) rfl (fun ls hl => ?_)
    refine lv_aload_n hx hb dX2_has_16 rfl (lv_at hl 1 rfl) ?_
    refine lv_aload_n hx hb dX2_has_17 rfl (lv_at hl 1 rfl) ?_
    refine va_get (D := (dC, dI)) (ci := 2) (v := .int (nI (q_lw A B nx k))) (C := RX2) (T := TX2) (N := 12) hx hb hts hin_X2_has_X2 hown hK hP 0 rfl rfl 10 (by decide) (hts (.fieldLink RX2 34 "StepMapModel" "visits" "I") (by decide +kernel)) (fun _ h9 => h9) rfl dX2_has_18 ?_
    refine va_put (D := (dC, dI)) (ci := 2) (v := .int (nI (q_lw A B nx k))) (ty := .int) (C := RX2) (T := TX2) (N := 12) hx hb hts hin_X2_has_X2 tyX2 tyX2_ok nmX2 hown hK hP hD hS 0 rfl rfl 11 (by decide) (hts (.fieldLink RX2 78 "StepMapModel" "work" "I") (by decide +kernel)) (fun _ h9 => h9) rfl (by decide +kernel) (rfl) (rfl) (Nat.le_of_ble_eq_true rfl) dX2_has_21 (fun H locs hP hD hS => ?_)
    have hP : va_P (dC, dI) vwCl [(g0, .inr (2, [.int 0, .int (nI L), .ref gs, .ref gk, .ref gv, .ref gz, .int (nI ci), .int (q_b (nx.isSome = true)), .int x8, .int (nI kc), .int (nI (q_lw A B nx k)), .int (nI (q_lw A B nx k))])), (gs, .inl (cI, 2048, .inl Sx)), (gk, .inl (cI, 2048, .inl Kx)), (gv, .inl (cI, 2048, .inl Vx)), (gz, .inl (cI, 2, .inl Zx))] H := hP
    have hD : va_D Aq [(g0, .inr (2, [.int 0, .int (nI L), .ref gs, .ref gk, .ref gv, .ref gz, .int (nI ci), .int (q_b (nx.isSome = true)), .int x8, .int (nI kc), .int (nI (q_lw A B nx k)), .int (nI (q_lw A B nx k))])), (gs, .inl (cI, 2048, .inl Sx)), (gk, .inl (cI, 2048, .inl Kx)), (gv, .inl (cI, 2048, .inl Vx)), (gz, .inl (cI, 2, .inl Zx))] := hD
    refine lv_iload_n hx hb dX2_has_24 rfl (lv_at hl 0 rfl) ?_
    refine lv_if_lt (tgt := 32) hx hb dX2_has_25 (by decide) (fun c_25 => ?_) (fun c_25 => ?_)
    · refine lv_iconst (v := 0) hx hb dX2_has_32 (by decide) ?_
      exact W.zret (v := 0) hx hb hr (rfl) (fun t ht hW => ⟨⟨_, (ci, (Sx, Kx, Vx), Zx, q_b (nx.isSome = true), x8, q_lw A B nx k), rfl, ⟨(q_b_f (fun z => z.elim ha hbt)).symm, ⟨hci, hzA, hRTA, rfl, hcr⟩⟩, by rw [ht]; exact hP, va_K.moved hW.alike hK, hD⟩, hS.F ht⟩) hS.2.2 dX2_has_33
    · exact absurd (by decide) c_25
set_option maxHeartbeats 4000000 in
set_option maxRecDepth 100000 in
theorem c_X2_slot (l : Launch) (dC : Nat → ClassId) (dI : Nat → Nat → Nat) (cI : ClassId) (g0 gs gk gv gz L : Nat) (Sx Kx Vx Zx : Nat → Int32) (x7 x8 : Int32) (ci vi : Nat) (A B : q_TB) (nx : Option Nat) (kc w : Nat) (k : Int32) (sz : Nat) (hIV : q_IV L A B nx kc) (hR : q_RL (A, B, nx, kc, w) ci Sx Kx Vx Zx x7 x8) : Met l yX2_slot wsX2_slot ({ frames := 3, cells := 0, slots := 0, locals := 70 }) (r_Mc (dC, dI) vwCl [(cI, .int)] [(g0, .inr (2, [.int 0, .int (nI L), .ref gs, .ref gk, .ref gv, .ref gz, .int (nI ci), .int x7, .int x8, .int (nI kc), .int (nI vi), .int (nI w)])), (gs, .inl (cI, 2048, .inl Sx)), (gk, .inl (cI, 2048, .inl Kx)), (gv, .inl (cI, 2048, .inl Vx)), (gz, .inl (cI, 2, .inl Zx))] sz [.ref g0, .int k]) (va_Qi (fun (r : Int32) (u : q_U) => r = q_slot A B nx k ∧ q_rl (A, B, nx, kc, w) u) (fun u t => r_B (dC, dI) vwCl [(cI, .int)] (va_A [(g0, .inr (2, [.int 0, .int (nI L), .ref gs, .ref gk, .ref gv, .ref gz, .int (nI ci), .int x7, .int x8, .int (nI kc), .int (nI vi), .int (nI w)])), (gs, .inl (cI, 2048, .inl Sx)), (gk, .inl (cI, 2048, .inl Kx)), (gv, .inl (cI, 2048, .inl Vx)), (gz, .inl (cI, 2, .inl Zx))] sz) ((fun u => q_WM cI g0 gs gk gv gz L u (A, B, nx, kc, w)) u) t) (va_A [(g0, .inr (2, [.int 0, .int (nI L), .ref gs, .ref gk, .ref gv, .ref gz, .int (nI ci), .int x7, .int x8, .int (nI kc), .int (nI vi), .int (nI w)])), (gs, .inl (cI, 2048, .inl Sx)), (gk, .inl (cI, 2048, .inl Kx)), (gv, .inl (cI, 2048, .inl Vx)), (gz, .inl (cI, 2, .inl Zx))] sz)) 0 0 (va_A [(g0, .inr (2, [.int 0, .int (nI L), .ref gs, .ref gk, .ref gv, .ref gz, .int (nI ci), .int x7, .int x8, .int (nI kc), .int (nI vi), .int (nI w)])), (gs, .inl (cI, 2048, .inl Sx)), (gk, .inl (cI, 2048, .inl Kx)), (gv, .inl (cI, 2048, .inl Vx)), (gz, .inl (cI, 2, .inl Zx))] sz) := by
  refine Met.ofW (cc := cX2_slot) (maxL := 3) (ret := (some .int)) (by decide) rfl ?_
  intro p e s m args below meth c s₁ Bd hml hv
  obtain ⟨rfl, hsz, hP, hK, hD0⟩ := hv
  have hx := Bd.exec
  have hb := Bd.bytes
  have hr := Bd.returns
  have hts := atoms_spec (ws := wsX2_slot) Bd.pre
  have hown : s.vm.findClass RX2 = some m.cls := findClass_of_methodNamed Bd.named
  have hlocks := Bd.notSynchronized
  have S0 : CallFix p m c cX2_slot 3 s _ wsX2_slot RX2 := ⟨hx, hb, hml, hown, hts⟩
  subst hsz
  have hD := hD0.self (sz := s.heap.size)
  generalize hAe : va_A [(g0, .inr (2, [.int 0, .int (nI L), .ref gs, .ref gk, .ref gv, .ref gz, .int (nI ci), .int x7, .int x8, .int (nI kc), .int (nI vi), .int (nI w)])), (gs, .inl (cI, 2048, .inl Sx)), (gk, .inl (cI, 2048, .inl Kx)), (gv, .inl (cI, 2048, .inl Vx)), (gz, .inl (cI, 2, .inl Zx))] s.heap.size = Aq at hD ⊢
  have hA : ∀ q : Nat, s.heap.size ≤ q → Aq q := fun q h => by rw [← hAe]; exact Or.inr h
  have hS : va_S Aq s.heap s.heap [] := va_S.rf
  have hD : va_D Aq [(g0, .inr (2, [.int 0, .int (nI L), .ref gs, .ref gk, .ref gv, .ref gz, .int (nI ci), .int x7, .int x8, .int (nI kc), .int (nI vi), .int (nI w)])), (gs, .inl (cI, 2048, .inl Sx)), (gk, .inl (cI, 2048, .inl Kx)), (gv, .inl (cI, 2048, .inl Vx)), (gz, .inl (cI, 2, .inl Zx))] := hD
  have hP : va_P (dC, dI) vwCl [(g0, .inr (2, [.int 0, .int (nI L), .ref gs, .ref gk, .ref gv, .ref gz, .int (nI ci), .int x7, .int x8, .int (nI kc), .int (nI vi), .int (nI w)])), (gs, .inl (cI, 2048, .inl Sx)), (gk, .inl (cI, 2048, .inl Kx)), (gv, .inl (cI, 2048, .inl Vx)), (gz, .inl (cI, 2, .inl Zx))] s.heap := hP
  have hl := lv_entry ([.ref g0, .int k]) (n := 3) (Nat.le_of_ble_eq_true rfl)
  rw [lg_entry_eq]
  generalize (lg_sl ([.ref g0, .int k]) ++ List.replicate (3 - (lg_sl ([.ref g0, .int k])).length) Slot.unset).toArray = ls at hl ⊢
  have hl : lv_has ls 3 [(0, .ref g0), (1, .int k)] := hl
  have hSZ := hIV.1
  have hEM := q_iv_EM hIV
  have hEB := q_iv_EB hIV
  obtain ⟨hN, hP9, hU9⟩ := q_iv_PU hIV
  have hkc := q_iv_kc hIV
  obtain ⟨hci, hzA, hRTA, hmv, hcr⟩ := hR
  have hzA : Zx ci = nI A.1 := hzA
  have hRTA : q_RT Sx Kx Vx ci A := hRTA
  have hcr : ∀ c, nx = some c → x8 = nI c ∧ Zx (1 - ci) = nI B.1 ∧ q_RT Sx Kx Vx (1 - ci) B := hcr
  have hmv : x7 = q_b (nx.isSome = true) := hmv
  subst hmv
  have hcur : ∀ c, nx = some c → x8 = nI c ∧ Zx (1 - ci) = nI B.1 ∧ c ≤ B.1 := fun c h => ⟨(hcr c h).1, (hcr c h).2.1, (hEB c h).2⟩
  obtain ⟨hLp, hpA, hAL, hpB, hBL⟩ := id hSZ
  have hL := (q_pw_8 hLp).2
  have hA8 := q_pw_8 hpA
  have hB8 := q_pw_8 hpB
  have heA := q_lkE_lt (t := A) k (by omega)
  have heB := q_lkE_lt (t := B) k (by omega)
  refine lv_aload_n hx hb dX2_slot_0 rfl (lv_at hl 0 rfl) ?_
  refine lv_iconst (v := 0) hx hb dX2_slot_1 (by decide) ?_
  refine va_put (D := (dC, dI)) (ci := 2) (v := .int 0) (ty := .int) (C := RX2) (T := TX2) (N := 12) hx hb hts hin_X2_slot_X2 tyX2 tyX2_ok nmX2 hown hK hP hD hS 0 rfl rfl 0 (by decide) (hts (.fieldLink RX2 26 "StepMapModel" "thrown" "I") (by decide +kernel)) (fun _ h9 => h9) rfl (by decide +kernel) (rfl) (rfl) (Nat.le_of_ble_eq_true rfl) dX2_slot_2 (fun H locs hP hD hS => ?_)
  have hP : va_P (dC, dI) vwCl [(g0, .inr (2, [.int 0, .int (nI L), .ref gs, .ref gk, .ref gv, .ref gz, .int (nI ci), .int (q_b (nx.isSome = true)), .int x8, .int (nI kc), .int (nI vi), .int (nI w)])), (gs, .inl (cI, 2048, .inl Sx)), (gk, .inl (cI, 2048, .inl Kx)), (gv, .inl (cI, 2048, .inl Vx)), (gz, .inl (cI, 2, .inl Zx))] H := hP
  have hD : va_D Aq [(g0, .inr (2, [.int 0, .int (nI L), .ref gs, .ref gk, .ref gv, .ref gz, .int (nI ci), .int (q_b (nx.isSome = true)), .int x8, .int (nI kc), .int (nI vi), .int (nI w)])), (gs, .inl (cI, 2048, .inl Sx)), (gk, .inl (cI, 2048, .inl Kx)), (gv, .inl (cI, 2048, .inl Vx)), (gz, .inl (cI, 2, .inl Zx))] := hD
  refine lv_aload_n hx hb dX2_slot_5 rfl (lv_at hl 0 rfl) ?_
  refine lv_iload_n hx hb dX2_slot_6 rfl (lv_at hl 1 rfl) ?_
  refine r_muI (wr := []) (rest := []) S0 (c_X2_find l dC dI cI g0 gs gk gv gz L Sx Kx Vx Zx 0 x8 (nI kc) (nI w) ci vi A B nx k H.size hSZ hEM (fun c h => (hEB c h).1) hci hzA hRTA hcr) (cwV 1 hts gX2_slot_X2_find rfl rfl rfl (by decide +kernel) ⟨Nat.le_of_ble_eq_true rfl, Nat.le_of_ble_eq_true rfl⟩) hK hP hD hS hA [0, 1, 2, 3, 4] [] rfl rfl (by decide) (by decide) (by decide) (ci := 2) (q0 := 0) rfl rfl rfl rfl hl.1 rfl (Nat.le_of_ble_eq_true rfl) dX2_slot_7 ⟨Nat.zero_le _, Nat.zero_le _⟩ (fun r_7 _ H locs hu hP hD hS => ?_)
  have hP : va_P (dC, dI) vwCl [(g0, .inr (2, [.int 0, .int (nI L), .ref gs, .ref gk, .ref gv, .ref gz, .int (nI ci), .int (q_b (nx.isSome = true)), .int x8, .int (nI kc), .int (nI (vi + q_lw A B nx k)), .int (nI w)])), (gs, .inl (cI, 2048, .inl Sx)), (gk, .inl (cI, 2048, .inl Kx)), (gv, .inl (cI, 2048, .inl Vx)), (gz, .inl (cI, 2, .inl Zx))] H := hP.sub [0, 1, 2, 3, 4] rfl
  have hD : va_D Aq [(g0, .inr (2, [.int 0, .int (nI L), .ref gs, .ref gk, .ref gv, .ref gz, .int (nI ci), .int (q_b (nx.isSome = true)), .int x8, .int (nI kc), .int (nI (vi + q_lw A B nx k)), .int (nI w)])), (gs, .inl (cI, 2048, .inl Sx)), (gk, .inl (cI, 2048, .inl Kx)), (gv, .inl (cI, 2048, .inl Vx)), (gz, .inl (cI, 2, .inl Zx))] := hD.sub [0, 1, 2, 3, 4] (by decide) rfl
  have hu : r_7 = q_fnd A B nx k ci := hu
  subst hu
  rcases q_fnd_c A B nx k ci with ⟨ha, ep⟩ | ⟨ha, hbt, ep⟩ | ⟨ha, hbt, ep⟩
  · refine r_eq (z := nI (1024 * ci + q_lkE A k)) (ep) ?_
    refine lv_istore_n (lv' := [(2, .int (nI (1024 * ci + q_lkE A k))), (0, .ref g0), (1, .int k)]) hx hb dX2_slot_10 rfl hl (by decide) rfl (fun ls hl => ?_)
    refine lv_iload_n hx hb dX2_slot_11 rfl (lv_at hl 0 rfl) ?_
    refine lv_if_ge (tgt := 19) hx hb dX2_slot_12 (by decide) (fun c_12 => ?_) (fun c_12 => ?_)
    · have h_12 := q_le_t (a := 0) (b := 1024 * ci + q_lkE A k) (by omega) (by omega) c_12
      refine lv_iload_n hx hb dX2_slot_19 rfl (lv_at hl 0 rfl) ?_
      refine lv_sipush (v := 1024) hx hb dX2_slot_20 (by decide) ?_
      refine lv_idiv hx hb dX2_slot_23 (by decide) ?_
      refine r_eq (z := nI ci) ((pk_div (d := 1024) (by omega) (by omega) (by omega)).trans (congrArg nI (by omega))) ?_
      refine lv_aload_n hx hb dX2_slot_24 rfl (lv_at hl 1 rfl) ?_
      refine va_get (D := (dC, dI)) (ci := 2) (v := .int (nI ci)) (C := RX2) (T := TX2) (N := 12) hx hb hts hin_X2_slot_X2 hown hK hP 0 rfl rfl 6 (by decide) (hts (.fieldLink RX2 43 "StepMapModel" "current" "I") (by decide +kernel)) (fun _ h9 => h9) rfl dX2_slot_25 ?_
      refine lv_icmp_ne (tgt := 39) hx hb dX2_slot_28 (by decide) (fun c_28 => ?_) (fun c_28 => ?_)
      · have h_28 := q_eq_f (a := ci) (b := ci) (by omega) (by omega) c_28
        exact absurd rfl c_28
      · have h_28 := q_eq_t (a := ci) (b := ci) (by omega) (by omega) c_28
        refine lv_iload_n hx hb dX2_slot_31 rfl (lv_at hl 0 rfl) ?_
        refine lv_sipush (v := 1024) hx hb dX2_slot_32 (by decide) ?_
        refine lv_irem hx hb dX2_slot_35 (by decide) ?_
        refine r_eq (z := nI (q_lkE A k)) ((pk_rem (d := 1024) (by omega) (by omega) (by omega)).trans (congrArg nI (by omega))) ?_
        refine lv_goto (tgt := 48) hx hb dX2_slot_36 (by decide) ?_
        exact W.iret (v := nI (q_lkE A k)) hx hb hr (fun t ht hW => ⟨⟨_, (ci, (Sx, Kx, Vx), Zx, q_b (nx.isSome = true), x8, vi + q_lw A B nx k), rfl, ⟨(q_slot_A ha).symm, ⟨hci, hzA, hRTA, rfl, hcr⟩⟩, by rw [ht]; exact hP, va_K.moved hW.alike hK, hD⟩, hS.F ht⟩) hS.2.2 dX2_slot_48
    · have h_12 := q_le_f (a := 0) (b := 1024 * ci + q_lkE A k) (by omega) (by omega) c_12
      omega
  · refine r_eq (z := nI (1024 * (1 - ci) + q_lkE B k)) (ep) ?_
    obtain ⟨cu, hcc⟩ := Option.isSome_iff_exists.mp hbt.1
    obtain ⟨hcr1, hzB, hRTB⟩ := hcr cu hcc
    refine lv_istore_n (lv' := [(2, .int (nI (1024 * (1 - ci) + q_lkE B k))), (0, .ref g0), (1, .int k)]) hx hb dX2_slot_10 rfl hl (by decide) rfl (fun ls hl => ?_)
    refine lv_iload_n hx hb dX2_slot_11 rfl (lv_at hl 0 rfl) ?_
    refine lv_if_ge (tgt := 19) hx hb dX2_slot_12 (by decide) (fun c_12 => ?_) (fun c_12 => ?_)
    · have h_12 := q_le_t (a := 0) (b := 1024 * (1 - ci) + q_lkE B k) (by omega) (by omega) c_12
      refine lv_iload_n hx hb dX2_slot_19 rfl (lv_at hl 0 rfl) ?_
      refine lv_sipush (v := 1024) hx hb dX2_slot_20 (by decide) ?_
      refine lv_idiv hx hb dX2_slot_23 (by decide) ?_
      refine r_eq (z := nI (1 - ci)) ((pk_div (d := 1024) (by omega) (by omega) (by omega)).trans (congrArg nI (by omega))) ?_
      refine lv_aload_n hx hb dX2_slot_24 rfl (lv_at hl 1 rfl) ?_
      refine va_get (D := (dC, dI)) (ci := 2) (v := .int (nI ci)) (C := RX2) (T := TX2) (N := 12) hx hb hts hin_X2_slot_X2 hown hK hP 0 rfl rfl 6 (by decide) (hts (.fieldLink RX2 43 "StepMapModel" "current" "I") (by decide +kernel)) (fun _ h9 => h9) rfl dX2_slot_25 ?_
      refine lv_icmp_ne (tgt := 39) hx hb dX2_slot_28 (by decide) (fun c_28 => ?_) (fun c_28 => ?_)
      · have h_28 := q_eq_f (a := 1 - ci) (b := ci) (by omega) (by omega) c_28
        refine lv_sipush (v := 2000) hx hb dX2_slot_39 (by decide) ?_
        refine lv_iload_n hx hb dX2_slot_42 rfl (lv_at hl 0 rfl) ?_
        refine lv_sipush (v := 1024) hx hb dX2_slot_43 (by decide) ?_
        refine lv_irem hx hb dX2_slot_46 (by decide) ?_
        refine r_eq (z := nI (q_lkE B k)) ((pk_rem (d := 1024) (by omega) (by omega) (by omega)).trans (congrArg nI (by omega))) ?_
        refine lv_iadd hx hb dX2_slot_47 ?_
        refine r_eq (z := nI (2000 + (q_lkE B k))) (nI_add 2000 (q_lkE B k)) ?_
        exact W.iret (v := nI (2000 + (q_lkE B k))) hx hb hr (fun t ht hW => ⟨⟨_, (ci, (Sx, Kx, Vx), Zx, q_b (nx.isSome = true), x8, vi + q_lw A B nx k), rfl, ⟨(q_slot_B ha hbt).symm, ⟨hci, hzA, hRTA, rfl, hcr⟩⟩, by rw [ht]; exact hP, va_K.moved hW.alike hK, hD⟩, hS.F ht⟩) hS.2.2 dX2_slot_48
      · have h_28 := q_eq_t (a := 1 - ci) (b := ci) (by omega) (by omega) c_28
        omega
    · have h_12 := q_le_f (a := 0) (b := 1024 * (1 - ci) + q_lkE B k) (by omega) (by omega) c_12
      omega
  · refine r_eq (z := -1) (ep) ?_
    refine lv_istore_n (lv' := [(2, .int (-1)), (0, .ref g0), (1, .int k)]) hx hb dX2_slot_10 rfl hl (by decide) rfl (fun ls hl => ?_)
    refine lv_iload_n hx hb dX2_slot_11 rfl (lv_at hl 0 rfl) ?_
    refine lv_if_ge (tgt := 19) hx hb dX2_slot_12 (by decide) (fun c_12 => ?_) (fun c_12 => ?_)
    · exact absurd c_12 (by decide)
    · refine lv_iconst (v := -1) hx hb dX2_slot_15 (by decide) ?_
      refine lv_goto (tgt := 48) hx hb dX2_slot_16 (by decide) ?_
      exact W.iret (v := -1) hx hb hr (fun t ht hW => ⟨⟨_, (ci, (Sx, Kx, Vx), Zx, q_b (nx.isSome = true), x8, vi + q_lw A B nx k), rfl, ⟨(q_slot_N ha hbt).symm, ⟨hci, hzA, hRTA, rfl, hcr⟩⟩, by rw [ht]; exact hP, va_K.moved hW.alike hK, hD⟩, hS.F ht⟩) hS.2.2 dX2_slot_48
set_option maxHeartbeats 4000000 in
set_option maxRecDepth 100000 in
theorem c_X2_put (l : Launch) (dC : Nat → ClassId) (dI : Nat → Nat → Nat) (cI : ClassId) (g0 gs gk gv gz L : Nat) (Sx Kx Vx Zx : Nat → Int32) (x7 x8 : Int32) (ci vi : Nat) (A B : q_TB) (nx : Option Nat) (kc w : Nat) (k v : Int32) (sz : Nat) (hIV : q_IV L A B nx kc) (hR : q_RL (A, B, nx, kc, w) ci Sx Kx Vx Zx x7 x8) : Met l yX2_put wsX2_put ({ frames := 4, cells := 0, slots := 0, locals := 92 }) (r_Mc (dC, dI) vwCl [(cI, .int)] [(g0, .inr (2, [.int 0, .int (nI L), .ref gs, .ref gk, .ref gv, .ref gz, .int (nI ci), .int x7, .int x8, .int (nI kc), .int (nI vi), .int (nI w)])), (gs, .inl (cI, 2048, .inl Sx)), (gk, .inl (cI, 2048, .inl Kx)), (gv, .inl (cI, 2048, .inl Vx)), (gz, .inl (cI, 2, .inl Zx))] sz [.ref g0, .int k, .int v]) (va_Qi (fun (r : Int32) (u : q_U) => r = (q_put L A B nx kc k v).1 ∧ q_rl (q_put L A B nx kc k v).2 u) (fun u t => r_B (dC, dI) vwCl [(cI, .int)] (va_A [(g0, .inr (2, [.int 0, .int (nI L), .ref gs, .ref gk, .ref gv, .ref gz, .int (nI ci), .int x7, .int x8, .int (nI kc), .int (nI vi), .int (nI w)])), (gs, .inl (cI, 2048, .inl Sx)), (gk, .inl (cI, 2048, .inl Kx)), (gv, .inl (cI, 2048, .inl Vx)), (gz, .inl (cI, 2, .inl Zx))] sz) ((fun u => q_WM cI g0 gs gk gv gz L u (q_put L A B nx kc k v).2) u) t) (va_A [(g0, .inr (2, [.int 0, .int (nI L), .ref gs, .ref gk, .ref gv, .ref gz, .int (nI ci), .int x7, .int x8, .int (nI kc), .int (nI vi), .int (nI w)])), (gs, .inl (cI, 2048, .inl Sx)), (gk, .inl (cI, 2048, .inl Kx)), (gv, .inl (cI, 2048, .inl Vx)), (gz, .inl (cI, 2, .inl Zx))] sz)) 0 0 (va_A [(g0, .inr (2, [.int 0, .int (nI L), .ref gs, .ref gk, .ref gv, .ref gz, .int (nI ci), .int x7, .int x8, .int (nI kc), .int (nI vi), .int (nI w)])), (gs, .inl (cI, 2048, .inl Sx)), (gk, .inl (cI, 2048, .inl Kx)), (gv, .inl (cI, 2048, .inl Vx)), (gz, .inl (cI, 2, .inl Zx))] sz) := by
  refine Met.ofW (cc := cX2_put) (maxL := 6) (ret := (some .int)) (by decide) rfl ?_
  intro p e s m args below meth c s₁ Bd hml hv
  obtain ⟨rfl, hsz, hP, hK, hD0⟩ := hv
  have hx := Bd.exec
  have hb := Bd.bytes
  have hr := Bd.returns
  have hts := atoms_spec (ws := wsX2_put) Bd.pre
  have hown : s.vm.findClass RX2 = some m.cls := findClass_of_methodNamed Bd.named
  have hlocks := Bd.notSynchronized
  have S0 : CallFix p m c cX2_put 6 s _ wsX2_put RX2 := ⟨hx, hb, hml, hown, hts⟩
  subst hsz
  have hD := hD0.self (sz := s.heap.size)
  generalize hAe : va_A [(g0, .inr (2, [.int 0, .int (nI L), .ref gs, .ref gk, .ref gv, .ref gz, .int (nI ci), .int x7, .int x8, .int (nI kc), .int (nI vi), .int (nI w)])), (gs, .inl (cI, 2048, .inl Sx)), (gk, .inl (cI, 2048, .inl Kx)), (gv, .inl (cI, 2048, .inl Vx)), (gz, .inl (cI, 2, .inl Zx))] s.heap.size = Aq at hD ⊢
  have hA : ∀ q : Nat, s.heap.size ≤ q → Aq q := fun q h => by rw [← hAe]; exact Or.inr h
  have hS : va_S Aq s.heap s.heap [] := va_S.rf
  have hD : va_D Aq [(g0, .inr (2, [.int 0, .int (nI L), .ref gs, .ref gk, .ref gv, .ref gz, .int (nI ci), .int x7, .int x8, .int (nI kc), .int (nI vi), .int (nI w)])), (gs, .inl (cI, 2048, .inl Sx)), (gk, .inl (cI, 2048, .inl Kx)), (gv, .inl (cI, 2048, .inl Vx)), (gz, .inl (cI, 2, .inl Zx))] := hD
  have hP : va_P (dC, dI) vwCl [(g0, .inr (2, [.int 0, .int (nI L), .ref gs, .ref gk, .ref gv, .ref gz, .int (nI ci), .int x7, .int x8, .int (nI kc), .int (nI vi), .int (nI w)])), (gs, .inl (cI, 2048, .inl Sx)), (gk, .inl (cI, 2048, .inl Kx)), (gv, .inl (cI, 2048, .inl Vx)), (gz, .inl (cI, 2, .inl Zx))] s.heap := hP
  have hl := lv_entry ([.ref g0, .int k, .int v]) (n := 6) (Nat.le_of_ble_eq_true rfl)
  rw [lg_entry_eq]
  generalize (lg_sl ([.ref g0, .int k, .int v]) ++ List.replicate (6 - (lg_sl ([.ref g0, .int k, .int v])).length) Slot.unset).toArray = ls at hl ⊢
  have hl : lv_has ls 6 [(0, .ref g0), (1, .int k), (2, .int v)] := hl
  have hSZ := hIV.1
  have hEM := q_iv_EM hIV
  have hEB := q_iv_EB hIV
  obtain ⟨hN, hP9, hU9⟩ := q_iv_PU hIV
  have hkc := q_iv_kc hIV
  obtain ⟨hci, hzA, hRTA, hmv, hcr⟩ := hR
  have hzA : Zx ci = nI A.1 := hzA
  have hRTA : q_RT Sx Kx Vx ci A := hRTA
  have hcr : ∀ c, nx = some c → x8 = nI c ∧ Zx (1 - ci) = nI B.1 ∧ q_RT Sx Kx Vx (1 - ci) B := hcr
  have hmv : x7 = q_b (nx.isSome = true) := hmv
  subst hmv
  have hcur : ∀ c, nx = some c → x8 = nI c ∧ Zx (1 - ci) = nI B.1 ∧ c ≤ B.1 := fun c h => ⟨(hcr c h).1, (hcr c h).2.1, (hEB c h).2⟩
  obtain ⟨hLp, hpA, hAL, hpB, hBL⟩ := id hSZ
  have hL := (q_pw_8 hLp).2
  have hA8 := q_pw_8 hpA
  have hB8 := q_pw_8 hpB
  have heA := q_lkE_lt (t := A) k (by omega)
  have heB := q_lkE_lt (t := B) k (by omega)
  refine lv_aload_n hx hb dX2_put_0 rfl (lv_at hl 0 rfl) ?_
  refine lv_iconst (v := 0) hx hb dX2_put_1 (by decide) ?_
  refine va_put (D := (dC, dI)) (ci := 2) (v := .int 0) (ty := .int) (C := RX2) (T := TX2) (N := 12) hx hb hts hin_X2_put_X2 tyX2 tyX2_ok nmX2 hown hK hP hD hS 0 rfl rfl 0 (by decide) (hts (.fieldLink RX2 26 "StepMapModel" "thrown" "I") (by decide +kernel)) (fun _ h9 => h9) rfl (by decide +kernel) (rfl) (rfl) (Nat.le_of_ble_eq_true rfl) dX2_put_2 (fun H locs hP hD hS => ?_)
  have hP : va_P (dC, dI) vwCl [(g0, .inr (2, [.int 0, .int (nI L), .ref gs, .ref gk, .ref gv, .ref gz, .int (nI ci), .int (q_b (nx.isSome = true)), .int x8, .int (nI kc), .int (nI vi), .int (nI w)])), (gs, .inl (cI, 2048, .inl Sx)), (gk, .inl (cI, 2048, .inl Kx)), (gv, .inl (cI, 2048, .inl Vx)), (gz, .inl (cI, 2, .inl Zx))] H := hP
  have hD : va_D Aq [(g0, .inr (2, [.int 0, .int (nI L), .ref gs, .ref gk, .ref gv, .ref gz, .int (nI ci), .int (q_b (nx.isSome = true)), .int x8, .int (nI kc), .int (nI vi), .int (nI w)])), (gs, .inl (cI, 2048, .inl Sx)), (gk, .inl (cI, 2048, .inl Kx)), (gv, .inl (cI, 2048, .inl Vx)), (gz, .inl (cI, 2, .inl Zx))] := hD
  refine lv_aload_n hx hb dX2_put_5 rfl (lv_at hl 0 rfl) ?_
  refine lv_iconst (v := 0) hx hb dX2_put_6 (by decide) ?_
  refine va_put (D := (dC, dI)) (ci := 2) (v := .int 0) (ty := .int) (C := RX2) (T := TX2) (N := 12) hx hb hts hin_X2_put_X2 tyX2 tyX2_ok nmX2 hown hK hP hD hS 0 rfl rfl 10 (by decide) (hts (.fieldLink RX2 34 "StepMapModel" "visits" "I") (by decide +kernel)) (fun _ h9 => h9) rfl (by decide +kernel) (rfl) (rfl) (Nat.le_of_ble_eq_true rfl) dX2_put_7 (fun H locs hP hD hS => ?_)
  have hP : va_P (dC, dI) vwCl [(g0, .inr (2, [.int 0, .int (nI L), .ref gs, .ref gk, .ref gv, .ref gz, .int (nI ci), .int (q_b (nx.isSome = true)), .int x8, .int (nI kc), .int 0, .int (nI w)])), (gs, .inl (cI, 2048, .inl Sx)), (gk, .inl (cI, 2048, .inl Kx)), (gv, .inl (cI, 2048, .inl Vx)), (gz, .inl (cI, 2, .inl Zx))] H := hP
  have hD : va_D Aq [(g0, .inr (2, [.int 0, .int (nI L), .ref gs, .ref gk, .ref gv, .ref gz, .int (nI ci), .int (q_b (nx.isSome = true)), .int x8, .int (nI kc), .int 0, .int (nI w)])), (gs, .inl (cI, 2048, .inl Sx)), (gk, .inl (cI, 2048, .inl Kx)), (gv, .inl (cI, 2048, .inl Vx)), (gz, .inl (cI, 2, .inl Zx))] := hD
  have e_0_10 : 0 = nI 0 := nI_0.symm
  have hP : va_P (dC, dI) vwCl [(g0, .inr (2, [.int 0, .int (nI L), .ref gs, .ref gk, .ref gv, .ref gz, .int (nI ci), .int (q_b (nx.isSome = true)), .int x8, .int (nI kc), .int (nI 0), .int (nI w)])), (gs, .inl (cI, 2048, .inl Sx)), (gk, .inl (cI, 2048, .inl Kx)), (gv, .inl (cI, 2048, .inl Vx)), (gz, .inl (cI, 2, .inl Zx))] H := by rw [← e_0_10]; exact hP
  have hD : va_D Aq [(g0, .inr (2, [.int 0, .int (nI L), .ref gs, .ref gk, .ref gv, .ref gz, .int (nI ci), .int (q_b (nx.isSome = true)), .int x8, .int (nI kc), .int (nI 0), .int (nI w)])), (gs, .inl (cI, 2048, .inl Sx)), (gk, .inl (cI, 2048, .inl Kx)), (gv, .inl (cI, 2048, .inl Vx)), (gz, .inl (cI, 2, .inl Zx))] := by rw [← e_0_10]; exact hD
  refine lv_aload_n hx hb dX2_put_10 rfl (lv_at hl 0 rfl) ?_
  refine lv_iload_n hx hb dX2_put_11 rfl (lv_at hl 1 rfl) ?_
  refine lv_aload_n hx hb dX2_put_12 rfl (lv_at hl 0 rfl) ?_
  refine va_get (D := (dC, dI)) (ci := 2) (v := .int (nI ci)) (C := RX2) (T := TX2) (N := 12) hx hb hts hin_X2_put_X2 hown hK hP 0 rfl rfl 6 (by decide) (hts (.fieldLink RX2 43 "StepMapModel" "current" "I") (by decide +kernel)) (fun _ h9 => h9) rfl dX2_put_13 ?_
  refine r_muI (wr := []) (rest := []) S0 (c_X2_look l dC dI cI g0 gs gk gv gz L Sx Kx Vx Zx 0 (nI ci) (q_b (nx.isSome = true)) x8 (nI kc) (nI w) 0 ci A k H.size (by omega) hzA hpA hRTA hEM) (cwV 2 hts gX2_put_X2_look rfl rfl rfl (by decide +kernel) ⟨Nat.le_of_ble_eq_true rfl, Nat.le_of_ble_eq_true rfl⟩) hK hP hD hS hA [0, 1, 2, 3, 4] [] rfl rfl (by decide) (by decide) (by decide) (ci := 2) (q0 := 0) rfl rfl rfl rfl hl.1 rfl (Nat.le_of_ble_eq_true rfl) dX2_put_16 ⟨Nat.zero_le _, Nat.zero_le _⟩ (fun r_16 _ H locs hu hP hD hS => ?_)
  have hP : va_P (dC, dI) vwCl [(g0, .inr (2, [.int 0, .int (nI L), .ref gs, .ref gk, .ref gv, .ref gz, .int (nI ci), .int (q_b (nx.isSome = true)), .int x8, .int (nI kc), .int (nI (0 + (q_lkD A k + 1))), .int (nI w)])), (gs, .inl (cI, 2048, .inl Sx)), (gk, .inl (cI, 2048, .inl Kx)), (gv, .inl (cI, 2048, .inl Vx)), (gz, .inl (cI, 2, .inl Zx))] H := hP.sub [0, 1, 2, 3, 4] rfl
  have hD : va_D Aq [(g0, .inr (2, [.int 0, .int (nI L), .ref gs, .ref gk, .ref gv, .ref gz, .int (nI ci), .int (q_b (nx.isSome = true)), .int x8, .int (nI kc), .int (nI (0 + (q_lkD A k + 1))), .int (nI w)])), (gs, .inl (cI, 2048, .inl Sx)), (gk, .inl (cI, 2048, .inl Kx)), (gv, .inl (cI, 2048, .inl Vx)), (gz, .inl (cI, 2, .inl Zx))] := hD.sub [0, 1, 2, 3, 4] (by decide) rfl
  have hu : r_16 = q_lkR A k := hu
  subst hu
  by_cases ha : q_hit A k
  · refine r_eq (z := nI (q_lkE A k)) (q_lkR_t ha) ?_
    refine lv_istore_n (lv' := [(3, .int (nI (q_lkE A k))), (0, .ref g0), (1, .int k), (2, .int v)]) hx hb dX2_put_19 rfl hl (by decide) rfl (fun ls hl => ?_)
    refine lv_iload_n hx hb dX2_put_20 rfl (lv_at hl 0 rfl) ?_
    refine lv_if_ge (tgt := 45) hx hb dX2_put_21 (by decide) (fun c_21 => ?_) (fun c_21 => ?_)
    · have h_21 := q_le_t (a := 0) (b := q_lkE A k) (by omega) (by omega) c_21
      refine lv_iconst (v := -1) hx hb dX2_put_45 (by decide) ?_
      refine lv_istore (lv' := [(4, .int (-1)), (3, .int (nI (q_lkE A k))), (0, .ref g0), (1, .int k), (2, .int v)]) hx hb dX2_put_46 hl (by decide) rfl (fun ls hl => ?_)
      have e_0_10 : nI (0 + (q_lkD A k + 1)) = nI (q_lw A B nx k) := by rw [q_lw_A ha]; exact congrArg nI (by omega)
      have hP : va_P (dC, dI) vwCl [(g0, .inr (2, [.int 0, .int (nI L), .ref gs, .ref gk, .ref gv, .ref gz, .int (nI ci), .int (q_b (nx.isSome = true)), .int x8, .int (nI kc), .int (nI (q_lw A B nx k)), .int (nI w)])), (gs, .inl (cI, 2048, .inl Sx)), (gk, .inl (cI, 2048, .inl Kx)), (gv, .inl (cI, 2048, .inl Vx)), (gz, .inl (cI, 2, .inl Zx))] H := by rw [← e_0_10]; exact hP
      have hD : va_D Aq [(g0, .inr (2, [.int 0, .int (nI L), .ref gs, .ref gk, .ref gv, .ref gz, .int (nI ci), .int (q_b (nx.isSome = true)), .int x8, .int (nI kc), .int (nI (q_lw A B nx k)), .int (nI w)])), (gs, .inl (cI, 2048, .inl Sx)), (gk, .inl (cI, 2048, .inl Kx)), (gv, .inl (cI, 2048, .inl Vx)), (gz, .inl (cI, 2, .inl Zx))] := by rw [← e_0_10]; exact hD
      refine lv_iconst (v := 0) hx hb dX2_put_48 (by decide) ?_
      refine lv_istore (lv' := [(5, .int 0), (4, .int (-1)), (3, .int (nI (q_lkE A k))), (0, .ref g0), (1, .int k), (2, .int v)]) hx hb dX2_put_49 hl (by decide) rfl (fun ls hl => ?_)
      refine lv_iload_n hx hb dX2_put_51 rfl (lv_at hl 2 rfl) ?_
      refine lv_if_ge (tgt := 60) hx hb dX2_put_52 (by decide) (fun c_52 => ?_) (fun c_52 => ?_)
      · have h_52 := q_le_t (a := 0) (b := q_lkE A k) (by omega) (by omega) c_52
        refine lv_aload_n hx hb dX2_put_60 rfl (lv_at hl 3 rfl) ?_
        refine va_get (D := (dC, dI)) (ci := 2) (v := .ref gv) (C := RX2) (T := TX2) (N := 12) hx hb hts hin_X2_put_X2 hown hK hP 0 rfl rfl 4 (by decide) (hts (.fieldLink RX2 16 "StepMapModel" "values" "[I") (by decide +kernel)) (fun _ h9 => h9) rfl dX2_put_61 ?_
        refine lv_iload_n hx hb dX2_put_64 rfl (lv_at hl 2 rfl) ?_
        refine lv_if_lt (tgt := 80) hx hb dX2_put_65 (by decide) (fun c_65 => ?_) (fun c_65 => ?_)
        · have h_65 := q_lt_t (a := q_lkE A k) (b := 0) (by omega) (by omega) c_65
          omega
        · have h_65 := q_lt_f (a := q_lkE A k) (b := 0) (by omega) (by omega) c_65
          refine lv_aload_n hx hb dX2_put_68 rfl (lv_at hl 3 rfl) ?_
          refine lv_aload_n hx hb dX2_put_69 rfl (lv_at hl 3 rfl) ?_
          refine va_get (D := (dC, dI)) (ci := 2) (v := .int (nI ci)) (C := RX2) (T := TX2) (N := 12) hx hb hts hin_X2_put_X2 hown hK hP 0 rfl rfl 6 (by decide) (hts (.fieldLink RX2 43 "StepMapModel" "current" "I") (by decide +kernel)) (fun _ h9 => h9) rfl dX2_put_70 ?_
          refine lv_iload_n hx hb dX2_put_73 rfl (lv_at hl 2 rfl) ?_
          refine r_roV (rest := [.ref gv]) S0 (c_X2_at l dC dI cI g0 gs gk gv gz L Sx Kx Vx Zx 0 (nI ci) (q_b (nx.isSome = true)) x8 (nI kc) (nI (q_lw A B nx k)) (nI w) ci (q_lkE A k)) (cwV 2 hts gX2_put_X2_at rfl rfl rfl (by decide +kernel) ⟨Nat.le_of_ble_eq_true rfl, Nat.le_of_ble_eq_true rfl⟩) hK hP [0, 1, 2, 3, 4] rfl (ci := 2) (q0 := 0) rfl rfl rfl rfl hl.1 rfl (Nat.le_of_ble_eq_true rfl) dX2_put_74 ⟨Nat.zero_le _, Nat.zero_le _⟩ ?_
          refine lv_goto (tgt := 92) hx hb dX2_put_77 (by decide) ?_
          refine lv_iload_n hx hb dX2_put_92 rfl (lv_at hl 5 rfl) ?_
          refine r_st (i := 1024 * ci + (q_lkE A k)) hx hb hK hP hD hS 3 0 rfl rfl (by omega) (by omega) dX2_put_93 (fun H locs hP hD hS => ?_)
          have hP : va_P (dC, dI) vwCl [(g0, .inr (2, [.int 0, .int (nI L), .ref gs, .ref gk, .ref gv, .ref gz, .int (nI ci), .int (q_b (nx.isSome = true)), .int x8, .int (nI kc), .int (nI (q_lw A B nx k)), .int (nI w)])), (gs, .inl (cI, 2048, .inl Sx)), (gk, .inl (cI, 2048, .inl Kx)), (gv, .inl (cI, 2048, .inl (upd Vx (1024 * ci + (q_lkE A k)) v))), (gz, .inl (cI, 2, .inl Zx))] H := hP
          have hD : va_D Aq [(g0, .inr (2, [.int 0, .int (nI L), .ref gs, .ref gk, .ref gv, .ref gz, .int (nI ci), .int (q_b (nx.isSome = true)), .int x8, .int (nI kc), .int (nI (q_lw A B nx k)), .int (nI w)])), (gs, .inl (cI, 2048, .inl Sx)), (gk, .inl (cI, 2048, .inl Kx)), (gv, .inl (cI, 2048, .inl (upd Vx (1024 * ci + (q_lkE A k)) v))), (gz, .inl (cI, 2, .inl Zx))] := hD
          refine lv_goto (tgt := 138) hx hb dX2_put_94 (by decide) ?_
          refine lv_aload_n hx hb dX2_put_138 rfl (lv_at hl 3 rfl) ?_
          refine lv_aload_n hx hb dX2_put_139 rfl (lv_at hl 3 rfl) ?_
          refine va_get (D := (dC, dI)) (ci := 2) (v := .int (nI (q_lw A B nx k))) (C := RX2) (T := TX2) (N := 12) hx hb hts hin_X2_put_X2 hown hK hP 0 rfl rfl 10 (by decide) (hts (.fieldLink RX2 34 "StepMapModel" "visits" "I") (by decide +kernel)) (fun _ h9 => h9) rfl dX2_put_140 ?_
          refine va_put (D := (dC, dI)) (ci := 2) (v := .int (nI (q_lw A B nx k))) (ty := .int) (C := RX2) (T := TX2) (N := 12) hx hb hts hin_X2_put_X2 tyX2 tyX2_ok nmX2 hown hK hP hD hS 0 rfl rfl 11 (by decide) (hts (.fieldLink RX2 78 "StepMapModel" "work" "I") (by decide +kernel)) (fun _ h9 => h9) rfl (by decide +kernel) (rfl) (rfl) (Nat.le_of_ble_eq_true rfl) dX2_put_143 (fun H locs hP hD hS => ?_)
          have hP : va_P (dC, dI) vwCl [(g0, .inr (2, [.int 0, .int (nI L), .ref gs, .ref gk, .ref gv, .ref gz, .int (nI ci), .int (q_b (nx.isSome = true)), .int x8, .int (nI kc), .int (nI (q_lw A B nx k)), .int (nI (q_lw A B nx k))])), (gs, .inl (cI, 2048, .inl Sx)), (gk, .inl (cI, 2048, .inl Kx)), (gv, .inl (cI, 2048, .inl (upd Vx (1024 * ci + (q_lkE A k)) v))), (gz, .inl (cI, 2, .inl Zx))] H := hP
          have hD : va_D Aq [(g0, .inr (2, [.int 0, .int (nI L), .ref gs, .ref gk, .ref gv, .ref gz, .int (nI ci), .int (q_b (nx.isSome = true)), .int x8, .int (nI kc), .int (nI (q_lw A B nx k)), .int (nI (q_lw A B nx k))])), (gs, .inl (cI, 2048, .inl Sx)), (gk, .inl (cI, 2048, .inl Kx)), (gv, .inl (cI, 2048, .inl (upd Vx (1024 * ci + (q_lkE A k)) v))), (gz, .inl (cI, 2, .inl Zx))] := hD
          refine lv_iload hx hb dX2_put_146 (lv_at hl 0 rfl) ?_
          have eq := q_put_A (L := L) (B := B) (nx := nx) (kc := kc) (v := v) ha
          have hRL : q_rl (q_put L A B nx kc k v).2 (ci, (Sx, Kx, upd Vx (1024 * ci + q_lkE A k) v), Zx, q_b (nx.isSome = true), x8, q_lw A B nx k) := by rw [eq]; exact ⟨hci, hzA, q_RT_v1 hRTA, rfl, fun c hc => ⟨(hcr c hc).1, (hcr c hc).2.1, q_RT_oV (hcr c hc).2.2 (fun i hi => by have hi : i < B.1 := hi; omega)⟩⟩
          have hP : va_P (dC, dI) vwCl (q_WM cI g0 gs gk gv gz L (ci, (Sx, Kx, upd Vx (1024 * ci + q_lkE A k) v), Zx, q_b (nx.isSome = true), x8, q_lw A B nx k) (q_put L A B nx kc k v).2) H := by rw [eq]; exact hP
          have hD : va_D Aq (q_WM cI g0 gs gk gv gz L (ci, (Sx, Kx, upd Vx (1024 * ci + q_lkE A k) v), Zx, q_b (nx.isSome = true), x8, q_lw A B nx k) (q_put L A B nx kc k v).2) := by rw [eq]; exact hD
          exact W.iret (v := 0) hx hb hr (fun t ht hW => ⟨⟨_, (ci, (Sx, Kx, upd Vx (1024 * ci + q_lkE A k) v), Zx, q_b (nx.isSome = true), x8, q_lw A B nx k), rfl, ⟨by rw [eq], hRL⟩, by rw [ht]; exact hP, va_K.moved hW.alike hK, hD⟩, hS.F ht⟩) hS.2.2 dX2_put_148
      · have h_52 := q_le_f (a := 0) (b := q_lkE A k) (by omega) (by omega) c_52
        omega
    · have h_21 := q_le_f (a := 0) (b := q_lkE A k) (by omega) (by omega) c_21
      omega
  · refine r_eq (z := -1 - nI (q_lkE A k)) (q_lkR_f ha) ?_
    refine lv_istore_n (lv' := [(3, .int (-1 - nI (q_lkE A k))), (0, .ref g0), (1, .int k), (2, .int v)]) hx hb dX2_put_19 rfl hl (by decide) rfl (fun ls hl => ?_)
    refine lv_iload_n hx hb dX2_put_20 rfl (lv_at hl 0 rfl) ?_
    refine lv_if_ge (tgt := 45) hx hb dX2_put_21 (by decide) (fun c_21 => ?_) (fun c_21 => ?_)
    · exact absurd c_21 (q_neg_ge (by omega))
    · refine lv_aload_n hx hb dX2_put_24 rfl (lv_at hl 1 rfl) ?_
      refine va_get (D := (dC, dI)) (ci := 2) (v := .int (q_b (nx.isSome = true))) (C := RX2) (T := TX2) (N := 12) hx hb hts hin_X2_put_X2 hown hK hP 0 rfl rfl 7 (by decide) (hts (.fieldLink RX2 56 "StepMapModel" "moving" "Z") (by decide +kernel)) (fun _ h9 => h9) rfl dX2_put_25 ?_
      refine lv_if_eq (tgt := 45) hx hb dX2_put_28 (by decide) (fun c_28 => ?_) (fun c_28 => ?_)
      · have h_28 : ¬ (nx.isSome = true) := q_b_0.mp c_28
        refine lv_iconst (v := -1) hx hb dX2_put_45 (by decide) ?_
        refine lv_istore (lv' := [(4, .int (-1)), (3, .int (-1 - nI (q_lkE A k))), (0, .ref g0), (1, .int k), (2, .int v)]) hx hb dX2_put_46 hl (by decide) rfl (fun ls hl => ?_)
        have e_0_10 : nI (0 + (q_lkD A k + 1)) = nI (q_lw A B nx k) := by rw [q_lw_N ha h_28]; exact congrArg nI (by omega)
        have hP : va_P (dC, dI) vwCl [(g0, .inr (2, [.int 0, .int (nI L), .ref gs, .ref gk, .ref gv, .ref gz, .int (nI ci), .int (q_b (nx.isSome = true)), .int x8, .int (nI kc), .int (nI (q_lw A B nx k)), .int (nI w)])), (gs, .inl (cI, 2048, .inl Sx)), (gk, .inl (cI, 2048, .inl Kx)), (gv, .inl (cI, 2048, .inl Vx)), (gz, .inl (cI, 2, .inl Zx))] H := by rw [← e_0_10]; exact hP
        have hD : va_D Aq [(g0, .inr (2, [.int 0, .int (nI L), .ref gs, .ref gk, .ref gv, .ref gz, .int (nI ci), .int (q_b (nx.isSome = true)), .int x8, .int (nI kc), .int (nI (q_lw A B nx k)), .int (nI w)])), (gs, .inl (cI, 2048, .inl Sx)), (gk, .inl (cI, 2048, .inl Kx)), (gv, .inl (cI, 2048, .inl Vx)), (gz, .inl (cI, 2, .inl Zx))] := by rw [← e_0_10]; exact hD
        have hbt : ¬ q_hitB B nx k := fun z => h_28 z.1
        refine lv_iconst (v := 0) hx hb dX2_put_48 (by decide) ?_
        refine lv_istore (lv' := [(5, .int 0), (4, .int (-1)), (3, .int (-1 - nI (q_lkE A k))), (0, .ref g0), (1, .int k), (2, .int v)]) hx hb dX2_put_49 hl (by decide) rfl (fun ls hl => ?_)
        refine lv_iload_n hx hb dX2_put_51 rfl (lv_at hl 2 rfl) ?_
        refine lv_if_ge (tgt := 60) hx hb dX2_put_52 (by decide) (fun c_52 => ?_) (fun c_52 => ?_)
        · exact absurd c_52 (q_neg_ge (by omega))
        · refine lv_iload hx hb dX2_put_55 (lv_at hl 1 rfl) ?_
          refine lv_if_lt (tgt := 97) hx hb dX2_put_57 (by decide) (fun c_57 => ?_) (fun c_57 => ?_)
          · refine lv_aload_n hx hb dX2_put_97 rfl (lv_at hl 3 rfl) ?_
            refine r_roV (rest := []) S0 (c_X2_isFull l dC dI cI g0 gs gk gv gz L Sx Kx Vx Zx 0 x8 (nI (q_lw A B nx k)) (nI w) ci A B nx kc hci hzA (by omega) (by omega) (by omega) (by omega) hcur) (cwV 0 hts gX2_put_X2_isFull rfl rfl rfl (by decide +kernel) ⟨Nat.le_of_ble_eq_true rfl, Nat.le_of_ble_eq_true rfl⟩) hK hP [0, 1, 2, 3, 4] rfl (ci := 2) (q0 := 0) rfl rfl rfl rfl hl.1 rfl (Nat.le_of_ble_eq_true rfl) dX2_put_98 ⟨Nat.zero_le _, Nat.zero_le _⟩ ?_
            refine lv_if_eq (tgt := 111) hx hb dX2_put_101 (by decide) (fun c_101 => ?_) (fun c_101 => ?_)
            · have h_101 : ¬ (q_full L A B nx kc) := q_b_0.mp c_101
              refine lv_aload_n hx hb dX2_put_111 rfl (lv_at hl 3 rfl) ?_
              refine lv_aload_n hx hb dX2_put_112 rfl (lv_at hl 3 rfl) ?_
              refine va_get (D := (dC, dI)) (ci := 2) (v := .int (nI ci)) (C := RX2) (T := TX2) (N := 12) hx hb hts hin_X2_put_X2 hown hK hP 0 rfl rfl 6 (by decide) (hts (.fieldLink RX2 43 "StepMapModel" "current" "I") (by decide +kernel)) (fun _ h9 => h9) rfl dX2_put_113 ?_
              refine lv_iconst (v := -1) hx hb dX2_put_116 (by decide) ?_
              refine lv_iload_n hx hb dX2_put_117 rfl (lv_at hl 2 rfl) ?_
              refine lv_isub hx hb dX2_put_118 ?_
              refine r_eq (z := nI (q_lkE A k)) (q_neg1' _) ?_
              refine lv_iload_n hx hb dX2_put_119 rfl (lv_at hl 4 rfl) ?_
              refine lv_iload_n hx hb dX2_put_120 rfl (lv_at hl 5 rfl) ?_
              refine r_muV (wr := []) (rest := []) S0 (c_X2_lay l dC dI cI g0 gs gk gv gz L Sx Kx Vx Zx 0 (nI ci) (q_b (nx.isSome = true)) x8 (nI kc) (nI (q_lw A B nx k)) (nI w) ci (q_lkE A k) k v H.size (by omega)) (cwV 4 hts gX2_put_X2_lay rfl rfl rfl (by decide +kernel) ⟨Nat.le_of_ble_eq_true rfl, Nat.le_of_ble_eq_true rfl⟩) hK hP hD hS hA [0, 1, 2, 3, 4] [] rfl rfl (by decide) (by decide) (by decide) (ci := 2) (q0 := 0) rfl rfl rfl rfl hl.1 rfl (Nat.le_of_ble_eq_true rfl) dX2_put_121 ⟨Nat.zero_le _, Nat.zero_le _⟩ (fun _ H locs hu hP hD hS => ?_)
              have hP : va_P (dC, dI) vwCl [(g0, .inr (2, [.int 0, .int (nI L), .ref gs, .ref gk, .ref gv, .ref gz, .int (nI ci), .int (q_b (nx.isSome = true)), .int x8, .int (nI kc), .int (nI (q_lw A B nx k)), .int (nI w)])), (gs, .inl (cI, 2048, .inl (upd Sx (1024 * ci + (q_lkE A k)) 1))), (gk, .inl (cI, 2048, .inl (upd Kx (1024 * ci + (q_lkE A k)) k))), (gv, .inl (cI, 2048, .inl (upd Vx (1024 * ci + (q_lkE A k)) v))), (gz, .inl (cI, 2, .inl Zx))] H := hP.sub [0, 1, 2, 3, 4] rfl
              have hD : va_D Aq [(g0, .inr (2, [.int 0, .int (nI L), .ref gs, .ref gk, .ref gv, .ref gz, .int (nI ci), .int (q_b (nx.isSome = true)), .int x8, .int (nI kc), .int (nI (q_lw A B nx k)), .int (nI w)])), (gs, .inl (cI, 2048, .inl (upd Sx (1024 * ci + (q_lkE A k)) 1))), (gk, .inl (cI, 2048, .inl (upd Kx (1024 * ci + (q_lkE A k)) k))), (gv, .inl (cI, 2048, .inl (upd Vx (1024 * ci + (q_lkE A k)) v))), (gz, .inl (cI, 2, .inl Zx))] := hD.sub [0, 1, 2, 3, 4] (by decide) rfl
              refine lv_aload_n hx hb dX2_put_124 rfl (lv_at hl 3 rfl) ?_
              refine lv_dup hx hb dX2_put_125 rfl ?_
              refine va_get (D := (dC, dI)) (ci := 2) (v := .int (nI kc)) (C := RX2) (T := TX2) (N := 12) hx hb hts hin_X2_put_X2 hown hK hP 0 rfl rfl 9 (by decide) (hts (.fieldLink RX2 63 "StepMapModel" "count" "I") (by decide +kernel)) (fun _ h9 => h9) rfl dX2_put_126 ?_
              refine lv_iconst (v := 1) hx hb dX2_put_129 (by decide) ?_
              refine lv_iadd hx hb dX2_put_130 ?_
              refine r_eq (z := nI (kc + 1)) (nI_add kc 1) ?_
              refine va_put (D := (dC, dI)) (ci := 2) (v := .int (nI (kc + 1))) (ty := .int) (C := RX2) (T := TX2) (N := 12) hx hb hts hin_X2_put_X2 tyX2 tyX2_ok nmX2 hown hK hP hD hS 0 rfl rfl 9 (by decide) (hts (.fieldLink RX2 63 "StepMapModel" "count" "I") (by decide +kernel)) (fun _ h9 => h9) rfl (by decide +kernel) (rfl) (rfl) (Nat.le_of_ble_eq_true rfl) dX2_put_131 (fun H locs hP hD hS => ?_)
              have hP : va_P (dC, dI) vwCl [(g0, .inr (2, [.int 0, .int (nI L), .ref gs, .ref gk, .ref gv, .ref gz, .int (nI ci), .int (q_b (nx.isSome = true)), .int x8, .int (nI (kc + 1)), .int (nI (q_lw A B nx k)), .int (nI w)])), (gs, .inl (cI, 2048, .inl (upd Sx (1024 * ci + (q_lkE A k)) 1))), (gk, .inl (cI, 2048, .inl (upd Kx (1024 * ci + (q_lkE A k)) k))), (gv, .inl (cI, 2048, .inl (upd Vx (1024 * ci + (q_lkE A k)) v))), (gz, .inl (cI, 2, .inl Zx))] H := hP
              have hD : va_D Aq [(g0, .inr (2, [.int 0, .int (nI L), .ref gs, .ref gk, .ref gv, .ref gz, .int (nI ci), .int (q_b (nx.isSome = true)), .int x8, .int (nI (kc + 1)), .int (nI (q_lw A B nx k)), .int (nI w)])), (gs, .inl (cI, 2048, .inl (upd Sx (1024 * ci + (q_lkE A k)) 1))), (gk, .inl (cI, 2048, .inl (upd Kx (1024 * ci + (q_lkE A k)) k))), (gv, .inl (cI, 2048, .inl (upd Vx (1024 * ci + (q_lkE A k)) v))), (gz, .inl (cI, 2, .inl Zx))] := hD
              refine lv_aload_n hx hb dX2_put_134 rfl (lv_at hl 3 rfl) ?_
              have hR9 : q_RL (q_fl A (q_lkE A k) k v, B, nx, kc + 1, 0) ci (upd Sx (1024 * ci + q_lkE A k) 1) (upd Kx (1024 * ci + q_lkE A k) k) (upd Vx (1024 * ci + q_lkE A k) v) Zx (q_b (nx.isSome = true)) x8 := ⟨hci, hzA, q_RT_fl hRTA, rfl, fun c hc => ⟨(hcr c hc).1, (hcr c hc).2.1, q_RT_o (hcr c hc).2.2 (fun i hi => by have hi : i < B.1 := hi; omega)⟩⟩
              refine r_muV (wr := []) (rest := []) S0 (c_X2_settle l dC dI cI g0 gs gk gv gz L (upd Sx (1024 * ci + (q_lkE A k)) 1) (upd Kx (1024 * ci + (q_lkE A k)) k) (upd Vx (1024 * ci + (q_lkE A k)) v) Zx 0 (q_b (nx.isSome = true)) x8 (nI w) ci (q_lw A B nx k) (q_fl A (q_lkE A k) k v) B nx (kc + 1) H.size (q_iw_put hIV ha hbt h_101) hR9) (cwV 0 hts gX2_put_X2_settle rfl rfl rfl (by decide +kernel) ⟨Nat.le_of_ble_eq_true rfl, Nat.le_of_ble_eq_true rfl⟩) hK hP hD hS hA [0, 1, 2, 3, 4] [] rfl rfl (by decide) (by decide) (by decide) (ci := 2) (q0 := 0) rfl rfl rfl rfl hl.1 rfl (Nat.le_of_ble_eq_true rfl) dX2_put_135 ⟨Nat.zero_le _, Nat.zero_le _⟩ (fun u H locs hu hP hD hS => ?_)
              have hP : va_P (dC, dI) vwCl [(g0, .inr (2, [.int 0, .int (nI L), .ref gs, .ref gk, .ref gv, .ref gz, .int (nI u.1), .int u.2.2.2.1, .int u.2.2.2.2, .int (nI (kc + 1)), .int (nI (q_on (q_fl A (q_lkE A k) k v) B nx (kc + 1) (q_lw A B nx k)).2.2.2.2), .int (nI w)])), (gs, .inl (cI, 2048, .inl u.2.1.1)), (gk, .inl (cI, 2048, .inl u.2.1.2.1)), (gv, .inl (cI, 2048, .inl u.2.1.2.2)), (gz, .inl (cI, 2, .inl u.2.2.1))] H := hP.sub [0, 1, 2, 3, 4] rfl
              have hD : va_D Aq [(g0, .inr (2, [.int 0, .int (nI L), .ref gs, .ref gk, .ref gv, .ref gz, .int (nI u.1), .int u.2.2.2.1, .int u.2.2.2.2, .int (nI (kc + 1)), .int (nI (q_on (q_fl A (q_lkE A k) k v) B nx (kc + 1) (q_lw A B nx k)).2.2.2.2), .int (nI w)])), (gs, .inl (cI, 2048, .inl u.2.1.1)), (gk, .inl (cI, 2048, .inl u.2.1.2.1)), (gv, .inl (cI, 2048, .inl u.2.1.2.2)), (gz, .inl (cI, 2, .inl u.2.2.1))] := hD.sub [0, 1, 2, 3, 4] (by decide) rfl
              refine lv_aload_n hx hb dX2_put_138 rfl (lv_at hl 3 rfl) ?_
              refine lv_aload_n hx hb dX2_put_139 rfl (lv_at hl 3 rfl) ?_
              refine va_get (D := (dC, dI)) (ci := 2) (v := .int (nI (q_on (q_fl A (q_lkE A k) k v) B nx (kc + 1) (q_lw A B nx k)).2.2.2.2)) (C := RX2) (T := TX2) (N := 12) hx hb hts hin_X2_put_X2 hown hK hP 0 rfl rfl 10 (by decide) (hts (.fieldLink RX2 34 "StepMapModel" "visits" "I") (by decide +kernel)) (fun _ h9 => h9) rfl dX2_put_140 ?_
              refine va_put (D := (dC, dI)) (ci := 2) (v := .int (nI (q_on (q_fl A (q_lkE A k) k v) B nx (kc + 1) (q_lw A B nx k)).2.2.2.2)) (ty := .int) (C := RX2) (T := TX2) (N := 12) hx hb hts hin_X2_put_X2 tyX2 tyX2_ok nmX2 hown hK hP hD hS 0 rfl rfl 11 (by decide) (hts (.fieldLink RX2 78 "StepMapModel" "work" "I") (by decide +kernel)) (fun _ h9 => h9) rfl (by decide +kernel) (rfl) (rfl) (Nat.le_of_ble_eq_true rfl) dX2_put_143 (fun H locs hP hD hS => ?_)
              have hP : va_P (dC, dI) vwCl [(g0, .inr (2, [.int 0, .int (nI L), .ref gs, .ref gk, .ref gv, .ref gz, .int (nI u.1), .int u.2.2.2.1, .int u.2.2.2.2, .int (nI (kc + 1)), .int (nI (q_on (q_fl A (q_lkE A k) k v) B nx (kc + 1) (q_lw A B nx k)).2.2.2.2), .int (nI (q_on (q_fl A (q_lkE A k) k v) B nx (kc + 1) (q_lw A B nx k)).2.2.2.2)])), (gs, .inl (cI, 2048, .inl u.2.1.1)), (gk, .inl (cI, 2048, .inl u.2.1.2.1)), (gv, .inl (cI, 2048, .inl u.2.1.2.2)), (gz, .inl (cI, 2, .inl u.2.2.1))] H := hP
              have hD : va_D Aq [(g0, .inr (2, [.int 0, .int (nI L), .ref gs, .ref gk, .ref gv, .ref gz, .int (nI u.1), .int u.2.2.2.1, .int u.2.2.2.2, .int (nI (kc + 1)), .int (nI (q_on (q_fl A (q_lkE A k) k v) B nx (kc + 1) (q_lw A B nx k)).2.2.2.2), .int (nI (q_on (q_fl A (q_lkE A k) k v) B nx (kc + 1) (q_lw A B nx k)).2.2.2.2)])), (gs, .inl (cI, 2048, .inl u.2.1.1)), (gk, .inl (cI, 2048, .inl u.2.1.2.1)), (gv, .inl (cI, 2048, .inl u.2.1.2.2)), (gz, .inl (cI, 2, .inl u.2.2.1))] := hD
              refine lv_iload hx hb dX2_put_146 (lv_at hl 0 rfl) ?_
              have e_0_9 : nI (kc + 1) = nI (q_on (q_fl A (q_lkE A k) k v) B nx (kc + 1) (q_lw A B nx k)).2.2.2.1 := congrArg nI (q_on_kc _ _ _ _ _).symm
              have hP : va_P (dC, dI) vwCl [(g0, .inr (2, [.int 0, .int (nI L), .ref gs, .ref gk, .ref gv, .ref gz, .int (nI u.1), .int u.2.2.2.1, .int u.2.2.2.2, .int (nI (q_on (q_fl A (q_lkE A k) k v) B nx (kc + 1) (q_lw A B nx k)).2.2.2.1), .int (nI (q_on (q_fl A (q_lkE A k) k v) B nx (kc + 1) (q_lw A B nx k)).2.2.2.2), .int (nI (q_on (q_fl A (q_lkE A k) k v) B nx (kc + 1) (q_lw A B nx k)).2.2.2.2)])), (gs, .inl (cI, 2048, .inl u.2.1.1)), (gk, .inl (cI, 2048, .inl u.2.1.2.1)), (gv, .inl (cI, 2048, .inl u.2.1.2.2)), (gz, .inl (cI, 2, .inl u.2.2.1))] H := by rw [← e_0_9]; exact hP
              have hD : va_D Aq [(g0, .inr (2, [.int 0, .int (nI L), .ref gs, .ref gk, .ref gv, .ref gz, .int (nI u.1), .int u.2.2.2.1, .int u.2.2.2.2, .int (nI (q_on (q_fl A (q_lkE A k) k v) B nx (kc + 1) (q_lw A B nx k)).2.2.2.1), .int (nI (q_on (q_fl A (q_lkE A k) k v) B nx (kc + 1) (q_lw A B nx k)).2.2.2.2), .int (nI (q_on (q_fl A (q_lkE A k) k v) B nx (kc + 1) (q_lw A B nx k)).2.2.2.2)])), (gs, .inl (cI, 2048, .inl u.2.1.1)), (gk, .inl (cI, 2048, .inl u.2.1.2.1)), (gv, .inl (cI, 2048, .inl u.2.1.2.2)), (gz, .inl (cI, 2, .inl u.2.2.1))] := by rw [← e_0_9]; exact hD
              have eq := q_put_N (v := v) ha hbt h_101
              have hRL : q_rl (q_put L A B nx kc k v).2 (u.1, u.2.1, u.2.2.1, u.2.2.2.1, u.2.2.2.2, (q_on (q_fl A (q_lkE A k) k v) B nx (kc + 1) (q_lw A B nx k)).2.2.2.2) := by rw [eq]; exact hu
              have hP : va_P (dC, dI) vwCl (q_WM cI g0 gs gk gv gz L (u.1, u.2.1, u.2.2.1, u.2.2.2.1, u.2.2.2.2, (q_on (q_fl A (q_lkE A k) k v) B nx (kc + 1) (q_lw A B nx k)).2.2.2.2) (q_put L A B nx kc k v).2) H := by rw [eq]; exact hP
              have hD : va_D Aq (q_WM cI g0 gs gk gv gz L (u.1, u.2.1, u.2.2.1, u.2.2.2.1, u.2.2.2.2, (q_on (q_fl A (q_lkE A k) k v) B nx (kc + 1) (q_lw A B nx k)).2.2.2.2) (q_put L A B nx kc k v).2) := by rw [eq]; exact hD
              exact W.iret (v := 0) hx hb hr (fun t ht hW => ⟨⟨_, (u.1, u.2.1, u.2.2.1, u.2.2.2.1, u.2.2.2.2, (q_on (q_fl A (q_lkE A k) k v) B nx (kc + 1) (q_lw A B nx k)).2.2.2.2), rfl, ⟨by rw [eq], hRL⟩, by rw [ht]; exact hP, va_K.moved hW.alike hK, hD⟩, hS.F ht⟩) hS.2.2 dX2_put_148
            · have h_101 : (q_full L A B nx kc) := q_b_n0 c_101
              refine lv_ldc (v := -2000000001) hx hb hown (hts (.constant RX2 74 (-2000000001)) (by decide +kernel)) dX2_put_104 ?_
              refine lv_istore (lv' := [(5, .int (-2000000001)), (4, .int (-1)), (3, .int (-1 - nI (q_lkE A k))), (0, .ref g0), (1, .int k), (2, .int v)]) hx hb dX2_put_106 hl (by decide) rfl (fun ls hl => ?_)
              refine lv_goto (tgt := 138) hx hb dX2_put_108 (by decide) ?_
              refine lv_aload_n hx hb dX2_put_138 rfl (lv_at hl 3 rfl) ?_
              refine lv_aload_n hx hb dX2_put_139 rfl (lv_at hl 3 rfl) ?_
              refine va_get (D := (dC, dI)) (ci := 2) (v := .int (nI (q_lw A B nx k))) (C := RX2) (T := TX2) (N := 12) hx hb hts hin_X2_put_X2 hown hK hP 0 rfl rfl 10 (by decide) (hts (.fieldLink RX2 34 "StepMapModel" "visits" "I") (by decide +kernel)) (fun _ h9 => h9) rfl dX2_put_140 ?_
              refine va_put (D := (dC, dI)) (ci := 2) (v := .int (nI (q_lw A B nx k))) (ty := .int) (C := RX2) (T := TX2) (N := 12) hx hb hts hin_X2_put_X2 tyX2 tyX2_ok nmX2 hown hK hP hD hS 0 rfl rfl 11 (by decide) (hts (.fieldLink RX2 78 "StepMapModel" "work" "I") (by decide +kernel)) (fun _ h9 => h9) rfl (by decide +kernel) (rfl) (rfl) (Nat.le_of_ble_eq_true rfl) dX2_put_143 (fun H locs hP hD hS => ?_)
              have hP : va_P (dC, dI) vwCl [(g0, .inr (2, [.int 0, .int (nI L), .ref gs, .ref gk, .ref gv, .ref gz, .int (nI ci), .int (q_b (nx.isSome = true)), .int x8, .int (nI kc), .int (nI (q_lw A B nx k)), .int (nI (q_lw A B nx k))])), (gs, .inl (cI, 2048, .inl Sx)), (gk, .inl (cI, 2048, .inl Kx)), (gv, .inl (cI, 2048, .inl Vx)), (gz, .inl (cI, 2, .inl Zx))] H := hP
              have hD : va_D Aq [(g0, .inr (2, [.int 0, .int (nI L), .ref gs, .ref gk, .ref gv, .ref gz, .int (nI ci), .int (q_b (nx.isSome = true)), .int x8, .int (nI kc), .int (nI (q_lw A B nx k)), .int (nI (q_lw A B nx k))])), (gs, .inl (cI, 2048, .inl Sx)), (gk, .inl (cI, 2048, .inl Kx)), (gv, .inl (cI, 2048, .inl Vx)), (gz, .inl (cI, 2, .inl Zx))] := hD
              refine lv_iload hx hb dX2_put_146 (lv_at hl 0 rfl) ?_
              have eq := q_put_F (v := v) ha hbt h_101
              have hRL : q_rl (q_put L A B nx kc k v).2 (ci, (Sx, Kx, Vx), Zx, q_b (nx.isSome = true), x8, q_lw A B nx k) := by rw [eq]; exact ⟨hci, hzA, hRTA, rfl, hcr⟩
              have hP : va_P (dC, dI) vwCl (q_WM cI g0 gs gk gv gz L (ci, (Sx, Kx, Vx), Zx, q_b (nx.isSome = true), x8, q_lw A B nx k) (q_put L A B nx kc k v).2) H := by rw [eq]; exact hP
              have hD : va_D Aq (q_WM cI g0 gs gk gv gz L (ci, (Sx, Kx, Vx), Zx, q_b (nx.isSome = true), x8, q_lw A B nx k) (q_put L A B nx kc k v).2) := by rw [eq]; exact hD
              exact W.iret (v := -2000000001) hx hb hr (fun t ht hW => ⟨⟨_, (ci, (Sx, Kx, Vx), Zx, q_b (nx.isSome = true), x8, q_lw A B nx k), rfl, ⟨by rw [eq], hRL⟩, by rw [ht]; exact hP, va_K.moved hW.alike hK, hD⟩, hS.F ht⟩) hS.2.2 dX2_put_148
          · exact absurd (by decide) c_57
      · have h_28 : (nx.isSome = true) := q_b_n0 c_28
        obtain ⟨cu, hcc⟩ := Option.isSome_iff_exists.mp h_28
        obtain ⟨hcr1, hzB, hRTB⟩ := hcr cu hcc
        have hEB9 := (hEB cu hcc).1
        refine lv_aload_n hx hb dX2_put_31 rfl (lv_at hl 1 rfl) ?_
        refine lv_iload_n hx hb dX2_put_32 rfl (lv_at hl 2 rfl) ?_
        refine lv_iconst (v := 1) hx hb dX2_put_33 (by decide) ?_
        refine lv_aload_n hx hb dX2_put_34 rfl (lv_at hl 1 rfl) ?_
        refine va_get (D := (dC, dI)) (ci := 2) (v := .int (nI ci)) (C := RX2) (T := TX2) (N := 12) hx hb hts hin_X2_put_X2 hown hK hP 0 rfl rfl 6 (by decide) (hts (.fieldLink RX2 43 "StepMapModel" "current" "I") (by decide +kernel)) (fun _ h9 => h9) rfl dX2_put_35 ?_
        refine lv_isub hx hb dX2_put_38 ?_
        refine r_eq (z := nI (1 - ci)) (pk_sub (a := 1) (by omega)) ?_
        refine r_muI (wr := []) (rest := []) S0 (c_X2_look l dC dI cI g0 gs gk gv gz L Sx Kx Vx Zx 0 (nI ci) (q_b (nx.isSome = true)) x8 (nI kc) (nI w) (0 + (q_lkD A k + 1)) (1 - ci) B k H.size (by omega) hzB hpB hRTB hEB9) (cwV 2 hts gX2_put_X2_look rfl rfl rfl (by decide +kernel) ⟨Nat.le_of_ble_eq_true rfl, Nat.le_of_ble_eq_true rfl⟩) hK hP hD hS hA [0, 1, 2, 3, 4] [] rfl rfl (by decide) (by decide) (by decide) (ci := 2) (q0 := 0) rfl rfl rfl rfl hl.1 rfl (Nat.le_of_ble_eq_true rfl) dX2_put_39 ⟨Nat.zero_le _, Nat.zero_le _⟩ (fun r_39 _ H locs hu hP hD hS => ?_)
        have hP : va_P (dC, dI) vwCl [(g0, .inr (2, [.int 0, .int (nI L), .ref gs, .ref gk, .ref gv, .ref gz, .int (nI ci), .int (q_b (nx.isSome = true)), .int x8, .int (nI kc), .int (nI ((0 + (q_lkD A k + 1)) + (q_lkD B k + 1))), .int (nI w)])), (gs, .inl (cI, 2048, .inl Sx)), (gk, .inl (cI, 2048, .inl Kx)), (gv, .inl (cI, 2048, .inl Vx)), (gz, .inl (cI, 2, .inl Zx))] H := hP.sub [0, 1, 2, 3, 4] rfl
        have hD : va_D Aq [(g0, .inr (2, [.int 0, .int (nI L), .ref gs, .ref gk, .ref gv, .ref gz, .int (nI ci), .int (q_b (nx.isSome = true)), .int x8, .int (nI kc), .int (nI ((0 + (q_lkD A k + 1)) + (q_lkD B k + 1))), .int (nI w)])), (gs, .inl (cI, 2048, .inl Sx)), (gk, .inl (cI, 2048, .inl Kx)), (gv, .inl (cI, 2048, .inl Vx)), (gz, .inl (cI, 2, .inl Zx))] := hD.sub [0, 1, 2, 3, 4] (by decide) rfl
        have hu : r_39 = q_lkR B k := hu
        subst hu
        refine lv_goto (tgt := 46) hx hb dX2_put_42 (by decide) ?_
        by_cases hb2 : q_hit B k
        · refine r_eq (z := nI (q_lkE B k)) (q_lkR_t hb2) ?_
          refine lv_istore (lv' := [(4, .int (nI (q_lkE B k))), (3, .int (-1 - nI (q_lkE A k))), (0, .ref g0), (1, .int k), (2, .int v)]) hx hb dX2_put_46 hl (by decide) rfl (fun ls hl => ?_)
          have e_0_10 : nI ((0 + (q_lkD A k + 1)) + (q_lkD B k + 1)) = nI (q_lw A B nx k) := by rw [q_lw_B ha h_28]; exact congrArg nI (by omega)
          have hP : va_P (dC, dI) vwCl [(g0, .inr (2, [.int 0, .int (nI L), .ref gs, .ref gk, .ref gv, .ref gz, .int (nI ci), .int (q_b (nx.isSome = true)), .int x8, .int (nI kc), .int (nI (q_lw A B nx k)), .int (nI w)])), (gs, .inl (cI, 2048, .inl Sx)), (gk, .inl (cI, 2048, .inl Kx)), (gv, .inl (cI, 2048, .inl Vx)), (gz, .inl (cI, 2, .inl Zx))] H := by rw [← e_0_10]; exact hP
          have hD : va_D Aq [(g0, .inr (2, [.int 0, .int (nI L), .ref gs, .ref gk, .ref gv, .ref gz, .int (nI ci), .int (q_b (nx.isSome = true)), .int x8, .int (nI kc), .int (nI (q_lw A B nx k)), .int (nI w)])), (gs, .inl (cI, 2048, .inl Sx)), (gk, .inl (cI, 2048, .inl Kx)), (gv, .inl (cI, 2048, .inl Vx)), (gz, .inl (cI, 2, .inl Zx))] := by rw [← e_0_10]; exact hD
          have hbt : q_hitB B nx k := ⟨h_28, hb2⟩
          refine lv_iconst (v := 0) hx hb dX2_put_48 (by decide) ?_
          refine lv_istore (lv' := [(5, .int 0), (4, .int (nI (q_lkE B k))), (3, .int (-1 - nI (q_lkE A k))), (0, .ref g0), (1, .int k), (2, .int v)]) hx hb dX2_put_49 hl (by decide) rfl (fun ls hl => ?_)
          refine lv_iload_n hx hb dX2_put_51 rfl (lv_at hl 2 rfl) ?_
          refine lv_if_ge (tgt := 60) hx hb dX2_put_52 (by decide) (fun c_52 => ?_) (fun c_52 => ?_)
          · exact absurd c_52 (q_neg_ge (by omega))
          · refine lv_iload hx hb dX2_put_55 (lv_at hl 1 rfl) ?_
            refine lv_if_lt (tgt := 97) hx hb dX2_put_57 (by decide) (fun c_57 => ?_) (fun c_57 => ?_)
            · have h_57 := q_lt_t (a := q_lkE B k) (b := 0) (by omega) (by omega) c_57
              omega
            · have h_57 := q_lt_f (a := q_lkE B k) (b := 0) (by omega) (by omega) c_57
              refine lv_aload_n hx hb dX2_put_60 rfl (lv_at hl 3 rfl) ?_
              refine va_get (D := (dC, dI)) (ci := 2) (v := .ref gv) (C := RX2) (T := TX2) (N := 12) hx hb hts hin_X2_put_X2 hown hK hP 0 rfl rfl 4 (by decide) (hts (.fieldLink RX2 16 "StepMapModel" "values" "[I") (by decide +kernel)) (fun _ h9 => h9) rfl dX2_put_61 ?_
              refine lv_iload_n hx hb dX2_put_64 rfl (lv_at hl 2 rfl) ?_
              refine lv_if_lt (tgt := 80) hx hb dX2_put_65 (by decide) (fun c_65 => ?_) (fun c_65 => ?_)
              · refine lv_aload_n hx hb dX2_put_80 rfl (lv_at hl 3 rfl) ?_
                refine lv_iconst (v := 1) hx hb dX2_put_81 (by decide) ?_
                refine lv_aload_n hx hb dX2_put_82 rfl (lv_at hl 3 rfl) ?_
                refine va_get (D := (dC, dI)) (ci := 2) (v := .int (nI ci)) (C := RX2) (T := TX2) (N := 12) hx hb hts hin_X2_put_X2 hown hK hP 0 rfl rfl 6 (by decide) (hts (.fieldLink RX2 43 "StepMapModel" "current" "I") (by decide +kernel)) (fun _ h9 => h9) rfl dX2_put_83 ?_
                refine lv_isub hx hb dX2_put_86 ?_
                refine r_eq (z := nI (1 - ci)) (pk_sub (a := 1) (by omega)) ?_
                refine lv_iload hx hb dX2_put_87 (lv_at hl 1 rfl) ?_
                refine r_roV (rest := [.ref gv]) S0 (c_X2_at l dC dI cI g0 gs gk gv gz L Sx Kx Vx Zx 0 (nI ci) (q_b (nx.isSome = true)) x8 (nI kc) (nI (q_lw A B nx k)) (nI w) (1 - ci) (q_lkE B k)) (cwV 2 hts gX2_put_X2_at rfl rfl rfl (by decide +kernel) ⟨Nat.le_of_ble_eq_true rfl, Nat.le_of_ble_eq_true rfl⟩) hK hP [0, 1, 2, 3, 4] rfl (ci := 2) (q0 := 0) rfl rfl rfl rfl hl.1 rfl (Nat.le_of_ble_eq_true rfl) dX2_put_89 ⟨Nat.zero_le _, Nat.zero_le _⟩ ?_
                refine lv_iload_n hx hb dX2_put_92 rfl (lv_at hl 5 rfl) ?_
                refine r_st (i := 1024 * (1 - ci) + (q_lkE B k)) hx hb hK hP hD hS 3 0 rfl rfl (by omega) (by omega) dX2_put_93 (fun H locs hP hD hS => ?_)
                have hP : va_P (dC, dI) vwCl [(g0, .inr (2, [.int 0, .int (nI L), .ref gs, .ref gk, .ref gv, .ref gz, .int (nI ci), .int (q_b (nx.isSome = true)), .int x8, .int (nI kc), .int (nI (q_lw A B nx k)), .int (nI w)])), (gs, .inl (cI, 2048, .inl Sx)), (gk, .inl (cI, 2048, .inl Kx)), (gv, .inl (cI, 2048, .inl (upd Vx (1024 * (1 - ci) + (q_lkE B k)) v))), (gz, .inl (cI, 2, .inl Zx))] H := hP
                have hD : va_D Aq [(g0, .inr (2, [.int 0, .int (nI L), .ref gs, .ref gk, .ref gv, .ref gz, .int (nI ci), .int (q_b (nx.isSome = true)), .int x8, .int (nI kc), .int (nI (q_lw A B nx k)), .int (nI w)])), (gs, .inl (cI, 2048, .inl Sx)), (gk, .inl (cI, 2048, .inl Kx)), (gv, .inl (cI, 2048, .inl (upd Vx (1024 * (1 - ci) + (q_lkE B k)) v))), (gz, .inl (cI, 2, .inl Zx))] := hD
                refine lv_goto (tgt := 138) hx hb dX2_put_94 (by decide) ?_
                refine lv_aload_n hx hb dX2_put_138 rfl (lv_at hl 3 rfl) ?_
                refine lv_aload_n hx hb dX2_put_139 rfl (lv_at hl 3 rfl) ?_
                refine va_get (D := (dC, dI)) (ci := 2) (v := .int (nI (q_lw A B nx k))) (C := RX2) (T := TX2) (N := 12) hx hb hts hin_X2_put_X2 hown hK hP 0 rfl rfl 10 (by decide) (hts (.fieldLink RX2 34 "StepMapModel" "visits" "I") (by decide +kernel)) (fun _ h9 => h9) rfl dX2_put_140 ?_
                refine va_put (D := (dC, dI)) (ci := 2) (v := .int (nI (q_lw A B nx k))) (ty := .int) (C := RX2) (T := TX2) (N := 12) hx hb hts hin_X2_put_X2 tyX2 tyX2_ok nmX2 hown hK hP hD hS 0 rfl rfl 11 (by decide) (hts (.fieldLink RX2 78 "StepMapModel" "work" "I") (by decide +kernel)) (fun _ h9 => h9) rfl (by decide +kernel) (rfl) (rfl) (Nat.le_of_ble_eq_true rfl) dX2_put_143 (fun H locs hP hD hS => ?_)
                have hP : va_P (dC, dI) vwCl [(g0, .inr (2, [.int 0, .int (nI L), .ref gs, .ref gk, .ref gv, .ref gz, .int (nI ci), .int (q_b (nx.isSome = true)), .int x8, .int (nI kc), .int (nI (q_lw A B nx k)), .int (nI (q_lw A B nx k))])), (gs, .inl (cI, 2048, .inl Sx)), (gk, .inl (cI, 2048, .inl Kx)), (gv, .inl (cI, 2048, .inl (upd Vx (1024 * (1 - ci) + (q_lkE B k)) v))), (gz, .inl (cI, 2, .inl Zx))] H := hP
                have hD : va_D Aq [(g0, .inr (2, [.int 0, .int (nI L), .ref gs, .ref gk, .ref gv, .ref gz, .int (nI ci), .int (q_b (nx.isSome = true)), .int x8, .int (nI kc), .int (nI (q_lw A B nx k)), .int (nI (q_lw A B nx k))])), (gs, .inl (cI, 2048, .inl Sx)), (gk, .inl (cI, 2048, .inl Kx)), (gv, .inl (cI, 2048, .inl (upd Vx (1024 * (1 - ci) + (q_lkE B k)) v))), (gz, .inl (cI, 2, .inl Zx))] := hD
                refine lv_iload hx hb dX2_put_146 (lv_at hl 0 rfl) ?_
                have eq := q_put_B (L := L) (kc := kc) (v := v) ha hbt
                have hRL : q_rl (q_put L A B nx kc k v).2 (ci, (Sx, Kx, upd Vx (1024 * (1 - ci) + q_lkE B k) v), Zx, q_b (nx.isSome = true), x8, q_lw A B nx k) := by rw [eq]; exact ⟨hci, hzA, q_RT_oV hRTA (fun i hi => by have hi : i < A.1 := hi; omega), rfl, fun c hc => ⟨(hcr c hc).1, (hcr c hc).2.1, q_RT_v1 (hcr c hc).2.2⟩⟩
                have hP : va_P (dC, dI) vwCl (q_WM cI g0 gs gk gv gz L (ci, (Sx, Kx, upd Vx (1024 * (1 - ci) + q_lkE B k) v), Zx, q_b (nx.isSome = true), x8, q_lw A B nx k) (q_put L A B nx kc k v).2) H := by rw [eq]; exact hP
                have hD : va_D Aq (q_WM cI g0 gs gk gv gz L (ci, (Sx, Kx, upd Vx (1024 * (1 - ci) + q_lkE B k) v), Zx, q_b (nx.isSome = true), x8, q_lw A B nx k) (q_put L A B nx kc k v).2) := by rw [eq]; exact hD
                exact W.iret (v := 0) hx hb hr (fun t ht hW => ⟨⟨_, (ci, (Sx, Kx, upd Vx (1024 * (1 - ci) + q_lkE B k) v), Zx, q_b (nx.isSome = true), x8, q_lw A B nx k), rfl, ⟨by rw [eq], hRL⟩, by rw [ht]; exact hP, va_K.moved hW.alike hK, hD⟩, hS.F ht⟩) hS.2.2 dX2_put_148
              · exact absurd (q_neg1 (by omega)) c_65
        · refine r_eq (z := -1 - nI (q_lkE B k)) (q_lkR_f hb2) ?_
          refine lv_istore (lv' := [(4, .int (-1 - nI (q_lkE B k))), (3, .int (-1 - nI (q_lkE A k))), (0, .ref g0), (1, .int k), (2, .int v)]) hx hb dX2_put_46 hl (by decide) rfl (fun ls hl => ?_)
          have e_0_10 : nI ((0 + (q_lkD A k + 1)) + (q_lkD B k + 1)) = nI (q_lw A B nx k) := by rw [q_lw_B ha h_28]; exact congrArg nI (by omega)
          have hP : va_P (dC, dI) vwCl [(g0, .inr (2, [.int 0, .int (nI L), .ref gs, .ref gk, .ref gv, .ref gz, .int (nI ci), .int (q_b (nx.isSome = true)), .int x8, .int (nI kc), .int (nI (q_lw A B nx k)), .int (nI w)])), (gs, .inl (cI, 2048, .inl Sx)), (gk, .inl (cI, 2048, .inl Kx)), (gv, .inl (cI, 2048, .inl Vx)), (gz, .inl (cI, 2, .inl Zx))] H := by rw [← e_0_10]; exact hP
          have hD : va_D Aq [(g0, .inr (2, [.int 0, .int (nI L), .ref gs, .ref gk, .ref gv, .ref gz, .int (nI ci), .int (q_b (nx.isSome = true)), .int x8, .int (nI kc), .int (nI (q_lw A B nx k)), .int (nI w)])), (gs, .inl (cI, 2048, .inl Sx)), (gk, .inl (cI, 2048, .inl Kx)), (gv, .inl (cI, 2048, .inl Vx)), (gz, .inl (cI, 2, .inl Zx))] := by rw [← e_0_10]; exact hD
          have hbt : ¬ q_hitB B nx k := fun z => hb2 z.2
          refine lv_iconst (v := 0) hx hb dX2_put_48 (by decide) ?_
          refine lv_istore (lv' := [(5, .int 0), (4, .int (-1 - nI (q_lkE B k))), (3, .int (-1 - nI (q_lkE A k))), (0, .ref g0), (1, .int k), (2, .int v)]) hx hb dX2_put_49 hl (by decide) rfl (fun ls hl => ?_)
          refine lv_iload_n hx hb dX2_put_51 rfl (lv_at hl 2 rfl) ?_
          refine lv_if_ge (tgt := 60) hx hb dX2_put_52 (by decide) (fun c_52 => ?_) (fun c_52 => ?_)
          · exact absurd c_52 (q_neg_ge (by omega))
          · refine lv_iload hx hb dX2_put_55 (lv_at hl 1 rfl) ?_
            refine lv_if_lt (tgt := 97) hx hb dX2_put_57 (by decide) (fun c_57 => ?_) (fun c_57 => ?_)
            · refine lv_aload_n hx hb dX2_put_97 rfl (lv_at hl 3 rfl) ?_
              refine r_roV (rest := []) S0 (c_X2_isFull l dC dI cI g0 gs gk gv gz L Sx Kx Vx Zx 0 x8 (nI (q_lw A B nx k)) (nI w) ci A B nx kc hci hzA (by omega) (by omega) (by omega) (by omega) hcur) (cwV 0 hts gX2_put_X2_isFull rfl rfl rfl (by decide +kernel) ⟨Nat.le_of_ble_eq_true rfl, Nat.le_of_ble_eq_true rfl⟩) hK hP [0, 1, 2, 3, 4] rfl (ci := 2) (q0 := 0) rfl rfl rfl rfl hl.1 rfl (Nat.le_of_ble_eq_true rfl) dX2_put_98 ⟨Nat.zero_le _, Nat.zero_le _⟩ ?_
              refine lv_if_eq (tgt := 111) hx hb dX2_put_101 (by decide) (fun c_101 => ?_) (fun c_101 => ?_)
              · have h_101 : ¬ (q_full L A B nx kc) := q_b_0.mp c_101
                refine lv_aload_n hx hb dX2_put_111 rfl (lv_at hl 3 rfl) ?_
                refine lv_aload_n hx hb dX2_put_112 rfl (lv_at hl 3 rfl) ?_
                refine va_get (D := (dC, dI)) (ci := 2) (v := .int (nI ci)) (C := RX2) (T := TX2) (N := 12) hx hb hts hin_X2_put_X2 hown hK hP 0 rfl rfl 6 (by decide) (hts (.fieldLink RX2 43 "StepMapModel" "current" "I") (by decide +kernel)) (fun _ h9 => h9) rfl dX2_put_113 ?_
                refine lv_iconst (v := -1) hx hb dX2_put_116 (by decide) ?_
                refine lv_iload_n hx hb dX2_put_117 rfl (lv_at hl 2 rfl) ?_
                refine lv_isub hx hb dX2_put_118 ?_
                refine r_eq (z := nI (q_lkE A k)) (q_neg1' _) ?_
                refine lv_iload_n hx hb dX2_put_119 rfl (lv_at hl 4 rfl) ?_
                refine lv_iload_n hx hb dX2_put_120 rfl (lv_at hl 5 rfl) ?_
                refine r_muV (wr := []) (rest := []) S0 (c_X2_lay l dC dI cI g0 gs gk gv gz L Sx Kx Vx Zx 0 (nI ci) (q_b (nx.isSome = true)) x8 (nI kc) (nI (q_lw A B nx k)) (nI w) ci (q_lkE A k) k v H.size (by omega)) (cwV 4 hts gX2_put_X2_lay rfl rfl rfl (by decide +kernel) ⟨Nat.le_of_ble_eq_true rfl, Nat.le_of_ble_eq_true rfl⟩) hK hP hD hS hA [0, 1, 2, 3, 4] [] rfl rfl (by decide) (by decide) (by decide) (ci := 2) (q0 := 0) rfl rfl rfl rfl hl.1 rfl (Nat.le_of_ble_eq_true rfl) dX2_put_121 ⟨Nat.zero_le _, Nat.zero_le _⟩ (fun _ H locs hu hP hD hS => ?_)
                have hP : va_P (dC, dI) vwCl [(g0, .inr (2, [.int 0, .int (nI L), .ref gs, .ref gk, .ref gv, .ref gz, .int (nI ci), .int (q_b (nx.isSome = true)), .int x8, .int (nI kc), .int (nI (q_lw A B nx k)), .int (nI w)])), (gs, .inl (cI, 2048, .inl (upd Sx (1024 * ci + (q_lkE A k)) 1))), (gk, .inl (cI, 2048, .inl (upd Kx (1024 * ci + (q_lkE A k)) k))), (gv, .inl (cI, 2048, .inl (upd Vx (1024 * ci + (q_lkE A k)) v))), (gz, .inl (cI, 2, .inl Zx))] H := hP.sub [0, 1, 2, 3, 4] rfl
                have hD : va_D Aq [(g0, .inr (2, [.int 0, .int (nI L), .ref gs, .ref gk, .ref gv, .ref gz, .int (nI ci), .int (q_b (nx.isSome = true)), .int x8, .int (nI kc), .int (nI (q_lw A B nx k)), .int (nI w)])), (gs, .inl (cI, 2048, .inl (upd Sx (1024 * ci + (q_lkE A k)) 1))), (gk, .inl (cI, 2048, .inl (upd Kx (1024 * ci + (q_lkE A k)) k))), (gv, .inl (cI, 2048, .inl (upd Vx (1024 * ci + (q_lkE A k)) v))), (gz, .inl (cI, 2, .inl Zx))] := hD.sub [0, 1, 2, 3, 4] (by decide) rfl
                refine lv_aload_n hx hb dX2_put_124 rfl (lv_at hl 3 rfl) ?_
                refine lv_dup hx hb dX2_put_125 rfl ?_
                refine va_get (D := (dC, dI)) (ci := 2) (v := .int (nI kc)) (C := RX2) (T := TX2) (N := 12) hx hb hts hin_X2_put_X2 hown hK hP 0 rfl rfl 9 (by decide) (hts (.fieldLink RX2 63 "StepMapModel" "count" "I") (by decide +kernel)) (fun _ h9 => h9) rfl dX2_put_126 ?_
                refine lv_iconst (v := 1) hx hb dX2_put_129 (by decide) ?_
                refine lv_iadd hx hb dX2_put_130 ?_
                refine r_eq (z := nI (kc + 1)) (nI_add kc 1) ?_
                refine va_put (D := (dC, dI)) (ci := 2) (v := .int (nI (kc + 1))) (ty := .int) (C := RX2) (T := TX2) (N := 12) hx hb hts hin_X2_put_X2 tyX2 tyX2_ok nmX2 hown hK hP hD hS 0 rfl rfl 9 (by decide) (hts (.fieldLink RX2 63 "StepMapModel" "count" "I") (by decide +kernel)) (fun _ h9 => h9) rfl (by decide +kernel) (rfl) (rfl) (Nat.le_of_ble_eq_true rfl) dX2_put_131 (fun H locs hP hD hS => ?_)
                have hP : va_P (dC, dI) vwCl [(g0, .inr (2, [.int 0, .int (nI L), .ref gs, .ref gk, .ref gv, .ref gz, .int (nI ci), .int (q_b (nx.isSome = true)), .int x8, .int (nI (kc + 1)), .int (nI (q_lw A B nx k)), .int (nI w)])), (gs, .inl (cI, 2048, .inl (upd Sx (1024 * ci + (q_lkE A k)) 1))), (gk, .inl (cI, 2048, .inl (upd Kx (1024 * ci + (q_lkE A k)) k))), (gv, .inl (cI, 2048, .inl (upd Vx (1024 * ci + (q_lkE A k)) v))), (gz, .inl (cI, 2, .inl Zx))] H := hP
                have hD : va_D Aq [(g0, .inr (2, [.int 0, .int (nI L), .ref gs, .ref gk, .ref gv, .ref gz, .int (nI ci), .int (q_b (nx.isSome = true)), .int x8, .int (nI (kc + 1)), .int (nI (q_lw A B nx k)), .int (nI w)])), (gs, .inl (cI, 2048, .inl (upd Sx (1024 * ci + (q_lkE A k)) 1))), (gk, .inl (cI, 2048, .inl (upd Kx (1024 * ci + (q_lkE A k)) k))), (gv, .inl (cI, 2048, .inl (upd Vx (1024 * ci + (q_lkE A k)) v))), (gz, .inl (cI, 2, .inl Zx))] := hD
                refine lv_aload_n hx hb dX2_put_134 rfl (lv_at hl 3 rfl) ?_
                have hR9 : q_RL (q_fl A (q_lkE A k) k v, B, nx, kc + 1, 0) ci (upd Sx (1024 * ci + q_lkE A k) 1) (upd Kx (1024 * ci + q_lkE A k) k) (upd Vx (1024 * ci + q_lkE A k) v) Zx (q_b (nx.isSome = true)) x8 := ⟨hci, hzA, q_RT_fl hRTA, rfl, fun c hc => ⟨(hcr c hc).1, (hcr c hc).2.1, q_RT_o (hcr c hc).2.2 (fun i hi => by have hi : i < B.1 := hi; omega)⟩⟩
                refine r_muV (wr := []) (rest := []) S0 (c_X2_settle l dC dI cI g0 gs gk gv gz L (upd Sx (1024 * ci + (q_lkE A k)) 1) (upd Kx (1024 * ci + (q_lkE A k)) k) (upd Vx (1024 * ci + (q_lkE A k)) v) Zx 0 (q_b (nx.isSome = true)) x8 (nI w) ci (q_lw A B nx k) (q_fl A (q_lkE A k) k v) B nx (kc + 1) H.size (q_iw_put hIV ha hbt h_101) hR9) (cwV 0 hts gX2_put_X2_settle rfl rfl rfl (by decide +kernel) ⟨Nat.le_of_ble_eq_true rfl, Nat.le_of_ble_eq_true rfl⟩) hK hP hD hS hA [0, 1, 2, 3, 4] [] rfl rfl (by decide) (by decide) (by decide) (ci := 2) (q0 := 0) rfl rfl rfl rfl hl.1 rfl (Nat.le_of_ble_eq_true rfl) dX2_put_135 ⟨Nat.zero_le _, Nat.zero_le _⟩ (fun u H locs hu hP hD hS => ?_)
                have hP : va_P (dC, dI) vwCl [(g0, .inr (2, [.int 0, .int (nI L), .ref gs, .ref gk, .ref gv, .ref gz, .int (nI u.1), .int u.2.2.2.1, .int u.2.2.2.2, .int (nI (kc + 1)), .int (nI (q_on (q_fl A (q_lkE A k) k v) B nx (kc + 1) (q_lw A B nx k)).2.2.2.2), .int (nI w)])), (gs, .inl (cI, 2048, .inl u.2.1.1)), (gk, .inl (cI, 2048, .inl u.2.1.2.1)), (gv, .inl (cI, 2048, .inl u.2.1.2.2)), (gz, .inl (cI, 2, .inl u.2.2.1))] H := hP.sub [0, 1, 2, 3, 4] rfl
                have hD : va_D Aq [(g0, .inr (2, [.int 0, .int (nI L), .ref gs, .ref gk, .ref gv, .ref gz, .int (nI u.1), .int u.2.2.2.1, .int u.2.2.2.2, .int (nI (kc + 1)), .int (nI (q_on (q_fl A (q_lkE A k) k v) B nx (kc + 1) (q_lw A B nx k)).2.2.2.2), .int (nI w)])), (gs, .inl (cI, 2048, .inl u.2.1.1)), (gk, .inl (cI, 2048, .inl u.2.1.2.1)), (gv, .inl (cI, 2048, .inl u.2.1.2.2)), (gz, .inl (cI, 2, .inl u.2.2.1))] := hD.sub [0, 1, 2, 3, 4] (by decide) rfl
                refine lv_aload_n hx hb dX2_put_138 rfl (lv_at hl 3 rfl) ?_
                refine lv_aload_n hx hb dX2_put_139 rfl (lv_at hl 3 rfl) ?_
                refine va_get (D := (dC, dI)) (ci := 2) (v := .int (nI (q_on (q_fl A (q_lkE A k) k v) B nx (kc + 1) (q_lw A B nx k)).2.2.2.2)) (C := RX2) (T := TX2) (N := 12) hx hb hts hin_X2_put_X2 hown hK hP 0 rfl rfl 10 (by decide) (hts (.fieldLink RX2 34 "StepMapModel" "visits" "I") (by decide +kernel)) (fun _ h9 => h9) rfl dX2_put_140 ?_
                refine va_put (D := (dC, dI)) (ci := 2) (v := .int (nI (q_on (q_fl A (q_lkE A k) k v) B nx (kc + 1) (q_lw A B nx k)).2.2.2.2)) (ty := .int) (C := RX2) (T := TX2) (N := 12) hx hb hts hin_X2_put_X2 tyX2 tyX2_ok nmX2 hown hK hP hD hS 0 rfl rfl 11 (by decide) (hts (.fieldLink RX2 78 "StepMapModel" "work" "I") (by decide +kernel)) (fun _ h9 => h9) rfl (by decide +kernel) (rfl) (rfl) (Nat.le_of_ble_eq_true rfl) dX2_put_143 (fun H locs hP hD hS => ?_)
                have hP : va_P (dC, dI) vwCl [(g0, .inr (2, [.int 0, .int (nI L), .ref gs, .ref gk, .ref gv, .ref gz, .int (nI u.1), .int u.2.2.2.1, .int u.2.2.2.2, .int (nI (kc + 1)), .int (nI (q_on (q_fl A (q_lkE A k) k v) B nx (kc + 1) (q_lw A B nx k)).2.2.2.2), .int (nI (q_on (q_fl A (q_lkE A k) k v) B nx (kc + 1) (q_lw A B nx k)).2.2.2.2)])), (gs, .inl (cI, 2048, .inl u.2.1.1)), (gk, .inl (cI, 2048, .inl u.2.1.2.1)), (gv, .inl (cI, 2048, .inl u.2.1.2.2)), (gz, .inl (cI, 2, .inl u.2.2.1))] H := hP
                have hD : va_D Aq [(g0, .inr (2, [.int 0, .int (nI L), .ref gs, .ref gk, .ref gv, .ref gz, .int (nI u.1), .int u.2.2.2.1, .int u.2.2.2.2, .int (nI (kc + 1)), .int (nI (q_on (q_fl A (q_lkE A k) k v) B nx (kc + 1) (q_lw A B nx k)).2.2.2.2), .int (nI (q_on (q_fl A (q_lkE A k) k v) B nx (kc + 1) (q_lw A B nx k)).2.2.2.2)])), (gs, .inl (cI, 2048, .inl u.2.1.1)), (gk, .inl (cI, 2048, .inl u.2.1.2.1)), (gv, .inl (cI, 2048, .inl u.2.1.2.2)), (gz, .inl (cI, 2, .inl u.2.2.1))] := hD
                refine lv_iload hx hb dX2_put_146 (lv_at hl 0 rfl) ?_
                have e_0_9 : nI (kc + 1) = nI (q_on (q_fl A (q_lkE A k) k v) B nx (kc + 1) (q_lw A B nx k)).2.2.2.1 := congrArg nI (q_on_kc _ _ _ _ _).symm
                have hP : va_P (dC, dI) vwCl [(g0, .inr (2, [.int 0, .int (nI L), .ref gs, .ref gk, .ref gv, .ref gz, .int (nI u.1), .int u.2.2.2.1, .int u.2.2.2.2, .int (nI (q_on (q_fl A (q_lkE A k) k v) B nx (kc + 1) (q_lw A B nx k)).2.2.2.1), .int (nI (q_on (q_fl A (q_lkE A k) k v) B nx (kc + 1) (q_lw A B nx k)).2.2.2.2), .int (nI (q_on (q_fl A (q_lkE A k) k v) B nx (kc + 1) (q_lw A B nx k)).2.2.2.2)])), (gs, .inl (cI, 2048, .inl u.2.1.1)), (gk, .inl (cI, 2048, .inl u.2.1.2.1)), (gv, .inl (cI, 2048, .inl u.2.1.2.2)), (gz, .inl (cI, 2, .inl u.2.2.1))] H := by rw [← e_0_9]; exact hP
                have hD : va_D Aq [(g0, .inr (2, [.int 0, .int (nI L), .ref gs, .ref gk, .ref gv, .ref gz, .int (nI u.1), .int u.2.2.2.1, .int u.2.2.2.2, .int (nI (q_on (q_fl A (q_lkE A k) k v) B nx (kc + 1) (q_lw A B nx k)).2.2.2.1), .int (nI (q_on (q_fl A (q_lkE A k) k v) B nx (kc + 1) (q_lw A B nx k)).2.2.2.2), .int (nI (q_on (q_fl A (q_lkE A k) k v) B nx (kc + 1) (q_lw A B nx k)).2.2.2.2)])), (gs, .inl (cI, 2048, .inl u.2.1.1)), (gk, .inl (cI, 2048, .inl u.2.1.2.1)), (gv, .inl (cI, 2048, .inl u.2.1.2.2)), (gz, .inl (cI, 2, .inl u.2.2.1))] := by rw [← e_0_9]; exact hD
                have eq := q_put_N (v := v) ha hbt h_101
                have hRL : q_rl (q_put L A B nx kc k v).2 (u.1, u.2.1, u.2.2.1, u.2.2.2.1, u.2.2.2.2, (q_on (q_fl A (q_lkE A k) k v) B nx (kc + 1) (q_lw A B nx k)).2.2.2.2) := by rw [eq]; exact hu
                have hP : va_P (dC, dI) vwCl (q_WM cI g0 gs gk gv gz L (u.1, u.2.1, u.2.2.1, u.2.2.2.1, u.2.2.2.2, (q_on (q_fl A (q_lkE A k) k v) B nx (kc + 1) (q_lw A B nx k)).2.2.2.2) (q_put L A B nx kc k v).2) H := by rw [eq]; exact hP
                have hD : va_D Aq (q_WM cI g0 gs gk gv gz L (u.1, u.2.1, u.2.2.1, u.2.2.2.1, u.2.2.2.2, (q_on (q_fl A (q_lkE A k) k v) B nx (kc + 1) (q_lw A B nx k)).2.2.2.2) (q_put L A B nx kc k v).2) := by rw [eq]; exact hD
                exact W.iret (v := 0) hx hb hr (fun t ht hW => ⟨⟨_, (u.1, u.2.1, u.2.2.1, u.2.2.2.1, u.2.2.2.2, (q_on (q_fl A (q_lkE A k) k v) B nx (kc + 1) (q_lw A B nx k)).2.2.2.2), rfl, ⟨by rw [eq], hRL⟩, by rw [ht]; exact hP, va_K.moved hW.alike hK, hD⟩, hS.F ht⟩) hS.2.2 dX2_put_148
              · have h_101 : (q_full L A B nx kc) := q_b_n0 c_101
                refine lv_ldc (v := -2000000001) hx hb hown (hts (.constant RX2 74 (-2000000001)) (by decide +kernel)) dX2_put_104 ?_
                refine lv_istore (lv' := [(5, .int (-2000000001)), (4, .int (-1 - nI (q_lkE B k))), (3, .int (-1 - nI (q_lkE A k))), (0, .ref g0), (1, .int k), (2, .int v)]) hx hb dX2_put_106 hl (by decide) rfl (fun ls hl => ?_)
                refine lv_goto (tgt := 138) hx hb dX2_put_108 (by decide) ?_
                refine lv_aload_n hx hb dX2_put_138 rfl (lv_at hl 3 rfl) ?_
                refine lv_aload_n hx hb dX2_put_139 rfl (lv_at hl 3 rfl) ?_
                refine va_get (D := (dC, dI)) (ci := 2) (v := .int (nI (q_lw A B nx k))) (C := RX2) (T := TX2) (N := 12) hx hb hts hin_X2_put_X2 hown hK hP 0 rfl rfl 10 (by decide) (hts (.fieldLink RX2 34 "StepMapModel" "visits" "I") (by decide +kernel)) (fun _ h9 => h9) rfl dX2_put_140 ?_
                refine va_put (D := (dC, dI)) (ci := 2) (v := .int (nI (q_lw A B nx k))) (ty := .int) (C := RX2) (T := TX2) (N := 12) hx hb hts hin_X2_put_X2 tyX2 tyX2_ok nmX2 hown hK hP hD hS 0 rfl rfl 11 (by decide) (hts (.fieldLink RX2 78 "StepMapModel" "work" "I") (by decide +kernel)) (fun _ h9 => h9) rfl (by decide +kernel) (rfl) (rfl) (Nat.le_of_ble_eq_true rfl) dX2_put_143 (fun H locs hP hD hS => ?_)
                have hP : va_P (dC, dI) vwCl [(g0, .inr (2, [.int 0, .int (nI L), .ref gs, .ref gk, .ref gv, .ref gz, .int (nI ci), .int (q_b (nx.isSome = true)), .int x8, .int (nI kc), .int (nI (q_lw A B nx k)), .int (nI (q_lw A B nx k))])), (gs, .inl (cI, 2048, .inl Sx)), (gk, .inl (cI, 2048, .inl Kx)), (gv, .inl (cI, 2048, .inl Vx)), (gz, .inl (cI, 2, .inl Zx))] H := hP
                have hD : va_D Aq [(g0, .inr (2, [.int 0, .int (nI L), .ref gs, .ref gk, .ref gv, .ref gz, .int (nI ci), .int (q_b (nx.isSome = true)), .int x8, .int (nI kc), .int (nI (q_lw A B nx k)), .int (nI (q_lw A B nx k))])), (gs, .inl (cI, 2048, .inl Sx)), (gk, .inl (cI, 2048, .inl Kx)), (gv, .inl (cI, 2048, .inl Vx)), (gz, .inl (cI, 2, .inl Zx))] := hD
                refine lv_iload hx hb dX2_put_146 (lv_at hl 0 rfl) ?_
                have eq := q_put_F (v := v) ha hbt h_101
                have hRL : q_rl (q_put L A B nx kc k v).2 (ci, (Sx, Kx, Vx), Zx, q_b (nx.isSome = true), x8, q_lw A B nx k) := by rw [eq]; exact ⟨hci, hzA, hRTA, rfl, hcr⟩
                have hP : va_P (dC, dI) vwCl (q_WM cI g0 gs gk gv gz L (ci, (Sx, Kx, Vx), Zx, q_b (nx.isSome = true), x8, q_lw A B nx k) (q_put L A B nx kc k v).2) H := by rw [eq]; exact hP
                have hD : va_D Aq (q_WM cI g0 gs gk gv gz L (ci, (Sx, Kx, Vx), Zx, q_b (nx.isSome = true), x8, q_lw A B nx k) (q_put L A B nx kc k v).2) := by rw [eq]; exact hD
                exact W.iret (v := -2000000001) hx hb hr (fun t ht hW => ⟨⟨_, (ci, (Sx, Kx, Vx), Zx, q_b (nx.isSome = true), x8, q_lw A B nx k), rfl, ⟨by rw [eq], hRL⟩, by rw [ht]; exact hP, va_K.moved hW.alike hK, hD⟩, hS.F ht⟩) hS.2.2 dX2_put_148
            · exact absurd (q_neg1 (by omega)) c_57
set_option maxHeartbeats 4000000 in
set_option maxRecDepth 100000 in
theorem c_X2_remove (l : Launch) (dC : Nat → ClassId) (dI : Nat → Nat → Nat) (cI : ClassId) (g0 gs gk gv gz L : Nat) (Sx Kx Vx Zx : Nat → Int32) (x7 x8 : Int32) (ci vi : Nat) (A B : q_TB) (nx : Option Nat) (kc w : Nat) (k : Int32) (sz : Nat) (hIV : q_IV L A B nx kc) (hR : q_RL (A, B, nx, kc, w) ci Sx Kx Vx Zx x7 x8) : Met l yX2_remove wsX2_remove ({ frames := 4, cells := 0, slots := 0, locals := 92 }) (r_Mc (dC, dI) vwCl [(cI, .int)] [(g0, .inr (2, [.int 0, .int (nI L), .ref gs, .ref gk, .ref gv, .ref gz, .int (nI ci), .int x7, .int x8, .int (nI kc), .int (nI vi), .int (nI w)])), (gs, .inl (cI, 2048, .inl Sx)), (gk, .inl (cI, 2048, .inl Kx)), (gv, .inl (cI, 2048, .inl Vx)), (gz, .inl (cI, 2, .inl Zx))] sz [.ref g0, .int k]) (va_Qi (fun (r : Int32) (u : q_U) => r = (q_rem A B nx kc k).1 ∧ q_rl (q_rem A B nx kc k).2 u) (fun u t => r_B (dC, dI) vwCl [(cI, .int)] (va_A [(g0, .inr (2, [.int 0, .int (nI L), .ref gs, .ref gk, .ref gv, .ref gz, .int (nI ci), .int x7, .int x8, .int (nI kc), .int (nI vi), .int (nI w)])), (gs, .inl (cI, 2048, .inl Sx)), (gk, .inl (cI, 2048, .inl Kx)), (gv, .inl (cI, 2048, .inl Vx)), (gz, .inl (cI, 2, .inl Zx))] sz) ((fun u => q_WM cI g0 gs gk gv gz L u (q_rem A B nx kc k).2) u) t) (va_A [(g0, .inr (2, [.int 0, .int (nI L), .ref gs, .ref gk, .ref gv, .ref gz, .int (nI ci), .int x7, .int x8, .int (nI kc), .int (nI vi), .int (nI w)])), (gs, .inl (cI, 2048, .inl Sx)), (gk, .inl (cI, 2048, .inl Kx)), (gv, .inl (cI, 2048, .inl Vx)), (gz, .inl (cI, 2, .inl Zx))] sz)) 0 0 (va_A [(g0, .inr (2, [.int 0, .int (nI L), .ref gs, .ref gk, .ref gv, .ref gz, .int (nI ci), .int x7, .int x8, .int (nI kc), .int (nI vi), .int (nI w)])), (gs, .inl (cI, 2048, .inl Sx)), (gk, .inl (cI, 2048, .inl Kx)), (gv, .inl (cI, 2048, .inl Vx)), (gz, .inl (cI, 2, .inl Zx))] sz) := by
  refine Met.ofW (cc := cX2_remove) (maxL := 4) (ret := (some .boolean)) (by decide) rfl ?_
  intro p e s m args below meth c s₁ Bd hml hv
  obtain ⟨rfl, hsz, hP, hK, hD0⟩ := hv
  have hx := Bd.exec
  have hb := Bd.bytes
  have hr := Bd.returns
  have hts := atoms_spec (ws := wsX2_remove) Bd.pre
  have hown : s.vm.findClass RX2 = some m.cls := findClass_of_methodNamed Bd.named
  have hlocks := Bd.notSynchronized
  have S0 : CallFix p m c cX2_remove 4 s _ wsX2_remove RX2 := ⟨hx, hb, hml, hown, hts⟩
  subst hsz
  have hD := hD0.self (sz := s.heap.size)
  generalize hAe : va_A [(g0, .inr (2, [.int 0, .int (nI L), .ref gs, .ref gk, .ref gv, .ref gz, .int (nI ci), .int x7, .int x8, .int (nI kc), .int (nI vi), .int (nI w)])), (gs, .inl (cI, 2048, .inl Sx)), (gk, .inl (cI, 2048, .inl Kx)), (gv, .inl (cI, 2048, .inl Vx)), (gz, .inl (cI, 2, .inl Zx))] s.heap.size = Aq at hD ⊢
  have hA : ∀ q : Nat, s.heap.size ≤ q → Aq q := fun q h => by rw [← hAe]; exact Or.inr h
  have hS : va_S Aq s.heap s.heap [] := va_S.rf
  have hD : va_D Aq [(g0, .inr (2, [.int 0, .int (nI L), .ref gs, .ref gk, .ref gv, .ref gz, .int (nI ci), .int x7, .int x8, .int (nI kc), .int (nI vi), .int (nI w)])), (gs, .inl (cI, 2048, .inl Sx)), (gk, .inl (cI, 2048, .inl Kx)), (gv, .inl (cI, 2048, .inl Vx)), (gz, .inl (cI, 2, .inl Zx))] := hD
  have hP : va_P (dC, dI) vwCl [(g0, .inr (2, [.int 0, .int (nI L), .ref gs, .ref gk, .ref gv, .ref gz, .int (nI ci), .int x7, .int x8, .int (nI kc), .int (nI vi), .int (nI w)])), (gs, .inl (cI, 2048, .inl Sx)), (gk, .inl (cI, 2048, .inl Kx)), (gv, .inl (cI, 2048, .inl Vx)), (gz, .inl (cI, 2, .inl Zx))] s.heap := hP
  have hl := lv_entry ([.ref g0, .int k]) (n := 4) (Nat.le_of_ble_eq_true rfl)
  rw [lg_entry_eq]
  generalize (lg_sl ([.ref g0, .int k]) ++ List.replicate (4 - (lg_sl ([.ref g0, .int k])).length) Slot.unset).toArray = ls at hl ⊢
  have hl : lv_has ls 4 [(0, .ref g0), (1, .int k)] := hl
  have hSZ := hIV.1
  have hEM := q_iv_EM hIV
  have hEB := q_iv_EB hIV
  obtain ⟨hN, hP9, hU9⟩ := q_iv_PU hIV
  have hkc := q_iv_kc hIV
  obtain ⟨hci, hzA, hRTA, hmv, hcr⟩ := hR
  have hzA : Zx ci = nI A.1 := hzA
  have hRTA : q_RT Sx Kx Vx ci A := hRTA
  have hcr : ∀ c, nx = some c → x8 = nI c ∧ Zx (1 - ci) = nI B.1 ∧ q_RT Sx Kx Vx (1 - ci) B := hcr
  have hmv : x7 = q_b (nx.isSome = true) := hmv
  subst hmv
  have hcur : ∀ c, nx = some c → x8 = nI c ∧ Zx (1 - ci) = nI B.1 ∧ c ≤ B.1 := fun c h => ⟨(hcr c h).1, (hcr c h).2.1, (hEB c h).2⟩
  obtain ⟨hLp, hpA, hAL, hpB, hBL⟩ := id hSZ
  have hL := (q_pw_8 hLp).2
  have hA8 := q_pw_8 hpA
  have hB8 := q_pw_8 hpB
  have heA := q_lkE_lt (t := A) k (by omega)
  have heB := q_lkE_lt (t := B) k (by omega)
  refine lv_aload_n hx hb dX2_remove_0 rfl (lv_at hl 0 rfl) ?_
  refine lv_iconst (v := 0) hx hb dX2_remove_1 (by decide) ?_
  refine va_put (D := (dC, dI)) (ci := 2) (v := .int 0) (ty := .int) (C := RX2) (T := TX2) (N := 12) hx hb hts hin_X2_remove_X2 tyX2 tyX2_ok nmX2 hown hK hP hD hS 0 rfl rfl 0 (by decide) (hts (.fieldLink RX2 26 "StepMapModel" "thrown" "I") (by decide +kernel)) (fun _ h9 => h9) rfl (by decide +kernel) (rfl) (rfl) (Nat.le_of_ble_eq_true rfl) dX2_remove_2 (fun H locs hP hD hS => ?_)
  have hP : va_P (dC, dI) vwCl [(g0, .inr (2, [.int 0, .int (nI L), .ref gs, .ref gk, .ref gv, .ref gz, .int (nI ci), .int (q_b (nx.isSome = true)), .int x8, .int (nI kc), .int (nI vi), .int (nI w)])), (gs, .inl (cI, 2048, .inl Sx)), (gk, .inl (cI, 2048, .inl Kx)), (gv, .inl (cI, 2048, .inl Vx)), (gz, .inl (cI, 2, .inl Zx))] H := hP
  have hD : va_D Aq [(g0, .inr (2, [.int 0, .int (nI L), .ref gs, .ref gk, .ref gv, .ref gz, .int (nI ci), .int (q_b (nx.isSome = true)), .int x8, .int (nI kc), .int (nI vi), .int (nI w)])), (gs, .inl (cI, 2048, .inl Sx)), (gk, .inl (cI, 2048, .inl Kx)), (gv, .inl (cI, 2048, .inl Vx)), (gz, .inl (cI, 2, .inl Zx))] := hD
  refine lv_aload_n hx hb dX2_remove_5 rfl (lv_at hl 0 rfl) ?_
  refine lv_iconst (v := 0) hx hb dX2_remove_6 (by decide) ?_
  refine va_put (D := (dC, dI)) (ci := 2) (v := .int 0) (ty := .int) (C := RX2) (T := TX2) (N := 12) hx hb hts hin_X2_remove_X2 tyX2 tyX2_ok nmX2 hown hK hP hD hS 0 rfl rfl 10 (by decide) (hts (.fieldLink RX2 34 "StepMapModel" "visits" "I") (by decide +kernel)) (fun _ h9 => h9) rfl (by decide +kernel) (rfl) (rfl) (Nat.le_of_ble_eq_true rfl) dX2_remove_7 (fun H locs hP hD hS => ?_)
  have hP : va_P (dC, dI) vwCl [(g0, .inr (2, [.int 0, .int (nI L), .ref gs, .ref gk, .ref gv, .ref gz, .int (nI ci), .int (q_b (nx.isSome = true)), .int x8, .int (nI kc), .int 0, .int (nI w)])), (gs, .inl (cI, 2048, .inl Sx)), (gk, .inl (cI, 2048, .inl Kx)), (gv, .inl (cI, 2048, .inl Vx)), (gz, .inl (cI, 2, .inl Zx))] H := hP
  have hD : va_D Aq [(g0, .inr (2, [.int 0, .int (nI L), .ref gs, .ref gk, .ref gv, .ref gz, .int (nI ci), .int (q_b (nx.isSome = true)), .int x8, .int (nI kc), .int 0, .int (nI w)])), (gs, .inl (cI, 2048, .inl Sx)), (gk, .inl (cI, 2048, .inl Kx)), (gv, .inl (cI, 2048, .inl Vx)), (gz, .inl (cI, 2, .inl Zx))] := hD
  have e_0_10 : 0 = nI 0 := nI_0.symm
  have hP : va_P (dC, dI) vwCl [(g0, .inr (2, [.int 0, .int (nI L), .ref gs, .ref gk, .ref gv, .ref gz, .int (nI ci), .int (q_b (nx.isSome = true)), .int x8, .int (nI kc), .int (nI 0), .int (nI w)])), (gs, .inl (cI, 2048, .inl Sx)), (gk, .inl (cI, 2048, .inl Kx)), (gv, .inl (cI, 2048, .inl Vx)), (gz, .inl (cI, 2, .inl Zx))] H := by rw [← e_0_10]; exact hP
  have hD : va_D Aq [(g0, .inr (2, [.int 0, .int (nI L), .ref gs, .ref gk, .ref gv, .ref gz, .int (nI ci), .int (q_b (nx.isSome = true)), .int x8, .int (nI kc), .int (nI 0), .int (nI w)])), (gs, .inl (cI, 2048, .inl Sx)), (gk, .inl (cI, 2048, .inl Kx)), (gv, .inl (cI, 2048, .inl Vx)), (gz, .inl (cI, 2, .inl Zx))] := by rw [← e_0_10]; exact hD
  refine lv_aload_n hx hb dX2_remove_10 rfl (lv_at hl 0 rfl) ?_
  refine lv_iload_n hx hb dX2_remove_11 rfl (lv_at hl 1 rfl) ?_
  refine lv_aload_n hx hb dX2_remove_12 rfl (lv_at hl 0 rfl) ?_
  refine va_get (D := (dC, dI)) (ci := 2) (v := .int (nI ci)) (C := RX2) (T := TX2) (N := 12) hx hb hts hin_X2_remove_X2 hown hK hP 0 rfl rfl 6 (by decide) (hts (.fieldLink RX2 43 "StepMapModel" "current" "I") (by decide +kernel)) (fun _ h9 => h9) rfl dX2_remove_13 ?_
  refine r_muI (wr := []) (rest := []) S0 (c_X2_look l dC dI cI g0 gs gk gv gz L Sx Kx Vx Zx 0 (nI ci) (q_b (nx.isSome = true)) x8 (nI kc) (nI w) 0 ci A k H.size (by omega) hzA hpA hRTA hEM) (cwV 2 hts gX2_remove_X2_look rfl rfl rfl (by decide +kernel) ⟨Nat.le_of_ble_eq_true rfl, Nat.le_of_ble_eq_true rfl⟩) hK hP hD hS hA [0, 1, 2, 3, 4] [] rfl rfl (by decide) (by decide) (by decide) (ci := 2) (q0 := 0) rfl rfl rfl rfl hl.1 rfl (Nat.le_of_ble_eq_true rfl) dX2_remove_16 ⟨Nat.zero_le _, Nat.zero_le _⟩ (fun r_16 _ H locs hu hP hD hS => ?_)
  have hP : va_P (dC, dI) vwCl [(g0, .inr (2, [.int 0, .int (nI L), .ref gs, .ref gk, .ref gv, .ref gz, .int (nI ci), .int (q_b (nx.isSome = true)), .int x8, .int (nI kc), .int (nI (0 + (q_lkD A k + 1))), .int (nI w)])), (gs, .inl (cI, 2048, .inl Sx)), (gk, .inl (cI, 2048, .inl Kx)), (gv, .inl (cI, 2048, .inl Vx)), (gz, .inl (cI, 2, .inl Zx))] H := hP.sub [0, 1, 2, 3, 4] rfl
  have hD : va_D Aq [(g0, .inr (2, [.int 0, .int (nI L), .ref gs, .ref gk, .ref gv, .ref gz, .int (nI ci), .int (q_b (nx.isSome = true)), .int x8, .int (nI kc), .int (nI (0 + (q_lkD A k + 1))), .int (nI w)])), (gs, .inl (cI, 2048, .inl Sx)), (gk, .inl (cI, 2048, .inl Kx)), (gv, .inl (cI, 2048, .inl Vx)), (gz, .inl (cI, 2, .inl Zx))] := hD.sub [0, 1, 2, 3, 4] (by decide) rfl
  have hu : r_16 = q_lkR A k := hu
  subst hu
  by_cases ha : q_hit A k
  · refine r_eq (z := nI (q_lkE A k)) (q_lkR_t ha) ?_
    refine lv_istore_n (lv' := [(2, .int (nI (q_lkE A k))), (0, .ref g0), (1, .int k)]) hx hb dX2_remove_19 rfl hl (by decide) rfl (fun ls hl => ?_)
    refine lv_iload_n hx hb dX2_remove_20 rfl (lv_at hl 0 rfl) ?_
    refine lv_if_ge (tgt := 45) hx hb dX2_remove_21 (by decide) (fun c_21 => ?_) (fun c_21 => ?_)
    · have h_21 := q_le_t (a := 0) (b := q_lkE A k) (by omega) (by omega) c_21
      refine lv_iconst (v := -1) hx hb dX2_remove_45 (by decide) ?_
      refine lv_istore_n (lv' := [(3, .int (-1)), (2, .int (nI (q_lkE A k))), (0, .ref g0), (1, .int k)]) hx hb dX2_remove_46 rfl hl (by decide) rfl (fun ls hl => ?_)
      have e_0_10 : nI (0 + (q_lkD A k + 1)) = nI (q_lw A B nx k) := by rw [q_lw_A ha]; exact congrArg nI (by omega)
      have hP : va_P (dC, dI) vwCl [(g0, .inr (2, [.int 0, .int (nI L), .ref gs, .ref gk, .ref gv, .ref gz, .int (nI ci), .int (q_b (nx.isSome = true)), .int x8, .int (nI kc), .int (nI (q_lw A B nx k)), .int (nI w)])), (gs, .inl (cI, 2048, .inl Sx)), (gk, .inl (cI, 2048, .inl Kx)), (gv, .inl (cI, 2048, .inl Vx)), (gz, .inl (cI, 2, .inl Zx))] H := by rw [← e_0_10]; exact hP
      have hD : va_D Aq [(g0, .inr (2, [.int 0, .int (nI L), .ref gs, .ref gk, .ref gv, .ref gz, .int (nI ci), .int (q_b (nx.isSome = true)), .int x8, .int (nI kc), .int (nI (q_lw A B nx k)), .int (nI w)])), (gs, .inl (cI, 2048, .inl Sx)), (gk, .inl (cI, 2048, .inl Kx)), (gv, .inl (cI, 2048, .inl Vx)), (gz, .inl (cI, 2, .inl Zx))] := by rw [← e_0_10]; exact hD
      refine lv_iload_n hx hb dX2_remove_47 rfl (lv_at hl 1 rfl) ?_
      refine lv_if_lt (tgt := 59) hx hb dX2_remove_48 (by decide) (fun c_48 => ?_) (fun c_48 => ?_)
      · have h_48 := q_lt_t (a := q_lkE A k) (b := 0) (by omega) (by omega) c_48
        omega
      · have h_48 := q_lt_f (a := q_lkE A k) (b := 0) (by omega) (by omega) c_48
        refine lv_aload_n hx hb dX2_remove_51 rfl (lv_at hl 2 rfl) ?_
        refine lv_iload_n hx hb dX2_remove_52 rfl (lv_at hl 1 rfl) ?_
        refine r_muV (wr := []) (rest := []) S0 (c_X2_free l dC dI cI g0 gs gk gv gz L Sx Kx Vx Zx 0 (q_b (nx.isSome = true)) x8 (nI kc) (nI w) ci (q_lw A B nx k) (q_lkE A k) A H.size hci hzA hpA hRTA hN hP9 hU9 hEM heA ha.1) (cwV 1 hts gX2_remove_X2_free rfl rfl rfl (by decide +kernel) ⟨Nat.le_of_ble_eq_true rfl, Nat.le_of_ble_eq_true rfl⟩) hK hP hD hS hA [0, 1, 2, 3, 4] [] rfl rfl (by decide) (by decide) (by decide) (ci := 2) (q0 := 0) rfl rfl rfl rfl hl.1 rfl (Nat.le_of_ble_eq_true rfl) dX2_remove_53 ⟨Nat.zero_le _, Nat.zero_le _⟩ (fun u H locs hu hP hD hS => ?_)
        have hP : va_P (dC, dI) vwCl [(g0, .inr (2, [.int 0, .int (nI L), .ref gs, .ref gk, .ref gv, .ref gz, .int (nI ci), .int (q_b (nx.isSome = true)), .int x8, .int (nI kc), .int (nI (q_lw A B nx k + ((q_fr A (q_lkE A k)).2 + 1))), .int (nI w)])), (gs, .inl (cI, 2048, .inl u.1)), (gk, .inl (cI, 2048, .inl u.2.1)), (gv, .inl (cI, 2048, .inl u.2.2)), (gz, .inl (cI, 2, .inl Zx))] H := hP.sub [0, 1, 2, 3, 4] rfl
        have hD : va_D Aq [(g0, .inr (2, [.int 0, .int (nI L), .ref gs, .ref gk, .ref gv, .ref gz, .int (nI ci), .int (q_b (nx.isSome = true)), .int x8, .int (nI kc), .int (nI (q_lw A B nx k + ((q_fr A (q_lkE A k)).2 + 1))), .int (nI w)])), (gs, .inl (cI, 2048, .inl u.1)), (gk, .inl (cI, 2048, .inl u.2.1)), (gv, .inl (cI, 2048, .inl u.2.2)), (gz, .inl (cI, 2, .inl Zx))] := hD.sub [0, 1, 2, 3, 4] (by decide) rfl
        refine lv_goto (tgt := 80) hx hb dX2_remove_56 (by decide) ?_
        obtain ⟨r1, r2⟩ := hu
        refine lv_iload_n hx hb dX2_remove_80 rfl (lv_at hl 1 rfl) ?_
        refine lv_if_ge (tgt := 88) hx hb dX2_remove_81 (by decide) (fun c_81 => ?_) (fun c_81 => ?_)
        · have h_81 := q_le_t (a := 0) (b := q_lkE A k) (by omega) (by omega) c_81
          refine lv_aload_n hx hb dX2_remove_88 rfl (lv_at hl 2 rfl) ?_
          refine lv_dup hx hb dX2_remove_89 rfl ?_
          refine va_get (D := (dC, dI)) (ci := 2) (v := .int (nI kc)) (C := RX2) (T := TX2) (N := 12) hx hb hts hin_X2_remove_X2 hown hK hP 0 rfl rfl 9 (by decide) (hts (.fieldLink RX2 63 "StepMapModel" "count" "I") (by decide +kernel)) (fun _ h9 => h9) rfl dX2_remove_90 ?_
          refine lv_iconst (v := 1) hx hb dX2_remove_93 (by decide) ?_
          refine lv_isub hx hb dX2_remove_94 ?_
          have hk1 := q_hit_kc hIV ha
          refine r_eq (z := nI (kc - 1)) (pk_sub (b := 1) hk1) ?_
          refine va_put (D := (dC, dI)) (ci := 2) (v := .int (nI (kc - 1))) (ty := .int) (C := RX2) (T := TX2) (N := 12) hx hb hts hin_X2_remove_X2 tyX2 tyX2_ok nmX2 hown hK hP hD hS 0 rfl rfl 9 (by decide) (hts (.fieldLink RX2 63 "StepMapModel" "count" "I") (by decide +kernel)) (fun _ h9 => h9) rfl (by decide +kernel) (rfl) (rfl) (Nat.le_of_ble_eq_true rfl) dX2_remove_95 (fun H locs hP hD hS => ?_)
          have hP : va_P (dC, dI) vwCl [(g0, .inr (2, [.int 0, .int (nI L), .ref gs, .ref gk, .ref gv, .ref gz, .int (nI ci), .int (q_b (nx.isSome = true)), .int x8, .int (nI (kc - 1)), .int (nI (q_lw A B nx k + ((q_fr A (q_lkE A k)).2 + 1))), .int (nI w)])), (gs, .inl (cI, 2048, .inl u.1)), (gk, .inl (cI, 2048, .inl u.2.1)), (gv, .inl (cI, 2048, .inl u.2.2)), (gz, .inl (cI, 2, .inl Zx))] H := hP
          have hD : va_D Aq [(g0, .inr (2, [.int 0, .int (nI L), .ref gs, .ref gk, .ref gv, .ref gz, .int (nI ci), .int (q_b (nx.isSome = true)), .int x8, .int (nI (kc - 1)), .int (nI (q_lw A B nx k + ((q_fr A (q_lkE A k)).2 + 1))), .int (nI w)])), (gs, .inl (cI, 2048, .inl u.1)), (gk, .inl (cI, 2048, .inl u.2.1)), (gv, .inl (cI, 2048, .inl u.2.2)), (gz, .inl (cI, 2, .inl Zx))] := hD
          refine lv_aload_n hx hb dX2_remove_98 rfl (lv_at hl 2 rfl) ?_
          have hR9 : q_RL ((q_fr A (q_lkE A k)).1, B, nx, kc - 1, 0) ci u.1 u.2.1 u.2.2 Zx (q_b (nx.isSome = true)) x8 := ⟨hci, (show Zx ci = nI (q_fr A (q_lkE A k)).1.1 by rw [q_fr_n]; exact hzA), r1, rfl, fun c hc => ⟨(hcr c hc).1, (hcr c hc).2.1, q_RT_eq (hcr c hc).2.2 (fun i hi => r2 _ (by have hi : i < B.1 := hi; omega))⟩⟩
          refine r_muV (wr := []) (rest := []) S0 (c_X2_settle l dC dI cI g0 gs gk gv gz L u.1 u.2.1 u.2.2 Zx 0 (q_b (nx.isSome = true)) x8 (nI w) ci (q_lw A B nx k + ((q_fr A (q_lkE A k)).2 + 1)) (q_fr A (q_lkE A k)).1 B nx (kc - 1) H.size (q_iw_rmA hIV ha) hR9) (cwV 0 hts gX2_remove_X2_settle rfl rfl rfl (by decide +kernel) ⟨Nat.le_of_ble_eq_true rfl, Nat.le_of_ble_eq_true rfl⟩) hK hP hD hS hA [0, 1, 2, 3, 4] [] rfl rfl (by decide) (by decide) (by decide) (ci := 2) (q0 := 0) rfl rfl rfl rfl hl.1 rfl (Nat.le_of_ble_eq_true rfl) dX2_remove_99 ⟨Nat.zero_le _, Nat.zero_le _⟩ (fun u H locs hu hP hD hS => ?_)
          have hP : va_P (dC, dI) vwCl [(g0, .inr (2, [.int 0, .int (nI L), .ref gs, .ref gk, .ref gv, .ref gz, .int (nI u.1), .int u.2.2.2.1, .int u.2.2.2.2, .int (nI (kc - 1)), .int (nI (q_on (q_fr A (q_lkE A k)).1 B nx (kc - 1) (q_lw A B nx k + ((q_fr A (q_lkE A k)).2 + 1))).2.2.2.2), .int (nI w)])), (gs, .inl (cI, 2048, .inl u.2.1.1)), (gk, .inl (cI, 2048, .inl u.2.1.2.1)), (gv, .inl (cI, 2048, .inl u.2.1.2.2)), (gz, .inl (cI, 2, .inl u.2.2.1))] H := hP.sub [0, 1, 2, 3, 4] rfl
          have hD : va_D Aq [(g0, .inr (2, [.int 0, .int (nI L), .ref gs, .ref gk, .ref gv, .ref gz, .int (nI u.1), .int u.2.2.2.1, .int u.2.2.2.2, .int (nI (kc - 1)), .int (nI (q_on (q_fr A (q_lkE A k)).1 B nx (kc - 1) (q_lw A B nx k + ((q_fr A (q_lkE A k)).2 + 1))).2.2.2.2), .int (nI w)])), (gs, .inl (cI, 2048, .inl u.2.1.1)), (gk, .inl (cI, 2048, .inl u.2.1.2.1)), (gv, .inl (cI, 2048, .inl u.2.1.2.2)), (gz, .inl (cI, 2, .inl u.2.2.1))] := hD.sub [0, 1, 2, 3, 4] (by decide) rfl
          refine lv_aload_n hx hb dX2_remove_102 rfl (lv_at hl 2 rfl) ?_
          refine lv_aload_n hx hb dX2_remove_103 rfl (lv_at hl 2 rfl) ?_
          refine va_get (D := (dC, dI)) (ci := 2) (v := .int (nI (q_on (q_fr A (q_lkE A k)).1 B nx (kc - 1) (q_lw A B nx k + ((q_fr A (q_lkE A k)).2 + 1))).2.2.2.2)) (C := RX2) (T := TX2) (N := 12) hx hb hts hin_X2_remove_X2 hown hK hP 0 rfl rfl 10 (by decide) (hts (.fieldLink RX2 34 "StepMapModel" "visits" "I") (by decide +kernel)) (fun _ h9 => h9) rfl dX2_remove_104 ?_
          refine va_put (D := (dC, dI)) (ci := 2) (v := .int (nI (q_on (q_fr A (q_lkE A k)).1 B nx (kc - 1) (q_lw A B nx k + ((q_fr A (q_lkE A k)).2 + 1))).2.2.2.2)) (ty := .int) (C := RX2) (T := TX2) (N := 12) hx hb hts hin_X2_remove_X2 tyX2 tyX2_ok nmX2 hown hK hP hD hS 0 rfl rfl 11 (by decide) (hts (.fieldLink RX2 78 "StepMapModel" "work" "I") (by decide +kernel)) (fun _ h9 => h9) rfl (by decide +kernel) (rfl) (rfl) (Nat.le_of_ble_eq_true rfl) dX2_remove_107 (fun H locs hP hD hS => ?_)
          have hP : va_P (dC, dI) vwCl [(g0, .inr (2, [.int 0, .int (nI L), .ref gs, .ref gk, .ref gv, .ref gz, .int (nI u.1), .int u.2.2.2.1, .int u.2.2.2.2, .int (nI (kc - 1)), .int (nI (q_on (q_fr A (q_lkE A k)).1 B nx (kc - 1) (q_lw A B nx k + ((q_fr A (q_lkE A k)).2 + 1))).2.2.2.2), .int (nI (q_on (q_fr A (q_lkE A k)).1 B nx (kc - 1) (q_lw A B nx k + ((q_fr A (q_lkE A k)).2 + 1))).2.2.2.2)])), (gs, .inl (cI, 2048, .inl u.2.1.1)), (gk, .inl (cI, 2048, .inl u.2.1.2.1)), (gv, .inl (cI, 2048, .inl u.2.1.2.2)), (gz, .inl (cI, 2, .inl u.2.2.1))] H := hP
          have hD : va_D Aq [(g0, .inr (2, [.int 0, .int (nI L), .ref gs, .ref gk, .ref gv, .ref gz, .int (nI u.1), .int u.2.2.2.1, .int u.2.2.2.2, .int (nI (kc - 1)), .int (nI (q_on (q_fr A (q_lkE A k)).1 B nx (kc - 1) (q_lw A B nx k + ((q_fr A (q_lkE A k)).2 + 1))).2.2.2.2), .int (nI (q_on (q_fr A (q_lkE A k)).1 B nx (kc - 1) (q_lw A B nx k + ((q_fr A (q_lkE A k)).2 + 1))).2.2.2.2)])), (gs, .inl (cI, 2048, .inl u.2.1.1)), (gk, .inl (cI, 2048, .inl u.2.1.2.1)), (gv, .inl (cI, 2048, .inl u.2.1.2.2)), (gz, .inl (cI, 2, .inl u.2.2.1))] := hD
          refine lv_iload_n hx hb dX2_remove_110 rfl (lv_at hl 1 rfl) ?_
          refine lv_if_ge (tgt := 118) hx hb dX2_remove_111 (by decide) (fun c_111 => ?_) (fun c_111 => ?_)
          · have h_111 := q_le_t (a := 0) (b := q_lkE A k) (by omega) (by omega) c_111
            refine lv_iconst (v := 1) hx hb dX2_remove_118 (by decide) ?_
            refine lv_goto (tgt := 123) hx hb dX2_remove_119 (by decide) ?_
            have e_0_9 : nI (kc - 1) = nI (q_on (q_fr A (q_lkE A k)).1 B nx (kc - 1) (q_lw A B nx k + ((q_fr A (q_lkE A k)).2 + 1))).2.2.2.1 := congrArg nI (q_on_kc _ _ _ _ _).symm
            have hP : va_P (dC, dI) vwCl [(g0, .inr (2, [.int 0, .int (nI L), .ref gs, .ref gk, .ref gv, .ref gz, .int (nI u.1), .int u.2.2.2.1, .int u.2.2.2.2, .int (nI (q_on (q_fr A (q_lkE A k)).1 B nx (kc - 1) (q_lw A B nx k + ((q_fr A (q_lkE A k)).2 + 1))).2.2.2.1), .int (nI (q_on (q_fr A (q_lkE A k)).1 B nx (kc - 1) (q_lw A B nx k + ((q_fr A (q_lkE A k)).2 + 1))).2.2.2.2), .int (nI (q_on (q_fr A (q_lkE A k)).1 B nx (kc - 1) (q_lw A B nx k + ((q_fr A (q_lkE A k)).2 + 1))).2.2.2.2)])), (gs, .inl (cI, 2048, .inl u.2.1.1)), (gk, .inl (cI, 2048, .inl u.2.1.2.1)), (gv, .inl (cI, 2048, .inl u.2.1.2.2)), (gz, .inl (cI, 2, .inl u.2.2.1))] H := by rw [← e_0_9]; exact hP
            have hD : va_D Aq [(g0, .inr (2, [.int 0, .int (nI L), .ref gs, .ref gk, .ref gv, .ref gz, .int (nI u.1), .int u.2.2.2.1, .int u.2.2.2.2, .int (nI (q_on (q_fr A (q_lkE A k)).1 B nx (kc - 1) (q_lw A B nx k + ((q_fr A (q_lkE A k)).2 + 1))).2.2.2.1), .int (nI (q_on (q_fr A (q_lkE A k)).1 B nx (kc - 1) (q_lw A B nx k + ((q_fr A (q_lkE A k)).2 + 1))).2.2.2.2), .int (nI (q_on (q_fr A (q_lkE A k)).1 B nx (kc - 1) (q_lw A B nx k + ((q_fr A (q_lkE A k)).2 + 1))).2.2.2.2)])), (gs, .inl (cI, 2048, .inl u.2.1.1)), (gk, .inl (cI, 2048, .inl u.2.1.2.1)), (gv, .inl (cI, 2048, .inl u.2.1.2.2)), (gz, .inl (cI, 2, .inl u.2.2.1))] := by rw [← e_0_9]; exact hD
            have eq := q_rem_A (B := B) (nx := nx) (kc := kc) ha
            have hRL : q_rl (q_rem A B nx kc k).2 (u.1, u.2.1, u.2.2.1, u.2.2.2.1, u.2.2.2.2, (q_on (q_fr A (q_lkE A k)).1 B nx (kc - 1) (q_lw A B nx k + ((q_fr A (q_lkE A k)).2 + 1))).2.2.2.2) := by rw [eq]; exact hu
            have hP : va_P (dC, dI) vwCl (q_WM cI g0 gs gk gv gz L (u.1, u.2.1, u.2.2.1, u.2.2.2.1, u.2.2.2.2, (q_on (q_fr A (q_lkE A k)).1 B nx (kc - 1) (q_lw A B nx k + ((q_fr A (q_lkE A k)).2 + 1))).2.2.2.2) (q_rem A B nx kc k).2) H := by rw [eq]; exact hP
            have hD : va_D Aq (q_WM cI g0 gs gk gv gz L (u.1, u.2.1, u.2.2.1, u.2.2.2.1, u.2.2.2.2, (q_on (q_fr A (q_lkE A k)).1 B nx (kc - 1) (q_lw A B nx k + ((q_fr A (q_lkE A k)).2 + 1))).2.2.2.2) (q_rem A B nx kc k).2) := by rw [eq]; exact hD
            exact W.zret (v := 1) hx hb hr (rfl) (fun t ht hW => ⟨⟨_, (u.1, u.2.1, u.2.2.1, u.2.2.2.1, u.2.2.2.2, (q_on (q_fr A (q_lkE A k)).1 B nx (kc - 1) (q_lw A B nx k + ((q_fr A (q_lkE A k)).2 + 1))).2.2.2.2), rfl, ⟨by rw [eq], hRL⟩, by rw [ht]; exact hP, va_K.moved hW.alike hK, hD⟩, hS.F ht⟩) hS.2.2 dX2_remove_123
          · have h_111 := q_le_f (a := 0) (b := q_lkE A k) (by omega) (by omega) c_111
            omega
        · have h_81 := q_le_f (a := 0) (b := q_lkE A k) (by omega) (by omega) c_81
          omega
    · have h_21 := q_le_f (a := 0) (b := q_lkE A k) (by omega) (by omega) c_21
      omega
  · refine r_eq (z := -1 - nI (q_lkE A k)) (q_lkR_f ha) ?_
    refine lv_istore_n (lv' := [(2, .int (-1 - nI (q_lkE A k))), (0, .ref g0), (1, .int k)]) hx hb dX2_remove_19 rfl hl (by decide) rfl (fun ls hl => ?_)
    refine lv_iload_n hx hb dX2_remove_20 rfl (lv_at hl 0 rfl) ?_
    refine lv_if_ge (tgt := 45) hx hb dX2_remove_21 (by decide) (fun c_21 => ?_) (fun c_21 => ?_)
    · exact absurd c_21 (q_neg_ge (by omega))
    · refine lv_aload_n hx hb dX2_remove_24 rfl (lv_at hl 1 rfl) ?_
      refine va_get (D := (dC, dI)) (ci := 2) (v := .int (q_b (nx.isSome = true))) (C := RX2) (T := TX2) (N := 12) hx hb hts hin_X2_remove_X2 hown hK hP 0 rfl rfl 7 (by decide) (hts (.fieldLink RX2 56 "StepMapModel" "moving" "Z") (by decide +kernel)) (fun _ h9 => h9) rfl dX2_remove_25 ?_
      refine lv_if_eq (tgt := 45) hx hb dX2_remove_28 (by decide) (fun c_28 => ?_) (fun c_28 => ?_)
      · have h_28 : ¬ (nx.isSome = true) := q_b_0.mp c_28
        refine lv_iconst (v := -1) hx hb dX2_remove_45 (by decide) ?_
        refine lv_istore_n (lv' := [(3, .int (-1)), (2, .int (-1 - nI (q_lkE A k))), (0, .ref g0), (1, .int k)]) hx hb dX2_remove_46 rfl hl (by decide) rfl (fun ls hl => ?_)
        have e_0_10 : nI (0 + (q_lkD A k + 1)) = nI (q_lw A B nx k) := by rw [q_lw_N ha h_28]; exact congrArg nI (by omega)
        have hP : va_P (dC, dI) vwCl [(g0, .inr (2, [.int 0, .int (nI L), .ref gs, .ref gk, .ref gv, .ref gz, .int (nI ci), .int (q_b (nx.isSome = true)), .int x8, .int (nI kc), .int (nI (q_lw A B nx k)), .int (nI w)])), (gs, .inl (cI, 2048, .inl Sx)), (gk, .inl (cI, 2048, .inl Kx)), (gv, .inl (cI, 2048, .inl Vx)), (gz, .inl (cI, 2, .inl Zx))] H := by rw [← e_0_10]; exact hP
        have hD : va_D Aq [(g0, .inr (2, [.int 0, .int (nI L), .ref gs, .ref gk, .ref gv, .ref gz, .int (nI ci), .int (q_b (nx.isSome = true)), .int x8, .int (nI kc), .int (nI (q_lw A B nx k)), .int (nI w)])), (gs, .inl (cI, 2048, .inl Sx)), (gk, .inl (cI, 2048, .inl Kx)), (gv, .inl (cI, 2048, .inl Vx)), (gz, .inl (cI, 2, .inl Zx))] := by rw [← e_0_10]; exact hD
        have hbt : ¬ q_hitB B nx k := fun z => h_28 z.1
        refine lv_iload_n hx hb dX2_remove_47 rfl (lv_at hl 1 rfl) ?_
        refine lv_if_lt (tgt := 59) hx hb dX2_remove_48 (by decide) (fun c_48 => ?_) (fun c_48 => ?_)
        · refine lv_iload_n hx hb dX2_remove_59 rfl (lv_at hl 0 rfl) ?_
          refine lv_if_lt (tgt := 80) hx hb dX2_remove_60 (by decide) (fun c_60 => ?_) (fun c_60 => ?_)
          · refine lv_iload_n hx hb dX2_remove_80 rfl (lv_at hl 1 rfl) ?_
            refine lv_if_ge (tgt := 88) hx hb dX2_remove_81 (by decide) (fun c_81 => ?_) (fun c_81 => ?_)
            · exact absurd c_81 (q_neg_ge (by omega))
            · refine lv_iload_n hx hb dX2_remove_84 rfl (lv_at hl 0 rfl) ?_
              refine lv_if_lt (tgt := 102) hx hb dX2_remove_85 (by decide) (fun c_85 => ?_) (fun c_85 => ?_)
              · refine lv_aload_n hx hb dX2_remove_102 rfl (lv_at hl 2 rfl) ?_
                refine lv_aload_n hx hb dX2_remove_103 rfl (lv_at hl 2 rfl) ?_
                refine va_get (D := (dC, dI)) (ci := 2) (v := .int (nI (q_lw A B nx k))) (C := RX2) (T := TX2) (N := 12) hx hb hts hin_X2_remove_X2 hown hK hP 0 rfl rfl 10 (by decide) (hts (.fieldLink RX2 34 "StepMapModel" "visits" "I") (by decide +kernel)) (fun _ h9 => h9) rfl dX2_remove_104 ?_
                refine va_put (D := (dC, dI)) (ci := 2) (v := .int (nI (q_lw A B nx k))) (ty := .int) (C := RX2) (T := TX2) (N := 12) hx hb hts hin_X2_remove_X2 tyX2 tyX2_ok nmX2 hown hK hP hD hS 0 rfl rfl 11 (by decide) (hts (.fieldLink RX2 78 "StepMapModel" "work" "I") (by decide +kernel)) (fun _ h9 => h9) rfl (by decide +kernel) (rfl) (rfl) (Nat.le_of_ble_eq_true rfl) dX2_remove_107 (fun H locs hP hD hS => ?_)
                have hP : va_P (dC, dI) vwCl [(g0, .inr (2, [.int 0, .int (nI L), .ref gs, .ref gk, .ref gv, .ref gz, .int (nI ci), .int (q_b (nx.isSome = true)), .int x8, .int (nI kc), .int (nI (q_lw A B nx k)), .int (nI (q_lw A B nx k))])), (gs, .inl (cI, 2048, .inl Sx)), (gk, .inl (cI, 2048, .inl Kx)), (gv, .inl (cI, 2048, .inl Vx)), (gz, .inl (cI, 2, .inl Zx))] H := hP
                have hD : va_D Aq [(g0, .inr (2, [.int 0, .int (nI L), .ref gs, .ref gk, .ref gv, .ref gz, .int (nI ci), .int (q_b (nx.isSome = true)), .int x8, .int (nI kc), .int (nI (q_lw A B nx k)), .int (nI (q_lw A B nx k))])), (gs, .inl (cI, 2048, .inl Sx)), (gk, .inl (cI, 2048, .inl Kx)), (gv, .inl (cI, 2048, .inl Vx)), (gz, .inl (cI, 2, .inl Zx))] := hD
                refine lv_iload_n hx hb dX2_remove_110 rfl (lv_at hl 1 rfl) ?_
                refine lv_if_ge (tgt := 118) hx hb dX2_remove_111 (by decide) (fun c_111 => ?_) (fun c_111 => ?_)
                · exact absurd c_111 (q_neg_ge (by omega))
                · refine lv_iload_n hx hb dX2_remove_114 rfl (lv_at hl 0 rfl) ?_
                  refine lv_if_lt (tgt := 122) hx hb dX2_remove_115 (by decide) (fun c_115 => ?_) (fun c_115 => ?_)
                  · refine lv_iconst (v := 0) hx hb dX2_remove_122 (by decide) ?_
                    have eq := q_rem_N (kc := kc) ha hbt
                    have hRL : q_rl (q_rem A B nx kc k).2 (ci, (Sx, Kx, Vx), Zx, q_b (nx.isSome = true), x8, q_lw A B nx k) := by rw [eq]; exact ⟨hci, hzA, hRTA, rfl, hcr⟩
                    have hP : va_P (dC, dI) vwCl (q_WM cI g0 gs gk gv gz L (ci, (Sx, Kx, Vx), Zx, q_b (nx.isSome = true), x8, q_lw A B nx k) (q_rem A B nx kc k).2) H := by rw [eq]; exact hP
                    have hD : va_D Aq (q_WM cI g0 gs gk gv gz L (ci, (Sx, Kx, Vx), Zx, q_b (nx.isSome = true), x8, q_lw A B nx k) (q_rem A B nx kc k).2) := by rw [eq]; exact hD
                    exact W.zret (v := 0) hx hb hr (rfl) (fun t ht hW => ⟨⟨_, (ci, (Sx, Kx, Vx), Zx, q_b (nx.isSome = true), x8, q_lw A B nx k), rfl, ⟨by rw [eq], hRL⟩, by rw [ht]; exact hP, va_K.moved hW.alike hK, hD⟩, hS.F ht⟩) hS.2.2 dX2_remove_123
                  · exact absurd (by decide) c_115
              · exact absurd (by decide) c_85
          · exact absurd (by decide) c_60
        · exact absurd (q_neg1 (by omega)) c_48
      · have h_28 : (nx.isSome = true) := q_b_n0 c_28
        obtain ⟨cu, hcc⟩ := Option.isSome_iff_exists.mp h_28
        obtain ⟨hcr1, hzB, hRTB⟩ := hcr cu hcc
        have hEB9 := (hEB cu hcc).1
        refine lv_aload_n hx hb dX2_remove_31 rfl (lv_at hl 1 rfl) ?_
        refine lv_iload_n hx hb dX2_remove_32 rfl (lv_at hl 2 rfl) ?_
        refine lv_iconst (v := 1) hx hb dX2_remove_33 (by decide) ?_
        refine lv_aload_n hx hb dX2_remove_34 rfl (lv_at hl 1 rfl) ?_
        refine va_get (D := (dC, dI)) (ci := 2) (v := .int (nI ci)) (C := RX2) (T := TX2) (N := 12) hx hb hts hin_X2_remove_X2 hown hK hP 0 rfl rfl 6 (by decide) (hts (.fieldLink RX2 43 "StepMapModel" "current" "I") (by decide +kernel)) (fun _ h9 => h9) rfl dX2_remove_35 ?_
        refine lv_isub hx hb dX2_remove_38 ?_
        refine r_eq (z := nI (1 - ci)) (pk_sub (a := 1) (by omega)) ?_
        refine r_muI (wr := []) (rest := []) S0 (c_X2_look l dC dI cI g0 gs gk gv gz L Sx Kx Vx Zx 0 (nI ci) (q_b (nx.isSome = true)) x8 (nI kc) (nI w) (0 + (q_lkD A k + 1)) (1 - ci) B k H.size (by omega) hzB hpB hRTB hEB9) (cwV 2 hts gX2_remove_X2_look rfl rfl rfl (by decide +kernel) ⟨Nat.le_of_ble_eq_true rfl, Nat.le_of_ble_eq_true rfl⟩) hK hP hD hS hA [0, 1, 2, 3, 4] [] rfl rfl (by decide) (by decide) (by decide) (ci := 2) (q0 := 0) rfl rfl rfl rfl hl.1 rfl (Nat.le_of_ble_eq_true rfl) dX2_remove_39 ⟨Nat.zero_le _, Nat.zero_le _⟩ (fun r_39 _ H locs hu hP hD hS => ?_)
        have hP : va_P (dC, dI) vwCl [(g0, .inr (2, [.int 0, .int (nI L), .ref gs, .ref gk, .ref gv, .ref gz, .int (nI ci), .int (q_b (nx.isSome = true)), .int x8, .int (nI kc), .int (nI ((0 + (q_lkD A k + 1)) + (q_lkD B k + 1))), .int (nI w)])), (gs, .inl (cI, 2048, .inl Sx)), (gk, .inl (cI, 2048, .inl Kx)), (gv, .inl (cI, 2048, .inl Vx)), (gz, .inl (cI, 2, .inl Zx))] H := hP.sub [0, 1, 2, 3, 4] rfl
        have hD : va_D Aq [(g0, .inr (2, [.int 0, .int (nI L), .ref gs, .ref gk, .ref gv, .ref gz, .int (nI ci), .int (q_b (nx.isSome = true)), .int x8, .int (nI kc), .int (nI ((0 + (q_lkD A k + 1)) + (q_lkD B k + 1))), .int (nI w)])), (gs, .inl (cI, 2048, .inl Sx)), (gk, .inl (cI, 2048, .inl Kx)), (gv, .inl (cI, 2048, .inl Vx)), (gz, .inl (cI, 2, .inl Zx))] := hD.sub [0, 1, 2, 3, 4] (by decide) rfl
        have hu : r_39 = q_lkR B k := hu
        subst hu
        refine lv_goto (tgt := 46) hx hb dX2_remove_42 (by decide) ?_
        by_cases hb2 : q_hit B k
        · refine r_eq (z := nI (q_lkE B k)) (q_lkR_t hb2) ?_
          refine lv_istore_n (lv' := [(3, .int (nI (q_lkE B k))), (2, .int (-1 - nI (q_lkE A k))), (0, .ref g0), (1, .int k)]) hx hb dX2_remove_46 rfl hl (by decide) rfl (fun ls hl => ?_)
          have e_0_10 : nI ((0 + (q_lkD A k + 1)) + (q_lkD B k + 1)) = nI (q_lw A B nx k) := by rw [q_lw_B ha h_28]; exact congrArg nI (by omega)
          have hP : va_P (dC, dI) vwCl [(g0, .inr (2, [.int 0, .int (nI L), .ref gs, .ref gk, .ref gv, .ref gz, .int (nI ci), .int (q_b (nx.isSome = true)), .int x8, .int (nI kc), .int (nI (q_lw A B nx k)), .int (nI w)])), (gs, .inl (cI, 2048, .inl Sx)), (gk, .inl (cI, 2048, .inl Kx)), (gv, .inl (cI, 2048, .inl Vx)), (gz, .inl (cI, 2, .inl Zx))] H := by rw [← e_0_10]; exact hP
          have hD : va_D Aq [(g0, .inr (2, [.int 0, .int (nI L), .ref gs, .ref gk, .ref gv, .ref gz, .int (nI ci), .int (q_b (nx.isSome = true)), .int x8, .int (nI kc), .int (nI (q_lw A B nx k)), .int (nI w)])), (gs, .inl (cI, 2048, .inl Sx)), (gk, .inl (cI, 2048, .inl Kx)), (gv, .inl (cI, 2048, .inl Vx)), (gz, .inl (cI, 2, .inl Zx))] := by rw [← e_0_10]; exact hD
          have hbt : q_hitB B nx k := ⟨h_28, hb2⟩
          refine lv_iload_n hx hb dX2_remove_47 rfl (lv_at hl 1 rfl) ?_
          refine lv_if_lt (tgt := 59) hx hb dX2_remove_48 (by decide) (fun c_48 => ?_) (fun c_48 => ?_)
          · refine lv_iload_n hx hb dX2_remove_59 rfl (lv_at hl 0 rfl) ?_
            refine lv_if_lt (tgt := 80) hx hb dX2_remove_60 (by decide) (fun c_60 => ?_) (fun c_60 => ?_)
            · have h_60 := q_lt_t (a := q_lkE B k) (b := 0) (by omega) (by omega) c_60
              omega
            · have h_60 := q_lt_f (a := q_lkE B k) (b := 0) (by omega) (by omega) c_60
              refine lv_aload_n hx hb dX2_remove_63 rfl (lv_at hl 2 rfl) ?_
              refine va_get (D := (dC, dI)) (ci := 2) (v := .ref gs) (C := RX2) (T := TX2) (N := 12) hx hb hts hin_X2_remove_X2 hown hK hP 0 rfl rfl 2 (by decide) (hts (.fieldLink RX2 7 "StepMapModel" "states" "[I") (by decide +kernel)) (fun _ h9 => h9) rfl dX2_remove_64 ?_
              refine lv_aload_n hx hb dX2_remove_67 rfl (lv_at hl 2 rfl) ?_
              refine lv_iconst (v := 1) hx hb dX2_remove_68 (by decide) ?_
              refine lv_aload_n hx hb dX2_remove_69 rfl (lv_at hl 2 rfl) ?_
              refine va_get (D := (dC, dI)) (ci := 2) (v := .int (nI ci)) (C := RX2) (T := TX2) (N := 12) hx hb hts hin_X2_remove_X2 hown hK hP 0 rfl rfl 6 (by decide) (hts (.fieldLink RX2 43 "StepMapModel" "current" "I") (by decide +kernel)) (fun _ h9 => h9) rfl dX2_remove_70 ?_
              refine lv_isub hx hb dX2_remove_73 ?_
              refine r_eq (z := nI (1 - ci)) (pk_sub (a := 1) (by omega)) ?_
              refine lv_iload_n hx hb dX2_remove_74 rfl (lv_at hl 0 rfl) ?_
              refine r_roV (rest := [.ref gs]) S0 (c_X2_at l dC dI cI g0 gs gk gv gz L Sx Kx Vx Zx 0 (nI ci) (q_b (nx.isSome = true)) x8 (nI kc) (nI (q_lw A B nx k)) (nI w) (1 - ci) (q_lkE B k)) (cwV 2 hts gX2_remove_X2_at rfl rfl rfl (by decide +kernel) ⟨Nat.le_of_ble_eq_true rfl, Nat.le_of_ble_eq_true rfl⟩) hK hP [0, 1, 2, 3, 4] rfl (ci := 2) (q0 := 0) rfl rfl rfl rfl hl.1 rfl (Nat.le_of_ble_eq_true rfl) dX2_remove_75 ⟨Nat.zero_le _, Nat.zero_le _⟩ ?_
              refine lv_iconst (v := 2) hx hb dX2_remove_78 (by decide) ?_
              refine r_st (i := 1024 * (1 - ci) + (q_lkE B k)) hx hb hK hP hD hS 1 0 rfl rfl (by omega) (by omega) dX2_remove_79 (fun H locs hP hD hS => ?_)
              have hP : va_P (dC, dI) vwCl [(g0, .inr (2, [.int 0, .int (nI L), .ref gs, .ref gk, .ref gv, .ref gz, .int (nI ci), .int (q_b (nx.isSome = true)), .int x8, .int (nI kc), .int (nI (q_lw A B nx k)), .int (nI w)])), (gs, .inl (cI, 2048, .inl (upd Sx (1024 * (1 - ci) + (q_lkE B k)) 2))), (gk, .inl (cI, 2048, .inl Kx)), (gv, .inl (cI, 2048, .inl Vx)), (gz, .inl (cI, 2, .inl Zx))] H := hP
              have hD : va_D Aq [(g0, .inr (2, [.int 0, .int (nI L), .ref gs, .ref gk, .ref gv, .ref gz, .int (nI ci), .int (q_b (nx.isSome = true)), .int x8, .int (nI kc), .int (nI (q_lw A B nx k)), .int (nI w)])), (gs, .inl (cI, 2048, .inl (upd Sx (1024 * (1 - ci) + (q_lkE B k)) 2))), (gk, .inl (cI, 2048, .inl Kx)), (gv, .inl (cI, 2048, .inl Vx)), (gz, .inl (cI, 2, .inl Zx))] := hD
              refine lv_iload_n hx hb dX2_remove_80 rfl (lv_at hl 1 rfl) ?_
              refine lv_if_ge (tgt := 88) hx hb dX2_remove_81 (by decide) (fun c_81 => ?_) (fun c_81 => ?_)
              · exact absurd c_81 (q_neg_ge (by omega))
              · refine lv_iload_n hx hb dX2_remove_84 rfl (lv_at hl 0 rfl) ?_
                refine lv_if_lt (tgt := 102) hx hb dX2_remove_85 (by decide) (fun c_85 => ?_) (fun c_85 => ?_)
                · have h_85 := q_lt_t (a := q_lkE B k) (b := 0) (by omega) (by omega) c_85
                  omega
                · have h_85 := q_lt_f (a := q_lkE B k) (b := 0) (by omega) (by omega) c_85
                  refine lv_aload_n hx hb dX2_remove_88 rfl (lv_at hl 2 rfl) ?_
                  refine lv_dup hx hb dX2_remove_89 rfl ?_
                  refine va_get (D := (dC, dI)) (ci := 2) (v := .int (nI kc)) (C := RX2) (T := TX2) (N := 12) hx hb hts hin_X2_remove_X2 hown hK hP 0 rfl rfl 9 (by decide) (hts (.fieldLink RX2 63 "StepMapModel" "count" "I") (by decide +kernel)) (fun _ h9 => h9) rfl dX2_remove_90 ?_
                  refine lv_iconst (v := 1) hx hb dX2_remove_93 (by decide) ?_
                  refine lv_isub hx hb dX2_remove_94 ?_
                  have hk1 := q_hitB_kc hIV hbt
                  refine r_eq (z := nI (kc - 1)) (pk_sub (b := 1) hk1) ?_
                  refine va_put (D := (dC, dI)) (ci := 2) (v := .int (nI (kc - 1))) (ty := .int) (C := RX2) (T := TX2) (N := 12) hx hb hts hin_X2_remove_X2 tyX2 tyX2_ok nmX2 hown hK hP hD hS 0 rfl rfl 9 (by decide) (hts (.fieldLink RX2 63 "StepMapModel" "count" "I") (by decide +kernel)) (fun _ h9 => h9) rfl (by decide +kernel) (rfl) (rfl) (Nat.le_of_ble_eq_true rfl) dX2_remove_95 (fun H locs hP hD hS => ?_)
                  have hP : va_P (dC, dI) vwCl [(g0, .inr (2, [.int 0, .int (nI L), .ref gs, .ref gk, .ref gv, .ref gz, .int (nI ci), .int (q_b (nx.isSome = true)), .int x8, .int (nI (kc - 1)), .int (nI (q_lw A B nx k)), .int (nI w)])), (gs, .inl (cI, 2048, .inl (upd Sx (1024 * (1 - ci) + (q_lkE B k)) 2))), (gk, .inl (cI, 2048, .inl Kx)), (gv, .inl (cI, 2048, .inl Vx)), (gz, .inl (cI, 2, .inl Zx))] H := hP
                  have hD : va_D Aq [(g0, .inr (2, [.int 0, .int (nI L), .ref gs, .ref gk, .ref gv, .ref gz, .int (nI ci), .int (q_b (nx.isSome = true)), .int x8, .int (nI (kc - 1)), .int (nI (q_lw A B nx k)), .int (nI w)])), (gs, .inl (cI, 2048, .inl (upd Sx (1024 * (1 - ci) + (q_lkE B k)) 2))), (gk, .inl (cI, 2048, .inl Kx)), (gv, .inl (cI, 2048, .inl Vx)), (gz, .inl (cI, 2, .inl Zx))] := hD
                  refine lv_aload_n hx hb dX2_remove_98 rfl (lv_at hl 2 rfl) ?_
                  have hR9 : q_RL (A, q_tk B (q_lkE B k), nx, kc - 1, 0) ci (upd Sx (1024 * (1 - ci) + q_lkE B k) 2) Kx Vx Zx (q_b (nx.isSome = true)) x8 := ⟨hci, hzA, q_RT_oS hRTA (fun i hi => by have hi : i < A.1 := hi; omega), rfl, fun c hc => ⟨(hcr c hc).1, (hcr c hc).2.1, q_RT_tk (hcr c hc).2.2⟩⟩
                  refine r_muV (wr := []) (rest := []) S0 (c_X2_settle l dC dI cI g0 gs gk gv gz L (upd Sx (1024 * (1 - ci) + (q_lkE B k)) 2) Kx Vx Zx 0 (q_b (nx.isSome = true)) x8 (nI w) ci (q_lw A B nx k) A (q_tk B (q_lkE B k)) nx (kc - 1) H.size (q_iw_rmB' hIV hbt) hR9) (cwV 0 hts gX2_remove_X2_settle rfl rfl rfl (by decide +kernel) ⟨Nat.le_of_ble_eq_true rfl, Nat.le_of_ble_eq_true rfl⟩) hK hP hD hS hA [0, 1, 2, 3, 4] [] rfl rfl (by decide) (by decide) (by decide) (ci := 2) (q0 := 0) rfl rfl rfl rfl hl.1 rfl (Nat.le_of_ble_eq_true rfl) dX2_remove_99 ⟨Nat.zero_le _, Nat.zero_le _⟩ (fun u H locs hu hP hD hS => ?_)
                  have hP : va_P (dC, dI) vwCl [(g0, .inr (2, [.int 0, .int (nI L), .ref gs, .ref gk, .ref gv, .ref gz, .int (nI u.1), .int u.2.2.2.1, .int u.2.2.2.2, .int (nI (kc - 1)), .int (nI (q_on A (q_tk B (q_lkE B k)) nx (kc - 1) (q_lw A B nx k)).2.2.2.2), .int (nI w)])), (gs, .inl (cI, 2048, .inl u.2.1.1)), (gk, .inl (cI, 2048, .inl u.2.1.2.1)), (gv, .inl (cI, 2048, .inl u.2.1.2.2)), (gz, .inl (cI, 2, .inl u.2.2.1))] H := hP.sub [0, 1, 2, 3, 4] rfl
                  have hD : va_D Aq [(g0, .inr (2, [.int 0, .int (nI L), .ref gs, .ref gk, .ref gv, .ref gz, .int (nI u.1), .int u.2.2.2.1, .int u.2.2.2.2, .int (nI (kc - 1)), .int (nI (q_on A (q_tk B (q_lkE B k)) nx (kc - 1) (q_lw A B nx k)).2.2.2.2), .int (nI w)])), (gs, .inl (cI, 2048, .inl u.2.1.1)), (gk, .inl (cI, 2048, .inl u.2.1.2.1)), (gv, .inl (cI, 2048, .inl u.2.1.2.2)), (gz, .inl (cI, 2, .inl u.2.2.1))] := hD.sub [0, 1, 2, 3, 4] (by decide) rfl
                  refine lv_aload_n hx hb dX2_remove_102 rfl (lv_at hl 2 rfl) ?_
                  refine lv_aload_n hx hb dX2_remove_103 rfl (lv_at hl 2 rfl) ?_
                  refine va_get (D := (dC, dI)) (ci := 2) (v := .int (nI (q_on A (q_tk B (q_lkE B k)) nx (kc - 1) (q_lw A B nx k)).2.2.2.2)) (C := RX2) (T := TX2) (N := 12) hx hb hts hin_X2_remove_X2 hown hK hP 0 rfl rfl 10 (by decide) (hts (.fieldLink RX2 34 "StepMapModel" "visits" "I") (by decide +kernel)) (fun _ h9 => h9) rfl dX2_remove_104 ?_
                  refine va_put (D := (dC, dI)) (ci := 2) (v := .int (nI (q_on A (q_tk B (q_lkE B k)) nx (kc - 1) (q_lw A B nx k)).2.2.2.2)) (ty := .int) (C := RX2) (T := TX2) (N := 12) hx hb hts hin_X2_remove_X2 tyX2 tyX2_ok nmX2 hown hK hP hD hS 0 rfl rfl 11 (by decide) (hts (.fieldLink RX2 78 "StepMapModel" "work" "I") (by decide +kernel)) (fun _ h9 => h9) rfl (by decide +kernel) (rfl) (rfl) (Nat.le_of_ble_eq_true rfl) dX2_remove_107 (fun H locs hP hD hS => ?_)
                  have hP : va_P (dC, dI) vwCl [(g0, .inr (2, [.int 0, .int (nI L), .ref gs, .ref gk, .ref gv, .ref gz, .int (nI u.1), .int u.2.2.2.1, .int u.2.2.2.2, .int (nI (kc - 1)), .int (nI (q_on A (q_tk B (q_lkE B k)) nx (kc - 1) (q_lw A B nx k)).2.2.2.2), .int (nI (q_on A (q_tk B (q_lkE B k)) nx (kc - 1) (q_lw A B nx k)).2.2.2.2)])), (gs, .inl (cI, 2048, .inl u.2.1.1)), (gk, .inl (cI, 2048, .inl u.2.1.2.1)), (gv, .inl (cI, 2048, .inl u.2.1.2.2)), (gz, .inl (cI, 2, .inl u.2.2.1))] H := hP
                  have hD : va_D Aq [(g0, .inr (2, [.int 0, .int (nI L), .ref gs, .ref gk, .ref gv, .ref gz, .int (nI u.1), .int u.2.2.2.1, .int u.2.2.2.2, .int (nI (kc - 1)), .int (nI (q_on A (q_tk B (q_lkE B k)) nx (kc - 1) (q_lw A B nx k)).2.2.2.2), .int (nI (q_on A (q_tk B (q_lkE B k)) nx (kc - 1) (q_lw A B nx k)).2.2.2.2)])), (gs, .inl (cI, 2048, .inl u.2.1.1)), (gk, .inl (cI, 2048, .inl u.2.1.2.1)), (gv, .inl (cI, 2048, .inl u.2.1.2.2)), (gz, .inl (cI, 2, .inl u.2.2.1))] := hD
                  refine lv_iload_n hx hb dX2_remove_110 rfl (lv_at hl 1 rfl) ?_
                  refine lv_if_ge (tgt := 118) hx hb dX2_remove_111 (by decide) (fun c_111 => ?_) (fun c_111 => ?_)
                  · exact absurd c_111 (q_neg_ge (by omega))
                  · refine lv_iload_n hx hb dX2_remove_114 rfl (lv_at hl 0 rfl) ?_
                    refine lv_if_lt (tgt := 122) hx hb dX2_remove_115 (by decide) (fun c_115 => ?_) (fun c_115 => ?_)
                    · have h_115 := q_lt_t (a := q_lkE B k) (b := 0) (by omega) (by omega) c_115
                      omega
                    · have h_115 := q_lt_f (a := q_lkE B k) (b := 0) (by omega) (by omega) c_115
                      refine lv_iconst (v := 1) hx hb dX2_remove_118 (by decide) ?_
                      refine lv_goto (tgt := 123) hx hb dX2_remove_119 (by decide) ?_
                      have e_0_9 : nI (kc - 1) = nI (q_on A (q_tk B (q_lkE B k)) nx (kc - 1) (q_lw A B nx k)).2.2.2.1 := congrArg nI (q_on_kc _ _ _ _ _).symm
                      have hP : va_P (dC, dI) vwCl [(g0, .inr (2, [.int 0, .int (nI L), .ref gs, .ref gk, .ref gv, .ref gz, .int (nI u.1), .int u.2.2.2.1, .int u.2.2.2.2, .int (nI (q_on A (q_tk B (q_lkE B k)) nx (kc - 1) (q_lw A B nx k)).2.2.2.1), .int (nI (q_on A (q_tk B (q_lkE B k)) nx (kc - 1) (q_lw A B nx k)).2.2.2.2), .int (nI (q_on A (q_tk B (q_lkE B k)) nx (kc - 1) (q_lw A B nx k)).2.2.2.2)])), (gs, .inl (cI, 2048, .inl u.2.1.1)), (gk, .inl (cI, 2048, .inl u.2.1.2.1)), (gv, .inl (cI, 2048, .inl u.2.1.2.2)), (gz, .inl (cI, 2, .inl u.2.2.1))] H := by rw [← e_0_9]; exact hP
                      have hD : va_D Aq [(g0, .inr (2, [.int 0, .int (nI L), .ref gs, .ref gk, .ref gv, .ref gz, .int (nI u.1), .int u.2.2.2.1, .int u.2.2.2.2, .int (nI (q_on A (q_tk B (q_lkE B k)) nx (kc - 1) (q_lw A B nx k)).2.2.2.1), .int (nI (q_on A (q_tk B (q_lkE B k)) nx (kc - 1) (q_lw A B nx k)).2.2.2.2), .int (nI (q_on A (q_tk B (q_lkE B k)) nx (kc - 1) (q_lw A B nx k)).2.2.2.2)])), (gs, .inl (cI, 2048, .inl u.2.1.1)), (gk, .inl (cI, 2048, .inl u.2.1.2.1)), (gv, .inl (cI, 2048, .inl u.2.1.2.2)), (gz, .inl (cI, 2, .inl u.2.2.1))] := by rw [← e_0_9]; exact hD
                      have eq := q_rem_B (kc := kc) ha hbt
                      have hRL : q_rl (q_rem A B nx kc k).2 (u.1, u.2.1, u.2.2.1, u.2.2.2.1, u.2.2.2.2, (q_on A (q_tk B (q_lkE B k)) nx (kc - 1) (q_lw A B nx k)).2.2.2.2) := by rw [eq]; exact hu
                      have hP : va_P (dC, dI) vwCl (q_WM cI g0 gs gk gv gz L (u.1, u.2.1, u.2.2.1, u.2.2.2.1, u.2.2.2.2, (q_on A (q_tk B (q_lkE B k)) nx (kc - 1) (q_lw A B nx k)).2.2.2.2) (q_rem A B nx kc k).2) H := by rw [eq]; exact hP
                      have hD : va_D Aq (q_WM cI g0 gs gk gv gz L (u.1, u.2.1, u.2.2.1, u.2.2.2.1, u.2.2.2.2, (q_on A (q_tk B (q_lkE B k)) nx (kc - 1) (q_lw A B nx k)).2.2.2.2) (q_rem A B nx kc k).2) := by rw [eq]; exact hD
                      exact W.zret (v := 1) hx hb hr (rfl) (fun t ht hW => ⟨⟨_, (u.1, u.2.1, u.2.2.1, u.2.2.2.1, u.2.2.2.2, (q_on A (q_tk B (q_lkE B k)) nx (kc - 1) (q_lw A B nx k)).2.2.2.2), rfl, ⟨by rw [eq], hRL⟩, by rw [ht]; exact hP, va_K.moved hW.alike hK, hD⟩, hS.F ht⟩) hS.2.2 dX2_remove_123
          · exact absurd (q_neg1 (by omega)) c_48
        · refine r_eq (z := -1 - nI (q_lkE B k)) (q_lkR_f hb2) ?_
          refine lv_istore_n (lv' := [(3, .int (-1 - nI (q_lkE B k))), (2, .int (-1 - nI (q_lkE A k))), (0, .ref g0), (1, .int k)]) hx hb dX2_remove_46 rfl hl (by decide) rfl (fun ls hl => ?_)
          have e_0_10 : nI ((0 + (q_lkD A k + 1)) + (q_lkD B k + 1)) = nI (q_lw A B nx k) := by rw [q_lw_B ha h_28]; exact congrArg nI (by omega)
          have hP : va_P (dC, dI) vwCl [(g0, .inr (2, [.int 0, .int (nI L), .ref gs, .ref gk, .ref gv, .ref gz, .int (nI ci), .int (q_b (nx.isSome = true)), .int x8, .int (nI kc), .int (nI (q_lw A B nx k)), .int (nI w)])), (gs, .inl (cI, 2048, .inl Sx)), (gk, .inl (cI, 2048, .inl Kx)), (gv, .inl (cI, 2048, .inl Vx)), (gz, .inl (cI, 2, .inl Zx))] H := by rw [← e_0_10]; exact hP
          have hD : va_D Aq [(g0, .inr (2, [.int 0, .int (nI L), .ref gs, .ref gk, .ref gv, .ref gz, .int (nI ci), .int (q_b (nx.isSome = true)), .int x8, .int (nI kc), .int (nI (q_lw A B nx k)), .int (nI w)])), (gs, .inl (cI, 2048, .inl Sx)), (gk, .inl (cI, 2048, .inl Kx)), (gv, .inl (cI, 2048, .inl Vx)), (gz, .inl (cI, 2, .inl Zx))] := by rw [← e_0_10]; exact hD
          have hbt : ¬ q_hitB B nx k := fun z => hb2 z.2
          refine lv_iload_n hx hb dX2_remove_47 rfl (lv_at hl 1 rfl) ?_
          refine lv_if_lt (tgt := 59) hx hb dX2_remove_48 (by decide) (fun c_48 => ?_) (fun c_48 => ?_)
          · refine lv_iload_n hx hb dX2_remove_59 rfl (lv_at hl 0 rfl) ?_
            refine lv_if_lt (tgt := 80) hx hb dX2_remove_60 (by decide) (fun c_60 => ?_) (fun c_60 => ?_)
            · refine lv_iload_n hx hb dX2_remove_80 rfl (lv_at hl 1 rfl) ?_
              refine lv_if_ge (tgt := 88) hx hb dX2_remove_81 (by decide) (fun c_81 => ?_) (fun c_81 => ?_)
              · exact absurd c_81 (q_neg_ge (by omega))
              · refine lv_iload_n hx hb dX2_remove_84 rfl (lv_at hl 0 rfl) ?_
                refine lv_if_lt (tgt := 102) hx hb dX2_remove_85 (by decide) (fun c_85 => ?_) (fun c_85 => ?_)
                · refine lv_aload_n hx hb dX2_remove_102 rfl (lv_at hl 2 rfl) ?_
                  refine lv_aload_n hx hb dX2_remove_103 rfl (lv_at hl 2 rfl) ?_
                  refine va_get (D := (dC, dI)) (ci := 2) (v := .int (nI (q_lw A B nx k))) (C := RX2) (T := TX2) (N := 12) hx hb hts hin_X2_remove_X2 hown hK hP 0 rfl rfl 10 (by decide) (hts (.fieldLink RX2 34 "StepMapModel" "visits" "I") (by decide +kernel)) (fun _ h9 => h9) rfl dX2_remove_104 ?_
                  refine va_put (D := (dC, dI)) (ci := 2) (v := .int (nI (q_lw A B nx k))) (ty := .int) (C := RX2) (T := TX2) (N := 12) hx hb hts hin_X2_remove_X2 tyX2 tyX2_ok nmX2 hown hK hP hD hS 0 rfl rfl 11 (by decide) (hts (.fieldLink RX2 78 "StepMapModel" "work" "I") (by decide +kernel)) (fun _ h9 => h9) rfl (by decide +kernel) (rfl) (rfl) (Nat.le_of_ble_eq_true rfl) dX2_remove_107 (fun H locs hP hD hS => ?_)
                  have hP : va_P (dC, dI) vwCl [(g0, .inr (2, [.int 0, .int (nI L), .ref gs, .ref gk, .ref gv, .ref gz, .int (nI ci), .int (q_b (nx.isSome = true)), .int x8, .int (nI kc), .int (nI (q_lw A B nx k)), .int (nI (q_lw A B nx k))])), (gs, .inl (cI, 2048, .inl Sx)), (gk, .inl (cI, 2048, .inl Kx)), (gv, .inl (cI, 2048, .inl Vx)), (gz, .inl (cI, 2, .inl Zx))] H := hP
                  have hD : va_D Aq [(g0, .inr (2, [.int 0, .int (nI L), .ref gs, .ref gk, .ref gv, .ref gz, .int (nI ci), .int (q_b (nx.isSome = true)), .int x8, .int (nI kc), .int (nI (q_lw A B nx k)), .int (nI (q_lw A B nx k))])), (gs, .inl (cI, 2048, .inl Sx)), (gk, .inl (cI, 2048, .inl Kx)), (gv, .inl (cI, 2048, .inl Vx)), (gz, .inl (cI, 2, .inl Zx))] := hD
                  refine lv_iload_n hx hb dX2_remove_110 rfl (lv_at hl 1 rfl) ?_
                  refine lv_if_ge (tgt := 118) hx hb dX2_remove_111 (by decide) (fun c_111 => ?_) (fun c_111 => ?_)
                  · exact absurd c_111 (q_neg_ge (by omega))
                  · refine lv_iload_n hx hb dX2_remove_114 rfl (lv_at hl 0 rfl) ?_
                    refine lv_if_lt (tgt := 122) hx hb dX2_remove_115 (by decide) (fun c_115 => ?_) (fun c_115 => ?_)
                    · refine lv_iconst (v := 0) hx hb dX2_remove_122 (by decide) ?_
                      have eq := q_rem_N (kc := kc) ha hbt
                      have hRL : q_rl (q_rem A B nx kc k).2 (ci, (Sx, Kx, Vx), Zx, q_b (nx.isSome = true), x8, q_lw A B nx k) := by rw [eq]; exact ⟨hci, hzA, hRTA, rfl, hcr⟩
                      have hP : va_P (dC, dI) vwCl (q_WM cI g0 gs gk gv gz L (ci, (Sx, Kx, Vx), Zx, q_b (nx.isSome = true), x8, q_lw A B nx k) (q_rem A B nx kc k).2) H := by rw [eq]; exact hP
                      have hD : va_D Aq (q_WM cI g0 gs gk gv gz L (ci, (Sx, Kx, Vx), Zx, q_b (nx.isSome = true), x8, q_lw A B nx k) (q_rem A B nx kc k).2) := by rw [eq]; exact hD
                      exact W.zret (v := 0) hx hb hr (rfl) (fun t ht hW => ⟨⟨_, (ci, (Sx, Kx, Vx), Zx, q_b (nx.isSome = true), x8, q_lw A B nx k), rfl, ⟨by rw [eq], hRL⟩, by rw [ht]; exact hP, va_K.moved hW.alike hK, hD⟩, hS.F ht⟩) hS.2.2 dX2_remove_123
                    · exact absurd (q_neg1 (by omega)) c_115
                · exact absurd (q_neg1 (by omega)) c_85
            · exact absurd (q_neg1 (by omega)) c_60
          · exact absurd (q_neg1 (by omega)) c_48
